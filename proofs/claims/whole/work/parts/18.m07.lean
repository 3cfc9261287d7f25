/-! RedSkyModel.endTerm(I)V -/
theorem d_M_endTerm_0 : decode b_M_endTerm 0 = .ok (.aload_n 0, 1) := by decide +kernel
theorem d_M_endTerm_1 : decode b_M_endTerm 1 = .ok (.getfield 64, 3) := by decide +kernel
theorem d_M_endTerm_4 : decode b_M_endTerm 4 = .ok (.iload_n 1, 1) := by decide +kernel
theorem d_M_endTerm_5 : decode b_M_endTerm 5 = .ok (.iaload, 1) := by decide +kernel
theorem d_M_endTerm_6 : decode b_M_endTerm 6 = .ok (.aload_n 0, 1) := by decide +kernel
theorem d_M_endTerm_7 : decode b_M_endTerm 7 = .ok (.getfield 67, 3) := by decide +kernel
theorem d_M_endTerm_10 : decode b_M_endTerm 10 = .ok (.iload_n 1, 1) := by decide +kernel
theorem d_M_endTerm_11 : decode b_M_endTerm 11 = .ok (.iaload, 1) := by decide +kernel
theorem d_M_endTerm_12 : decode b_M_endTerm 12 = .ok (.iconst 1, 1) := by decide +kernel
theorem d_M_endTerm_13 : decode b_M_endTerm 13 = .ok (.if_icmp .le (7), 3) := by decide +kernel
theorem d_M_endTerm_16 : decode b_M_endTerm 16 = .ok (.iconst 1, 1) := by decide +kernel
theorem d_M_endTerm_17 : decode b_M_endTerm 17 = .ok (.goto (4), 3) := by decide +kernel
theorem d_M_endTerm_20 : decode b_M_endTerm 20 = .ok (.iconst 0, 1) := by decide +kernel
theorem d_M_endTerm_21 : decode b_M_endTerm 21 = .ok (.iadd, 1) := by decide +kernel
theorem d_M_endTerm_22 : decode b_M_endTerm 22 = .ok (.istore_n 2, 1) := by decide +kernel
theorem d_M_endTerm_23 : decode b_M_endTerm 23 = .ok (.aload_n 0, 1) := by decide +kernel
theorem d_M_endTerm_24 : decode b_M_endTerm 24 = .ok (.getfield 58, 3) := by decide +kernel
theorem d_M_endTerm_27 : decode b_M_endTerm 27 = .ok (.iload_n 1, 1) := by decide +kernel
theorem d_M_endTerm_28 : decode b_M_endTerm 28 = .ok (.iload_n 2, 1) := by decide +kernel
theorem d_M_endTerm_29 : decode b_M_endTerm 29 = .ok (.aload_n 0, 1) := by decide +kernel
theorem d_M_endTerm_30 : decode b_M_endTerm 30 = .ok (.getfield 58, 3) := by decide +kernel
theorem d_M_endTerm_33 : decode b_M_endTerm 33 = .ok (.iload_n 1, 1) := by decide +kernel
theorem d_M_endTerm_34 : decode b_M_endTerm 34 = .ok (.iaload, 1) := by decide +kernel
theorem d_M_endTerm_35 : decode b_M_endTerm 35 = .ok (.if_icmp .le (7), 3) := by decide +kernel
theorem d_M_endTerm_38 : decode b_M_endTerm 38 = .ok (.iload_n 2, 1) := by decide +kernel
theorem d_M_endTerm_39 : decode b_M_endTerm 39 = .ok (.goto (9), 3) := by decide +kernel
theorem d_M_endTerm_42 : decode b_M_endTerm 42 = .ok (.aload_n 0, 1) := by decide +kernel
theorem d_M_endTerm_43 : decode b_M_endTerm 43 = .ok (.getfield 58, 3) := by decide +kernel
theorem d_M_endTerm_46 : decode b_M_endTerm 46 = .ok (.iload_n 1, 1) := by decide +kernel
theorem d_M_endTerm_47 : decode b_M_endTerm 47 = .ok (.iaload, 1) := by decide +kernel
theorem d_M_endTerm_48 : decode b_M_endTerm 48 = .ok (.iastore, 1) := by decide +kernel
theorem d_M_endTerm_49 : decode b_M_endTerm 49 = .ok (.aload_n 0, 1) := by decide +kernel
theorem d_M_endTerm_50 : decode b_M_endTerm 50 = .ok (.getfield 61, 3) := by decide +kernel
theorem d_M_endTerm_53 : decode b_M_endTerm 53 = .ok (.iload_n 1, 1) := by decide +kernel
theorem d_M_endTerm_54 : decode b_M_endTerm 54 = .ok (.dup2, 1) := by decide +kernel
theorem d_M_endTerm_55 : decode b_M_endTerm 55 = .ok (.iaload, 1) := by decide +kernel
theorem d_M_endTerm_56 : decode b_M_endTerm 56 = .ok (.iconst 1, 1) := by decide +kernel
theorem d_M_endTerm_57 : decode b_M_endTerm 57 = .ok (.iadd, 1) := by decide +kernel
theorem d_M_endTerm_58 : decode b_M_endTerm 58 = .ok (.iastore, 1) := by decide +kernel
theorem d_M_endTerm_59 : decode b_M_endTerm 59 = .ok (.aload_n 0, 1) := by decide +kernel
theorem d_M_endTerm_60 : decode b_M_endTerm 60 = .ok (.getfield 64, 3) := by decide +kernel
theorem d_M_endTerm_63 : decode b_M_endTerm 63 = .ok (.iload_n 1, 1) := by decide +kernel
theorem d_M_endTerm_64 : decode b_M_endTerm 64 = .ok (.iconst 0, 1) := by decide +kernel
theorem d_M_endTerm_65 : decode b_M_endTerm 65 = .ok (.iastore, 1) := by decide +kernel
theorem d_M_endTerm_66 : decode b_M_endTerm 66 = .ok (.aload_n 0, 1) := by decide +kernel
theorem d_M_endTerm_67 : decode b_M_endTerm 67 = .ok (.getfield 67, 3) := by decide +kernel
theorem d_M_endTerm_70 : decode b_M_endTerm 70 = .ok (.iload_n 1, 1) := by decide +kernel
theorem d_M_endTerm_71 : decode b_M_endTerm 71 = .ok (.iconst 0, 1) := by decide +kernel
theorem d_M_endTerm_72 : decode b_M_endTerm 72 = .ok (.iastore, 1) := by decide +kernel
theorem d_M_endTerm_73 : decode b_M_endTerm 73 = .ok (.return_, 1) := by decide +kernel
def F_M_endTerm_48 (a0 : Nat) (x1 : Int32) (s2 : Int32) (s1 : Int32) (s0 : Nat) (w : AW) : Option (AW) :=
  gd (wk w s0 == 100) <|
  gd (inb s1 (wn w s0)) <|
  let w3 : AW := upI w s0 (Int32.toNatClampNeg s1) s2
  gd (wk w3 a0 == 13) <|
  gd (wk w3 (wr w3 a0 35) == 100) <|
  gd (inb x1 (wn w3 (wr w3 a0 35))) <|
  gd (inb x1 (wn w3 (wr w3 a0 35))) <|
  let w8 : AW := upI w3 (wr w3 a0 35) (Int32.toNatClampNeg x1) ((wi w3 (wr w3 a0 35) (Int32.toNatClampNeg x1)) + (1 : Int32))
  gd (wk w8 (wr w8 a0 36) == 100) <|
  gd (inb x1 (wn w8 (wr w8 a0 36))) <|
  let w11 : AW := upI w8 (wr w8 a0 36) (Int32.toNatClampNeg x1) (0 : Int32)
  gd (wk w11 (wr w11 a0 37) == 100) <|
  gd (inb x1 (wn w11 (wr w11 a0 37))) <|
  let w14 : AW := upI w11 (wr w11 a0 37) (Int32.toNatClampNeg x1) (0 : Int32)
  some w14
theorem P_M_endTerm_48 {X : AX} {l : Launch} {G : AG} (hX : XOK X b_M_endTerm "RedSkyModel" 3) (hM : XM X l G { frames := 0, cells := 0, slots := 0, locals := 0 }) {o : AW} (hR : XR X none 0 0 none o) (a0 : Nat) (x1 : Int32) (s2 : Int32) (s1 : Int32) (s0 : Nat) (w : AW) (h : F_M_endTerm_48 a0 x1 s2 s1 s0 w = some o) : RJ X 3 0 0 48 [(0, vr a0), (1, vi x1)] [vi s2, vi s1, vr s0] w := by
  unfold F_M_endTerm_48 at h
  obtain ⟨hk1, h⟩ := gd_e h
  obtain ⟨hg2, h⟩ := gd_e h
  refine r_iast hX hk1 hg2 d_M_endTerm_48 ?_
  refine r_aload_n (i := 0) hX d_M_endTerm_49 0 rfl rfl ?_
  obtain ⟨hk4, h⟩ := gd_e h
  refine r_getR (i := 12) (f := 35) hX ci_12 (by decide) rfl fl_M_61 hk4 d_M_endTerm_50 ?_
  refine r_iload_n (i := 1) hX d_M_endTerm_53 1 rfl rfl ?_
  refine r_dup2 hX d_M_endTerm_54 rfl rfl ?_
  obtain ⟨hk5, h⟩ := gd_e h
  obtain ⟨hg6, h⟩ := gd_e h
  refine r_iald hX hk5 hg6 d_M_endTerm_55 ?_
  refine r_iconst (v := (1 : Int32)) hX d_M_endTerm_56 rfl ?_
  refine r_iadd hX d_M_endTerm_57 ?_
  obtain ⟨hg7, h⟩ := gd_e h
  refine r_iast hX hk5 hg7 d_M_endTerm_58 ?_
  refine r_aload_n (i := 0) hX d_M_endTerm_59 0 rfl rfl ?_
  refine r_getR (i := 12) (f := 36) hX ci_12 (by decide) rfl fl_M_64 (kI hk4) d_M_endTerm_60 ?_
  refine r_iload_n (i := 1) hX d_M_endTerm_63 1 rfl rfl ?_
  refine r_iconst (v := (0 : Int32)) hX d_M_endTerm_64 rfl ?_
  obtain ⟨hk9, h⟩ := gd_e h
  obtain ⟨hg10, h⟩ := gd_e h
  refine r_iast hX hk9 hg10 d_M_endTerm_65 ?_
  refine r_aload_n (i := 0) hX d_M_endTerm_66 0 rfl rfl ?_
  refine r_getR (i := 12) (f := 37) hX ci_12 (by decide) rfl fl_M_67 (kI (kI hk4)) d_M_endTerm_67 ?_
  refine r_iload_n (i := 1) hX d_M_endTerm_70 1 rfl rfl ?_
  refine r_iconst (v := (0 : Int32)) hX d_M_endTerm_71 rfl ?_
  obtain ⟨hk12, h⟩ := gd_e h
  obtain ⟨hg13, h⟩ := gd_e h
  refine r_iast hX hk12 hg13 d_M_endTerm_72 ?_
  cases h; exact r_vret hX hR d_M_endTerm_73
def F_M_endTerm_21 (a0 : Nat) (x1 : Int32) (s1 : Int32) (s0 : Int32) (w : AW) : Option (AW) :=
  let v1 : Int32 := (s0 + s1)
  gd (wk w a0 == 13) <|
  gd (wk w (wr w a0 34) == 100) <|
  gd (inb x1 (wn w (wr w a0 34))) <|
  if v1 ≤ (wi w (wr w a0 34) (Int32.toNatClampNeg x1)) then
    gd (inb x1 (wn w (wr w a0 34))) <|
    F_M_endTerm_48 a0 x1 (wi w (wr w a0 34) (Int32.toNatClampNeg x1)) x1 (wr w a0 34) w
  else
    F_M_endTerm_48 a0 x1 v1 x1 (wr w a0 34) w
theorem P_M_endTerm_21 {X : AX} {l : Launch} {G : AG} (hX : XOK X b_M_endTerm "RedSkyModel" 3) (hM : XM X l G { frames := 0, cells := 0, slots := 0, locals := 0 }) {o : AW} (hR : XR X none 0 0 none o) (a0 : Nat) (x1 : Int32) (s1 : Int32) (s0 : Int32) (w : AW) (h : F_M_endTerm_21 a0 x1 s1 s0 w = some o) : RJ X 3 0 0 21 [(0, vr a0), (1, vi x1)] [vi s1, vi s0] w := by
  unfold F_M_endTerm_21 at h
  refine r_iadd hX d_M_endTerm_21 ?_
  refine r_istore_n (i := 2) hX d_M_endTerm_22 rfl (by decide) ?_
  refine r_aload_n (i := 0) hX d_M_endTerm_23 1 rfl rfl ?_
  obtain ⟨hk2, h⟩ := gd_e h
  refine r_getR (i := 12) (f := 34) hX ci_12 (by decide) rfl fl_M_58 hk2 d_M_endTerm_24 ?_
  refine r_iload_n (i := 1) hX d_M_endTerm_27 2 rfl rfl ?_
  refine r_iload_n (i := 2) hX d_M_endTerm_28 0 rfl rfl ?_
  refine r_aload_n (i := 0) hX d_M_endTerm_29 1 rfl rfl ?_
  refine r_getR (i := 12) (f := 34) hX ci_12 (by decide) rfl fl_M_58 hk2 d_M_endTerm_30 ?_
  refine r_iload_n (i := 1) hX d_M_endTerm_33 2 rfl rfl ?_
  obtain ⟨hk3, h⟩ := gd_e h
  obtain ⟨hg4, h⟩ := gd_e h
  refine r_iald hX hk3 hg4 d_M_endTerm_34 ?_
  refine r_icmp_le hX d_M_endTerm_35 rfl h (fun h => ?_) (fun h => ?_)
  · refine r_aload_n (i := 0) hX d_M_endTerm_42 1 rfl rfl ?_
    refine r_getR (i := 12) (f := 34) hX ci_12 (by decide) rfl fl_M_58 hk2 d_M_endTerm_43 ?_
    refine r_iload_n (i := 1) hX d_M_endTerm_46 2 rfl rfl ?_
    obtain ⟨hg5, h⟩ := gd_e h
    refine r_iald hX hk3 hg5 d_M_endTerm_47 ?_
    exact rj_sub [1, 2] rfl (P_M_endTerm_48 hX hM hR _ _ _ _ _ _ h)
  · refine r_iload_n (i := 2) hX d_M_endTerm_38 0 rfl rfl ?_
    refine r_goto hX d_M_endTerm_39 rfl ?_
    exact rj_sub [1, 2] rfl (P_M_endTerm_48 hX hM hR _ _ _ _ _ _ h)
def F_M_endTerm (a0 : Nat) (x1 : Int32) (w : AW) : Option (AW) :=
  gd (wk w a0 == 13) <|
  gd (wk w (wr w a0 36) == 100) <|
  gd (inb x1 (wn w (wr w a0 36))) <|
  gd (wk w (wr w a0 37) == 100) <|
  gd (inb x1 (wn w (wr w a0 37))) <|
  if (wi w (wr w a0 37) (Int32.toNatClampNeg x1)) ≤ (1 : Int32) then
    F_M_endTerm_21 a0 x1 (0 : Int32) (wi w (wr w a0 36) (Int32.toNatClampNeg x1)) w
  else
    F_M_endTerm_21 a0 x1 (1 : Int32) (wi w (wr w a0 36) (Int32.toNatClampNeg x1)) w
theorem P_M_endTerm_0 {X : AX} {l : Launch} {G : AG} (hX : XOK X b_M_endTerm "RedSkyModel" 3) (hM : XM X l G { frames := 0, cells := 0, slots := 0, locals := 0 }) {o : AW} (hR : XR X none 0 0 none o) (a0 : Nat) (x1 : Int32) (w : AW) (h : F_M_endTerm a0 x1 w = some o) : RJ X 3 0 0 0 [(0, vr a0), (1, vi x1)] [] w := by
  unfold F_M_endTerm at h
  refine r_aload_n (i := 0) hX d_M_endTerm_0 0 rfl rfl ?_
  obtain ⟨hk1, h⟩ := gd_e h
  refine r_getR (i := 12) (f := 36) hX ci_12 (by decide) rfl fl_M_64 hk1 d_M_endTerm_1 ?_
  refine r_iload_n (i := 1) hX d_M_endTerm_4 1 rfl rfl ?_
  obtain ⟨hk2, h⟩ := gd_e h
  obtain ⟨hg3, h⟩ := gd_e h
  refine r_iald hX hk2 hg3 d_M_endTerm_5 ?_
  refine r_aload_n (i := 0) hX d_M_endTerm_6 0 rfl rfl ?_
  refine r_getR (i := 12) (f := 37) hX ci_12 (by decide) rfl fl_M_67 hk1 d_M_endTerm_7 ?_
  refine r_iload_n (i := 1) hX d_M_endTerm_10 1 rfl rfl ?_
  obtain ⟨hk4, h⟩ := gd_e h
  obtain ⟨hg5, h⟩ := gd_e h
  refine r_iald hX hk4 hg5 d_M_endTerm_11 ?_
  refine r_iconst (v := (1 : Int32)) hX d_M_endTerm_12 rfl ?_
  refine r_icmp_le hX d_M_endTerm_13 rfl h (fun h => ?_) (fun h => ?_)
  · refine r_iconst (v := (0 : Int32)) hX d_M_endTerm_20 rfl ?_
    exact rj_sub [0, 1] rfl (P_M_endTerm_21 hX hM hR _ _ _ _ _ h)
  · refine r_iconst (v := (1 : Int32)) hX d_M_endTerm_16 rfl ?_
    refine r_goto hX d_M_endTerm_17 rfl ?_
    exact rj_sub [0, 1] rfl (P_M_endTerm_21 hX hM hR _ _ _ _ _ h)
theorem T_M_endTerm {l : Launch} {G : AG} (a0 : Nat) (x1 : Int32) (w : AW) {o : AW} (h : F_M_endTerm a0 x1 w = some o) : Mt l G y_M_endTerm b_M_endTerm 3 none 0 0 0 0 [vr a0, vi x1] w none o := mt_of (by decide) (Nat.le_of_ble_eq_true rfl) (fun X hX hR hM hI => P_M_endTerm_0 hX hM hR _ _ _ h)
/-! RedSkyModel.endGroup(I)I -/
theorem d_M_endGroup_0 : decode b_M_endGroup 0 = .ok (.aload_n 0, 1) := by decide +kernel
theorem d_M_endGroup_1 : decode b_M_endGroup 1 = .ok (.iload_n 1, 1) := by decide +kernel
theorem d_M_endGroup_2 : decode b_M_endGroup 2 = .ok (.invokevirtual 279, 3) := by decide +kernel
theorem d_M_endGroup_5 : decode b_M_endGroup 5 = .ok (.aload_n 0, 1) := by decide +kernel
theorem d_M_endGroup_6 : decode b_M_endGroup 6 = .ok (.getfield 58, 3) := by decide +kernel
theorem d_M_endGroup_9 : decode b_M_endGroup 9 = .ok (.iload_n 1, 1) := by decide +kernel
theorem d_M_endGroup_10 : decode b_M_endGroup 10 = .ok (.iaload, 1) := by decide +kernel
theorem d_M_endGroup_11 : decode b_M_endGroup 11 = .ok (.aload_n 0, 1) := by decide +kernel
theorem d_M_endGroup_12 : decode b_M_endGroup 12 = .ok (.getfield 61, 3) := by decide +kernel
theorem d_M_endGroup_15 : decode b_M_endGroup 15 = .ok (.iload_n 1, 1) := by decide +kernel
theorem d_M_endGroup_16 : decode b_M_endGroup 16 = .ok (.iaload, 1) := by decide +kernel
theorem d_M_endGroup_17 : decode b_M_endGroup 17 = .ok (.iconst 1, 1) := by decide +kernel
theorem d_M_endGroup_18 : decode b_M_endGroup 18 = .ok (.if_icmp .le (7), 3) := by decide +kernel
theorem d_M_endGroup_21 : decode b_M_endGroup 21 = .ok (.iconst 1, 1) := by decide +kernel
theorem d_M_endGroup_22 : decode b_M_endGroup 22 = .ok (.goto (4), 3) := by decide +kernel
theorem d_M_endGroup_25 : decode b_M_endGroup 25 = .ok (.iconst 0, 1) := by decide +kernel
theorem d_M_endGroup_26 : decode b_M_endGroup 26 = .ok (.iadd, 1) := by decide +kernel
theorem d_M_endGroup_27 : decode b_M_endGroup 27 = .ok (.ireturn, 1) := by decide +kernel
def F_M_endGroup (a0 : Nat) (x1 : Int32) (w : AW) : Option (Int32 × AW) :=
  gd (wk w a0 == 13) <|
  (F_M_endTerm a0 x1 w).bind fun r2 =>
  gd (wk r2 a0 == 13) <|
  gd (wk r2 (wr r2 a0 34) == 100) <|
  gd (inb x1 (wn r2 (wr r2 a0 34))) <|
  gd (wk r2 (wr r2 a0 35) == 100) <|
  gd (inb x1 (wn r2 (wr r2 a0 35))) <|
  if (wi r2 (wr r2 a0 35) (Int32.toNatClampNeg x1)) ≤ (1 : Int32) then
    some (((wi r2 (wr r2 a0 34) (Int32.toNatClampNeg x1)) + (0 : Int32)), r2)
  else
    some (((wi r2 (wr r2 a0 34) (Int32.toNatClampNeg x1)) + (1 : Int32)), r2)
theorem P_M_endGroup_0 {X : AX} {l : Launch} {G : AG} (hX : XOK X b_M_endGroup "RedSkyModel" 2) (hM : XM X l G { frames := 1, cells := 0, slots := 0, locals := 22 }) {o : Int32 × AW} (hR : XR X (some .int) 0 0 (some (vi o.1)) o.2) (a0 : Nat) (x1 : Int32) (w : AW) (h : F_M_endGroup a0 x1 w = some o) : RJ X 2 0 0 0 [(0, vr a0), (1, vi x1)] [] w := by
  unfold F_M_endGroup at h
  refine r_aload_n (i := 0) hX d_M_endGroup_0 0 rfl rfl ?_
  refine r_iload_n (i := 1) hX d_M_endGroup_1 1 rfl rfl ?_
  obtain ⟨hk1, h⟩ := gd_e h
  obtain ⟨r2, hr3, h⟩ := bd_e h
  refine r_callV0 (As := [_]) hX hM mw_M_279 (T_M_endTerm _ _ _ hr3) (rc_of ci_12 hk1) rfl rfl ⟨Nat.le_refl _, Nat.le_refl _⟩ rfl rfl d_M_endGroup_2 ?_
  refine r_aload_n (i := 0) hX d_M_endGroup_5 0 rfl rfl ?_
  obtain ⟨hk4, h⟩ := gd_e h
  refine r_getR (i := 12) (f := 34) hX ci_12 (by decide) rfl fl_M_58 hk4 d_M_endGroup_6 ?_
  refine r_iload_n (i := 1) hX d_M_endGroup_9 1 rfl rfl ?_
  obtain ⟨hk5, h⟩ := gd_e h
  obtain ⟨hg6, h⟩ := gd_e h
  refine r_iald hX hk5 hg6 d_M_endGroup_10 ?_
  refine r_aload_n (i := 0) hX d_M_endGroup_11 0 rfl rfl ?_
  refine r_getR (i := 12) (f := 35) hX ci_12 (by decide) rfl fl_M_61 hk4 d_M_endGroup_12 ?_
  refine r_iload_n (i := 1) hX d_M_endGroup_15 1 rfl rfl ?_
  obtain ⟨hk7, h⟩ := gd_e h
  obtain ⟨hg8, h⟩ := gd_e h
  refine r_iald hX hk7 hg8 d_M_endGroup_16 ?_
  refine r_iconst (v := (1 : Int32)) hX d_M_endGroup_17 rfl ?_
  refine r_icmp_le hX d_M_endGroup_18 rfl h (fun h => ?_) (fun h => ?_)
  · refine r_iconst (v := (0 : Int32)) hX d_M_endGroup_25 rfl ?_
    refine r_iadd hX d_M_endGroup_26 ?_
    cases h; exact r_iret hX hR d_M_endGroup_27
  · refine r_iconst (v := (1 : Int32)) hX d_M_endGroup_21 rfl ?_
    refine r_goto hX d_M_endGroup_22 rfl ?_
    refine r_iadd hX d_M_endGroup_26 ?_
    cases h; exact r_iret hX hR d_M_endGroup_27
theorem T_M_endGroup {l : Launch} {G : AG} (a0 : Nat) (x1 : Int32) (w : AW) {o : Int32 × AW} (h : F_M_endGroup a0 x1 w = some o) : Mt l G y_M_endGroup b_M_endGroup 2 (some (.int)) 1 22 0 0 [vr a0, vi x1] w (some (vi o.1)) o.2 := mt_of (by decide) (Nat.le_of_ble_eq_true rfl) (fun X hX hR hM hI => P_M_endGroup_0 hX hM hR _ _ _ h)
/-! RedSkyModel.addFactor(II)V -/
theorem d_M_addFactor_0 : decode b_M_addFactor 0 = .ok (.iload_n 2, 1) := by decide +kernel
theorem d_M_addFactor_1 : decode b_M_addFactor 1 = .ok (.aload_n 0, 1) := by decide +kernel
theorem d_M_addFactor_2 : decode b_M_addFactor 2 = .ok (.getfield 70, 3) := by decide +kernel
theorem d_M_addFactor_5 : decode b_M_addFactor 5 = .ok (.iload_n 1, 1) := by decide +kernel
theorem d_M_addFactor_6 : decode b_M_addFactor 6 = .ok (.iaload, 1) := by decide +kernel
theorem d_M_addFactor_7 : decode b_M_addFactor 7 = .ok (.iadd, 1) := by decide +kernel
theorem d_M_addFactor_8 : decode b_M_addFactor 8 = .ok (.istore_n 3, 1) := by decide +kernel
theorem d_M_addFactor_9 : decode b_M_addFactor 9 = .ok (.aload_n 0, 1) := by decide +kernel
theorem d_M_addFactor_10 : decode b_M_addFactor 10 = .ok (.getfield 70, 3) := by decide +kernel
theorem d_M_addFactor_13 : decode b_M_addFactor 13 = .ok (.iload_n 1, 1) := by decide +kernel
theorem d_M_addFactor_14 : decode b_M_addFactor 14 = .ok (.iconst 0, 1) := by decide +kernel
theorem d_M_addFactor_15 : decode b_M_addFactor 15 = .ok (.iastore, 1) := by decide +kernel
theorem d_M_addFactor_16 : decode b_M_addFactor 16 = .ok (.aload_n 0, 1) := by decide +kernel
theorem d_M_addFactor_17 : decode b_M_addFactor 17 = .ok (.getfield 64, 3) := by decide +kernel
theorem d_M_addFactor_20 : decode b_M_addFactor 20 = .ok (.iload_n 1, 1) := by decide +kernel
theorem d_M_addFactor_21 : decode b_M_addFactor 21 = .ok (.iload_n 3, 1) := by decide +kernel
theorem d_M_addFactor_22 : decode b_M_addFactor 22 = .ok (.aload_n 0, 1) := by decide +kernel
theorem d_M_addFactor_23 : decode b_M_addFactor 23 = .ok (.getfield 64, 3) := by decide +kernel
theorem d_M_addFactor_26 : decode b_M_addFactor 26 = .ok (.iload_n 1, 1) := by decide +kernel
theorem d_M_addFactor_27 : decode b_M_addFactor 27 = .ok (.iaload, 1) := by decide +kernel
theorem d_M_addFactor_28 : decode b_M_addFactor 28 = .ok (.if_icmp .le (7), 3) := by decide +kernel
theorem d_M_addFactor_31 : decode b_M_addFactor 31 = .ok (.iload_n 3, 1) := by decide +kernel
theorem d_M_addFactor_32 : decode b_M_addFactor 32 = .ok (.goto (9), 3) := by decide +kernel
theorem d_M_addFactor_35 : decode b_M_addFactor 35 = .ok (.aload_n 0, 1) := by decide +kernel
theorem d_M_addFactor_36 : decode b_M_addFactor 36 = .ok (.getfield 64, 3) := by decide +kernel
theorem d_M_addFactor_39 : decode b_M_addFactor 39 = .ok (.iload_n 1, 1) := by decide +kernel
theorem d_M_addFactor_40 : decode b_M_addFactor 40 = .ok (.iaload, 1) := by decide +kernel
theorem d_M_addFactor_41 : decode b_M_addFactor 41 = .ok (.iastore, 1) := by decide +kernel
theorem d_M_addFactor_42 : decode b_M_addFactor 42 = .ok (.aload_n 0, 1) := by decide +kernel
theorem d_M_addFactor_43 : decode b_M_addFactor 43 = .ok (.getfield 67, 3) := by decide +kernel
theorem d_M_addFactor_46 : decode b_M_addFactor 46 = .ok (.iload_n 1, 1) := by decide +kernel
theorem d_M_addFactor_47 : decode b_M_addFactor 47 = .ok (.dup2, 1) := by decide +kernel
theorem d_M_addFactor_48 : decode b_M_addFactor 48 = .ok (.iaload, 1) := by decide +kernel
theorem d_M_addFactor_49 : decode b_M_addFactor 49 = .ok (.iconst 1, 1) := by decide +kernel
theorem d_M_addFactor_50 : decode b_M_addFactor 50 = .ok (.iadd, 1) := by decide +kernel
theorem d_M_addFactor_51 : decode b_M_addFactor 51 = .ok (.iastore, 1) := by decide +kernel
theorem d_M_addFactor_52 : decode b_M_addFactor 52 = .ok (.return_, 1) := by decide +kernel
def F_M_addFactor_41 (a0 : Nat) (x1 : Int32) (s2 : Int32) (s1 : Int32) (s0 : Nat) (w : AW) : Option (AW) :=
  gd (wk w s0 == 100) <|
  gd (inb s1 (wn w s0)) <|
  let w3 : AW := upI w s0 (Int32.toNatClampNeg s1) s2
  gd (wk w3 a0 == 13) <|
  gd (wk w3 (wr w3 a0 37) == 100) <|
  gd (inb x1 (wn w3 (wr w3 a0 37))) <|
  gd (inb x1 (wn w3 (wr w3 a0 37))) <|
  let w8 : AW := upI w3 (wr w3 a0 37) (Int32.toNatClampNeg x1) ((wi w3 (wr w3 a0 37) (Int32.toNatClampNeg x1)) + (1 : Int32))
  some w8
theorem P_M_addFactor_41 {X : AX} {l : Launch} {G : AG} (hX : XOK X b_M_addFactor "RedSkyModel" 4) (hM : XM X l G { frames := 0, cells := 0, slots := 0, locals := 0 }) {o : AW} (hR : XR X none 0 0 none o) (a0 : Nat) (x1 : Int32) (s2 : Int32) (s1 : Int32) (s0 : Nat) (w : AW) (h : F_M_addFactor_41 a0 x1 s2 s1 s0 w = some o) : RJ X 4 0 0 41 [(0, vr a0), (1, vi x1)] [vi s2, vi s1, vr s0] w := by
  unfold F_M_addFactor_41 at h
  obtain ⟨hk1, h⟩ := gd_e h
  obtain ⟨hg2, h⟩ := gd_e h
  refine r_iast hX hk1 hg2 d_M_addFactor_41 ?_
  refine r_aload_n (i := 0) hX d_M_addFactor_42 0 rfl rfl ?_
  obtain ⟨hk4, h⟩ := gd_e h
  refine r_getR (i := 12) (f := 37) hX ci_12 (by decide) rfl fl_M_67 hk4 d_M_addFactor_43 ?_
  refine r_iload_n (i := 1) hX d_M_addFactor_46 1 rfl rfl ?_
  refine r_dup2 hX d_M_addFactor_47 rfl rfl ?_
  obtain ⟨hk5, h⟩ := gd_e h
  obtain ⟨hg6, h⟩ := gd_e h
  refine r_iald hX hk5 hg6 d_M_addFactor_48 ?_
  refine r_iconst (v := (1 : Int32)) hX d_M_addFactor_49 rfl ?_
  refine r_iadd hX d_M_addFactor_50 ?_
  obtain ⟨hg7, h⟩ := gd_e h
  refine r_iast hX hk5 hg7 d_M_addFactor_51 ?_
  cases h; exact r_vret hX hR d_M_addFactor_52
def F_M_addFactor (a0 : Nat) (x1 : Int32) (x2 : Int32) (w : AW) : Option (AW) :=
  gd (wk w a0 == 13) <|
  gd (wk w (wr w a0 38) == 100) <|
  gd (inb x1 (wn w (wr w a0 38))) <|
  let v4 : Int32 := (x2 + (wi w (wr w a0 38) (Int32.toNatClampNeg x1)))
  gd (inb x1 (wn w (wr w a0 38))) <|
  let w6 : AW := upI w (wr w a0 38) (Int32.toNatClampNeg x1) (0 : Int32)
  gd (wk w6 (wr w6 a0 36) == 100) <|
  gd (inb x1 (wn w6 (wr w6 a0 36))) <|
  if v4 ≤ (wi w6 (wr w6 a0 36) (Int32.toNatClampNeg x1)) then
    gd (inb x1 (wn w6 (wr w6 a0 36))) <|
    F_M_addFactor_41 a0 x1 (wi w6 (wr w6 a0 36) (Int32.toNatClampNeg x1)) x1 (wr w6 a0 36) w6
  else
    F_M_addFactor_41 a0 x1 v4 x1 (wr w6 a0 36) w6
theorem P_M_addFactor_0 {X : AX} {l : Launch} {G : AG} (hX : XOK X b_M_addFactor "RedSkyModel" 4) (hM : XM X l G { frames := 0, cells := 0, slots := 0, locals := 0 }) {o : AW} (hR : XR X none 0 0 none o) (a0 : Nat) (x1 : Int32) (x2 : Int32) (w : AW) (h : F_M_addFactor a0 x1 x2 w = some o) : RJ X 4 0 0 0 [(0, vr a0), (1, vi x1), (2, vi x2)] [] w := by
  unfold F_M_addFactor at h
  refine r_iload_n (i := 2) hX d_M_addFactor_0 2 rfl rfl ?_
  refine r_aload_n (i := 0) hX d_M_addFactor_1 0 rfl rfl ?_
  obtain ⟨hk1, h⟩ := gd_e h
  refine r_getR (i := 12) (f := 38) hX ci_12 (by decide) rfl fl_M_70 hk1 d_M_addFactor_2 ?_
  refine r_iload_n (i := 1) hX d_M_addFactor_5 1 rfl rfl ?_
  obtain ⟨hk2, h⟩ := gd_e h
  obtain ⟨hg3, h⟩ := gd_e h
  refine r_iald hX hk2 hg3 d_M_addFactor_6 ?_
  refine r_iadd hX d_M_addFactor_7 ?_
  refine r_istore_n (i := 3) hX d_M_addFactor_8 rfl (by decide) ?_
  refine r_aload_n (i := 0) hX d_M_addFactor_9 1 rfl rfl ?_
  refine r_getR (i := 12) (f := 38) hX ci_12 (by decide) rfl fl_M_70 hk1 d_M_addFactor_10 ?_
  refine r_iload_n (i := 1) hX d_M_addFactor_13 2 rfl rfl ?_
  refine r_iconst (v := (0 : Int32)) hX d_M_addFactor_14 rfl ?_
  obtain ⟨hg5, h⟩ := gd_e h
  refine r_iast hX hk2 hg5 d_M_addFactor_15 ?_
  refine r_aload_n (i := 0) hX d_M_addFactor_16 1 rfl rfl ?_
  refine r_getR (i := 12) (f := 36) hX ci_12 (by decide) rfl fl_M_64 (kI hk1) d_M_addFactor_17 ?_
  refine r_iload_n (i := 1) hX d_M_addFactor_20 2 rfl rfl ?_
  refine r_iload_n (i := 3) hX d_M_addFactor_21 0 rfl rfl ?_
  refine r_aload_n (i := 0) hX d_M_addFactor_22 1 rfl rfl ?_
  refine r_getR (i := 12) (f := 36) hX ci_12 (by decide) rfl fl_M_64 (kI hk1) d_M_addFactor_23 ?_
  refine r_iload_n (i := 1) hX d_M_addFactor_26 2 rfl rfl ?_
  obtain ⟨hk7, h⟩ := gd_e h
  obtain ⟨hg8, h⟩ := gd_e h
  refine r_iald hX hk7 hg8 d_M_addFactor_27 ?_
  refine r_icmp_le hX d_M_addFactor_28 rfl h (fun h => ?_) (fun h => ?_)
  · refine r_aload_n (i := 0) hX d_M_addFactor_35 1 rfl rfl ?_
    refine r_getR (i := 12) (f := 36) hX ci_12 (by decide) rfl fl_M_64 (kI hk1) d_M_addFactor_36 ?_
    refine r_iload_n (i := 1) hX d_M_addFactor_39 2 rfl rfl ?_
    obtain ⟨hg9, h⟩ := gd_e h
    refine r_iald hX hk7 hg9 d_M_addFactor_40 ?_
    exact rj_sub [1, 2] rfl (P_M_addFactor_41 hX hM hR _ _ _ _ _ _ h)
  · refine r_iload_n (i := 3) hX d_M_addFactor_31 0 rfl rfl ?_
    refine r_goto hX d_M_addFactor_32 rfl ?_
    exact rj_sub [1, 2] rfl (P_M_addFactor_41 hX hM hR _ _ _ _ _ _ h)
theorem T_M_addFactor {l : Launch} {G : AG} (a0 : Nat) (x1 : Int32) (x2 : Int32) (w : AW) {o : AW} (h : F_M_addFactor a0 x1 x2 w = some o) : Mt l G y_M_addFactor b_M_addFactor 4 none 0 0 0 0 [vr a0, vi x1, vi x2] w none o := mt_of (by decide) (Nat.le_of_ble_eq_true rfl) (fun X hX hR hM hI => P_M_addFactor_0 hX hM hR _ _ _ _ h)
/-! RedSkyModel.deepOf(I)I -/
theorem d_M_deepOf_0 : decode b_M_deepOf 0 = .ok (.iconst 0, 1) := by decide +kernel
theorem d_M_deepOf_1 : decode b_M_deepOf 1 = .ok (.istore_n 2, 1) := by decide +kernel
theorem d_M_deepOf_2 : decode b_M_deepOf 2 = .ok (.iload_n 1, 1) := by decide +kernel
theorem d_M_deepOf_3 : decode b_M_deepOf 3 = .ok (.iconst 1, 1) := by decide +kernel
theorem d_M_deepOf_4 : decode b_M_deepOf 4 = .ok (.if_icmp .ne (31), 3) := by decide +kernel
theorem d_M_deepOf_7 : decode b_M_deepOf 7 = .ok (.aload_n 0, 1) := by decide +kernel
theorem d_M_deepOf_8 : decode b_M_deepOf 8 = .ok (.getfield 31, 3) := by decide +kernel
theorem d_M_deepOf_11 : decode b_M_deepOf 11 = .ok (.iload_n 2, 1) := by decide +kernel
theorem d_M_deepOf_12 : decode b_M_deepOf 12 = .ok (.iaload, 1) := by decide +kernel
theorem d_M_deepOf_13 : decode b_M_deepOf 13 = .ok (.bipush (126), 2) := by decide +kernel
theorem d_M_deepOf_15 : decode b_M_deepOf 15 = .ok (.if_icmp .eq (20), 3) := by decide +kernel
theorem d_M_deepOf_18 : decode b_M_deepOf 18 = .ok (.aload_n 0, 1) := by decide +kernel
theorem d_M_deepOf_19 : decode b_M_deepOf 19 = .ok (.getfield 31, 3) := by decide +kernel
theorem d_M_deepOf_22 : decode b_M_deepOf 22 = .ok (.iload_n 2, 1) := by decide +kernel
theorem d_M_deepOf_23 : decode b_M_deepOf 23 = .ok (.iaload, 1) := by decide +kernel
theorem d_M_deepOf_24 : decode b_M_deepOf 24 = .ok (.bipush (94), 2) := by decide +kernel
theorem d_M_deepOf_26 : decode b_M_deepOf 26 = .ok (.if_icmp .eq (9), 3) := by decide +kernel
theorem d_M_deepOf_29 : decode b_M_deepOf 29 = .ok (.iinc 2 (1), 3) := by decide +kernel
theorem d_M_deepOf_32 : decode b_M_deepOf 32 = .ok (.goto (-30), 3) := by decide +kernel
theorem d_M_deepOf_35 : decode b_M_deepOf 35 = .ok (.iconst 0, 1) := by decide +kernel
theorem d_M_deepOf_36 : decode b_M_deepOf 36 = .ok (.istore_n 3, 1) := by decide +kernel
theorem d_M_deepOf_37 : decode b_M_deepOf 37 = .ok (.aload_n 0, 1) := by decide +kernel
theorem d_M_deepOf_38 : decode b_M_deepOf 38 = .ok (.iconst 0, 1) := by decide +kernel
theorem d_M_deepOf_39 : decode b_M_deepOf 39 = .ok (.invokevirtual 282, 3) := by decide +kernel
theorem d_M_deepOf_42 : decode b_M_deepOf 42 = .ok (.iload_n 2, 1) := by decide +kernel
theorem d_M_deepOf_43 : decode b_M_deepOf 43 = .ok (.aload_n 0, 1) := by decide +kernel
theorem d_M_deepOf_44 : decode b_M_deepOf 44 = .ok (.getfield 178, 3) := by decide +kernel
theorem d_M_deepOf_47 : decode b_M_deepOf 47 = .ok (.if_icmp .ge (134), 3) := by decide +kernel
theorem d_M_deepOf_50 : decode b_M_deepOf 50 = .ok (.aload_n 0, 1) := by decide +kernel
theorem d_M_deepOf_51 : decode b_M_deepOf 51 = .ok (.getfield 31, 3) := by decide +kernel
theorem d_M_deepOf_54 : decode b_M_deepOf 54 = .ok (.iload_n 2, 1) := by decide +kernel
theorem d_M_deepOf_55 : decode b_M_deepOf 55 = .ok (.iaload, 1) := by decide +kernel
theorem d_M_deepOf_56 : decode b_M_deepOf 56 = .ok (.bipush (58), 2) := by decide +kernel
theorem d_M_deepOf_58 : decode b_M_deepOf 58 = .ok (.if_icmp .eq (123), 3) := by decide +kernel
theorem d_M_deepOf_61 : decode b_M_deepOf 61 = .ok (.aload_n 0, 1) := by decide +kernel
theorem d_M_deepOf_62 : decode b_M_deepOf 62 = .ok (.getfield 31, 3) := by decide +kernel
theorem d_M_deepOf_65 : decode b_M_deepOf 65 = .ok (.iload_n 2, 1) := by decide +kernel
theorem d_M_deepOf_66 : decode b_M_deepOf 66 = .ok (.iaload, 1) := by decide +kernel
theorem d_M_deepOf_67 : decode b_M_deepOf 67 = .ok (.bipush (64), 2) := by decide +kernel
theorem d_M_deepOf_69 : decode b_M_deepOf 69 = .ok (.if_icmp .eq (112), 3) := by decide +kernel
theorem d_M_deepOf_72 : decode b_M_deepOf 72 = .ok (.aload_n 0, 1) := by decide +kernel
theorem d_M_deepOf_73 : decode b_M_deepOf 73 = .ok (.getfield 31, 3) := by decide +kernel
theorem d_M_deepOf_76 : decode b_M_deepOf 76 = .ok (.iload_n 2, 1) := by decide +kernel
theorem d_M_deepOf_77 : decode b_M_deepOf 77 = .ok (.iaload, 1) := by decide +kernel
theorem d_M_deepOf_78 : decode b_M_deepOf 78 = .ok (.istore 4, 2) := by decide +kernel
theorem d_M_deepOf_80 : decode b_M_deepOf 80 = .ok (.iload 4, 2) := by decide +kernel
theorem d_M_deepOf_82 : decode b_M_deepOf 82 = .ok (.bipush (33), 2) := by decide +kernel
theorem d_M_deepOf_84 : decode b_M_deepOf 84 = .ok (.if_icmp .ne (16), 3) := by decide +kernel
theorem d_M_deepOf_87 : decode b_M_deepOf 87 = .ok (.aload_n 0, 1) := by decide +kernel
theorem d_M_deepOf_88 : decode b_M_deepOf 88 = .ok (.getfield 70, 3) := by decide +kernel
theorem d_M_deepOf_91 : decode b_M_deepOf 91 = .ok (.iload_n 3, 1) := by decide +kernel
theorem d_M_deepOf_92 : decode b_M_deepOf 92 = .ok (.dup2, 1) := by decide +kernel
theorem d_M_deepOf_93 : decode b_M_deepOf 93 = .ok (.iaload, 1) := by decide +kernel
theorem d_M_deepOf_94 : decode b_M_deepOf 94 = .ok (.iconst 1, 1) := by decide +kernel
theorem d_M_deepOf_95 : decode b_M_deepOf 95 = .ok (.iadd, 1) := by decide +kernel
theorem d_M_deepOf_96 : decode b_M_deepOf 96 = .ok (.iastore, 1) := by decide +kernel
theorem d_M_deepOf_97 : decode b_M_deepOf 97 = .ok (.goto (78), 3) := by decide +kernel
theorem d_M_deepOf_100 : decode b_M_deepOf 100 = .ok (.iload 4, 2) := by decide +kernel
theorem d_M_deepOf_102 : decode b_M_deepOf 102 = .ok (.bipush (40), 2) := by decide +kernel
theorem d_M_deepOf_104 : decode b_M_deepOf 104 = .ok (.if_icmp .ne (14), 3) := by decide +kernel
theorem d_M_deepOf_107 : decode b_M_deepOf 107 = .ok (.iinc 3 (1), 3) := by decide +kernel
theorem d_M_deepOf_110 : decode b_M_deepOf 110 = .ok (.aload_n 0, 1) := by decide +kernel
theorem d_M_deepOf_111 : decode b_M_deepOf 111 = .ok (.iload_n 3, 1) := by decide +kernel
theorem d_M_deepOf_112 : decode b_M_deepOf 112 = .ok (.invokevirtual 282, 3) := by decide +kernel
theorem d_M_deepOf_115 : decode b_M_deepOf 115 = .ok (.goto (60), 3) := by decide +kernel
theorem d_M_deepOf_118 : decode b_M_deepOf 118 = .ok (.iload 4, 2) := by decide +kernel
theorem d_M_deepOf_120 : decode b_M_deepOf 120 = .ok (.bipush (41), 2) := by decide +kernel
theorem d_M_deepOf_122 : decode b_M_deepOf 122 = .ok (.if_icmp .ne (23), 3) := by decide +kernel
theorem d_M_deepOf_125 : decode b_M_deepOf 125 = .ok (.aload_n 0, 1) := by decide +kernel
theorem d_M_deepOf_126 : decode b_M_deepOf 126 = .ok (.iload_n 3, 1) := by decide +kernel
theorem d_M_deepOf_127 : decode b_M_deepOf 127 = .ok (.invokevirtual 285, 3) := by decide +kernel
theorem d_M_deepOf_130 : decode b_M_deepOf 130 = .ok (.istore 5, 2) := by decide +kernel
theorem d_M_deepOf_132 : decode b_M_deepOf 132 = .ok (.iinc 3 (-1), 3) := by decide +kernel
theorem d_M_deepOf_135 : decode b_M_deepOf 135 = .ok (.aload_n 0, 1) := by decide +kernel
theorem d_M_deepOf_136 : decode b_M_deepOf 136 = .ok (.iload_n 3, 1) := by decide +kernel
theorem d_M_deepOf_137 : decode b_M_deepOf 137 = .ok (.iload 5, 2) := by decide +kernel
theorem d_M_deepOf_139 : decode b_M_deepOf 139 = .ok (.invokevirtual 288, 3) := by decide +kernel
theorem d_M_deepOf_142 : decode b_M_deepOf 142 = .ok (.goto (33), 3) := by decide +kernel
theorem d_M_deepOf_145 : decode b_M_deepOf 145 = .ok (.iload 4, 2) := by decide +kernel
theorem d_M_deepOf_147 : decode b_M_deepOf 147 = .ok (.invokestatic 233, 3) := by decide +kernel
theorem d_M_deepOf_150 : decode b_M_deepOf 150 = .ok (.iconst (-1), 1) := by decide +kernel
theorem d_M_deepOf_151 : decode b_M_deepOf 151 = .ok (.if_icmp .eq (12), 3) := by decide +kernel
theorem d_M_deepOf_154 : decode b_M_deepOf 154 = .ok (.aload_n 0, 1) := by decide +kernel
theorem d_M_deepOf_155 : decode b_M_deepOf 155 = .ok (.iload_n 3, 1) := by decide +kernel
theorem d_M_deepOf_156 : decode b_M_deepOf 156 = .ok (.iconst 1, 1) := by decide +kernel
theorem d_M_deepOf_157 : decode b_M_deepOf 157 = .ok (.invokevirtual 288, 3) := by decide +kernel
theorem d_M_deepOf_160 : decode b_M_deepOf 160 = .ok (.goto (15), 3) := by decide +kernel
theorem d_M_deepOf_163 : decode b_M_deepOf 163 = .ok (.iload 4, 2) := by decide +kernel
theorem d_M_deepOf_165 : decode b_M_deepOf 165 = .ok (.bipush (124), 2) := by decide +kernel
theorem d_M_deepOf_167 : decode b_M_deepOf 167 = .ok (.if_icmp .ne (8), 3) := by decide +kernel
theorem d_M_deepOf_170 : decode b_M_deepOf 170 = .ok (.aload_n 0, 1) := by decide +kernel
theorem d_M_deepOf_171 : decode b_M_deepOf 171 = .ok (.iload_n 3, 1) := by decide +kernel
theorem d_M_deepOf_172 : decode b_M_deepOf 172 = .ok (.invokevirtual 279, 3) := by decide +kernel
theorem d_M_deepOf_175 : decode b_M_deepOf 175 = .ok (.iinc 2 (1), 3) := by decide +kernel
theorem d_M_deepOf_178 : decode b_M_deepOf 178 = .ok (.goto (-136), 3) := by decide +kernel
theorem d_M_deepOf_181 : decode b_M_deepOf 181 = .ok (.aload_n 0, 1) := by decide +kernel
theorem d_M_deepOf_182 : decode b_M_deepOf 182 = .ok (.iconst 0, 1) := by decide +kernel
theorem d_M_deepOf_183 : decode b_M_deepOf 183 = .ok (.invokevirtual 285, 3) := by decide +kernel
theorem d_M_deepOf_186 : decode b_M_deepOf 186 = .ok (.ireturn, 1) := by decide +kernel
def F_M_deepOf_181 (a0 : Nat) (w : AW) : Option (Int32 × AW) :=
  gd (wk w a0 == 13) <|
  (F_M_endGroup a0 (0 : Int32) w).bind fun r2 =>
  some (r2.1, r2.2)
theorem P_M_deepOf_181 {X : AX} {l : Launch} {G : AG} (hX : XOK X b_M_deepOf "RedSkyModel" 6) (hM : XM X l G { frames := 2, cells := 0, slots := 0, locals := 43 }) {o : Int32 × AW} (hR : XR X (some .int) 0 0 (some (vi o.1)) o.2) (a0 : Nat) (w : AW) (h : F_M_deepOf_181 a0 w = some o) : RJ X 6 0 0 181 [(0, vr a0)] [] w := by
  unfold F_M_deepOf_181 at h
  refine r_aload_n (i := 0) hX d_M_deepOf_181 0 rfl rfl ?_
  refine r_iconst (v := (0 : Int32)) hX d_M_deepOf_182 rfl ?_
  obtain ⟨hk1, h⟩ := gd_e h
  obtain ⟨r2, hr3, h⟩ := bd_e h
  refine r_callV1 (As := [_]) hX hM mw_M_285 (T_M_endGroup _ _ _ hr3) (rc_of ci_12 hk1) rfl rfl ⟨Nat.le_refl _, Nat.le_refl _⟩ rfl rfl d_M_deepOf_183 ?_
  cases h; exact r_iret hX hR d_M_deepOf_186
def F_M_deepOf_42_B (rec42 : Nat → Int32 → Int32 → AW → Option (Int32 × AW)) (a0 : Nat) (x2 : Int32) (x3 : Int32) (w : AW) : Option (Int32 × AW) :=
  gd (wk w a0 == 13) <|
  if (wi w a0 9) ≤ x2 then
    F_M_deepOf_181 a0 w
  else
    gd (wk w (wr w a0 8) == 100) <|
    gd (inb x2 (wn w (wr w a0 8))) <|
    if (wi w (wr w a0 8) (Int32.toNatClampNeg x2)) = (58 : Int32) then
      F_M_deepOf_181 a0 w
    else
      gd (inb x2 (wn w (wr w a0 8))) <|
      if (wi w (wr w a0 8) (Int32.toNatClampNeg x2)) = (64 : Int32) then
        F_M_deepOf_181 a0 w
      else
        gd (inb x2 (wn w (wr w a0 8))) <|
        let v6 : Int32 := (wi w (wr w a0 8) (Int32.toNatClampNeg x2))
        if v6 = (33 : Int32) then
          gd (wk w (wr w a0 38) == 100) <|
          gd (inb x3 (wn w (wr w a0 38))) <|
          gd (inb x3 (wn w (wr w a0 38))) <|
          let w29 : AW := upI w (wr w a0 38) (Int32.toNatClampNeg x3) ((wi w (wr w a0 38) (Int32.toNatClampNeg x3)) + (1 : Int32))
          let v30 : Int32 := (x2 + (1 : Int32))
          rec42 a0 v30 x3 w29
        else
          if v6 = (40 : Int32) then
            let v22 : Int32 := (x3 + (1 : Int32))
            (F_M_beginGroup a0 v22 w).bind fun r23 =>
            let v25 : Int32 := (x2 + (1 : Int32))
            rec42 a0 v25 v22 r23
          else
            if v6 = (41 : Int32) then
              (F_M_endGroup a0 x3 w).bind fun r14 =>
              let v16 : Int32 := r14.1
              let v17 : Int32 := (x3 + (-1 : Int32))
              gd (wk r14.2 a0 == 13) <|
              (F_M_addFactor a0 v17 v16 r14.2).bind fun r19 =>
              let v21 : Int32 := (x2 + (1 : Int32))
              rec42 a0 v21 v17 r19
            else
              if (F_M_fieldOf v6) = (-1 : Int32) then
                if v6 = (124 : Int32) then
                  (F_M_endTerm a0 x3 w).bind fun r8 =>
                  let v10 : Int32 := (x2 + (1 : Int32))
                  rec42 a0 v10 x3 r8
                else
                  let v7 : Int32 := (x2 + (1 : Int32))
                  rec42 a0 v7 x3 w
              else
                (F_M_addFactor a0 x3 (1 : Int32) w).bind fun r11 =>
                let v13 : Int32 := (x2 + (1 : Int32))
                rec42 a0 v13 x3 r11
theorem P_M_deepOf_42_B {X : AX} {l : Launch} {G : AG} {rec42 : Nat → Int32 → Int32 → AW → Option (Int32 × AW)} (hX : XOK X b_M_deepOf "RedSkyModel" 6) (hM : XM X l G { frames := 2, cells := 0, slots := 0, locals := 43 }) {o : Int32 × AW} (hR : XR X (some .int) 0 0 (some (vi o.1)) o.2) (hrec42 : ∀ (a0 : Nat) (x2 : Int32) (x3 : Int32) (w : AW), rec42 a0 x2 x3 w = some o → RJ X 6 0 0 42 [(0, vr a0), (2, vi x2), (3, vi x3)] [] w) (a0 : Nat) (x2 : Int32) (x3 : Int32) (w : AW) (h : F_M_deepOf_42_B rec42 a0 x2 x3 w = some o) : RJ X 6 0 0 42 [(0, vr a0), (2, vi x2), (3, vi x3)] [] w := by
  unfold F_M_deepOf_42_B at h
  refine r_iload_n (i := 2) hX d_M_deepOf_42 1 rfl rfl ?_
  refine r_aload_n (i := 0) hX d_M_deepOf_43 0 rfl rfl ?_
  obtain ⟨hk1, h⟩ := gd_e h
  refine r_getI (i := 12) (f := 9) hX ci_12 (by decide) rfl fl_M_178 hk1 d_M_deepOf_44 ?_
  refine r_icmp_ge hX d_M_deepOf_47 rfl h (fun h => ?_) (fun h => ?_)
  · exact rj_sub [0] rfl (P_M_deepOf_181 hX hM hR _ _ h)
  · refine r_aload_n (i := 0) hX d_M_deepOf_50 0 rfl rfl ?_
    refine r_getR (i := 12) (f := 8) hX ci_12 (by decide) rfl fl_M_31 hk1 d_M_deepOf_51 ?_
    refine r_iload_n (i := 2) hX d_M_deepOf_54 1 rfl rfl ?_
    obtain ⟨hk2, h⟩ := gd_e h
    obtain ⟨hg3, h⟩ := gd_e h
    refine r_iald hX hk2 hg3 d_M_deepOf_55 ?_
    refine r_bipush (v := (58 : Int32)) hX d_M_deepOf_56 rfl ?_
    refine r_icmp_eq hX d_M_deepOf_58 rfl h (fun h => ?_) (fun h => ?_)
    · exact rj_sub [0] rfl (P_M_deepOf_181 hX hM hR _ _ h)
    · refine r_aload_n (i := 0) hX d_M_deepOf_61 0 rfl rfl ?_
      refine r_getR (i := 12) (f := 8) hX ci_12 (by decide) rfl fl_M_31 hk1 d_M_deepOf_62 ?_
      refine r_iload_n (i := 2) hX d_M_deepOf_65 1 rfl rfl ?_
      obtain ⟨hg4, h⟩ := gd_e h
      refine r_iald hX hk2 hg4 d_M_deepOf_66 ?_
      refine r_bipush (v := (64 : Int32)) hX d_M_deepOf_67 rfl ?_
      refine r_icmp_eq hX d_M_deepOf_69 rfl h (fun h => ?_) (fun h => ?_)
      · exact rj_sub [0] rfl (P_M_deepOf_181 hX hM hR _ _ h)
      · refine r_aload_n (i := 0) hX d_M_deepOf_72 0 rfl rfl ?_
        refine r_getR (i := 12) (f := 8) hX ci_12 (by decide) rfl fl_M_31 hk1 d_M_deepOf_73 ?_
        refine r_iload_n (i := 2) hX d_M_deepOf_76 1 rfl rfl ?_
        obtain ⟨hg5, h⟩ := gd_e h
        refine r_iald hX hk2 hg5 d_M_deepOf_77 ?_
        refine r_istore (i := 4) hX d_M_deepOf_78  (by decide) ?_
        refine r_iload (i := 4) hX d_M_deepOf_80 0  rfl ?_
        refine r_bipush (v := (33 : Int32)) hX d_M_deepOf_82 rfl ?_
        refine r_icmp_ne hX d_M_deepOf_84 rfl h (fun h => ?_) (fun h => ?_)
        · refine r_iload (i := 4) hX d_M_deepOf_100 0  rfl ?_
          refine r_bipush (v := (40 : Int32)) hX d_M_deepOf_102 rfl ?_
          refine r_icmp_ne hX d_M_deepOf_104 rfl h (fun h => ?_) (fun h => ?_)
          · refine r_iload (i := 4) hX d_M_deepOf_118 0  rfl ?_
            refine r_bipush (v := (41 : Int32)) hX d_M_deepOf_120 rfl ?_
            refine r_icmp_ne hX d_M_deepOf_122 rfl h (fun h => ?_) (fun h => ?_)
            · refine r_iload (i := 4) hX d_M_deepOf_145 0  rfl ?_
              refine r_callS1 (As := [_]) hX hM mw_M_233 (T_M_fieldOf _ _) rfl rfl ⟨Nat.le_refl _, Nat.le_refl _⟩ rfl rfl d_M_deepOf_147 ?_
              refine r_iconst (v := (-1 : Int32)) hX d_M_deepOf_150 rfl ?_
              refine r_icmp_eq hX d_M_deepOf_151 rfl h (fun h => ?_) (fun h => ?_)
              · refine r_iload (i := 4) hX d_M_deepOf_163 0  rfl ?_
                refine r_bipush (v := (124 : Int32)) hX d_M_deepOf_165 rfl ?_
                refine r_icmp_ne hX d_M_deepOf_167 rfl h (fun h => ?_) (fun h => ?_)
                · refine r_iinc (i := 2) (v := (1 : Int32)) hX d_M_deepOf_175 2 rfl rfl (by decide) ?_
                  refine r_goto hX d_M_deepOf_178 rfl ?_
                  exact rj_sub [2, 0, 3] rfl (hrec42 _ _ _ _ h)
                · refine r_aload_n (i := 0) hX d_M_deepOf_170 1 rfl rfl ?_
                  refine r_iload_n (i := 3) hX d_M_deepOf_171 3 rfl rfl ?_
                  obtain ⟨r8, hr9, h⟩ := bd_e h
                  refine r_callV0 (As := [_]) hX hM mw_M_279 (T_M_endTerm _ _ _ hr9) (rc_of ci_12 hk1) rfl rfl ⟨Nat.le_refl _, Nat.le_refl _⟩ rfl rfl d_M_deepOf_172 ?_
                  refine r_iinc (i := 2) (v := (1 : Int32)) hX d_M_deepOf_175 2 rfl rfl (by decide) ?_
                  refine r_goto hX d_M_deepOf_178 rfl ?_
                  exact rj_sub [2, 0, 3] rfl (hrec42 _ _ _ _ h)
              · refine r_aload_n (i := 0) hX d_M_deepOf_154 1 rfl rfl ?_
                refine r_iload_n (i := 3) hX d_M_deepOf_155 3 rfl rfl ?_
                refine r_iconst (v := (1 : Int32)) hX d_M_deepOf_156 rfl ?_
                obtain ⟨r11, hr12, h⟩ := bd_e h
                refine r_callV0 (As := [_, _]) hX hM mw_M_288 (T_M_addFactor _ _ _ _ hr12) (rc_of ci_12 hk1) rfl rfl ⟨Nat.le_refl _, Nat.le_refl _⟩ rfl rfl d_M_deepOf_157 ?_
                refine r_goto hX d_M_deepOf_160 rfl ?_
                refine r_iinc (i := 2) (v := (1 : Int32)) hX d_M_deepOf_175 2 rfl rfl (by decide) ?_
                refine r_goto hX d_M_deepOf_178 rfl ?_
                exact rj_sub [2, 0, 3] rfl (hrec42 _ _ _ _ h)
            · refine r_aload_n (i := 0) hX d_M_deepOf_125 1 rfl rfl ?_
              refine r_iload_n (i := 3) hX d_M_deepOf_126 3 rfl rfl ?_
              obtain ⟨r14, hr15, h⟩ := bd_e h
              refine r_callV1 (As := [_]) hX hM mw_M_285 (T_M_endGroup _ _ _ hr15) (rc_of ci_12 hk1) rfl rfl ⟨Nat.le_refl _, Nat.le_refl _⟩ rfl rfl d_M_deepOf_127 ?_
              refine r_istore (i := 5) hX d_M_deepOf_130  (by decide) ?_
              refine r_iinc (i := 3) (v := (-1 : Int32)) hX d_M_deepOf_132 4 rfl rfl (by decide) ?_
              refine r_aload_n (i := 0) hX d_M_deepOf_135 3 rfl rfl ?_
              refine r_iload_n (i := 3) hX d_M_deepOf_136 0 rfl rfl ?_
              refine r_iload (i := 5) hX d_M_deepOf_137 1  rfl ?_
              obtain ⟨hk18, h⟩ := gd_e h
              obtain ⟨r19, hr20, h⟩ := bd_e h
              refine r_callV0 (As := [_, _]) hX hM mw_M_288 (T_M_addFactor _ _ _ _ hr20) (rc_of ci_12 hk18) rfl rfl ⟨Nat.le_refl _, Nat.le_refl _⟩ rfl rfl d_M_deepOf_139 ?_
              refine r_goto hX d_M_deepOf_142 rfl ?_
              refine r_iinc (i := 2) (v := (1 : Int32)) hX d_M_deepOf_175 4 rfl rfl (by decide) ?_
              refine r_goto hX d_M_deepOf_178 rfl ?_
              exact rj_sub [4, 0, 1] rfl (hrec42 _ _ _ _ h)
          · refine r_iinc (i := 3) (v := (1 : Int32)) hX d_M_deepOf_107 3 rfl rfl (by decide) ?_
            refine r_aload_n (i := 0) hX d_M_deepOf_110 2 rfl rfl ?_
            refine r_iload_n (i := 3) hX d_M_deepOf_111 0 rfl rfl ?_
            obtain ⟨r23, hr24, h⟩ := bd_e h
            refine r_callV0 (As := [_]) hX hM mw_M_282 (T_M_beginGroup _ _ _ hr24) (rc_of ci_12 hk1) rfl rfl ⟨Nat.le_refl _, Nat.le_refl _⟩ rfl rfl d_M_deepOf_112 ?_
            refine r_goto hX d_M_deepOf_115 rfl ?_
            refine r_iinc (i := 2) (v := (1 : Int32)) hX d_M_deepOf_175 3 rfl rfl (by decide) ?_
            refine r_goto hX d_M_deepOf_178 rfl ?_
            exact rj_sub [3, 0, 1] rfl (hrec42 _ _ _ _ h)
        · refine r_aload_n (i := 0) hX d_M_deepOf_87 1 rfl rfl ?_
          refine r_getR (i := 12) (f := 38) hX ci_12 (by decide) rfl fl_M_70 hk1 d_M_deepOf_88 ?_
          refine r_iload_n (i := 3) hX d_M_deepOf_91 3 rfl rfl ?_
          refine r_dup2 hX d_M_deepOf_92 rfl rfl ?_
          obtain ⟨hk26, h⟩ := gd_e h
          obtain ⟨hg27, h⟩ := gd_e h
          refine r_iald hX hk26 hg27 d_M_deepOf_93 ?_
          refine r_iconst (v := (1 : Int32)) hX d_M_deepOf_94 rfl ?_
          refine r_iadd hX d_M_deepOf_95 ?_
          obtain ⟨hg28, h⟩ := gd_e h
          refine r_iast hX hk26 hg28 d_M_deepOf_96 ?_
          refine r_goto hX d_M_deepOf_97 rfl ?_
          refine r_iinc (i := 2) (v := (1 : Int32)) hX d_M_deepOf_175 2 rfl rfl (by decide) ?_
          refine r_goto hX d_M_deepOf_178 rfl ?_
          exact rj_sub [2, 0, 3] rfl (hrec42 _ _ _ _ h)
def F_M_deepOf_42 : Nat → Nat → Int32 → Int32 → AW → Option (Int32 × AW)
  | 0 => fun _ _ _ _ => none
  | n + 1 => fun a0 x2 x3 w => F_M_deepOf_42_B (F_M_deepOf_42 n) a0 x2 x3 w
theorem P_M_deepOf_42 {X : AX} {l : Launch} {G : AG} (hX : XOK X b_M_deepOf "RedSkyModel" 6) (hM : XM X l G { frames := 2, cells := 0, slots := 0, locals := 43 }) {o : Int32 × AW} (hR : XR X (some .int) 0 0 (some (vi o.1)) o.2) (fu : Nat) : ∀ (a0 : Nat) (x2 : Int32) (x3 : Int32) (w : AW), F_M_deepOf_42 fu a0 x2 x3 w = some o → RJ X 6 0 0 42 [(0, vr a0), (2, vi x2), (3, vi x3)] [] w := by
  induction fu with
  | zero => intro a0 x2 x3 w h; cases h
  | succ n9 ih => intro a0 x2 x3 w h; exact P_M_deepOf_42_B hX hM hR ih _ _ _ _ h
def F_M_deepOf_35 (a0 : Nat) (x2 : Int32) (w : AW) : Option (Int32 × AW) :=
  gd (wk w a0 == 13) <|
  (F_M_beginGroup a0 (0 : Int32) w).bind fun r2 =>
  F_M_deepOf_42 FUEL a0 x2 (0 : Int32) r2
theorem P_M_deepOf_35 {X : AX} {l : Launch} {G : AG} (hX : XOK X b_M_deepOf "RedSkyModel" 6) (hM : XM X l G { frames := 2, cells := 0, slots := 0, locals := 43 }) {o : Int32 × AW} (hR : XR X (some .int) 0 0 (some (vi o.1)) o.2) (a0 : Nat) (x2 : Int32) (w : AW) (h : F_M_deepOf_35 a0 x2 w = some o) : RJ X 6 0 0 35 [(0, vr a0), (2, vi x2)] [] w := by
  unfold F_M_deepOf_35 at h
  refine r_iconst (v := (0 : Int32)) hX d_M_deepOf_35 rfl ?_
  refine r_istore_n (i := 3) hX d_M_deepOf_36 rfl (by decide) ?_
  refine r_aload_n (i := 0) hX d_M_deepOf_37 1 rfl rfl ?_
  refine r_iconst (v := (0 : Int32)) hX d_M_deepOf_38 rfl ?_
  obtain ⟨hk1, h⟩ := gd_e h
  obtain ⟨r2, hr3, h⟩ := bd_e h
  refine r_callV0 (As := [_]) hX hM mw_M_282 (T_M_beginGroup _ _ _ hr3) (rc_of ci_12 hk1) rfl rfl ⟨Nat.le_refl _, Nat.le_refl _⟩ rfl rfl d_M_deepOf_39 ?_
  exact rj_sub [1, 2, 0] rfl (P_M_deepOf_42 hX hM hR FUEL _ _ _ _ h)
def F_M_deepOf_2_B (rec2 : Nat → Int32 → Int32 → AW → Option (Int32 × AW)) (a0 : Nat) (x1 : Int32) (x2 : Int32) (w : AW) : Option (Int32 × AW) :=
  if x1 = (1 : Int32) then
    gd (wk w a0 == 13) <|
    gd (wk w (wr w a0 8) == 100) <|
    gd (inb x2 (wn w (wr w a0 8))) <|
    if (wi w (wr w a0 8) (Int32.toNatClampNeg x2)) = (126 : Int32) then
      F_M_deepOf_35 a0 x2 w
    else
      gd (inb x2 (wn w (wr w a0 8))) <|
      if (wi w (wr w a0 8) (Int32.toNatClampNeg x2)) = (94 : Int32) then
        F_M_deepOf_35 a0 x2 w
      else
        let v5 : Int32 := (x2 + (1 : Int32))
        rec2 a0 x1 v5 w
  else
    F_M_deepOf_35 a0 x2 w
theorem P_M_deepOf_2_B {X : AX} {l : Launch} {G : AG} {rec2 : Nat → Int32 → Int32 → AW → Option (Int32 × AW)} (hX : XOK X b_M_deepOf "RedSkyModel" 6) (hM : XM X l G { frames := 2, cells := 0, slots := 0, locals := 43 }) {o : Int32 × AW} (hR : XR X (some .int) 0 0 (some (vi o.1)) o.2) (hrec2 : ∀ (a0 : Nat) (x1 : Int32) (x2 : Int32) (w : AW), rec2 a0 x1 x2 w = some o → RJ X 6 0 0 2 [(0, vr a0), (1, vi x1), (2, vi x2)] [] w) (a0 : Nat) (x1 : Int32) (x2 : Int32) (w : AW) (h : F_M_deepOf_2_B rec2 a0 x1 x2 w = some o) : RJ X 6 0 0 2 [(0, vr a0), (1, vi x1), (2, vi x2)] [] w := by
  unfold F_M_deepOf_2_B at h
  refine r_iload_n (i := 1) hX d_M_deepOf_2 1 rfl rfl ?_
  refine r_iconst (v := (1 : Int32)) hX d_M_deepOf_3 rfl ?_
  refine r_icmp_ne hX d_M_deepOf_4 rfl h (fun h => ?_) (fun h => ?_)
  · exact rj_sub [0, 2] rfl (P_M_deepOf_35 hX hM hR _ _ _ h)
  · refine r_aload_n (i := 0) hX d_M_deepOf_7 0 rfl rfl ?_
    obtain ⟨hk1, h⟩ := gd_e h
    refine r_getR (i := 12) (f := 8) hX ci_12 (by decide) rfl fl_M_31 hk1 d_M_deepOf_8 ?_
    refine r_iload_n (i := 2) hX d_M_deepOf_11 2 rfl rfl ?_
    obtain ⟨hk2, h⟩ := gd_e h
    obtain ⟨hg3, h⟩ := gd_e h
    refine r_iald hX hk2 hg3 d_M_deepOf_12 ?_
    refine r_bipush (v := (126 : Int32)) hX d_M_deepOf_13 rfl ?_
    refine r_icmp_eq hX d_M_deepOf_15 rfl h (fun h => ?_) (fun h => ?_)
    · exact rj_sub [0, 2] rfl (P_M_deepOf_35 hX hM hR _ _ _ h)
    · refine r_aload_n (i := 0) hX d_M_deepOf_18 0 rfl rfl ?_
      refine r_getR (i := 12) (f := 8) hX ci_12 (by decide) rfl fl_M_31 hk1 d_M_deepOf_19 ?_
      refine r_iload_n (i := 2) hX d_M_deepOf_22 2 rfl rfl ?_
      obtain ⟨hg4, h⟩ := gd_e h
      refine r_iald hX hk2 hg4 d_M_deepOf_23 ?_
      refine r_bipush (v := (94 : Int32)) hX d_M_deepOf_24 rfl ?_
      refine r_icmp_eq hX d_M_deepOf_26 rfl h (fun h => ?_) (fun h => ?_)
      · exact rj_sub [0, 2] rfl (P_M_deepOf_35 hX hM hR _ _ _ h)
      · refine r_iinc (i := 2) (v := (1 : Int32)) hX d_M_deepOf_29 2 rfl rfl (by decide) ?_
        refine r_goto hX d_M_deepOf_32 rfl ?_
        exact rj_sub [1, 2, 0] rfl (hrec2 _ _ _ _ h)
def F_M_deepOf_2 : Nat → Nat → Int32 → Int32 → AW → Option (Int32 × AW)
  | 0 => fun _ _ _ _ => none
  | n + 1 => fun a0 x1 x2 w => F_M_deepOf_2_B (F_M_deepOf_2 n) a0 x1 x2 w
theorem P_M_deepOf_2 {X : AX} {l : Launch} {G : AG} (hX : XOK X b_M_deepOf "RedSkyModel" 6) (hM : XM X l G { frames := 2, cells := 0, slots := 0, locals := 43 }) {o : Int32 × AW} (hR : XR X (some .int) 0 0 (some (vi o.1)) o.2) (fu : Nat) : ∀ (a0 : Nat) (x1 : Int32) (x2 : Int32) (w : AW), F_M_deepOf_2 fu a0 x1 x2 w = some o → RJ X 6 0 0 2 [(0, vr a0), (1, vi x1), (2, vi x2)] [] w := by
  induction fu with
  | zero => intro a0 x1 x2 w h; cases h
  | succ n9 ih => intro a0 x1 x2 w h; exact P_M_deepOf_2_B hX hM hR ih _ _ _ _ h
def F_M_deepOf (a0 : Nat) (x1 : Int32) (w : AW) : Option (Int32 × AW) :=
  F_M_deepOf_2 FUEL a0 x1 (0 : Int32) w
theorem P_M_deepOf_0 {X : AX} {l : Launch} {G : AG} (hX : XOK X b_M_deepOf "RedSkyModel" 6) (hM : XM X l G { frames := 2, cells := 0, slots := 0, locals := 43 }) {o : Int32 × AW} (hR : XR X (some .int) 0 0 (some (vi o.1)) o.2) (a0 : Nat) (x1 : Int32) (w : AW) (h : F_M_deepOf a0 x1 w = some o) : RJ X 6 0 0 0 [(0, vr a0), (1, vi x1)] [] w := by
  unfold F_M_deepOf at h
  refine r_iconst (v := (0 : Int32)) hX d_M_deepOf_0 rfl ?_
  refine r_istore_n (i := 2) hX d_M_deepOf_1 rfl (by decide) ?_
  exact rj_sub [1, 2, 0] rfl (P_M_deepOf_2 hX hM hR FUEL _ _ _ _ h)
theorem T_M_deepOf {l : Launch} {G : AG} (a0 : Nat) (x1 : Int32) (w : AW) {o : Int32 × AW} (h : F_M_deepOf a0 x1 w = some o) : Mt l G y_M_deepOf b_M_deepOf 6 (some (.int)) 2 43 0 0 [vr a0, vi x1] w (some (vi o.1)) o.2 := mt_of (by decide) (Nat.le_of_ble_eq_true rfl) (fun X hX hR hM hI => P_M_deepOf_0 hX hM hR _ _ _ h)
/-! RedSkyModel.say()I -/
theorem d_M_say_0 : decode b_M_say 0 = .ok (.aload_n 0, 1) := by decide +kernel
theorem d_M_say_1 : decode b_M_say 1 = .ok (.getfield 178, 3) := by decide +kernel
theorem d_M_say_4 : decode b_M_say 4 = .ok (.ifCond .eq (21), 3) := by decide +kernel
theorem d_M_say_7 : decode b_M_say 7 = .ok (.aload_n 0, 1) := by decide +kernel
theorem d_M_say_8 : decode b_M_say 8 = .ok (.invokevirtual 275, 3) := by decide +kernel
theorem d_M_say_11 : decode b_M_say 11 = .ok (.aload_n 0, 1) := by decide +kernel
theorem d_M_say_12 : decode b_M_say 12 = .ok (.getfield 178, 3) := by decide +kernel
theorem d_M_say_15 : decode b_M_say 15 = .ok (.if_icmp .lt (10), 3) := by decide +kernel
theorem d_M_say_18 : decode b_M_say 18 = .ok (.aload_n 0, 1) := by decide +kernel
theorem d_M_say_19 : decode b_M_say 19 = .ok (.invokevirtual 291, 3) := by decide +kernel
theorem d_M_say_22 : decode b_M_say 22 = .ok (.ifCond .ne (6), 3) := by decide +kernel
theorem d_M_say_25 : decode b_M_say 25 = .ok (.bipush (-103), 2) := by decide +kernel
theorem d_M_say_27 : decode b_M_say 27 = .ok (.ireturn, 1) := by decide +kernel
theorem d_M_say_28 : decode b_M_say 28 = .ok (.aload_n 0, 1) := by decide +kernel
theorem d_M_say_29 : decode b_M_say 29 = .ok (.getfield 294, 3) := by decide +kernel
theorem d_M_say_32 : decode b_M_say 32 = .ok (.bipush (8), 2) := by decide +kernel
theorem d_M_say_34 : decode b_M_say 34 = .ok (.if_icmp .ne (6), 3) := by decide +kernel
theorem d_M_say_37 : decode b_M_say 37 = .ok (.bipush (-104), 2) := by decide +kernel
theorem d_M_say_39 : decode b_M_say 39 = .ok (.ireturn, 1) := by decide +kernel
theorem d_M_say_40 : decode b_M_say 40 = .ok (.bipush (12), 2) := by decide +kernel
theorem d_M_say_42 : decode b_M_say 42 = .ok (.aload_n 0, 1) := by decide +kernel
theorem d_M_say_43 : decode b_M_say 43 = .ok (.getfield 294, 3) := by decide +kernel
theorem d_M_say_46 : decode b_M_say 46 = .ok (.imul, 1) := by decide +kernel
theorem d_M_say_47 : decode b_M_say 47 = .ok (.istore_n 1, 1) := by decide +kernel
theorem d_M_say_48 : decode b_M_say 48 = .ok (.iconst 0, 1) := by decide +kernel
theorem d_M_say_49 : decode b_M_say 49 = .ok (.istore_n 2, 1) := by decide +kernel
theorem d_M_say_50 : decode b_M_say 50 = .ok (.iload_n 2, 1) := by decide +kernel
theorem d_M_say_51 : decode b_M_say 51 = .ok (.iconst 2, 1) := by decide +kernel
theorem d_M_say_52 : decode b_M_say 52 = .ok (.if_icmp .ge (149), 3) := by decide +kernel
theorem d_M_say_55 : decode b_M_say 55 = .ok (.aload_n 0, 1) := by decide +kernel
theorem d_M_say_56 : decode b_M_say 56 = .ok (.getfield 46, 3) := by decide +kernel
theorem d_M_say_59 : decode b_M_say 59 = .ok (.iload_n 1, 1) := by decide +kernel
theorem d_M_say_60 : decode b_M_say 60 = .ok (.iload_n 2, 1) := by decide +kernel
theorem d_M_say_61 : decode b_M_say 61 = .ok (.iadd, 1) := by decide +kernel
theorem d_M_say_62 : decode b_M_say 62 = .ok (.aload_n 0, 1) := by decide +kernel
theorem d_M_say_63 : decode b_M_say 63 = .ok (.iload_n 2, 1) := by decide +kernel
theorem d_M_say_64 : decode b_M_say 64 = .ok (.invokevirtual 297, 3) := by decide +kernel
theorem d_M_say_67 : decode b_M_say 67 = .ok (.iastore, 1) := by decide +kernel
theorem d_M_say_68 : decode b_M_say 68 = .ok (.aload_n 0, 1) := by decide +kernel
theorem d_M_say_69 : decode b_M_say 69 = .ok (.getfield 46, 3) := by decide +kernel
theorem d_M_say_72 : decode b_M_say 72 = .ok (.iload_n 1, 1) := by decide +kernel
theorem d_M_say_73 : decode b_M_say 73 = .ok (.bipush (8), 2) := by decide +kernel
theorem d_M_say_75 : decode b_M_say 75 = .ok (.iadd, 1) := by decide +kernel
theorem d_M_say_76 : decode b_M_say 76 = .ok (.iload_n 2, 1) := by decide +kernel
theorem d_M_say_77 : decode b_M_say 77 = .ok (.iadd, 1) := by decide +kernel
theorem d_M_say_78 : decode b_M_say 78 = .ok (.aload_n 0, 1) := by decide +kernel
theorem d_M_say_79 : decode b_M_say 79 = .ok (.iload_n 2, 1) := by decide +kernel
theorem d_M_say_80 : decode b_M_say 80 = .ok (.invokevirtual 300, 3) := by decide +kernel
theorem d_M_say_83 : decode b_M_say 83 = .ok (.iastore, 1) := by decide +kernel
theorem d_M_say_84 : decode b_M_say 84 = .ok (.aload_n 0, 1) := by decide +kernel
theorem d_M_say_85 : decode b_M_say 85 = .ok (.getfield 46, 3) := by decide +kernel
theorem d_M_say_88 : decode b_M_say 88 = .ok (.iload_n 1, 1) := by decide +kernel
theorem d_M_say_89 : decode b_M_say 89 = .ok (.bipush (10), 2) := by decide +kernel
theorem d_M_say_91 : decode b_M_say 91 = .ok (.iadd, 1) := by decide +kernel
theorem d_M_say_92 : decode b_M_say 92 = .ok (.iload_n 2, 1) := by decide +kernel
theorem d_M_say_93 : decode b_M_say 93 = .ok (.iadd, 1) := by decide +kernel
theorem d_M_say_94 : decode b_M_say 94 = .ok (.aload_n 0, 1) := by decide +kernel
theorem d_M_say_95 : decode b_M_say 95 = .ok (.iload_n 2, 1) := by decide +kernel
theorem d_M_say_96 : decode b_M_say 96 = .ok (.invokevirtual 303, 3) := by decide +kernel
theorem d_M_say_99 : decode b_M_say 99 = .ok (.iastore, 1) := by decide +kernel
theorem d_M_say_100 : decode b_M_say 100 = .ok (.aload_n 0, 1) := by decide +kernel
theorem d_M_say_101 : decode b_M_say 101 = .ok (.getfield 55, 3) := by decide +kernel
theorem d_M_say_104 : decode b_M_say 104 = .ok (.iconst 2, 1) := by decide +kernel
theorem d_M_say_105 : decode b_M_say 105 = .ok (.aload_n 0, 1) := by decide +kernel
theorem d_M_say_106 : decode b_M_say 106 = .ok (.getfield 294, 3) := by decide +kernel
theorem d_M_say_109 : decode b_M_say 109 = .ok (.imul, 1) := by decide +kernel
theorem d_M_say_110 : decode b_M_say 110 = .ok (.iload_n 2, 1) := by decide +kernel
theorem d_M_say_111 : decode b_M_say 111 = .ok (.iadd, 1) := by decide +kernel
theorem d_M_say_112 : decode b_M_say 112 = .ok (.aload_n 0, 1) := by decide +kernel
theorem d_M_say_113 : decode b_M_say 113 = .ok (.getfield 40, 3) := by decide +kernel
theorem d_M_say_116 : decode b_M_say 116 = .ok (.iload_n 2, 1) := by decide +kernel
theorem d_M_say_117 : decode b_M_say 117 = .ok (.iaload, 1) := by decide +kernel
theorem d_M_say_118 : decode b_M_say 118 = .ok (.iastore, 1) := by decide +kernel
theorem d_M_say_119 : decode b_M_say 119 = .ok (.iconst 0, 1) := by decide +kernel
theorem d_M_say_120 : decode b_M_say 120 = .ok (.istore_n 3, 1) := by decide +kernel
theorem d_M_say_121 : decode b_M_say 121 = .ok (.iload_n 3, 1) := by decide +kernel
theorem d_M_say_122 : decode b_M_say 122 = .ok (.aload_n 0, 1) := by decide +kernel
theorem d_M_say_123 : decode b_M_say 123 = .ok (.getfield 40, 3) := by decide +kernel
theorem d_M_say_126 : decode b_M_say 126 = .ok (.iload_n 2, 1) := by decide +kernel
theorem d_M_say_127 : decode b_M_say 127 = .ok (.iaload, 1) := by decide +kernel
theorem d_M_say_128 : decode b_M_say 128 = .ok (.if_icmp .ge (67), 3) := by decide +kernel
theorem d_M_say_131 : decode b_M_say 131 = .ok (.aload_n 0, 1) := by decide +kernel
theorem d_M_say_132 : decode b_M_say 132 = .ok (.getfield 49, 3) := by decide +kernel
theorem d_M_say_135 : decode b_M_say 135 = .ok (.bipush (80), 2) := by decide +kernel
theorem d_M_say_137 : decode b_M_say 137 = .ok (.iconst 2, 1) := by decide +kernel
theorem d_M_say_138 : decode b_M_say 138 = .ok (.aload_n 0, 1) := by decide +kernel
theorem d_M_say_139 : decode b_M_say 139 = .ok (.getfield 294, 3) := by decide +kernel
theorem d_M_say_142 : decode b_M_say 142 = .ok (.imul, 1) := by decide +kernel
theorem d_M_say_143 : decode b_M_say 143 = .ok (.iload_n 2, 1) := by decide +kernel
theorem d_M_say_144 : decode b_M_say 144 = .ok (.iadd, 1) := by decide +kernel
theorem d_M_say_145 : decode b_M_say 145 = .ok (.imul, 1) := by decide +kernel
theorem d_M_say_146 : decode b_M_say 146 = .ok (.iload_n 3, 1) := by decide +kernel
theorem d_M_say_147 : decode b_M_say 147 = .ok (.iadd, 1) := by decide +kernel
theorem d_M_say_148 : decode b_M_say 148 = .ok (.aload_n 0, 1) := by decide +kernel
theorem d_M_say_149 : decode b_M_say 149 = .ok (.getfield 34, 3) := by decide +kernel
theorem d_M_say_152 : decode b_M_say 152 = .ok (.bipush (80), 2) := by decide +kernel
theorem d_M_say_154 : decode b_M_say 154 = .ok (.iload_n 2, 1) := by decide +kernel
theorem d_M_say_155 : decode b_M_say 155 = .ok (.imul, 1) := by decide +kernel
theorem d_M_say_156 : decode b_M_say 156 = .ok (.iload_n 3, 1) := by decide +kernel
theorem d_M_say_157 : decode b_M_say 157 = .ok (.iadd, 1) := by decide +kernel
theorem d_M_say_158 : decode b_M_say 158 = .ok (.iaload, 1) := by decide +kernel
theorem d_M_say_159 : decode b_M_say 159 = .ok (.iastore, 1) := by decide +kernel
theorem d_M_say_160 : decode b_M_say 160 = .ok (.aload_n 0, 1) := by decide +kernel
theorem d_M_say_161 : decode b_M_say 161 = .ok (.getfield 52, 3) := by decide +kernel
theorem d_M_say_164 : decode b_M_say 164 = .ok (.bipush (80), 2) := by decide +kernel
theorem d_M_say_166 : decode b_M_say 166 = .ok (.iconst 2, 1) := by decide +kernel
theorem d_M_say_167 : decode b_M_say 167 = .ok (.aload_n 0, 1) := by decide +kernel
theorem d_M_say_168 : decode b_M_say 168 = .ok (.getfield 294, 3) := by decide +kernel
theorem d_M_say_171 : decode b_M_say 171 = .ok (.imul, 1) := by decide +kernel
theorem d_M_say_172 : decode b_M_say 172 = .ok (.iload_n 2, 1) := by decide +kernel
theorem d_M_say_173 : decode b_M_say 173 = .ok (.iadd, 1) := by decide +kernel
theorem d_M_say_174 : decode b_M_say 174 = .ok (.imul, 1) := by decide +kernel
theorem d_M_say_175 : decode b_M_say 175 = .ok (.iload_n 3, 1) := by decide +kernel
theorem d_M_say_176 : decode b_M_say 176 = .ok (.iadd, 1) := by decide +kernel
theorem d_M_say_177 : decode b_M_say 177 = .ok (.aload_n 0, 1) := by decide +kernel
theorem d_M_say_178 : decode b_M_say 178 = .ok (.getfield 37, 3) := by decide +kernel
theorem d_M_say_181 : decode b_M_say 181 = .ok (.bipush (80), 2) := by decide +kernel
theorem d_M_say_183 : decode b_M_say 183 = .ok (.iload_n 2, 1) := by decide +kernel
theorem d_M_say_184 : decode b_M_say 184 = .ok (.imul, 1) := by decide +kernel
theorem d_M_say_185 : decode b_M_say 185 = .ok (.iload_n 3, 1) := by decide +kernel
theorem d_M_say_186 : decode b_M_say 186 = .ok (.iadd, 1) := by decide +kernel
theorem d_M_say_187 : decode b_M_say 187 = .ok (.iaload, 1) := by decide +kernel
theorem d_M_say_188 : decode b_M_say 188 = .ok (.iastore, 1) := by decide +kernel
theorem d_M_say_189 : decode b_M_say 189 = .ok (.iinc 3 (1), 3) := by decide +kernel
theorem d_M_say_192 : decode b_M_say 192 = .ok (.goto (-71), 3) := by decide +kernel
theorem d_M_say_195 : decode b_M_say 195 = .ok (.iinc 2 (1), 3) := by decide +kernel
theorem d_M_say_198 : decode b_M_say 198 = .ok (.goto (-148), 3) := by decide +kernel
theorem d_M_say_201 : decode b_M_say 201 = .ok (.aload_n 0, 1) := by decide +kernel
theorem d_M_say_202 : decode b_M_say 202 = .ok (.getfield 46, 3) := by decide +kernel
theorem d_M_say_205 : decode b_M_say 205 = .ok (.iload_n 1, 1) := by decide +kernel
theorem d_M_say_206 : decode b_M_say 206 = .ok (.iconst 2, 1) := by decide +kernel
theorem d_M_say_207 : decode b_M_say 207 = .ok (.iadd, 1) := by decide +kernel
theorem d_M_say_208 : decode b_M_say 208 = .ok (.aload_n 0, 1) := by decide +kernel
theorem d_M_say_209 : decode b_M_say 209 = .ok (.getfield 236, 3) := by decide +kernel
theorem d_M_say_212 : decode b_M_say 212 = .ok (.iastore, 1) := by decide +kernel
theorem d_M_say_213 : decode b_M_say 213 = .ok (.aload_n 0, 1) := by decide +kernel
theorem d_M_say_214 : decode b_M_say 214 = .ok (.getfield 46, 3) := by decide +kernel
theorem d_M_say_217 : decode b_M_say 217 = .ok (.iload_n 1, 1) := by decide +kernel
theorem d_M_say_218 : decode b_M_say 218 = .ok (.iconst 3, 1) := by decide +kernel
theorem d_M_say_219 : decode b_M_say 219 = .ok (.iadd, 1) := by decide +kernel
theorem d_M_say_220 : decode b_M_say 220 = .ok (.aload_n 0, 1) := by decide +kernel
theorem d_M_say_221 : decode b_M_say 221 = .ok (.getfield 239, 3) := by decide +kernel
theorem d_M_say_224 : decode b_M_say 224 = .ok (.iastore, 1) := by decide +kernel
theorem d_M_say_225 : decode b_M_say 225 = .ok (.aload_n 0, 1) := by decide +kernel
theorem d_M_say_226 : decode b_M_say 226 = .ok (.getfield 46, 3) := by decide +kernel
theorem d_M_say_229 : decode b_M_say 229 = .ok (.iload_n 1, 1) := by decide +kernel
theorem d_M_say_230 : decode b_M_say 230 = .ok (.iconst 4, 1) := by decide +kernel
theorem d_M_say_231 : decode b_M_say 231 = .ok (.iadd, 1) := by decide +kernel
theorem d_M_say_232 : decode b_M_say 232 = .ok (.aload_n 0, 1) := by decide +kernel
theorem d_M_say_233 : decode b_M_say 233 = .ok (.getfield 245, 3) := by decide +kernel
theorem d_M_say_236 : decode b_M_say 236 = .ok (.ifCond .eq (7), 3) := by decide +kernel
theorem d_M_say_239 : decode b_M_say 239 = .ok (.iconst 1, 1) := by decide +kernel
theorem d_M_say_240 : decode b_M_say 240 = .ok (.goto (4), 3) := by decide +kernel
theorem d_M_say_243 : decode b_M_say 243 = .ok (.iconst 0, 1) := by decide +kernel
theorem d_M_say_244 : decode b_M_say 244 = .ok (.iastore, 1) := by decide +kernel
theorem d_M_say_245 : decode b_M_say 245 = .ok (.aload_n 0, 1) := by decide +kernel
theorem d_M_say_246 : decode b_M_say 246 = .ok (.getfield 46, 3) := by decide +kernel
theorem d_M_say_249 : decode b_M_say 249 = .ok (.iload_n 1, 1) := by decide +kernel
theorem d_M_say_250 : decode b_M_say 250 = .ok (.iconst 5, 1) := by decide +kernel
theorem d_M_say_251 : decode b_M_say 251 = .ok (.iadd, 1) := by decide +kernel
theorem d_M_say_252 : decode b_M_say 252 = .ok (.aload_n 0, 1) := by decide +kernel
theorem d_M_say_253 : decode b_M_say 253 = .ok (.getfield 193, 3) := by decide +kernel
theorem d_M_say_256 : decode b_M_say 256 = .ok (.iastore, 1) := by decide +kernel
theorem d_M_say_257 : decode b_M_say 257 = .ok (.aload_n 0, 1) := by decide +kernel
theorem d_M_say_258 : decode b_M_say 258 = .ok (.getfield 46, 3) := by decide +kernel
theorem d_M_say_261 : decode b_M_say 261 = .ok (.iload_n 1, 1) := by decide +kernel
theorem d_M_say_262 : decode b_M_say 262 = .ok (.bipush (6), 2) := by decide +kernel
theorem d_M_say_264 : decode b_M_say 264 = .ok (.iadd, 1) := by decide +kernel
theorem d_M_say_265 : decode b_M_say 265 = .ok (.aload_n 0, 1) := by decide +kernel
theorem d_M_say_266 : decode b_M_say 266 = .ok (.getfield 196, 3) := by decide +kernel
theorem d_M_say_269 : decode b_M_say 269 = .ok (.iastore, 1) := by decide +kernel
theorem d_M_say_270 : decode b_M_say 270 = .ok (.aload_n 0, 1) := by decide +kernel
theorem d_M_say_271 : decode b_M_say 271 = .ok (.getfield 46, 3) := by decide +kernel
theorem d_M_say_274 : decode b_M_say 274 = .ok (.iload_n 1, 1) := by decide +kernel
theorem d_M_say_275 : decode b_M_say 275 = .ok (.bipush (7), 2) := by decide +kernel
theorem d_M_say_277 : decode b_M_say 277 = .ok (.iadd, 1) := by decide +kernel
theorem d_M_say_278 : decode b_M_say 278 = .ok (.aload_n 0, 1) := by decide +kernel
theorem d_M_say_279 : decode b_M_say 279 = .ok (.getfield 199, 3) := by decide +kernel
theorem d_M_say_282 : decode b_M_say 282 = .ok (.iastore, 1) := by decide +kernel
theorem d_M_say_283 : decode b_M_say 283 = .ok (.aload_n 0, 1) := by decide +kernel
theorem d_M_say_284 : decode b_M_say 284 = .ok (.dup, 1) := by decide +kernel
theorem d_M_say_285 : decode b_M_say 285 = .ok (.getfield 294, 3) := by decide +kernel
theorem d_M_say_288 : decode b_M_say 288 = .ok (.iconst 1, 1) := by decide +kernel
theorem d_M_say_289 : decode b_M_say 289 = .ok (.iadd, 1) := by decide +kernel
theorem d_M_say_290 : decode b_M_say 290 = .ok (.putfield 294, 3) := by decide +kernel
theorem d_M_say_293 : decode b_M_say 293 = .ok (.aload_n 0, 1) := by decide +kernel
theorem d_M_say_294 : decode b_M_say 294 = .ok (.iconst 0, 1) := by decide +kernel
theorem d_M_say_295 : decode b_M_say 295 = .ok (.putfield 178, 3) := by decide +kernel
theorem d_M_say_298 : decode b_M_say 298 = .ok (.aload_n 0, 1) := by decide +kernel
theorem d_M_say_299 : decode b_M_say 299 = .ok (.getfield 294, 3) := by decide +kernel
theorem d_M_say_302 : decode b_M_say 302 = .ok (.iconst 1, 1) := by decide +kernel
theorem d_M_say_303 : decode b_M_say 303 = .ok (.isub, 1) := by decide +kernel
theorem d_M_say_304 : decode b_M_say 304 = .ok (.ireturn, 1) := by decide +kernel
def F_M_say_244 (a0 : Nat) (x1 : Int32) (s2 : Int32) (s1 : Int32) (s0 : Nat) (w : AW) : Option (Int32 × AW) :=
  gd (wk w s0 == 100) <|
  gd (inb s1 (wn w s0)) <|
  let w3 : AW := upI w s0 (Int32.toNatClampNeg s1) s2
  gd (wk w3 a0 == 13) <|
  gd (wk w3 (wr w3 a0 30) == 100) <|
  gd (inb (x1 + (5 : Int32)) (wn w3 (wr w3 a0 30))) <|
  let w7 : AW := upI w3 (wr w3 a0 30) (Int32.toNatClampNeg (x1 + (5 : Int32))) (wi w3 a0 21)
  gd (wk w7 (wr w7 a0 30) == 100) <|
  gd (inb (x1 + (6 : Int32)) (wn w7 (wr w7 a0 30))) <|
  let w10 : AW := upI w7 (wr w7 a0 30) (Int32.toNatClampNeg (x1 + (6 : Int32))) (wi w7 a0 22)
  gd (wk w10 (wr w10 a0 30) == 100) <|
  gd (inb (x1 + (7 : Int32)) (wn w10 (wr w10 a0 30))) <|
  let w13 : AW := upI w10 (wr w10 a0 30) (Int32.toNatClampNeg (x1 + (7 : Int32))) (wi w10 a0 23)
  let w14 : AW := upI w13 a0 29 ((wi w13 a0 29) + (1 : Int32))
  let w15 : AW := upI w14 a0 9 (0 : Int32)
  some (((wi w15 a0 29) - (1 : Int32)), w15)
theorem P_M_say_244 {X : AX} {l : Launch} {G : AG} (hX : XOK X b_M_say "RedSkyModel" 4) (hM : XM X l G { frames := 5, cells := 0, slots := 0, locals := 108 }) {o : Int32 × AW} (hR : XR X (some .int) 0 0 (some (vi o.1)) o.2) (a0 : Nat) (x1 : Int32) (s2 : Int32) (s1 : Int32) (s0 : Nat) (w : AW) (h : F_M_say_244 a0 x1 s2 s1 s0 w = some o) : RJ X 4 0 0 244 [(0, vr a0), (1, vi x1)] [vi s2, vi s1, vr s0] w := by
  unfold F_M_say_244 at h
  obtain ⟨hk1, h⟩ := gd_e h
  obtain ⟨hg2, h⟩ := gd_e h
  refine r_iast hX hk1 hg2 d_M_say_244 ?_
  refine r_aload_n (i := 0) hX d_M_say_245 0 rfl rfl ?_
  obtain ⟨hk4, h⟩ := gd_e h
  refine r_getR (i := 12) (f := 30) hX ci_12 (by decide) rfl fl_M_46 hk4 d_M_say_246 ?_
  refine r_iload_n (i := 1) hX d_M_say_249 1 rfl rfl ?_
  refine r_iconst (v := (5 : Int32)) hX d_M_say_250 rfl ?_
  refine r_iadd hX d_M_say_251 ?_
  refine r_aload_n (i := 0) hX d_M_say_252 0 rfl rfl ?_
  refine r_getI (i := 12) (f := 21) hX ci_12 (by decide) rfl fl_M_193 hk4 d_M_say_253 ?_
  obtain ⟨hk5, h⟩ := gd_e h
  obtain ⟨hg6, h⟩ := gd_e h
  refine r_iast hX hk5 hg6 d_M_say_256 ?_
  refine r_aload_n (i := 0) hX d_M_say_257 0 rfl rfl ?_
  refine r_getR (i := 12) (f := 30) hX ci_12 (by decide) rfl fl_M_46 (kI hk4) d_M_say_258 ?_
  refine r_iload_n (i := 1) hX d_M_say_261 1 rfl rfl ?_
  refine r_bipush (v := (6 : Int32)) hX d_M_say_262 rfl ?_
  refine r_iadd hX d_M_say_264 ?_
  refine r_aload_n (i := 0) hX d_M_say_265 0 rfl rfl ?_
  refine r_getI (i := 12) (f := 22) hX ci_12 (by decide) rfl fl_M_196 (kI hk4) d_M_say_266 ?_
  obtain ⟨hk8, h⟩ := gd_e h
  obtain ⟨hg9, h⟩ := gd_e h
  refine r_iast hX hk8 hg9 d_M_say_269 ?_
  refine r_aload_n (i := 0) hX d_M_say_270 0 rfl rfl ?_
  refine r_getR (i := 12) (f := 30) hX ci_12 (by decide) rfl fl_M_46 (kI (kI hk4)) d_M_say_271 ?_
  refine r_iload_n (i := 1) hX d_M_say_274 1 rfl rfl ?_
  refine r_bipush (v := (7 : Int32)) hX d_M_say_275 rfl ?_
  refine r_iadd hX d_M_say_277 ?_
  refine r_aload_n (i := 0) hX d_M_say_278 0 rfl rfl ?_
  refine r_getI (i := 12) (f := 23) hX ci_12 (by decide) rfl fl_M_199 (kI (kI hk4)) d_M_say_279 ?_
  obtain ⟨hk11, h⟩ := gd_e h
  obtain ⟨hg12, h⟩ := gd_e h
  refine r_iast hX hk11 hg12 d_M_say_282 ?_
  refine r_aload_n (i := 0) hX d_M_say_283 0 rfl rfl ?_
  refine r_dup hX d_M_say_284 rfl ?_
  refine r_getI (i := 12) (f := 29) hX ci_12 (by decide) rfl fl_M_294 (kI (kI (kI hk4))) d_M_say_285 ?_
  refine r_iconst (v := (1 : Int32)) hX d_M_say_288 rfl ?_
  refine r_iadd hX d_M_say_289 ?_
  refine r_putI (i := 12) (f := 29) hX ci_12 (by decide) rfl rfl (fun G => rfl) (fun G => rfl) fl_M_294 (kI (kI (kI hk4))) d_M_say_290 ?_
  refine r_aload_n (i := 0) hX d_M_say_293 0 rfl rfl ?_
  refine r_iconst (v := (0 : Int32)) hX d_M_say_294 rfl ?_
  refine r_putI (i := 12) (f := 9) hX ci_12 (by decide) rfl rfl (fun G => rfl) (fun G => rfl) fl_M_178 (kI (kI (kI (kI hk4)))) d_M_say_295 ?_
  refine r_aload_n (i := 0) hX d_M_say_298 0 rfl rfl ?_
  refine r_getI (i := 12) (f := 29) hX ci_12 (by decide) rfl fl_M_294 (kI (kI (kI (kI (kI hk4))))) d_M_say_299 ?_
  refine r_iconst (v := (1 : Int32)) hX d_M_say_302 rfl ?_
  refine r_isub hX d_M_say_303 ?_
  cases h; exact r_iret hX hR d_M_say_304
def F_M_say_121_B (rec50 : Nat → Int32 → Int32 → AW → Option (Int32 × AW)) (rec121 : Nat → Int32 → Int32 → Int32 → AW → Option (Int32 × AW)) (a0 : Nat) (x1 : Int32) (x2 : Int32) (x3 : Int32) (w : AW) : Option (Int32 × AW) :=
  gd (wk w a0 == 13) <|
  gd (wk w (wr w a0 26) == 100) <|
  gd (inb x2 (wn w (wr w a0 26))) <|
  if (wi w (wr w a0 26) (Int32.toNatClampNeg x2)) ≤ x3 then
    let v4 : Int32 := (x2 + (1 : Int32))
    rec50 a0 x1 v4 w
  else
    gd (wk w (wr w a0 24) == 100) <|
    gd (inb (((80 : Int32) * x2) + x3) (wn w (wr w a0 24))) <|
    gd (wk w (wr w a0 31) == 100) <|
    gd (inb (((80 : Int32) * (((2 : Int32) * (wi w a0 29)) + x2)) + x3) (wn w (wr w a0 31))) <|
    let w9 : AW := upI w (wr w a0 31) (Int32.toNatClampNeg (((80 : Int32) * (((2 : Int32) * (wi w a0 29)) + x2)) + x3)) (wi w (wr w a0 24) (Int32.toNatClampNeg (((80 : Int32) * x2) + x3)))
    gd (wk w9 (wr w9 a0 25) == 100) <|
    gd (inb (((80 : Int32) * x2) + x3) (wn w9 (wr w9 a0 25))) <|
    gd (wk w9 (wr w9 a0 32) == 100) <|
    gd (inb (((80 : Int32) * (((2 : Int32) * (wi w9 a0 29)) + x2)) + x3) (wn w9 (wr w9 a0 32))) <|
    let w14 : AW := upI w9 (wr w9 a0 32) (Int32.toNatClampNeg (((80 : Int32) * (((2 : Int32) * (wi w9 a0 29)) + x2)) + x3)) (wi w9 (wr w9 a0 25) (Int32.toNatClampNeg (((80 : Int32) * x2) + x3)))
    let v15 : Int32 := (x3 + (1 : Int32))
    rec121 a0 x1 x2 v15 w14
theorem P_M_say_121_B {X : AX} {l : Launch} {G : AG} {rec50 : Nat → Int32 → Int32 → AW → Option (Int32 × AW)} {rec121 : Nat → Int32 → Int32 → Int32 → AW → Option (Int32 × AW)} (hX : XOK X b_M_say "RedSkyModel" 4) (hM : XM X l G { frames := 5, cells := 0, slots := 0, locals := 108 }) {o : Int32 × AW} (hR : XR X (some .int) 0 0 (some (vi o.1)) o.2) (hrec50 : ∀ (a0 : Nat) (x1 : Int32) (x2 : Int32) (w : AW), rec50 a0 x1 x2 w = some o → RJ X 4 0 0 50 [(0, vr a0), (1, vi x1), (2, vi x2)] [] w) (hrec121 : ∀ (a0 : Nat) (x1 : Int32) (x2 : Int32) (x3 : Int32) (w : AW), rec121 a0 x1 x2 x3 w = some o → RJ X 4 0 0 121 [(0, vr a0), (1, vi x1), (2, vi x2), (3, vi x3)] [] w) (a0 : Nat) (x1 : Int32) (x2 : Int32) (x3 : Int32) (w : AW) (h : F_M_say_121_B rec50 rec121 a0 x1 x2 x3 w = some o) : RJ X 4 0 0 121 [(0, vr a0), (1, vi x1), (2, vi x2), (3, vi x3)] [] w := by
  unfold F_M_say_121_B at h
  refine r_iload_n (i := 3) hX d_M_say_121 3 rfl rfl ?_
  refine r_aload_n (i := 0) hX d_M_say_122 0 rfl rfl ?_
  obtain ⟨hk1, h⟩ := gd_e h
  refine r_getR (i := 12) (f := 26) hX ci_12 (by decide) rfl fl_M_40 hk1 d_M_say_123 ?_
  refine r_iload_n (i := 2) hX d_M_say_126 2 rfl rfl ?_
  obtain ⟨hk2, h⟩ := gd_e h
  obtain ⟨hg3, h⟩ := gd_e h
  refine r_iald hX hk2 hg3 d_M_say_127 ?_
  refine r_icmp_ge hX d_M_say_128 rfl h (fun h => ?_) (fun h => ?_)
  · refine r_iinc (i := 2) (v := (1 : Int32)) hX d_M_say_195 2 rfl rfl (by decide) ?_
    refine r_goto hX d_M_say_198 rfl ?_
    exact rj_sub [1, 2, 0] rfl (hrec50 _ _ _ _ h)
  · refine r_aload_n (i := 0) hX d_M_say_131 0 rfl rfl ?_
    refine r_getR (i := 12) (f := 31) hX ci_12 (by decide) rfl fl_M_49 hk1 d_M_say_132 ?_
    refine r_bipush (v := (80 : Int32)) hX d_M_say_135 rfl ?_
    refine r_iconst (v := (2 : Int32)) hX d_M_say_137 rfl ?_
    refine r_aload_n (i := 0) hX d_M_say_138 0 rfl rfl ?_
    refine r_getI (i := 12) (f := 29) hX ci_12 (by decide) rfl fl_M_294 hk1 d_M_say_139 ?_
    refine r_imul hX d_M_say_142 ?_
    refine r_iload_n (i := 2) hX d_M_say_143 2 rfl rfl ?_
    refine r_iadd hX d_M_say_144 ?_
    refine r_imul hX d_M_say_145 ?_
    refine r_iload_n (i := 3) hX d_M_say_146 3 rfl rfl ?_
    refine r_iadd hX d_M_say_147 ?_
    refine r_aload_n (i := 0) hX d_M_say_148 0 rfl rfl ?_
    refine r_getR (i := 12) (f := 24) hX ci_12 (by decide) rfl fl_M_34 hk1 d_M_say_149 ?_
    refine r_bipush (v := (80 : Int32)) hX d_M_say_152 rfl ?_
    refine r_iload_n (i := 2) hX d_M_say_154 2 rfl rfl ?_
    refine r_imul hX d_M_say_155 ?_
    refine r_iload_n (i := 3) hX d_M_say_156 3 rfl rfl ?_
    refine r_iadd hX d_M_say_157 ?_
    obtain ⟨hk5, h⟩ := gd_e h
    obtain ⟨hg6, h⟩ := gd_e h
    refine r_iald hX hk5 hg6 d_M_say_158 ?_
    obtain ⟨hk7, h⟩ := gd_e h
    obtain ⟨hg8, h⟩ := gd_e h
    refine r_iast hX hk7 hg8 d_M_say_159 ?_
    refine r_aload_n (i := 0) hX d_M_say_160 0 rfl rfl ?_
    refine r_getR (i := 12) (f := 32) hX ci_12 (by decide) rfl fl_M_52 (kI hk1) d_M_say_161 ?_
    refine r_bipush (v := (80 : Int32)) hX d_M_say_164 rfl ?_
    refine r_iconst (v := (2 : Int32)) hX d_M_say_166 rfl ?_
    refine r_aload_n (i := 0) hX d_M_say_167 0 rfl rfl ?_
    refine r_getI (i := 12) (f := 29) hX ci_12 (by decide) rfl fl_M_294 (kI hk1) d_M_say_168 ?_
    refine r_imul hX d_M_say_171 ?_
    refine r_iload_n (i := 2) hX d_M_say_172 2 rfl rfl ?_
    refine r_iadd hX d_M_say_173 ?_
    refine r_imul hX d_M_say_174 ?_
    refine r_iload_n (i := 3) hX d_M_say_175 3 rfl rfl ?_
    refine r_iadd hX d_M_say_176 ?_
    refine r_aload_n (i := 0) hX d_M_say_177 0 rfl rfl ?_
    refine r_getR (i := 12) (f := 25) hX ci_12 (by decide) rfl fl_M_37 (kI hk1) d_M_say_178 ?_
    refine r_bipush (v := (80 : Int32)) hX d_M_say_181 rfl ?_
    refine r_iload_n (i := 2) hX d_M_say_183 2 rfl rfl ?_
    refine r_imul hX d_M_say_184 ?_
    refine r_iload_n (i := 3) hX d_M_say_185 3 rfl rfl ?_
    refine r_iadd hX d_M_say_186 ?_
    obtain ⟨hk10, h⟩ := gd_e h
    obtain ⟨hg11, h⟩ := gd_e h
    refine r_iald hX hk10 hg11 d_M_say_187 ?_
    obtain ⟨hk12, h⟩ := gd_e h
    obtain ⟨hg13, h⟩ := gd_e h
    refine r_iast hX hk12 hg13 d_M_say_188 ?_
    refine r_iinc (i := 3) (v := (1 : Int32)) hX d_M_say_189 3 rfl rfl (by decide) ?_
    refine r_goto hX d_M_say_192 rfl ?_
    exact rj_sub [1, 2, 3, 0] rfl (hrec121 _ _ _ _ _ h)
def F_M_say_121 (rec50 : Nat → Int32 → Int32 → AW → Option (Int32 × AW)) : Nat → Nat → Int32 → Int32 → Int32 → AW → Option (Int32 × AW)
  | 0 => fun _ _ _ _ _ => none
  | n + 1 => fun a0 x1 x2 x3 w => F_M_say_121_B rec50 (F_M_say_121 rec50 n) a0 x1 x2 x3 w
theorem P_M_say_121 {X : AX} {l : Launch} {G : AG} {rec50 : Nat → Int32 → Int32 → AW → Option (Int32 × AW)} (hX : XOK X b_M_say "RedSkyModel" 4) (hM : XM X l G { frames := 5, cells := 0, slots := 0, locals := 108 }) {o : Int32 × AW} (hR : XR X (some .int) 0 0 (some (vi o.1)) o.2) (hrec50 : ∀ (a0 : Nat) (x1 : Int32) (x2 : Int32) (w : AW), rec50 a0 x1 x2 w = some o → RJ X 4 0 0 50 [(0, vr a0), (1, vi x1), (2, vi x2)] [] w) (fu : Nat) : ∀ (a0 : Nat) (x1 : Int32) (x2 : Int32) (x3 : Int32) (w : AW), F_M_say_121 rec50 fu a0 x1 x2 x3 w = some o → RJ X 4 0 0 121 [(0, vr a0), (1, vi x1), (2, vi x2), (3, vi x3)] [] w := by
  induction fu with
  | zero => intro a0 x1 x2 x3 w h; cases h
  | succ n9 ih => intro a0 x1 x2 x3 w h; exact P_M_say_121_B hX hM hR hrec50 ih _ _ _ _ _ h
def F_M_say_50_B (rec50 : Nat → Int32 → Int32 → AW → Option (Int32 × AW)) (a0 : Nat) (x1 : Int32) (x2 : Int32) (w : AW) : Option (Int32 × AW) :=
  if (2 : Int32) ≤ x2 then
    gd (wk w a0 == 13) <|
    gd (wk w (wr w a0 30) == 100) <|
    gd (inb (x1 + (2 : Int32)) (wn w (wr w a0 30))) <|
    let w4 : AW := upI w (wr w a0 30) (Int32.toNatClampNeg (x1 + (2 : Int32))) (wi w a0 18)
    gd (wk w4 (wr w4 a0 30) == 100) <|
    gd (inb (x1 + (3 : Int32)) (wn w4 (wr w4 a0 30))) <|
    let w7 : AW := upI w4 (wr w4 a0 30) (Int32.toNatClampNeg (x1 + (3 : Int32))) (wi w4 a0 19)
    if (wi w7 a0 20) = 0 then
      F_M_say_244 a0 x1 (0 : Int32) (x1 + (4 : Int32)) (wr w7 a0 30) w7
    else
      F_M_say_244 a0 x1 (1 : Int32) (x1 + (4 : Int32)) (wr w7 a0 30) w7
  else
    gd (wk w a0 == 13) <|
    (F_M_fieldsOf w a0 x2).bind fun r9 =>
    gd (wk w (wr w a0 30) == 100) <|
    gd (inb (x1 + x2) (wn w (wr w a0 30))) <|
    let w13 : AW := upI w (wr w a0 30) (Int32.toNatClampNeg (x1 + x2)) r9
    (F_M_comparisonsOf w13 a0 x2).bind fun r14 =>
    gd (wk w13 (wr w13 a0 30) == 100) <|
    gd (inb ((x1 + (8 : Int32)) + x2) (wn w13 (wr w13 a0 30))) <|
    let w18 : AW := upI w13 (wr w13 a0 30) (Int32.toNatClampNeg ((x1 + (8 : Int32)) + x2)) r14
    (F_M_deepOf a0 x2 w18).bind fun r19 =>
    gd (wk r19.2 (wr w18 a0 30) == 100) <|
    gd (inb ((x1 + (10 : Int32)) + x2) (wn r19.2 (wr w18 a0 30))) <|
    let w23 : AW := upI r19.2 (wr w18 a0 30) (Int32.toNatClampNeg ((x1 + (10 : Int32)) + x2)) r19.1
    gd (wk w23 a0 == 13) <|
    gd (wk w23 (wr w23 a0 26) == 100) <|
    gd (inb x2 (wn w23 (wr w23 a0 26))) <|
    gd (wk w23 (wr w23 a0 33) == 100) <|
    gd (inb (((2 : Int32) * (wi w23 a0 29)) + x2) (wn w23 (wr w23 a0 33))) <|
    let w29 : AW := upI w23 (wr w23 a0 33) (Int32.toNatClampNeg (((2 : Int32) * (wi w23 a0 29)) + x2)) (wi w23 (wr w23 a0 26) (Int32.toNatClampNeg x2))
    F_M_say_121 rec50 FUEL a0 x1 x2 (0 : Int32) w29
theorem P_M_say_50_B {X : AX} {l : Launch} {G : AG} {rec50 : Nat → Int32 → Int32 → AW → Option (Int32 × AW)} (hX : XOK X b_M_say "RedSkyModel" 4) (hM : XM X l G { frames := 5, cells := 0, slots := 0, locals := 108 }) {o : Int32 × AW} (hR : XR X (some .int) 0 0 (some (vi o.1)) o.2) (hrec50 : ∀ (a0 : Nat) (x1 : Int32) (x2 : Int32) (w : AW), rec50 a0 x1 x2 w = some o → RJ X 4 0 0 50 [(0, vr a0), (1, vi x1), (2, vi x2)] [] w) (a0 : Nat) (x1 : Int32) (x2 : Int32) (w : AW) (h : F_M_say_50_B rec50 a0 x1 x2 w = some o) : RJ X 4 0 0 50 [(0, vr a0), (1, vi x1), (2, vi x2)] [] w := by
  unfold F_M_say_50_B at h
  refine r_iload_n (i := 2) hX d_M_say_50 2 rfl rfl ?_
  refine r_iconst (v := (2 : Int32)) hX d_M_say_51 rfl ?_
  refine r_icmp_ge hX d_M_say_52 rfl h (fun h => ?_) (fun h => ?_)
  · refine r_aload_n (i := 0) hX d_M_say_201 0 rfl rfl ?_
    obtain ⟨hk1, h⟩ := gd_e h
    refine r_getR (i := 12) (f := 30) hX ci_12 (by decide) rfl fl_M_46 hk1 d_M_say_202 ?_
    refine r_iload_n (i := 1) hX d_M_say_205 1 rfl rfl ?_
    refine r_iconst (v := (2 : Int32)) hX d_M_say_206 rfl ?_
    refine r_iadd hX d_M_say_207 ?_
    refine r_aload_n (i := 0) hX d_M_say_208 0 rfl rfl ?_
    refine r_getI (i := 12) (f := 18) hX ci_12 (by decide) rfl fl_M_236 hk1 d_M_say_209 ?_
    obtain ⟨hk2, h⟩ := gd_e h
    obtain ⟨hg3, h⟩ := gd_e h
    refine r_iast hX hk2 hg3 d_M_say_212 ?_
    refine r_aload_n (i := 0) hX d_M_say_213 0 rfl rfl ?_
    refine r_getR (i := 12) (f := 30) hX ci_12 (by decide) rfl fl_M_46 (kI hk1) d_M_say_214 ?_
    refine r_iload_n (i := 1) hX d_M_say_217 1 rfl rfl ?_
    refine r_iconst (v := (3 : Int32)) hX d_M_say_218 rfl ?_
    refine r_iadd hX d_M_say_219 ?_
    refine r_aload_n (i := 0) hX d_M_say_220 0 rfl rfl ?_
    refine r_getI (i := 12) (f := 19) hX ci_12 (by decide) rfl fl_M_239 (kI hk1) d_M_say_221 ?_
    obtain ⟨hk5, h⟩ := gd_e h
    obtain ⟨hg6, h⟩ := gd_e h
    refine r_iast hX hk5 hg6 d_M_say_224 ?_
    refine r_aload_n (i := 0) hX d_M_say_225 0 rfl rfl ?_
    refine r_getR (i := 12) (f := 30) hX ci_12 (by decide) rfl fl_M_46 (kI (kI hk1)) d_M_say_226 ?_
    refine r_iload_n (i := 1) hX d_M_say_229 1 rfl rfl ?_
    refine r_iconst (v := (4 : Int32)) hX d_M_say_230 rfl ?_
    refine r_iadd hX d_M_say_231 ?_
    refine r_aload_n (i := 0) hX d_M_say_232 0 rfl rfl ?_
    refine r_getI (i := 12) (f := 20) hX ci_12 (by decide) rfl fl_M_245 (kI (kI hk1)) d_M_say_233 ?_
    refine r_if_eq hX d_M_say_236 rfl h (fun h => ?_) (fun h => ?_)
    · refine r_iconst (v := (0 : Int32)) hX d_M_say_243 rfl ?_
      exact rj_sub [0, 1] rfl (P_M_say_244 hX hM hR _ _ _ _ _ _ h)
    · refine r_iconst (v := (1 : Int32)) hX d_M_say_239 rfl ?_
      refine r_goto hX d_M_say_240 rfl ?_
      exact rj_sub [0, 1] rfl (P_M_say_244 hX hM hR _ _ _ _ _ _ h)
  · refine r_aload_n (i := 0) hX d_M_say_55 0 rfl rfl ?_
    obtain ⟨hk8, h⟩ := gd_e h
    refine r_getR (i := 12) (f := 30) hX ci_12 (by decide) rfl fl_M_46 hk8 d_M_say_56 ?_
    refine r_iload_n (i := 1) hX d_M_say_59 1 rfl rfl ?_
    refine r_iload_n (i := 2) hX d_M_say_60 2 rfl rfl ?_
    refine r_iadd hX d_M_say_61 ?_
    refine r_aload_n (i := 0) hX d_M_say_62 0 rfl rfl ?_
    refine r_iload_n (i := 2) hX d_M_say_63 2 rfl rfl ?_
    obtain ⟨r9, hr10, h⟩ := bd_e h
    refine r_callV1 (As := [_]) hX hM mw_M_297 (T_M_fieldsOf _ _ _ hr10) (rc_of ci_12 hk8) rfl rfl ⟨Nat.le_refl _, Nat.le_refl _⟩ rfl rfl d_M_say_64 ?_
    obtain ⟨hk11, h⟩ := gd_e h
    obtain ⟨hg12, h⟩ := gd_e h
    refine r_iast hX hk11 hg12 d_M_say_67 ?_
    refine r_aload_n (i := 0) hX d_M_say_68 0 rfl rfl ?_
    refine r_getR (i := 12) (f := 30) hX ci_12 (by decide) rfl fl_M_46 (kI hk8) d_M_say_69 ?_
    refine r_iload_n (i := 1) hX d_M_say_72 1 rfl rfl ?_
    refine r_bipush (v := (8 : Int32)) hX d_M_say_73 rfl ?_
    refine r_iadd hX d_M_say_75 ?_
    refine r_iload_n (i := 2) hX d_M_say_76 2 rfl rfl ?_
    refine r_iadd hX d_M_say_77 ?_
    refine r_aload_n (i := 0) hX d_M_say_78 0 rfl rfl ?_
    refine r_iload_n (i := 2) hX d_M_say_79 2 rfl rfl ?_
    obtain ⟨r14, hr15, h⟩ := bd_e h
    refine r_callV1 (As := [_]) hX hM mw_M_300 (T_M_comparisonsOf _ _ _ hr15) (rc_of ci_12 (kI hk8)) rfl rfl ⟨Nat.le_refl _, Nat.le_refl _⟩ rfl rfl d_M_say_80 ?_
    obtain ⟨hk16, h⟩ := gd_e h
    obtain ⟨hg17, h⟩ := gd_e h
    refine r_iast hX hk16 hg17 d_M_say_83 ?_
    refine r_aload_n (i := 0) hX d_M_say_84 0 rfl rfl ?_
    refine r_getR (i := 12) (f := 30) hX ci_12 (by decide) rfl fl_M_46 (kI (kI hk8)) d_M_say_85 ?_
    refine r_iload_n (i := 1) hX d_M_say_88 1 rfl rfl ?_
    refine r_bipush (v := (10 : Int32)) hX d_M_say_89 rfl ?_
    refine r_iadd hX d_M_say_91 ?_
    refine r_iload_n (i := 2) hX d_M_say_92 2 rfl rfl ?_
    refine r_iadd hX d_M_say_93 ?_
    refine r_aload_n (i := 0) hX d_M_say_94 0 rfl rfl ?_
    refine r_iload_n (i := 2) hX d_M_say_95 2 rfl rfl ?_
    obtain ⟨r19, hr20, h⟩ := bd_e h
    refine r_callV1 (As := [_]) hX hM mw_M_303 (T_M_deepOf _ _ _ hr20) (rc_of ci_12 (kI (kI hk8))) rfl rfl ⟨Nat.le_refl _, Nat.le_refl _⟩ rfl rfl d_M_say_96 ?_
    obtain ⟨hk21, h⟩ := gd_e h
    obtain ⟨hg22, h⟩ := gd_e h
    refine r_iast hX hk21 hg22 d_M_say_99 ?_
    refine r_aload_n (i := 0) hX d_M_say_100 0 rfl rfl ?_
    obtain ⟨hk24, h⟩ := gd_e h
    refine r_getR (i := 12) (f := 33) hX ci_12 (by decide) rfl fl_M_55 hk24 d_M_say_101 ?_
    refine r_iconst (v := (2 : Int32)) hX d_M_say_104 rfl ?_
    refine r_aload_n (i := 0) hX d_M_say_105 0 rfl rfl ?_
    refine r_getI (i := 12) (f := 29) hX ci_12 (by decide) rfl fl_M_294 hk24 d_M_say_106 ?_
    refine r_imul hX d_M_say_109 ?_
    refine r_iload_n (i := 2) hX d_M_say_110 2 rfl rfl ?_
    refine r_iadd hX d_M_say_111 ?_
    refine r_aload_n (i := 0) hX d_M_say_112 0 rfl rfl ?_
    refine r_getR (i := 12) (f := 26) hX ci_12 (by decide) rfl fl_M_40 hk24 d_M_say_113 ?_
    refine r_iload_n (i := 2) hX d_M_say_116 2 rfl rfl ?_
    obtain ⟨hk25, h⟩ := gd_e h
    obtain ⟨hg26, h⟩ := gd_e h
    refine r_iald hX hk25 hg26 d_M_say_117 ?_
    obtain ⟨hk27, h⟩ := gd_e h
    obtain ⟨hg28, h⟩ := gd_e h
    refine r_iast hX hk27 hg28 d_M_say_118 ?_
    refine r_iconst (v := (0 : Int32)) hX d_M_say_119 rfl ?_
    refine r_istore_n (i := 3) hX d_M_say_120 rfl (by decide) ?_
    exact rj_sub [1, 2, 3, 0] rfl (P_M_say_121 hX hM hR hrec50 FUEL _ _ _ _ _ h)
def F_M_say_50 : Nat → Nat → Int32 → Int32 → AW → Option (Int32 × AW)
  | 0 => fun _ _ _ _ => none
  | n + 1 => fun a0 x1 x2 w => F_M_say_50_B (F_M_say_50 n) a0 x1 x2 w
theorem P_M_say_50 {X : AX} {l : Launch} {G : AG} (hX : XOK X b_M_say "RedSkyModel" 4) (hM : XM X l G { frames := 5, cells := 0, slots := 0, locals := 108 }) {o : Int32 × AW} (hR : XR X (some .int) 0 0 (some (vi o.1)) o.2) (fu : Nat) : ∀ (a0 : Nat) (x1 : Int32) (x2 : Int32) (w : AW), F_M_say_50 fu a0 x1 x2 w = some o → RJ X 4 0 0 50 [(0, vr a0), (1, vi x1), (2, vi x2)] [] w := by
  induction fu with
  | zero => intro a0 x1 x2 w h; cases h
  | succ n9 ih => intro a0 x1 x2 w h; exact P_M_say_50_B hX hM hR ih _ _ _ _ h
def F_M_say (a0 : Nat) (w : AW) : Option (Int32 × AW) :=
  gd (wk w a0 == 13) <|
  if (wi w a0 9) = 0 then
    some ((-103 : Int32), w)
  else
    (F_M_readPage a0 w).bind fun r2 =>
    gd (wk r2.2 a0 == 13) <|
    if r2.1 < (wi r2.2 a0 9) then
      some ((-103 : Int32), r2.2)
    else
      (F_M_isWhole a0 r2.2).bind fun r5 =>
      if r5.1 = 0 then
        some ((-103 : Int32), r5.2)
      else
        gd (wk r5.2 a0 == 13) <|
        if (wi r5.2 a0 29) = (8 : Int32) then
          some ((-104 : Int32), r5.2)
        else
          let v8 : Int32 := ((12 : Int32) * (wi r5.2 a0 29))
          F_M_say_50 FUEL a0 v8 (0 : Int32) r5.2
theorem P_M_say_0 {X : AX} {l : Launch} {G : AG} (hX : XOK X b_M_say "RedSkyModel" 4) (hM : XM X l G { frames := 5, cells := 0, slots := 0, locals := 108 }) {o : Int32 × AW} (hR : XR X (some .int) 0 0 (some (vi o.1)) o.2) (a0 : Nat) (w : AW) (h : F_M_say a0 w = some o) : RJ X 4 0 0 0 [(0, vr a0)] [] w := by
  unfold F_M_say at h
  refine r_aload_n (i := 0) hX d_M_say_0 0 rfl rfl ?_
  obtain ⟨hk1, h⟩ := gd_e h
  refine r_getI (i := 12) (f := 9) hX ci_12 (by decide) rfl fl_M_178 hk1 d_M_say_1 ?_
  refine r_if_eq hX d_M_say_4 rfl h (fun h => ?_) (fun h => ?_)
  · refine r_bipush (v := (-103 : Int32)) hX d_M_say_25 rfl ?_
    cases h; exact r_iret hX hR d_M_say_27
  · refine r_aload_n (i := 0) hX d_M_say_7 0 rfl rfl ?_
    obtain ⟨r2, hr3, h⟩ := bd_e h
    refine r_callV1 (As := []) hX hM mw_M_275 (T_M_readPage _ _ hr3) (rc_of ci_12 hk1) rfl rfl ⟨Nat.le_refl _, Nat.le_refl _⟩ rfl rfl d_M_say_8 ?_
    refine r_aload_n (i := 0) hX d_M_say_11 0 rfl rfl ?_
    obtain ⟨hk4, h⟩ := gd_e h
    refine r_getI (i := 12) (f := 9) hX ci_12 (by decide) rfl fl_M_178 hk4 d_M_say_12 ?_
    refine r_icmp_lt hX d_M_say_15 rfl h (fun h => ?_) (fun h => ?_)
    · refine r_bipush (v := (-103 : Int32)) hX d_M_say_25 rfl ?_
      cases h; exact r_iret hX hR d_M_say_27
    · refine r_aload_n (i := 0) hX d_M_say_18 0 rfl rfl ?_
      obtain ⟨r5, hr6, h⟩ := bd_e h
      refine r_callV1 (As := []) hX hM mw_M_291 (T_M_isWhole _ _ hr6) (rc_of ci_12 hk4) rfl rfl ⟨Nat.le_refl _, Nat.le_refl _⟩ rfl rfl d_M_say_19 ?_
      refine r_if_ne hX d_M_say_22 rfl h (fun h => ?_) (fun h => ?_)
      · refine r_aload_n (i := 0) hX d_M_say_28 0 rfl rfl ?_
        obtain ⟨hk7, h⟩ := gd_e h
        refine r_getI (i := 12) (f := 29) hX ci_12 (by decide) rfl fl_M_294 hk7 d_M_say_29 ?_
        refine r_bipush (v := (8 : Int32)) hX d_M_say_32 rfl ?_
        refine r_icmp_ne hX d_M_say_34 rfl h (fun h => ?_) (fun h => ?_)
        · refine r_bipush (v := (12 : Int32)) hX d_M_say_40 rfl ?_
          refine r_aload_n (i := 0) hX d_M_say_42 0 rfl rfl ?_
          refine r_getI (i := 12) (f := 29) hX ci_12 (by decide) rfl fl_M_294 hk7 d_M_say_43 ?_
          refine r_imul hX d_M_say_46 ?_
          refine r_istore_n (i := 1) hX d_M_say_47 rfl (by decide) ?_
          refine r_iconst (v := (0 : Int32)) hX d_M_say_48 rfl ?_
          refine r_istore_n (i := 2) hX d_M_say_49 rfl (by decide) ?_
          exact rj_sub [2, 1, 0] rfl (P_M_say_50 hX hM hR FUEL _ _ _ _ h)
        · refine r_bipush (v := (-104 : Int32)) hX d_M_say_37 rfl ?_
          cases h; exact r_iret hX hR d_M_say_39
      · refine r_bipush (v := (-103 : Int32)) hX d_M_say_25 rfl ?_
        cases h; exact r_iret hX hR d_M_say_27
theorem T_M_say {l : Launch} {G : AG} (a0 : Nat) (w : AW) {o : Int32 × AW} (h : F_M_say a0 w = some o) : Mt l G y_M_say b_M_say 4 (some (.int)) 5 108 0 0 [vr a0] w (some (vi o.1)) o.2 := mt_of (by decide) (Nat.le_of_ble_eq_true rfl) (fun X hX hR hM hI => P_M_say_0 hX hM hR _ _ h)
/-! RedSky.good()I -/
theorem d_A_good_0 : decode b_A_good 0 = .ok (.aload_n 0, 1) := by decide +kernel
theorem d_A_good_1 : decode b_A_good 1 = .ok (.getfield 25, 3) := by decide +kernel
theorem d_A_good_4 : decode b_A_good 4 = .ok (.invokevirtual 185, 3) := by decide +kernel
theorem d_A_good_7 : decode b_A_good 7 = .ok (.ireturn, 1) := by decide +kernel
def F_A_good (a0 : Nat) (w : AW) : Option (Int32 × AW) :=
  gd (wk w a0 == 1) <|
  gd (wk w (wr w a0 2) == 4) <|
  (F_Pg_readLetters (wr w a0 2) w).bind fun r3 =>
  some (r3.1, r3.2)
theorem P_A_good_0 {X : AX} {l : Launch} {G : AG} (hX : XOK X b_A_good "RedSky" 1) (hM : XM X l G { frames := 7, cells := 0, slots := 0, locals := 155 }) {o : Int32 × AW} (hR : XR X (some .int) 0 0 (some (vi o.1)) o.2) (a0 : Nat) (w : AW) (h : F_A_good a0 w = some o) : RJ X 1 0 0 0 [(0, vr a0)] [] w := by
  unfold F_A_good at h
  refine r_aload_n (i := 0) hX d_A_good_0 0 rfl rfl ?_
  obtain ⟨hk1, h⟩ := gd_e h
  refine r_getR (i := 0) (f := 2) hX ci_0 (by decide) rfl fl_A_25 hk1 d_A_good_1 ?_
  obtain ⟨hk2, h⟩ := gd_e h
  obtain ⟨r3, hr4, h⟩ := bd_e h
  refine r_callV1 (As := []) hX hM mw_A_185 (T_Pg_readLetters _ _ hr4) (rc_of ci_3 hk2) rfl rfl ⟨Nat.le_refl _, Nat.le_refl _⟩ rfl rfl d_A_good_4 ?_
  cases h; exact r_iret hX hR d_A_good_7
theorem T_A_good {l : Launch} {G : AG} (a0 : Nat) (w : AW) {o : Int32 × AW} (h : F_A_good a0 w = some o) : Mt l G y_A_good b_A_good 1 (some (.int)) 7 155 0 0 [vr a0] w (some (vi o.1)) o.2 := mt_of (by decide) (Nat.le_of_ble_eq_true rfl) (fun X hX hR hM hI => P_A_good_0 hX hM hR _ _ h)
/-! RedSkyModel.good()I -/
theorem d_M_good_0 : decode b_M_good 0 = .ok (.aload_n 0, 1) := by decide +kernel
theorem d_M_good_1 : decode b_M_good 1 = .ok (.invokevirtual 275, 3) := by decide +kernel
theorem d_M_good_4 : decode b_M_good 4 = .ok (.ireturn, 1) := by decide +kernel
def F_M_good (a0 : Nat) (w : AW) : Option (Int32 × AW) :=
  gd (wk w a0 == 13) <|
  (F_M_readPage a0 w).bind fun r2 =>
  some (r2.1, r2.2)
theorem P_M_good_0 {X : AX} {l : Launch} {G : AG} (hX : XOK X b_M_good "RedSkyModel" 1) (hM : XM X l G { frames := 5, cells := 0, slots := 0, locals := 108 }) {o : Int32 × AW} (hR : XR X (some .int) 0 0 (some (vi o.1)) o.2) (a0 : Nat) (w : AW) (h : F_M_good a0 w = some o) : RJ X 1 0 0 0 [(0, vr a0)] [] w := by
  unfold F_M_good at h
  refine r_aload_n (i := 0) hX d_M_good_0 0 rfl rfl ?_
  obtain ⟨hk1, h⟩ := gd_e h
  obtain ⟨r2, hr3, h⟩ := bd_e h
  refine r_callV1 (As := []) hX hM mw_M_275 (T_M_readPage _ _ hr3) (rc_of ci_12 hk1) rfl rfl ⟨Nat.le_refl _, Nat.le_refl _⟩ rfl rfl d_M_good_1 ?_
  cases h; exact r_iret hX hR d_M_good_4
theorem T_M_good {l : Launch} {G : AG} (a0 : Nat) (w : AW) {o : Int32 × AW} (h : F_M_good a0 w = some o) : Mt l G y_M_good b_M_good 1 (some (.int)) 5 108 0 0 [vr a0] w (some (vi o.1)) o.2 := mt_of (by decide) (Nat.le_of_ble_eq_true rfl) (fun X hX hR hM hI => P_M_good_0 hX hM hR _ _ h)
/-! RedSky.sayingOf(I)LRedSky$Saying; -/
theorem d_A_sayingOf_0 : decode b_A_sayingOf 0 = .ok (.iload_n 1, 1) := by decide +kernel
theorem d_A_sayingOf_1 : decode b_A_sayingOf 1 = .ok (.ifCond .lt (26), 3) := by decide +kernel
theorem d_A_sayingOf_4 : decode b_A_sayingOf 4 = .ok (.iload_n 1, 1) := by decide +kernel
theorem d_A_sayingOf_5 : decode b_A_sayingOf 5 = .ok (.aload_n 0, 1) := by decide +kernel
theorem d_A_sayingOf_6 : decode b_A_sayingOf 6 = .ok (.getfield 35, 3) := by decide +kernel
theorem d_A_sayingOf_9 : decode b_A_sayingOf 9 = .ok (.if_icmp .ge (18), 3) := by decide +kernel
theorem d_A_sayingOf_12 : decode b_A_sayingOf 12 = .ok (.iload_n 1, 1) := by decide +kernel
theorem d_A_sayingOf_13 : decode b_A_sayingOf 13 = .ok (.bipush (8), 2) := by decide +kernel
theorem d_A_sayingOf_15 : decode b_A_sayingOf 15 = .ok (.if_icmp .ge (12), 3) := by decide +kernel
theorem d_A_sayingOf_18 : decode b_A_sayingOf 18 = .ok (.aload_n 0, 1) := by decide +kernel
theorem d_A_sayingOf_19 : decode b_A_sayingOf 19 = .ok (.getfield 31, 3) := by decide +kernel
theorem d_A_sayingOf_22 : decode b_A_sayingOf 22 = .ok (.iload_n 1, 1) := by decide +kernel
theorem d_A_sayingOf_23 : decode b_A_sayingOf 23 = .ok (.aaload, 1) := by decide +kernel
theorem d_A_sayingOf_24 : decode b_A_sayingOf 24 = .ok (.goto (4), 3) := by decide +kernel
theorem d_A_sayingOf_27 : decode b_A_sayingOf 27 = .ok (.aconst_null, 1) := by decide +kernel
theorem d_A_sayingOf_28 : decode b_A_sayingOf 28 = .ok (.areturn, 1) := by decide +kernel
def F_A_sayingOf (w : AW) (a0 : Nat) (x1 : Int32) : Option (Nat) :=
  if x1 < 0 then
    some 0
  else
    gd (wk w a0 == 1) <|
    if (wi w a0 4) ≤ x1 then
      some 0
    else
      if (8 : Int32) ≤ x1 then
        some 0
      else
        gd (wk w (wr w a0 3) == 107) <|
        gd (inb x1 (wn w (wr w a0 3))) <|
        some (wr w (wr w a0 3) (Int32.toNatClampNeg x1))
theorem P_A_sayingOf_0 {X : AX} {l : Launch} {G : AG} {w : AW} (hX : XOK X b_A_sayingOf "RedSky" 2) (hM : XM X l G { frames := 0, cells := 0, slots := 0, locals := 0 }) {o : Nat} (hR : XR X (some (.object "RedSky$Saying")) 0 0 (some (vr o)) w) (a0 : Nat) (x1 : Int32) (h : F_A_sayingOf w a0 x1 = some o) : RJ X 2 0 0 0 [(0, vr a0), (1, vi x1)] [] w := by
  unfold F_A_sayingOf at h
  refine r_iload_n (i := 1) hX d_A_sayingOf_0 1 rfl rfl ?_
  refine r_if_lt hX d_A_sayingOf_1 rfl h (fun h => ?_) (fun h => ?_)
  · refine r_null hX d_A_sayingOf_27 ?_
    cases h; exact r_aret hX hR d_A_sayingOf_28
  · refine r_iload_n (i := 1) hX d_A_sayingOf_4 1 rfl rfl ?_
    refine r_aload_n (i := 0) hX d_A_sayingOf_5 0 rfl rfl ?_
    obtain ⟨hk1, h⟩ := gd_e h
    refine r_getI (i := 0) (f := 4) hX ci_0 (by decide) rfl fl_A_35 hk1 d_A_sayingOf_6 ?_
    refine r_icmp_ge hX d_A_sayingOf_9 rfl h (fun h => ?_) (fun h => ?_)
    · refine r_null hX d_A_sayingOf_27 ?_
      cases h; exact r_aret hX hR d_A_sayingOf_28
    · refine r_iload_n (i := 1) hX d_A_sayingOf_12 1 rfl rfl ?_
      refine r_bipush (v := (8 : Int32)) hX d_A_sayingOf_13 rfl ?_
      refine r_icmp_ge hX d_A_sayingOf_15 rfl h (fun h => ?_) (fun h => ?_)
      · refine r_null hX d_A_sayingOf_27 ?_
        cases h; exact r_aret hX hR d_A_sayingOf_28
      · refine r_aload_n (i := 0) hX d_A_sayingOf_18 0 rfl rfl ?_
        refine r_getR (i := 0) (f := 3) hX ci_0 (by decide) rfl fl_A_31 hk1 d_A_sayingOf_19 ?_
        refine r_iload_n (i := 1) hX d_A_sayingOf_22 1 rfl rfl ?_
        obtain ⟨hk2, h⟩ := gd_e h
        obtain ⟨hg3, h⟩ := gd_e h
        refine r_aald (t := 0) (kd := 107) hX (by decide) (fun G => rfl) hk2 hg3 d_A_sayingOf_23 ?_
        refine r_goto hX d_A_sayingOf_24 rfl ?_
        cases h; exact r_aret hX hR d_A_sayingOf_28
theorem T_A_sayingOf {l : Launch} {G : AG} (w : AW) (a0 : Nat) (x1 : Int32) {o : Nat} (h : F_A_sayingOf w a0 x1 = some o) : Mt l G y_A_sayingOf b_A_sayingOf 2 (some (.object "RedSky$Saying")) 0 0 0 0 [vr a0, vi x1] w (some (vr o)) w := mt_of (by decide) (Nat.le_of_ble_eq_true rfl) (fun X hX hR hM hI => P_A_sayingOf_0 hX hM hR _ _ h)
/-! RedSky$Saying.answer(I)I -/
theorem d_Sa_answer_0 : decode b_Sa_answer 0 = .ok (.iload_n 1, 1) := by decide +kernel
theorem d_Sa_answer_1 : decode b_Sa_answer 1 = .ok (.tableswitch (149) 0 11 #[63, 71, 79, 84, 89, 102, 107, 112, 117, 125, 133, 141], 63) := by decide +kernel
theorem d_Sa_answer_64 : decode b_Sa_answer 64 = .ok (.aload_n 0, 1) := by decide +kernel
theorem d_Sa_answer_65 : decode b_Sa_answer 65 = .ok (.getfield 12, 3) := by decide +kernel
theorem d_Sa_answer_68 : decode b_Sa_answer 68 = .ok (.getfield 44, 3) := by decide +kernel
theorem d_Sa_answer_71 : decode b_Sa_answer 71 = .ok (.ireturn, 1) := by decide +kernel
theorem d_Sa_answer_72 : decode b_Sa_answer 72 = .ok (.aload_n 0, 1) := by decide +kernel
theorem d_Sa_answer_73 : decode b_Sa_answer 73 = .ok (.getfield 18, 3) := by decide +kernel
theorem d_Sa_answer_76 : decode b_Sa_answer 76 = .ok (.getfield 44, 3) := by decide +kernel
theorem d_Sa_answer_79 : decode b_Sa_answer 79 = .ok (.ireturn, 1) := by decide +kernel
theorem d_Sa_answer_80 : decode b_Sa_answer 80 = .ok (.aload_n 0, 1) := by decide +kernel
theorem d_Sa_answer_81 : decode b_Sa_answer 81 = .ok (.getfield 24, 3) := by decide +kernel
theorem d_Sa_answer_84 : decode b_Sa_answer 84 = .ok (.ireturn, 1) := by decide +kernel
theorem d_Sa_answer_85 : decode b_Sa_answer 85 = .ok (.aload_n 0, 1) := by decide +kernel
theorem d_Sa_answer_86 : decode b_Sa_answer 86 = .ok (.getfield 28, 3) := by decide +kernel
theorem d_Sa_answer_89 : decode b_Sa_answer 89 = .ok (.ireturn, 1) := by decide +kernel
theorem d_Sa_answer_90 : decode b_Sa_answer 90 = .ok (.aload_n 0, 1) := by decide +kernel
theorem d_Sa_answer_91 : decode b_Sa_answer 91 = .ok (.getfield 31, 3) := by decide +kernel
theorem d_Sa_answer_94 : decode b_Sa_answer 94 = .ok (.ifCond .eq (7), 3) := by decide +kernel
theorem d_Sa_answer_97 : decode b_Sa_answer 97 = .ok (.iconst 1, 1) := by decide +kernel
theorem d_Sa_answer_98 : decode b_Sa_answer 98 = .ok (.goto (4), 3) := by decide +kernel
theorem d_Sa_answer_101 : decode b_Sa_answer 101 = .ok (.iconst 0, 1) := by decide +kernel
theorem d_Sa_answer_102 : decode b_Sa_answer 102 = .ok (.ireturn, 1) := by decide +kernel
theorem d_Sa_answer_103 : decode b_Sa_answer 103 = .ok (.aload_n 0, 1) := by decide +kernel
theorem d_Sa_answer_104 : decode b_Sa_answer 104 = .ok (.getfield 35, 3) := by decide +kernel
theorem d_Sa_answer_107 : decode b_Sa_answer 107 = .ok (.ireturn, 1) := by decide +kernel
theorem d_Sa_answer_108 : decode b_Sa_answer 108 = .ok (.aload_n 0, 1) := by decide +kernel
theorem d_Sa_answer_109 : decode b_Sa_answer 109 = .ok (.getfield 38, 3) := by decide +kernel
theorem d_Sa_answer_112 : decode b_Sa_answer 112 = .ok (.ireturn, 1) := by decide +kernel
theorem d_Sa_answer_113 : decode b_Sa_answer 113 = .ok (.aload_n 0, 1) := by decide +kernel
theorem d_Sa_answer_114 : decode b_Sa_answer 114 = .ok (.getfield 41, 3) := by decide +kernel
theorem d_Sa_answer_117 : decode b_Sa_answer 117 = .ok (.ireturn, 1) := by decide +kernel
theorem d_Sa_answer_118 : decode b_Sa_answer 118 = .ok (.aload_n 0, 1) := by decide +kernel
theorem d_Sa_answer_119 : decode b_Sa_answer 119 = .ok (.getfield 12, 3) := by decide +kernel
theorem d_Sa_answer_122 : decode b_Sa_answer 122 = .ok (.getfield 47, 3) := by decide +kernel
theorem d_Sa_answer_125 : decode b_Sa_answer 125 = .ok (.ireturn, 1) := by decide +kernel
theorem d_Sa_answer_126 : decode b_Sa_answer 126 = .ok (.aload_n 0, 1) := by decide +kernel
theorem d_Sa_answer_127 : decode b_Sa_answer 127 = .ok (.getfield 18, 3) := by decide +kernel
theorem d_Sa_answer_130 : decode b_Sa_answer 130 = .ok (.getfield 47, 3) := by decide +kernel
theorem d_Sa_answer_133 : decode b_Sa_answer 133 = .ok (.ireturn, 1) := by decide +kernel
theorem d_Sa_answer_134 : decode b_Sa_answer 134 = .ok (.aload_n 0, 1) := by decide +kernel
theorem d_Sa_answer_135 : decode b_Sa_answer 135 = .ok (.getfield 12, 3) := by decide +kernel
theorem d_Sa_answer_138 : decode b_Sa_answer 138 = .ok (.getfield 50, 3) := by decide +kernel
theorem d_Sa_answer_141 : decode b_Sa_answer 141 = .ok (.ireturn, 1) := by decide +kernel
theorem d_Sa_answer_142 : decode b_Sa_answer 142 = .ok (.aload_n 0, 1) := by decide +kernel
theorem d_Sa_answer_143 : decode b_Sa_answer 143 = .ok (.getfield 18, 3) := by decide +kernel
theorem d_Sa_answer_146 : decode b_Sa_answer 146 = .ok (.getfield 50, 3) := by decide +kernel
theorem d_Sa_answer_149 : decode b_Sa_answer 149 = .ok (.ireturn, 1) := by decide +kernel
theorem d_Sa_answer_150 : decode b_Sa_answer 150 = .ok (.bipush (-102), 2) := by decide +kernel
theorem d_Sa_answer_152 : decode b_Sa_answer 152 = .ok (.ireturn, 1) := by decide +kernel
def F_Sa_answer (w : AW) (a0 : Nat) (x1 : Int32) : Option (Int32) :=
  if Int32.toInt x1 < 0 ∨ 11 < Int32.toInt x1 then
    some (-102 : Int32)
  else if x1 = (0 : Int32) then
    gd (wk w a0 == 5) <|
    gd (wk w (wr w a0 0) == 6) <|
    some (wi w (wr w a0 0) 3)
  else if x1 = (1 : Int32) then
    gd (wk w a0 == 5) <|
    gd (wk w (wr w a0 1) == 6) <|
    some (wi w (wr w a0 1) 3)
  else if x1 = (2 : Int32) then
    gd (wk w a0 == 5) <|
    some (wi w a0 2)
  else if x1 = (3 : Int32) then
    gd (wk w a0 == 5) <|
    some (wi w a0 3)
  else if x1 = (4 : Int32) then
    gd (wk w a0 == 5) <|
    if (wi w a0 4) = 0 then
      some (0 : Int32)
    else
      some (1 : Int32)
  else if x1 = (5 : Int32) then
    gd (wk w a0 == 5) <|
    some (wi w a0 5)
  else if x1 = (6 : Int32) then
    gd (wk w a0 == 5) <|
    some (wi w a0 6)
  else if x1 = (7 : Int32) then
    gd (wk w a0 == 5) <|
    some (wi w a0 7)
  else if x1 = (8 : Int32) then
    gd (wk w a0 == 5) <|
    gd (wk w (wr w a0 0) == 6) <|
    some (wi w (wr w a0 0) 4)
  else if x1 = (9 : Int32) then
    gd (wk w a0 == 5) <|
    gd (wk w (wr w a0 1) == 6) <|
    some (wi w (wr w a0 1) 4)
  else if x1 = (10 : Int32) then
    gd (wk w a0 == 5) <|
    gd (wk w (wr w a0 0) == 6) <|
    some (wi w (wr w a0 0) 5)
  else if x1 = (11 : Int32) then
    gd (wk w a0 == 5) <|
    gd (wk w (wr w a0 1) == 6) <|
    some (wi w (wr w a0 1) 5)
  else none
theorem P_Sa_answer_0 {X : AX} {l : Launch} {G : AG} {w : AW} (hX : XOK X b_Sa_answer "RedSky$Saying" 2) (hM : XM X l G { frames := 0, cells := 0, slots := 0, locals := 0 }) {o : Int32} (hR : XR X (some .int) 0 0 (some (vi o)) w) (a0 : Nat) (x1 : Int32) (h : F_Sa_answer w a0 x1 = some o) : RJ X 2 0 0 0 [(0, vr a0), (1, vi x1)] [] w := by
  unfold F_Sa_answer at h
  refine r_iload_n (i := 1) hX d_Sa_answer_0 1 rfl rfl ?_
  rcases it_e h with ⟨hc, h⟩ | ⟨-, h⟩
  · refine r_tsOut hX hc d_Sa_answer_1 rfl ?_
    refine r_bipush (v := (-102 : Int32)) hX d_Sa_answer_150 rfl ?_
    cases h; exact r_iret hX hR d_Sa_answer_152
  rcases it_e h with ⟨hc, h⟩ | ⟨-, h⟩
  · refine r_tsIn (v := (0 : Int32)) hX hc d_Sa_answer_1 (by decide) (by decide) rfl rfl ?_
    refine r_aload_n (i := 0) hX d_Sa_answer_64 0 rfl rfl ?_
    obtain ⟨hk1, h⟩ := gd_e h
    refine r_getR (i := 4) (f := 0) hX ci_4 (by decide) rfl fl_Sa_12 hk1 d_Sa_answer_65 ?_
    obtain ⟨hk2, h⟩ := gd_e h
    refine r_getI (i := 5) (f := 3) hX ci_5 (by decide) rfl fl_Sa_44 hk2 d_Sa_answer_68 ?_
    cases h; exact r_iret hX hR d_Sa_answer_71
  rcases it_e h with ⟨hc, h⟩ | ⟨-, h⟩
  · refine r_tsIn (v := (1 : Int32)) hX hc d_Sa_answer_1 (by decide) (by decide) rfl rfl ?_
    refine r_aload_n (i := 0) hX d_Sa_answer_72 0 rfl rfl ?_
    obtain ⟨hk3, h⟩ := gd_e h
    refine r_getR (i := 4) (f := 1) hX ci_4 (by decide) rfl fl_Sa_18 hk3 d_Sa_answer_73 ?_
    obtain ⟨hk4, h⟩ := gd_e h
    refine r_getI (i := 5) (f := 3) hX ci_5 (by decide) rfl fl_Sa_44 hk4 d_Sa_answer_76 ?_
    cases h; exact r_iret hX hR d_Sa_answer_79
  rcases it_e h with ⟨hc, h⟩ | ⟨-, h⟩
  · refine r_tsIn (v := (2 : Int32)) hX hc d_Sa_answer_1 (by decide) (by decide) rfl rfl ?_
    refine r_aload_n (i := 0) hX d_Sa_answer_80 0 rfl rfl ?_
    obtain ⟨hk5, h⟩ := gd_e h
    refine r_getI (i := 4) (f := 2) hX ci_4 (by decide) rfl fl_Sa_24 hk5 d_Sa_answer_81 ?_
    cases h; exact r_iret hX hR d_Sa_answer_84
  rcases it_e h with ⟨hc, h⟩ | ⟨-, h⟩
  · refine r_tsIn (v := (3 : Int32)) hX hc d_Sa_answer_1 (by decide) (by decide) rfl rfl ?_
    refine r_aload_n (i := 0) hX d_Sa_answer_85 0 rfl rfl ?_
    obtain ⟨hk6, h⟩ := gd_e h
    refine r_getI (i := 4) (f := 3) hX ci_4 (by decide) rfl fl_Sa_28 hk6 d_Sa_answer_86 ?_
    cases h; exact r_iret hX hR d_Sa_answer_89
  rcases it_e h with ⟨hc, h⟩ | ⟨-, h⟩
  · refine r_tsIn (v := (4 : Int32)) hX hc d_Sa_answer_1 (by decide) (by decide) rfl rfl ?_
    refine r_aload_n (i := 0) hX d_Sa_answer_90 0 rfl rfl ?_
    obtain ⟨hk7, h⟩ := gd_e h
    refine r_getI (i := 4) (f := 4) hX ci_4 (by decide) rfl fl_Sa_31 hk7 d_Sa_answer_91 ?_
    refine r_if_eq hX d_Sa_answer_94 rfl h (fun h => ?_) (fun h => ?_)
    · refine r_iconst (v := (0 : Int32)) hX d_Sa_answer_101 rfl ?_
      cases h; exact r_iret hX hR d_Sa_answer_102
    · refine r_iconst (v := (1 : Int32)) hX d_Sa_answer_97 rfl ?_
      refine r_goto hX d_Sa_answer_98 rfl ?_
      cases h; exact r_iret hX hR d_Sa_answer_102
  rcases it_e h with ⟨hc, h⟩ | ⟨-, h⟩
  · refine r_tsIn (v := (5 : Int32)) hX hc d_Sa_answer_1 (by decide) (by decide) rfl rfl ?_
    refine r_aload_n (i := 0) hX d_Sa_answer_103 0 rfl rfl ?_
    obtain ⟨hk8, h⟩ := gd_e h
    refine r_getI (i := 4) (f := 5) hX ci_4 (by decide) rfl fl_Sa_35 hk8 d_Sa_answer_104 ?_
    cases h; exact r_iret hX hR d_Sa_answer_107
  rcases it_e h with ⟨hc, h⟩ | ⟨-, h⟩
  · refine r_tsIn (v := (6 : Int32)) hX hc d_Sa_answer_1 (by decide) (by decide) rfl rfl ?_
    refine r_aload_n (i := 0) hX d_Sa_answer_108 0 rfl rfl ?_
    obtain ⟨hk9, h⟩ := gd_e h
    refine r_getI (i := 4) (f := 6) hX ci_4 (by decide) rfl fl_Sa_38 hk9 d_Sa_answer_109 ?_
    cases h; exact r_iret hX hR d_Sa_answer_112
  rcases it_e h with ⟨hc, h⟩ | ⟨-, h⟩
  · refine r_tsIn (v := (7 : Int32)) hX hc d_Sa_answer_1 (by decide) (by decide) rfl rfl ?_
    refine r_aload_n (i := 0) hX d_Sa_answer_113 0 rfl rfl ?_
    obtain ⟨hk10, h⟩ := gd_e h
    refine r_getI (i := 4) (f := 7) hX ci_4 (by decide) rfl fl_Sa_41 hk10 d_Sa_answer_114 ?_
    cases h; exact r_iret hX hR d_Sa_answer_117
  rcases it_e h with ⟨hc, h⟩ | ⟨-, h⟩
  · refine r_tsIn (v := (8 : Int32)) hX hc d_Sa_answer_1 (by decide) (by decide) rfl rfl ?_
    refine r_aload_n (i := 0) hX d_Sa_answer_118 0 rfl rfl ?_
    obtain ⟨hk11, h⟩ := gd_e h
    refine r_getR (i := 4) (f := 0) hX ci_4 (by decide) rfl fl_Sa_12 hk11 d_Sa_answer_119 ?_
    obtain ⟨hk12, h⟩ := gd_e h
    refine r_getI (i := 5) (f := 4) hX ci_5 (by decide) rfl fl_Sa_47 hk12 d_Sa_answer_122 ?_
    cases h; exact r_iret hX hR d_Sa_answer_125
  rcases it_e h with ⟨hc, h⟩ | ⟨-, h⟩
  · refine r_tsIn (v := (9 : Int32)) hX hc d_Sa_answer_1 (by decide) (by decide) rfl rfl ?_
    refine r_aload_n (i := 0) hX d_Sa_answer_126 0 rfl rfl ?_
    obtain ⟨hk13, h⟩ := gd_e h
    refine r_getR (i := 4) (f := 1) hX ci_4 (by decide) rfl fl_Sa_18 hk13 d_Sa_answer_127 ?_
    obtain ⟨hk14, h⟩ := gd_e h
    refine r_getI (i := 5) (f := 4) hX ci_5 (by decide) rfl fl_Sa_47 hk14 d_Sa_answer_130 ?_
    cases h; exact r_iret hX hR d_Sa_answer_133
  rcases it_e h with ⟨hc, h⟩ | ⟨-, h⟩
  · refine r_tsIn (v := (10 : Int32)) hX hc d_Sa_answer_1 (by decide) (by decide) rfl rfl ?_
    refine r_aload_n (i := 0) hX d_Sa_answer_134 0 rfl rfl ?_
    obtain ⟨hk15, h⟩ := gd_e h
    refine r_getR (i := 4) (f := 0) hX ci_4 (by decide) rfl fl_Sa_12 hk15 d_Sa_answer_135 ?_
    obtain ⟨hk16, h⟩ := gd_e h
    refine r_getI (i := 5) (f := 5) hX ci_5 (by decide) rfl fl_Sa_50 hk16 d_Sa_answer_138 ?_
    cases h; exact r_iret hX hR d_Sa_answer_141
  rcases it_e h with ⟨hc, h⟩ | ⟨-, h⟩
  · refine r_tsIn (v := (11 : Int32)) hX hc d_Sa_answer_1 (by decide) (by decide) rfl rfl ?_
    refine r_aload_n (i := 0) hX d_Sa_answer_142 0 rfl rfl ?_
    obtain ⟨hk17, h⟩ := gd_e h
    refine r_getR (i := 4) (f := 1) hX ci_4 (by decide) rfl fl_Sa_18 hk17 d_Sa_answer_143 ?_
    obtain ⟨hk18, h⟩ := gd_e h
    refine r_getI (i := 5) (f := 5) hX ci_5 (by decide) rfl fl_Sa_50 hk18 d_Sa_answer_146 ?_
    cases h; exact r_iret hX hR d_Sa_answer_149
  cases h
theorem T_Sa_answer {l : Launch} {G : AG} (w : AW) (a0 : Nat) (x1 : Int32) {o : Int32} (h : F_Sa_answer w a0 x1 = some o) : Mt l G y_Sa_answer b_Sa_answer 2 (some (.int)) 0 0 0 0 [vr a0, vi x1] w (some (vi o)) w := mt_of (by decide) (Nat.le_of_ble_eq_true rfl) (fun X hX hR hM hI => P_Sa_answer_0 hX hM hR _ _ h)
/-! RedSky.asks(II)I -/
theorem d_A_asks_0 : decode b_A_asks 0 = .ok (.aload_n 0, 1) := by decide +kernel
theorem d_A_asks_1 : decode b_A_asks 1 = .ok (.iload_n 1, 1) := by decide +kernel
theorem d_A_asks_2 : decode b_A_asks 2 = .ok (.invokevirtual 200, 3) := by decide +kernel
theorem d_A_asks_5 : decode b_A_asks 5 = .ok (.astore_n 3, 1) := by decide +kernel
theorem d_A_asks_6 : decode b_A_asks 6 = .ok (.aload_n 3, 1) := by decide +kernel
theorem d_A_asks_7 : decode b_A_asks 7 = .ok (.ifnonnull (6), 3) := by decide +kernel
theorem d_A_asks_10 : decode b_A_asks 10 = .ok (.bipush (-101), 2) := by decide +kernel
theorem d_A_asks_12 : decode b_A_asks 12 = .ok (.ireturn, 1) := by decide +kernel
theorem d_A_asks_13 : decode b_A_asks 13 = .ok (.aload_n 3, 1) := by decide +kernel
theorem d_A_asks_14 : decode b_A_asks 14 = .ok (.iload_n 2, 1) := by decide +kernel
theorem d_A_asks_15 : decode b_A_asks 15 = .ok (.invokevirtual 204, 3) := by decide +kernel
theorem d_A_asks_18 : decode b_A_asks 18 = .ok (.ireturn, 1) := by decide +kernel
def F_A_asks (w : AW) (a0 : Nat) (x1 : Int32) (x2 : Int32) : Option (Int32) :=
  gd (wk w a0 == 1) <|
  (F_A_sayingOf w a0 x1).bind fun r2 =>
  if r2 = 0 then
    some (-101 : Int32)
  else
    gd (wk w r2 == 5) <|
    (F_Sa_answer w r2 x2).bind fun r5 =>
    some r5
theorem P_A_asks_0 {X : AX} {l : Launch} {G : AG} {w : AW} (hX : XOK X b_A_asks "RedSky" 4) (hM : XM X l G { frames := 1, cells := 0, slots := 0, locals := 21 }) {o : Int32} (hR : XR X (some .int) 0 0 (some (vi o)) w) (a0 : Nat) (x1 : Int32) (x2 : Int32) (h : F_A_asks w a0 x1 x2 = some o) : RJ X 4 0 0 0 [(0, vr a0), (1, vi x1), (2, vi x2)] [] w := by
  unfold F_A_asks at h
  refine r_aload_n (i := 0) hX d_A_asks_0 0 rfl rfl ?_
  refine r_iload_n (i := 1) hX d_A_asks_1 1 rfl rfl ?_
  obtain ⟨hk1, h⟩ := gd_e h
  obtain ⟨r2, hr3, h⟩ := bd_e h
  refine r_callV1 (As := [_]) hX hM mw_A_200 (T_A_sayingOf _ _ _ hr3) (rc_of ci_0 hk1) rfl rfl ⟨Nat.le_refl _, Nat.le_refl _⟩ rfl rfl d_A_asks_2 ?_
  refine r_astore_n (i := 3) hX d_A_asks_5 rfl (by decide) ?_
  refine r_aload_n (i := 3) hX d_A_asks_6 0 rfl rfl ?_
  refine r_ifnonnull hX d_A_asks_7 rfl h (fun h => ?_) (fun h => ?_)
  · refine r_aload_n (i := 3) hX d_A_asks_13 0 rfl rfl ?_
    refine r_iload_n (i := 2) hX d_A_asks_14 3 rfl rfl ?_
    obtain ⟨hk4, h⟩ := gd_e h
    obtain ⟨r5, hr6, h⟩ := bd_e h
    refine r_callV1 (As := [_]) hX hM mw_A_204 (T_Sa_answer _ _ _ hr6) (rc_of ci_4 hk4) rfl rfl ⟨Nat.le_refl _, Nat.le_refl _⟩ rfl rfl d_A_asks_15 ?_
    cases h; exact r_iret hX hR d_A_asks_18
  · refine r_bipush (v := (-101 : Int32)) hX d_A_asks_10 rfl ?_
    cases h; exact r_iret hX hR d_A_asks_12
theorem T_A_asks {l : Launch} {G : AG} (w : AW) (a0 : Nat) (x1 : Int32) (x2 : Int32) {o : Int32} (h : F_A_asks w a0 x1 x2 = some o) : Mt l G y_A_asks b_A_asks 4 (some (.int)) 1 21 0 0 [vr a0, vi x1, vi x2] w (some (vi o)) w := mt_of (by decide) (Nat.le_of_ble_eq_true rfl) (fun X hX hR hM hI => P_A_asks_0 hX hM hR _ _ _ h)
/-! RedSkyModel.isSaying(I)Z -/
theorem d_M_isSaying_0 : decode b_M_isSaying 0 = .ok (.iload_n 1, 1) := by decide +kernel
theorem d_M_isSaying_1 : decode b_M_isSaying 1 = .ok (.i2l, 1) := by decide +kernel
theorem d_M_isSaying_2 : decode b_M_isSaying 2 = .ok (.lconst 0, 1) := by decide +kernel
theorem d_M_isSaying_3 : decode b_M_isSaying 3 = .ok (.aload_n 0, 1) := by decide +kernel
theorem d_M_isSaying_4 : decode b_M_isSaying 4 = .ok (.getfield 294, 3) := by decide +kernel
theorem d_M_isSaying_7 : decode b_M_isSaying 7 = .ok (.iconst 1, 1) := by decide +kernel
theorem d_M_isSaying_8 : decode b_M_isSaying 8 = .ok (.isub, 1) := by decide +kernel
theorem d_M_isSaying_9 : decode b_M_isSaying 9 = .ok (.i2l, 1) := by decide +kernel
theorem d_M_isSaying_10 : decode b_M_isSaying 10 = .ok (.invokestatic 122, 3) := by decide +kernel
theorem d_M_isSaying_13 : decode b_M_isSaying 13 = .ok (.ireturn, 1) := by decide +kernel
def F_M_isSaying (w : AW) (a0 : Nat) (x1 : Int32) : Option (Int32) :=
  gd (wk w a0 == 13) <|
  some (F_M_in (Int32.toInt64 x1) (0 : Int64) (Int32.toInt64 ((wi w a0 29) - (1 : Int32))))
theorem P_M_isSaying_0 {X : AX} {l : Launch} {G : AG} {w : AW} (hX : XOK X b_M_isSaying "RedSkyModel" 2) (hM : XM X l G { frames := 1, cells := 0, slots := 0, locals := 25 }) {o : Int32} (hR : XR X (some .boolean) 0 0 (some (vi o)) w) (a0 : Nat) (x1 : Int32) (h : F_M_isSaying w a0 x1 = some o) : RJ X 2 0 0 0 [(0, vr a0), (1, vi x1)] [] w := by
  unfold F_M_isSaying at h
  refine r_iload_n (i := 1) hX d_M_isSaying_0 1 rfl rfl ?_
  refine r_i2l hX d_M_isSaying_1 ?_
  refine r_lconst (v := (0 : Int64)) hX d_M_isSaying_2 rfl ?_
  refine r_aload_n (i := 0) hX d_M_isSaying_3 0 rfl rfl ?_
  obtain ⟨hk1, h⟩ := gd_e h
  refine r_getI (i := 12) (f := 29) hX ci_12 (by decide) rfl fl_M_294 hk1 d_M_isSaying_4 ?_
  refine r_iconst (v := (1 : Int32)) hX d_M_isSaying_7 rfl ?_
  refine r_isub hX d_M_isSaying_8 ?_
  refine r_i2l hX d_M_isSaying_9 ?_
  refine r_callS1 (As := [_, _, _]) hX hM mw_M_122 (T_M_in _ _ _ _) rfl rfl ⟨Nat.le_refl _, Nat.le_refl _⟩ rfl rfl d_M_isSaying_10 ?_
  cases h; exact r_zret hX hR (zn_ok (z_M_in _ _ _)) d_M_isSaying_13
theorem T_M_isSaying {l : Launch} {G : AG} (w : AW) (a0 : Nat) (x1 : Int32) {o : Int32} (h : F_M_isSaying w a0 x1 = some o) : Mt l G y_M_isSaying b_M_isSaying 2 (some (.boolean)) 1 25 0 0 [vr a0, vi x1] w (some (vi o)) w := mt_of (by decide) (Nat.le_of_ble_eq_true rfl) (fun X hX hR hM hI => P_M_isSaying_0 hX hM hR _ _ h)
/-! RedSkyModel.asks(II)I -/
theorem d_M_asks_0 : decode b_M_asks 0 = .ok (.aload_n 0, 1) := by decide +kernel
theorem d_M_asks_1 : decode b_M_asks 1 = .ok (.iload_n 1, 1) := by decide +kernel
theorem d_M_asks_2 : decode b_M_asks 2 = .ok (.invokevirtual 306, 3) := by decide +kernel
theorem d_M_asks_5 : decode b_M_asks 5 = .ok (.ifCond .ne (6), 3) := by decide +kernel
theorem d_M_asks_8 : decode b_M_asks 8 = .ok (.bipush (-101), 2) := by decide +kernel
theorem d_M_asks_10 : decode b_M_asks 10 = .ok (.ireturn, 1) := by decide +kernel
theorem d_M_asks_11 : decode b_M_asks 11 = .ok (.iload_n 2, 1) := by decide +kernel
theorem d_M_asks_12 : decode b_M_asks 12 = .ok (.i2l, 1) := by decide +kernel
theorem d_M_asks_13 : decode b_M_asks 13 = .ok (.lconst 0, 1) := by decide +kernel
theorem d_M_asks_14 : decode b_M_asks 14 = .ok (.ldc2_w 309, 3) := by decide +kernel
theorem d_M_asks_17 : decode b_M_asks 17 = .ok (.invokestatic 122, 3) := by decide +kernel
theorem d_M_asks_20 : decode b_M_asks 20 = .ok (.ifCond .eq (17), 3) := by decide +kernel
theorem d_M_asks_23 : decode b_M_asks 23 = .ok (.aload_n 0, 1) := by decide +kernel
theorem d_M_asks_24 : decode b_M_asks 24 = .ok (.getfield 46, 3) := by decide +kernel
theorem d_M_asks_27 : decode b_M_asks 27 = .ok (.bipush (12), 2) := by decide +kernel
theorem d_M_asks_29 : decode b_M_asks 29 = .ok (.iload_n 1, 1) := by decide +kernel
theorem d_M_asks_30 : decode b_M_asks 30 = .ok (.imul, 1) := by decide +kernel
theorem d_M_asks_31 : decode b_M_asks 31 = .ok (.iload_n 2, 1) := by decide +kernel
theorem d_M_asks_32 : decode b_M_asks 32 = .ok (.iadd, 1) := by decide +kernel
theorem d_M_asks_33 : decode b_M_asks 33 = .ok (.iaload, 1) := by decide +kernel
theorem d_M_asks_34 : decode b_M_asks 34 = .ok (.goto (5), 3) := by decide +kernel
theorem d_M_asks_37 : decode b_M_asks 37 = .ok (.bipush (-102), 2) := by decide +kernel
theorem d_M_asks_39 : decode b_M_asks 39 = .ok (.ireturn, 1) := by decide +kernel
def F_M_asks (w : AW) (a0 : Nat) (x1 : Int32) (x2 : Int32) : Option (Int32) :=
  gd (wk w a0 == 13) <|
  (F_M_isSaying w a0 x1).bind fun r2 =>
  if r2 = 0 then
    some (-101 : Int32)
  else
    if (F_M_in (Int32.toInt64 x2) (0 : Int64) (11 : Int64)) = 0 then
      some (-102 : Int32)
    else
      gd (wk w (wr w a0 30) == 100) <|
      gd (inb (((12 : Int32) * x1) + x2) (wn w (wr w a0 30))) <|
      some (wi w (wr w a0 30) (Int32.toNatClampNeg (((12 : Int32) * x1) + x2)))
theorem P_M_asks_0 {X : AX} {l : Launch} {G : AG} {w : AW} (hX : XOK X b_M_asks "RedSkyModel" 3) (hM : XM X l G { frames := 2, cells := 0, slots := 0, locals := 46 }) {o : Int32} (hR : XR X (some .int) 0 0 (some (vi o)) w) (a0 : Nat) (x1 : Int32) (x2 : Int32) (h : F_M_asks w a0 x1 x2 = some o) : RJ X 3 0 0 0 [(0, vr a0), (1, vi x1), (2, vi x2)] [] w := by
  unfold F_M_asks at h
  refine r_aload_n (i := 0) hX d_M_asks_0 0 rfl rfl ?_
  refine r_iload_n (i := 1) hX d_M_asks_1 1 rfl rfl ?_
  obtain ⟨hk1, h⟩ := gd_e h
  obtain ⟨r2, hr3, h⟩ := bd_e h
  refine r_callV1 (As := [_]) hX hM mw_M_306 (T_M_isSaying _ _ _ hr3) (rc_of ci_12 hk1) rfl rfl ⟨Nat.le_refl _, Nat.le_refl _⟩ rfl rfl d_M_asks_2 ?_
  refine r_if_ne hX d_M_asks_5 rfl h (fun h => ?_) (fun h => ?_)
  · refine r_iload_n (i := 2) hX d_M_asks_11 2 rfl rfl ?_
    refine r_i2l hX d_M_asks_12 ?_
    refine r_lconst (v := (0 : Int64)) hX d_M_asks_13 rfl ?_
    refine r_ldc2 hX d_M_asks_14 cw_M_309 ?_
    refine r_callS1 (As := [_, _, _]) hX hM mw_M_122 (T_M_in _ _ _ _) rfl rfl ⟨Nat.le_refl _, Nat.le_refl _⟩ rfl rfl d_M_asks_17 ?_
    refine r_if_eq hX d_M_asks_20 rfl h (fun h => ?_) (fun h => ?_)
    · refine r_bipush (v := (-102 : Int32)) hX d_M_asks_37 rfl ?_
      cases h; exact r_iret hX hR d_M_asks_39
    · refine r_aload_n (i := 0) hX d_M_asks_23 0 rfl rfl ?_
      refine r_getR (i := 12) (f := 30) hX ci_12 (by decide) rfl fl_M_46 hk1 d_M_asks_24 ?_
      refine r_bipush (v := (12 : Int32)) hX d_M_asks_27 rfl ?_
      refine r_iload_n (i := 1) hX d_M_asks_29 1 rfl rfl ?_
      refine r_imul hX d_M_asks_30 ?_
      refine r_iload_n (i := 2) hX d_M_asks_31 2 rfl rfl ?_
      refine r_iadd hX d_M_asks_32 ?_
      obtain ⟨hk4, h⟩ := gd_e h
      obtain ⟨hg5, h⟩ := gd_e h
      refine r_iald hX hk4 hg5 d_M_asks_33 ?_
      refine r_goto hX d_M_asks_34 rfl ?_
      cases h; exact r_iret hX hR d_M_asks_39
  · refine r_bipush (v := (-101 : Int32)) hX d_M_asks_8 rfl ?_
    cases h; exact r_iret hX hR d_M_asks_10
theorem T_M_asks {l : Launch} {G : AG} (w : AW) (a0 : Nat) (x1 : Int32) (x2 : Int32) {o : Int32} (h : F_M_asks w a0 x1 x2 = some o) : Mt l G y_M_asks b_M_asks 3 (some (.int)) 2 46 0 0 [vr a0, vi x1, vi x2] w (some (vi o)) w := mt_of (by decide) (Nat.le_of_ble_eq_true rfl) (fun X hX hR hM hI => P_M_asks_0 hX hM hR _ _ _ h)
/-! RedSky.forget()I -/
theorem d_A_forget_0 : decode b_A_forget 0 = .ok (.aload_n 0, 1) := by decide +kernel
theorem d_A_forget_1 : decode b_A_forget 1 = .ok (.getfield 35, 3) := by decide +kernel
theorem d_A_forget_4 : decode b_A_forget 4 = .ok (.istore_n 1, 1) := by decide +kernel
theorem d_A_forget_5 : decode b_A_forget 5 = .ok (.aload_n 0, 1) := by decide +kernel
theorem d_A_forget_6 : decode b_A_forget 6 = .ok (.iconst 0, 1) := by decide +kernel
theorem d_A_forget_7 : decode b_A_forget 7 = .ok (.putfield 35, 3) := by decide +kernel
theorem d_A_forget_10 : decode b_A_forget 10 = .ok (.iload_n 1, 1) := by decide +kernel
theorem d_A_forget_11 : decode b_A_forget 11 = .ok (.ireturn, 1) := by decide +kernel
def F_A_forget (a0 : Nat) (w : AW) : Option (Int32 × AW) :=
  gd (wk w a0 == 1) <|
  let v2 : Int32 := (wi w a0 4)
  let w3 : AW := upI w a0 4 (0 : Int32)
  some (v2, w3)
theorem P_A_forget_0 {X : AX} {l : Launch} {G : AG} (hX : XOK X b_A_forget "RedSky" 2) (hM : XM X l G { frames := 0, cells := 0, slots := 0, locals := 0 }) {o : Int32 × AW} (hR : XR X (some .int) 0 0 (some (vi o.1)) o.2) (a0 : Nat) (w : AW) (h : F_A_forget a0 w = some o) : RJ X 2 0 0 0 [(0, vr a0)] [] w := by
  unfold F_A_forget at h
  refine r_aload_n (i := 0) hX d_A_forget_0 0 rfl rfl ?_
  obtain ⟨hk1, h⟩ := gd_e h
  refine r_getI (i := 0) (f := 4) hX ci_0 (by decide) rfl fl_A_35 hk1 d_A_forget_1 ?_
  refine r_istore_n (i := 1) hX d_A_forget_4 rfl (by decide) ?_
  refine r_aload_n (i := 0) hX d_A_forget_5 1 rfl rfl ?_
  refine r_iconst (v := (0 : Int32)) hX d_A_forget_6 rfl ?_
  refine r_putI (i := 0) (f := 4) hX ci_0 (by decide) rfl rfl (fun G => rfl) (fun G => rfl) fl_A_35 hk1 d_A_forget_7 ?_
  refine r_iload_n (i := 1) hX d_A_forget_10 0 rfl rfl ?_
  cases h; exact r_iret hX hR d_A_forget_11
theorem T_A_forget {l : Launch} {G : AG} (a0 : Nat) (w : AW) {o : Int32 × AW} (h : F_A_forget a0 w = some o) : Mt l G y_A_forget b_A_forget 2 (some (.int)) 0 0 0 0 [vr a0] w (some (vi o.1)) o.2 := mt_of (by decide) (Nat.le_of_ble_eq_true rfl) (fun X hX hR hM hI => P_A_forget_0 hX hM hR _ _ h)
/-! RedSkyModel.forget()I -/
theorem d_M_forget_0 : decode b_M_forget 0 = .ok (.aload_n 0, 1) := by decide +kernel
theorem d_M_forget_1 : decode b_M_forget 1 = .ok (.getfield 294, 3) := by decide +kernel
theorem d_M_forget_4 : decode b_M_forget 4 = .ok (.istore_n 1, 1) := by decide +kernel
theorem d_M_forget_5 : decode b_M_forget 5 = .ok (.aload_n 0, 1) := by decide +kernel
theorem d_M_forget_6 : decode b_M_forget 6 = .ok (.iconst 0, 1) := by decide +kernel
theorem d_M_forget_7 : decode b_M_forget 7 = .ok (.putfield 294, 3) := by decide +kernel
theorem d_M_forget_10 : decode b_M_forget 10 = .ok (.iload_n 1, 1) := by decide +kernel
theorem d_M_forget_11 : decode b_M_forget 11 = .ok (.ireturn, 1) := by decide +kernel
def F_M_forget (a0 : Nat) (w : AW) : Option (Int32 × AW) :=
  gd (wk w a0 == 13) <|
  let v2 : Int32 := (wi w a0 29)
  let w3 : AW := upI w a0 29 (0 : Int32)
  some (v2, w3)
theorem P_M_forget_0 {X : AX} {l : Launch} {G : AG} (hX : XOK X b_M_forget "RedSkyModel" 2) (hM : XM X l G { frames := 0, cells := 0, slots := 0, locals := 0 }) {o : Int32 × AW} (hR : XR X (some .int) 0 0 (some (vi o.1)) o.2) (a0 : Nat) (w : AW) (h : F_M_forget a0 w = some o) : RJ X 2 0 0 0 [(0, vr a0)] [] w := by
  unfold F_M_forget at h
  refine r_aload_n (i := 0) hX d_M_forget_0 0 rfl rfl ?_
  obtain ⟨hk1, h⟩ := gd_e h
  refine r_getI (i := 12) (f := 29) hX ci_12 (by decide) rfl fl_M_294 hk1 d_M_forget_1 ?_
  refine r_istore_n (i := 1) hX d_M_forget_4 rfl (by decide) ?_
  refine r_aload_n (i := 0) hX d_M_forget_5 1 rfl rfl ?_
  refine r_iconst (v := (0 : Int32)) hX d_M_forget_6 rfl ?_
  refine r_putI (i := 12) (f := 29) hX ci_12 (by decide) rfl rfl (fun G => rfl) (fun G => rfl) fl_M_294 hk1 d_M_forget_7 ?_
  refine r_iload_n (i := 1) hX d_M_forget_10 0 rfl rfl ?_
  cases h; exact r_iret hX hR d_M_forget_11
theorem T_M_forget {l : Launch} {G : AG} (a0 : Nat) (w : AW) {o : Int32 × AW} (h : F_M_forget a0 w = some o) : Mt l G y_M_forget b_M_forget 2 (some (.int)) 0 0 0 0 [vr a0] w (some (vi o.1)) o.2 := mt_of (by decide) (Nat.le_of_ble_eq_true rfl) (fun X hX hR hM hI => P_M_forget_0 hX hM hR _ _ h)
/-! RedSky$Days.add(I)V -/
theorem d_Dy_add_0 : decode b_Dy_add 0 = .ok (.iload_n 1, 1) := by decide +kernel
theorem d_Dy_add_1 : decode b_Dy_add 1 = .ok (.ifCond .lt (28), 3) := by decide +kernel
theorem d_Dy_add_4 : decode b_Dy_add 4 = .ok (.iload_n 1, 1) := by decide +kernel
theorem d_Dy_add_5 : decode b_Dy_add 5 = .ok (.sipush (1461), 3) := by decide +kernel
theorem d_Dy_add_8 : decode b_Dy_add 8 = .ok (.if_icmp .ge (21), 3) := by decide +kernel
theorem d_Dy_add_11 : decode b_Dy_add 11 = .ok (.aload_n 0, 1) := by decide +kernel
theorem d_Dy_add_12 : decode b_Dy_add 12 = .ok (.getfield 11, 3) := by decide +kernel
theorem d_Dy_add_15 : decode b_Dy_add 15 = .ok (.iload_n 1, 1) := by decide +kernel
theorem d_Dy_add_16 : decode b_Dy_add 16 = .ok (.bipush (6), 2) := by decide +kernel
theorem d_Dy_add_18 : decode b_Dy_add 18 = .ok (.ishr, 1) := by decide +kernel
theorem d_Dy_add_19 : decode b_Dy_add 19 = .ok (.dup2, 1) := by decide +kernel
theorem d_Dy_add_20 : decode b_Dy_add 20 = .ok (.laload, 1) := by decide +kernel
theorem d_Dy_add_21 : decode b_Dy_add 21 = .ok (.lconst 1, 1) := by decide +kernel
theorem d_Dy_add_22 : decode b_Dy_add 22 = .ok (.iload_n 1, 1) := by decide +kernel
theorem d_Dy_add_23 : decode b_Dy_add 23 = .ok (.bipush (63), 2) := by decide +kernel
theorem d_Dy_add_25 : decode b_Dy_add 25 = .ok (.iand, 1) := by decide +kernel
theorem d_Dy_add_26 : decode b_Dy_add 26 = .ok (.lshl, 1) := by decide +kernel
theorem d_Dy_add_27 : decode b_Dy_add 27 = .ok (.lor, 1) := by decide +kernel
theorem d_Dy_add_28 : decode b_Dy_add 28 = .ok (.lastore, 1) := by decide +kernel
theorem d_Dy_add_29 : decode b_Dy_add 29 = .ok (.return_, 1) := by decide +kernel
def F_Dy_add (a0 : Nat) (x1 : Int32) (w : AW) : Option (AW) :=
  if x1 < 0 then
    some w
  else
    if (1461 : Int32) ≤ x1 then
      some w
    else
      gd (wk w a0 == 8) <|
      gd (wk w (wr w a0 0) == 101) <|
      gd (inb (x1 >>> ((6 : Int32) &&& 31)) (wn w (wr w a0 0))) <|
      gd (inb (x1 >>> ((6 : Int32) &&& 31)) (wn w (wr w a0 0))) <|
      let w5 : AW := upJ w (wr w a0 0) (Int32.toNatClampNeg (x1 >>> ((6 : Int32) &&& 31))) ((wj w (wr w a0 0) (Int32.toNatClampNeg (x1 >>> ((6 : Int32) &&& 31)))) ||| ((1 : Int64) <<< (Int32.toInt64 (x1 &&& (63 : Int32)) &&& 63)))
      some w5
theorem P_Dy_add_0 {X : AX} {l : Launch} {G : AG} (hX : XOK X b_Dy_add "RedSky$Days" 2) (hM : XM X l G { frames := 0, cells := 0, slots := 0, locals := 0 }) {o : AW} (hR : XR X none 0 0 none o) (a0 : Nat) (x1 : Int32) (w : AW) (h : F_Dy_add a0 x1 w = some o) : RJ X 2 0 0 0 [(0, vr a0), (1, vi x1)] [] w := by
  unfold F_Dy_add at h
  refine r_iload_n (i := 1) hX d_Dy_add_0 1 rfl rfl ?_
  refine r_if_lt hX d_Dy_add_1 rfl h (fun h => ?_) (fun h => ?_)
  · cases h; exact r_vret hX hR d_Dy_add_29
  · refine r_iload_n (i := 1) hX d_Dy_add_4 1 rfl rfl ?_
    refine r_sipush (v := (1461 : Int32)) hX d_Dy_add_5 rfl ?_
    refine r_icmp_ge hX d_Dy_add_8 rfl h (fun h => ?_) (fun h => ?_)
    · cases h; exact r_vret hX hR d_Dy_add_29
    · refine r_aload_n (i := 0) hX d_Dy_add_11 0 rfl rfl ?_
      obtain ⟨hk1, h⟩ := gd_e h
      refine r_getR (i := 7) (f := 0) hX ci_7 (by decide) rfl fl_Dy_11 hk1 d_Dy_add_12 ?_
      refine r_iload_n (i := 1) hX d_Dy_add_15 1 rfl rfl ?_
      refine r_bipush (v := (6 : Int32)) hX d_Dy_add_16 rfl ?_
      refine r_ishr hX d_Dy_add_18 ?_
      refine r_dup2 hX d_Dy_add_19 rfl rfl ?_
      obtain ⟨hk2, h⟩ := gd_e h
      obtain ⟨hg3, h⟩ := gd_e h
      refine r_lald hX hk2 hg3 d_Dy_add_20 ?_
      refine r_lconst (v := (1 : Int64)) hX d_Dy_add_21 rfl ?_
      refine r_iload_n (i := 1) hX d_Dy_add_22 1 rfl rfl ?_
      refine r_bipush (v := (63 : Int32)) hX d_Dy_add_23 rfl ?_
      refine r_iand hX d_Dy_add_25 ?_
      refine r_lshl hX d_Dy_add_26 ?_
      refine r_lor hX d_Dy_add_27 ?_
      obtain ⟨hg4, h⟩ := gd_e h
      refine r_last hX hk2 hg4 d_Dy_add_28 ?_
      cases h; exact r_vret hX hR d_Dy_add_29
theorem T_Dy_add {l : Launch} {G : AG} (a0 : Nat) (x1 : Int32) (w : AW) {o : AW} (h : F_Dy_add a0 x1 w = some o) : Mt l G y_Dy_add b_Dy_add 2 none 0 0 0 0 [vr a0, vi x1] w none o := mt_of (by decide) (Nat.le_of_ble_eq_true rfl) (fun X hX hR hM hI => P_Dy_add_0 hX hM hR _ _ _ h)
/-! RedSky$Days.addFrom(II)V -/
theorem d_Dy_addFrom_0 : decode b_Dy_addFrom 0 = .ok (.iload_n 1, 1) := by decide +kernel
theorem d_Dy_addFrom_1 : decode b_Dy_addFrom 1 = .ok (.istore_n 3, 1) := by decide +kernel
theorem d_Dy_addFrom_2 : decode b_Dy_addFrom 2 = .ok (.iload_n 3, 1) := by decide +kernel
theorem d_Dy_addFrom_3 : decode b_Dy_addFrom 3 = .ok (.iload_n 2, 1) := by decide +kernel
theorem d_Dy_addFrom_4 : decode b_Dy_addFrom 4 = .ok (.if_icmp .ge (14), 3) := by decide +kernel
theorem d_Dy_addFrom_7 : decode b_Dy_addFrom 7 = .ok (.aload_n 0, 1) := by decide +kernel
theorem d_Dy_addFrom_8 : decode b_Dy_addFrom 8 = .ok (.iload_n 3, 1) := by decide +kernel
theorem d_Dy_addFrom_9 : decode b_Dy_addFrom 9 = .ok (.invokevirtual 29, 3) := by decide +kernel
theorem d_Dy_addFrom_12 : decode b_Dy_addFrom 12 = .ok (.iinc 3 (1), 3) := by decide +kernel
theorem d_Dy_addFrom_15 : decode b_Dy_addFrom 15 = .ok (.goto (-13), 3) := by decide +kernel
theorem d_Dy_addFrom_18 : decode b_Dy_addFrom 18 = .ok (.return_, 1) := by decide +kernel
def F_Dy_addFrom_2_B (rec2 : Nat → Int32 → Int32 → AW → Option (AW)) (a0 : Nat) (x2 : Int32) (x3 : Int32) (w : AW) : Option (AW) :=
  if x2 ≤ x3 then
    some w
  else
    gd (wk w a0 == 8) <|
    (F_Dy_add a0 x3 w).bind fun r2 =>
    let v4 : Int32 := (x3 + (1 : Int32))
    rec2 a0 x2 v4 r2
theorem P_Dy_addFrom_2_B {X : AX} {l : Launch} {G : AG} {rec2 : Nat → Int32 → Int32 → AW → Option (AW)} (hX : XOK X b_Dy_addFrom "RedSky$Days" 4) (hM : XM X l G { frames := 1, cells := 0, slots := 0, locals := 21 }) {o : AW} (hR : XR X none 0 0 none o) (hrec2 : ∀ (a0 : Nat) (x2 : Int32) (x3 : Int32) (w : AW), rec2 a0 x2 x3 w = some o → RJ X 4 0 0 2 [(0, vr a0), (2, vi x2), (3, vi x3)] [] w) (a0 : Nat) (x2 : Int32) (x3 : Int32) (w : AW) (h : F_Dy_addFrom_2_B rec2 a0 x2 x3 w = some o) : RJ X 4 0 0 2 [(0, vr a0), (2, vi x2), (3, vi x3)] [] w := by
  unfold F_Dy_addFrom_2_B at h
  refine r_iload_n (i := 3) hX d_Dy_addFrom_2 2 rfl rfl ?_
  refine r_iload_n (i := 2) hX d_Dy_addFrom_3 1 rfl rfl ?_
  refine r_icmp_ge hX d_Dy_addFrom_4 rfl h (fun h => ?_) (fun h => ?_)
  · cases h; exact r_vret hX hR d_Dy_addFrom_18
  · refine r_aload_n (i := 0) hX d_Dy_addFrom_7 0 rfl rfl ?_
    refine r_iload_n (i := 3) hX d_Dy_addFrom_8 2 rfl rfl ?_
    obtain ⟨hk1, h⟩ := gd_e h
    obtain ⟨r2, hr3, h⟩ := bd_e h
    refine r_callV0 (As := [_]) hX hM mw_Dy_29 (T_Dy_add _ _ _ hr3) (rc_of ci_7 hk1) rfl rfl ⟨Nat.le_refl _, Nat.le_refl _⟩ rfl rfl d_Dy_addFrom_9 ?_
    refine r_iinc (i := 3) (v := (1 : Int32)) hX d_Dy_addFrom_12 2 rfl rfl (by decide) ?_
    refine r_goto hX d_Dy_addFrom_15 rfl ?_
    exact rj_sub [1, 2, 0] rfl (hrec2 _ _ _ _ h)
def F_Dy_addFrom_2 : Nat → Nat → Int32 → Int32 → AW → Option (AW)
  | 0 => fun _ _ _ _ => none
  | n + 1 => fun a0 x2 x3 w => F_Dy_addFrom_2_B (F_Dy_addFrom_2 n) a0 x2 x3 w
theorem P_Dy_addFrom_2 {X : AX} {l : Launch} {G : AG} (hX : XOK X b_Dy_addFrom "RedSky$Days" 4) (hM : XM X l G { frames := 1, cells := 0, slots := 0, locals := 21 }) {o : AW} (hR : XR X none 0 0 none o) (fu : Nat) : ∀ (a0 : Nat) (x2 : Int32) (x3 : Int32) (w : AW), F_Dy_addFrom_2 fu a0 x2 x3 w = some o → RJ X 4 0 0 2 [(0, vr a0), (2, vi x2), (3, vi x3)] [] w := by
  induction fu with
  | zero => intro a0 x2 x3 w h; cases h
  | succ n9 ih => intro a0 x2 x3 w h; exact P_Dy_addFrom_2_B hX hM hR ih _ _ _ _ h
def F_Dy_addFrom (a0 : Nat) (x1 : Int32) (x2 : Int32) (w : AW) : Option (AW) :=
  F_Dy_addFrom_2 FUEL a0 x2 x1 w
theorem P_Dy_addFrom_0 {X : AX} {l : Launch} {G : AG} (hX : XOK X b_Dy_addFrom "RedSky$Days" 4) (hM : XM X l G { frames := 1, cells := 0, slots := 0, locals := 21 }) {o : AW} (hR : XR X none 0 0 none o) (a0 : Nat) (x1 : Int32) (x2 : Int32) (w : AW) (h : F_Dy_addFrom a0 x1 x2 w = some o) : RJ X 4 0 0 0 [(0, vr a0), (1, vi x1), (2, vi x2)] [] w := by
  unfold F_Dy_addFrom at h
  refine r_iload_n (i := 1) hX d_Dy_addFrom_0 1 rfl rfl ?_
  refine r_istore_n (i := 3) hX d_Dy_addFrom_1 rfl (by decide) ?_
  exact rj_sub [1, 3, 0] rfl (P_Dy_addFrom_2 hX hM hR FUEL _ _ _ _ h)
theorem T_Dy_addFrom {l : Launch} {G : AG} (a0 : Nat) (x1 : Int32) (x2 : Int32) (w : AW) {o : AW} (h : F_Dy_addFrom a0 x1 x2 w = some o) : Mt l G y_Dy_addFrom b_Dy_addFrom 4 none 1 21 0 0 [vr a0, vi x1, vi x2] w none o := mt_of (by decide) (Nat.le_of_ble_eq_true rfl) (fun X hX hR hM hI => P_Dy_addFrom_0 hX hM hR _ _ _ _ h)
/-! RedSky$Calendar.addMonths(IILRedSky$Days;)V -/
theorem d_Ca_addMonths_0 : decode b_Ca_addMonths 0 = .ok (.iconst 0, 1) := by decide +kernel
theorem d_Ca_addMonths_1 : decode b_Ca_addMonths 1 = .ok (.istore 4, 2) := by decide +kernel
theorem d_Ca_addMonths_3 : decode b_Ca_addMonths 3 = .ok (.iload 4, 2) := by decide +kernel
theorem d_Ca_addMonths_5 : decode b_Ca_addMonths 5 = .ok (.iconst 4, 1) := by decide +kernel
theorem d_Ca_addMonths_6 : decode b_Ca_addMonths 6 = .ok (.if_icmp .ge (92), 3) := by decide +kernel
theorem d_Ca_addMonths_9 : decode b_Ca_addMonths 9 = .ok (.iconst 1, 1) := by decide +kernel
theorem d_Ca_addMonths_10 : decode b_Ca_addMonths 10 = .ok (.istore 5, 2) := by decide +kernel
theorem d_Ca_addMonths_12 : decode b_Ca_addMonths 12 = .ok (.iload 5, 2) := by decide +kernel
theorem d_Ca_addMonths_14 : decode b_Ca_addMonths 14 = .ok (.bipush (12), 2) := by decide +kernel
theorem d_Ca_addMonths_16 : decode b_Ca_addMonths 16 = .ok (.if_icmp .gt (76), 3) := by decide +kernel
theorem d_Ca_addMonths_19 : decode b_Ca_addMonths 19 = .ok (.iload_n 1, 1) := by decide +kernel
theorem d_Ca_addMonths_20 : decode b_Ca_addMonths 20 = .ok (.iload_n 2, 1) := by decide +kernel
theorem d_Ca_addMonths_21 : decode b_Ca_addMonths 21 = .ok (.if_icmp .gt (13), 3) := by decide +kernel
theorem d_Ca_addMonths_24 : decode b_Ca_addMonths 24 = .ok (.iload 5, 2) := by decide +kernel
theorem d_Ca_addMonths_26 : decode b_Ca_addMonths 26 = .ok (.iload_n 1, 1) := by decide +kernel
theorem d_Ca_addMonths_27 : decode b_Ca_addMonths 27 = .ok (.iload_n 2, 1) := by decide +kernel
theorem d_Ca_addMonths_28 : decode b_Ca_addMonths 28 = .ok (.invokestatic 49, 3) := by decide +kernel
theorem d_Ca_addMonths_31 : decode b_Ca_addMonths 31 = .ok (.goto (20), 3) := by decide +kernel
theorem d_Ca_addMonths_34 : decode b_Ca_addMonths 34 = .ok (.iload 5, 2) := by decide +kernel
theorem d_Ca_addMonths_36 : decode b_Ca_addMonths 36 = .ok (.iload_n 1, 1) := by decide +kernel
theorem d_Ca_addMonths_37 : decode b_Ca_addMonths 37 = .ok (.if_icmp .ge (9), 3) := by decide +kernel
theorem d_Ca_addMonths_40 : decode b_Ca_addMonths 40 = .ok (.iload 5, 2) := by decide +kernel
theorem d_Ca_addMonths_42 : decode b_Ca_addMonths 42 = .ok (.iload_n 2, 1) := by decide +kernel
theorem d_Ca_addMonths_43 : decode b_Ca_addMonths 43 = .ok (.if_icmp .gt (7), 3) := by decide +kernel
theorem d_Ca_addMonths_46 : decode b_Ca_addMonths 46 = .ok (.iconst 1, 1) := by decide +kernel
theorem d_Ca_addMonths_47 : decode b_Ca_addMonths 47 = .ok (.goto (4), 3) := by decide +kernel
theorem d_Ca_addMonths_50 : decode b_Ca_addMonths 50 = .ok (.iconst 0, 1) := by decide +kernel
theorem d_Ca_addMonths_51 : decode b_Ca_addMonths 51 = .ok (.istore 6, 2) := by decide +kernel
theorem d_Ca_addMonths_53 : decode b_Ca_addMonths 53 = .ok (.iload 6, 2) := by decide +kernel
theorem d_Ca_addMonths_55 : decode b_Ca_addMonths 55 = .ok (.ifCond .eq (31), 3) := by decide +kernel
theorem d_Ca_addMonths_58 : decode b_Ca_addMonths 58 = .ok (.aload_n 0, 1) := by decide +kernel
theorem d_Ca_addMonths_59 : decode b_Ca_addMonths 59 = .ok (.iload 4, 2) := by decide +kernel
theorem d_Ca_addMonths_61 : decode b_Ca_addMonths 61 = .ok (.iload 5, 2) := by decide +kernel
theorem d_Ca_addMonths_63 : decode b_Ca_addMonths 63 = .ok (.iconst 1, 1) := by decide +kernel
theorem d_Ca_addMonths_64 : decode b_Ca_addMonths 64 = .ok (.invokevirtual 62, 3) := by decide +kernel
theorem d_Ca_addMonths_67 : decode b_Ca_addMonths 67 = .ok (.istore 7, 2) := by decide +kernel
theorem d_Ca_addMonths_69 : decode b_Ca_addMonths 69 = .ok (.aload_n 3, 1) := by decide +kernel
theorem d_Ca_addMonths_70 : decode b_Ca_addMonths 70 = .ok (.iload 7, 2) := by decide +kernel
theorem d_Ca_addMonths_72 : decode b_Ca_addMonths 72 = .ok (.iload 7, 2) := by decide +kernel
theorem d_Ca_addMonths_74 : decode b_Ca_addMonths 74 = .ok (.aload_n 0, 1) := by decide +kernel
theorem d_Ca_addMonths_75 : decode b_Ca_addMonths 75 = .ok (.iload 4, 2) := by decide +kernel
theorem d_Ca_addMonths_77 : decode b_Ca_addMonths 77 = .ok (.iload 5, 2) := by decide +kernel
theorem d_Ca_addMonths_79 : decode b_Ca_addMonths 79 = .ok (.invokevirtual 45, 3) := by decide +kernel
theorem d_Ca_addMonths_82 : decode b_Ca_addMonths 82 = .ok (.iadd, 1) := by decide +kernel
theorem d_Ca_addMonths_83 : decode b_Ca_addMonths 83 = .ok (.invokevirtual 69, 3) := by decide +kernel
theorem d_Ca_addMonths_86 : decode b_Ca_addMonths 86 = .ok (.iinc 5 (1), 3) := by decide +kernel
theorem d_Ca_addMonths_89 : decode b_Ca_addMonths 89 = .ok (.goto (-77), 3) := by decide +kernel
theorem d_Ca_addMonths_92 : decode b_Ca_addMonths 92 = .ok (.iinc 4 (1), 3) := by decide +kernel
theorem d_Ca_addMonths_95 : decode b_Ca_addMonths 95 = .ok (.goto (-92), 3) := by decide +kernel
theorem d_Ca_addMonths_98 : decode b_Ca_addMonths 98 = .ok (.return_, 1) := by decide +kernel
def F_Ca_addMonths_51 (rec3 : Nat → Int32 → Int32 → Nat → Int32 → AW → Option (AW)) (rec12 : Nat → Int32 → Int32 → Nat → Int32 → Int32 → AW → Option (AW)) (a0 : Nat) (x1 : Int32) (x2 : Int32) (a3 : Nat) (x4 : Int32) (x5 : Int32) (s0 : Int32) (w : AW) : Option (AW) :=
  if s0 = 0 then
    let v1 : Int32 := (x5 + (1 : Int32))
    rec12 a0 x1 x2 a3 x4 v1 w
  else
    gd (wk w a0 == 2) <|
    (F_Ca_dayOf w a0 x4 x5 (1 : Int32)).bind fun r3 =>
    (F_Ca_monthLength w a0 x4 x5).bind fun r5 =>
    gd (wk w a3 == 8) <|
    (F_Dy_addFrom a3 r3 (r3 + r5) w).bind fun r8 =>
    let v10 : Int32 := (x5 + (1 : Int32))
    rec12 a0 x1 x2 a3 x4 v10 r8
theorem P_Ca_addMonths_51 {X : AX} {l : Launch} {G : AG} {rec3 : Nat → Int32 → Int32 → Nat → Int32 → AW → Option (AW)} {rec12 : Nat → Int32 → Int32 → Nat → Int32 → Int32 → AW → Option (AW)} (hX : XOK X b_Ca_addMonths "RedSky$Calendar" 8) (hM : XM X l G { frames := 3, cells := 0, slots := 0, locals := 69 }) {o : AW} (hR : XR X none 0 0 none o) (hrec3 : ∀ (a0 : Nat) (x1 : Int32) (x2 : Int32) (a3 : Nat) (x4 : Int32) (w : AW), rec3 a0 x1 x2 a3 x4 w = some o → RJ X 8 0 0 3 [(0, vr a0), (1, vi x1), (2, vi x2), (3, vr a3), (4, vi x4)] [] w) (hrec12 : ∀ (a0 : Nat) (x1 : Int32) (x2 : Int32) (a3 : Nat) (x4 : Int32) (x5 : Int32) (w : AW), rec12 a0 x1 x2 a3 x4 x5 w = some o → RJ X 8 0 0 12 [(0, vr a0), (1, vi x1), (2, vi x2), (3, vr a3), (4, vi x4), (5, vi x5)] [] w) (a0 : Nat) (x1 : Int32) (x2 : Int32) (a3 : Nat) (x4 : Int32) (x5 : Int32) (s0 : Int32) (w : AW) (h : F_Ca_addMonths_51 rec3 rec12 a0 x1 x2 a3 x4 x5 s0 w = some o) : RJ X 8 0 0 51 [(0, vr a0), (1, vi x1), (2, vi x2), (3, vr a3), (4, vi x4), (5, vi x5)] [vi s0] w := by
  unfold F_Ca_addMonths_51 at h
  refine r_istore (i := 6) hX d_Ca_addMonths_51  (by decide) ?_
  refine r_iload (i := 6) hX d_Ca_addMonths_53 0  rfl ?_
  refine r_if_eq hX d_Ca_addMonths_55 rfl h (fun h => ?_) (fun h => ?_)
  · refine r_iinc (i := 5) (v := (1 : Int32)) hX d_Ca_addMonths_86 6 rfl rfl (by decide) ?_
    refine r_goto hX d_Ca_addMonths_89 rfl ?_
    exact rj_sub [2, 3, 4, 5, 6, 0] rfl (hrec12 _ _ _ _ _ _ _ h)
  · refine r_aload_n (i := 0) hX d_Ca_addMonths_58 1 rfl rfl ?_
    refine r_iload (i := 4) hX d_Ca_addMonths_59 5  rfl ?_
    refine r_iload (i := 5) hX d_Ca_addMonths_61 6  rfl ?_
    refine r_iconst (v := (1 : Int32)) hX d_Ca_addMonths_63 rfl ?_
    obtain ⟨hk2, h⟩ := gd_e h
    obtain ⟨r3, hr4, h⟩ := bd_e h
    refine r_callV1 (As := [_, _, _]) hX hM mw_Ca_62 (T_Ca_dayOf _ _ _ _ _ hr4) (rc_of ci_1 hk2) rfl rfl ⟨Nat.le_refl _, Nat.le_refl _⟩ rfl rfl d_Ca_addMonths_64 ?_
    refine r_istore (i := 7) hX d_Ca_addMonths_67  (by decide) ?_
    refine r_aload_n (i := 3) hX d_Ca_addMonths_69 5 rfl rfl ?_
    refine r_iload (i := 7) hX d_Ca_addMonths_70 0  rfl ?_
    refine r_iload (i := 7) hX d_Ca_addMonths_72 0  rfl ?_
    refine r_aload_n (i := 0) hX d_Ca_addMonths_74 2 rfl rfl ?_
    refine r_iload (i := 4) hX d_Ca_addMonths_75 6  rfl ?_
    refine r_iload (i := 5) hX d_Ca_addMonths_77 7  rfl ?_
    obtain ⟨r5, hr6, h⟩ := bd_e h
    refine r_callV1 (As := [_, _]) hX hM mw_Ca_45 (T_Ca_monthLength _ _ _ _ hr6) (rc_of ci_1 hk2) rfl rfl ⟨Nat.le_refl _, Nat.le_refl _⟩ rfl rfl d_Ca_addMonths_79 ?_
    refine r_iadd hX d_Ca_addMonths_82 ?_
    obtain ⟨hk7, h⟩ := gd_e h
    obtain ⟨r8, hr9, h⟩ := bd_e h
    refine r_callV0 (As := [_, _]) hX hM mw_Ca_69 (T_Dy_addFrom _ _ _ _ hr9) (rc_of ci_7 hk7) rfl rfl ⟨Nat.le_refl _, Nat.le_refl _⟩ rfl rfl d_Ca_addMonths_83 ?_
    refine r_iinc (i := 5) (v := (1 : Int32)) hX d_Ca_addMonths_86 7 rfl rfl (by decide) ?_
    refine r_goto hX d_Ca_addMonths_89 rfl ?_
    exact rj_sub [3, 4, 5, 6, 7, 0] rfl (hrec12 _ _ _ _ _ _ _ h)
def F_Ca_addMonths_12_B (rec3 : Nat → Int32 → Int32 → Nat → Int32 → AW → Option (AW)) (rec12 : Nat → Int32 → Int32 → Nat → Int32 → Int32 → AW → Option (AW)) (a0 : Nat) (x1 : Int32) (x2 : Int32) (a3 : Nat) (x4 : Int32) (x5 : Int32) (w : AW) : Option (AW) :=
  if (12 : Int32) < x5 then
    let v1 : Int32 := (x4 + (1 : Int32))
    rec3 a0 x1 x2 a3 v1 w
  else
    if x2 < x1 then
      if x1 ≤ x5 then
        F_Ca_addMonths_51 rec3 rec12 a0 x1 x2 a3 x4 x5 (1 : Int32) w
      else
        if x2 < x5 then
          F_Ca_addMonths_51 rec3 rec12 a0 x1 x2 a3 x4 x5 (0 : Int32) w
        else
          F_Ca_addMonths_51 rec3 rec12 a0 x1 x2 a3 x4 x5 (1 : Int32) w
    else
      F_Ca_addMonths_51 rec3 rec12 a0 x1 x2 a3 x4 x5 (F_A_within x5 x1 x2) w
theorem P_Ca_addMonths_12_B {X : AX} {l : Launch} {G : AG} {rec3 : Nat → Int32 → Int32 → Nat → Int32 → AW → Option (AW)} {rec12 : Nat → Int32 → Int32 → Nat → Int32 → Int32 → AW → Option (AW)} (hX : XOK X b_Ca_addMonths "RedSky$Calendar" 8) (hM : XM X l G { frames := 3, cells := 0, slots := 0, locals := 69 }) {o : AW} (hR : XR X none 0 0 none o) (hrec3 : ∀ (a0 : Nat) (x1 : Int32) (x2 : Int32) (a3 : Nat) (x4 : Int32) (w : AW), rec3 a0 x1 x2 a3 x4 w = some o → RJ X 8 0 0 3 [(0, vr a0), (1, vi x1), (2, vi x2), (3, vr a3), (4, vi x4)] [] w) (hrec12 : ∀ (a0 : Nat) (x1 : Int32) (x2 : Int32) (a3 : Nat) (x4 : Int32) (x5 : Int32) (w : AW), rec12 a0 x1 x2 a3 x4 x5 w = some o → RJ X 8 0 0 12 [(0, vr a0), (1, vi x1), (2, vi x2), (3, vr a3), (4, vi x4), (5, vi x5)] [] w) (a0 : Nat) (x1 : Int32) (x2 : Int32) (a3 : Nat) (x4 : Int32) (x5 : Int32) (w : AW) (h : F_Ca_addMonths_12_B rec3 rec12 a0 x1 x2 a3 x4 x5 w = some o) : RJ X 8 0 0 12 [(0, vr a0), (1, vi x1), (2, vi x2), (3, vr a3), (4, vi x4), (5, vi x5)] [] w := by
  unfold F_Ca_addMonths_12_B at h
  refine r_iload (i := 5) hX d_Ca_addMonths_12 5  rfl ?_
  refine r_bipush (v := (12 : Int32)) hX d_Ca_addMonths_14 rfl ?_
  refine r_icmp_gt hX d_Ca_addMonths_16 rfl h (fun h => ?_) (fun h => ?_)
  · refine r_iinc (i := 4) (v := (1 : Int32)) hX d_Ca_addMonths_92 4 rfl rfl (by decide) ?_
    refine r_goto hX d_Ca_addMonths_95 rfl ?_
    exact rj_sub [1, 2, 3, 4, 0] rfl (hrec3 _ _ _ _ _ _ h)
  · refine r_iload_n (i := 1) hX d_Ca_addMonths_19 1 rfl rfl ?_
    refine r_iload_n (i := 2) hX d_Ca_addMonths_20 2 rfl rfl ?_
    refine r_icmp_gt hX d_Ca_addMonths_21 rfl h (fun h => ?_) (fun h => ?_)
    · refine r_iload (i := 5) hX d_Ca_addMonths_34 5  rfl ?_
      refine r_iload_n (i := 1) hX d_Ca_addMonths_36 1 rfl rfl ?_
      refine r_icmp_ge hX d_Ca_addMonths_37 rfl h (fun h => ?_) (fun h => ?_)
      · refine r_iconst (v := (1 : Int32)) hX d_Ca_addMonths_46 rfl ?_
        refine r_goto hX d_Ca_addMonths_47 rfl ?_
        exact rj_sub [0, 1, 2, 3, 4, 5] rfl (P_Ca_addMonths_51 hX hM hR hrec3 hrec12 _ _ _ _ _ _ _ _ h)
      · refine r_iload (i := 5) hX d_Ca_addMonths_40 5  rfl ?_
        refine r_iload_n (i := 2) hX d_Ca_addMonths_42 2 rfl rfl ?_
        refine r_icmp_gt hX d_Ca_addMonths_43 rfl h (fun h => ?_) (fun h => ?_)
        · refine r_iconst (v := (0 : Int32)) hX d_Ca_addMonths_50 rfl ?_
          exact rj_sub [0, 1, 2, 3, 4, 5] rfl (P_Ca_addMonths_51 hX hM hR hrec3 hrec12 _ _ _ _ _ _ _ _ h)
        · refine r_iconst (v := (1 : Int32)) hX d_Ca_addMonths_46 rfl ?_
          refine r_goto hX d_Ca_addMonths_47 rfl ?_
          exact rj_sub [0, 1, 2, 3, 4, 5] rfl (P_Ca_addMonths_51 hX hM hR hrec3 hrec12 _ _ _ _ _ _ _ _ h)
    · refine r_iload (i := 5) hX d_Ca_addMonths_24 5  rfl ?_
      refine r_iload_n (i := 1) hX d_Ca_addMonths_26 1 rfl rfl ?_
      refine r_iload_n (i := 2) hX d_Ca_addMonths_27 2 rfl rfl ?_
      refine r_callSN1 (As := [_, _, _]) hX hM mw_Ca_49 (T_A_within _ _ _ _) rfl rfl ⟨Nat.le_refl _, Nat.le_refl _⟩ rfl rfl d_Ca_addMonths_28 ?_
      refine r_goto hX d_Ca_addMonths_31 rfl ?_
      exact rj_sub [0, 1, 2, 3, 4, 5] rfl (P_Ca_addMonths_51 hX hM hR hrec3 hrec12 _ _ _ _ _ _ _ _ h)
def F_Ca_addMonths_12 (rec3 : Nat → Int32 → Int32 → Nat → Int32 → AW → Option (AW)) : Nat → Nat → Int32 → Int32 → Nat → Int32 → Int32 → AW → Option (AW)
  | 0 => fun _ _ _ _ _ _ _ => none
  | n + 1 => fun a0 x1 x2 a3 x4 x5 w => F_Ca_addMonths_12_B rec3 (F_Ca_addMonths_12 rec3 n) a0 x1 x2 a3 x4 x5 w
theorem P_Ca_addMonths_12 {X : AX} {l : Launch} {G : AG} {rec3 : Nat → Int32 → Int32 → Nat → Int32 → AW → Option (AW)} (hX : XOK X b_Ca_addMonths "RedSky$Calendar" 8) (hM : XM X l G { frames := 3, cells := 0, slots := 0, locals := 69 }) {o : AW} (hR : XR X none 0 0 none o) (hrec3 : ∀ (a0 : Nat) (x1 : Int32) (x2 : Int32) (a3 : Nat) (x4 : Int32) (w : AW), rec3 a0 x1 x2 a3 x4 w = some o → RJ X 8 0 0 3 [(0, vr a0), (1, vi x1), (2, vi x2), (3, vr a3), (4, vi x4)] [] w) (fu : Nat) : ∀ (a0 : Nat) (x1 : Int32) (x2 : Int32) (a3 : Nat) (x4 : Int32) (x5 : Int32) (w : AW), F_Ca_addMonths_12 rec3 fu a0 x1 x2 a3 x4 x5 w = some o → RJ X 8 0 0 12 [(0, vr a0), (1, vi x1), (2, vi x2), (3, vr a3), (4, vi x4), (5, vi x5)] [] w := by
  induction fu with
  | zero => intro a0 x1 x2 a3 x4 x5 w h; cases h
  | succ n9 ih => intro a0 x1 x2 a3 x4 x5 w h; exact P_Ca_addMonths_12_B hX hM hR hrec3 ih _ _ _ _ _ _ _ h
def F_Ca_addMonths_3_B (rec3 : Nat → Int32 → Int32 → Nat → Int32 → AW → Option (AW)) (a0 : Nat) (x1 : Int32) (x2 : Int32) (a3 : Nat) (x4 : Int32) (w : AW) : Option (AW) :=
  if (4 : Int32) ≤ x4 then
    some w
  else
    F_Ca_addMonths_12 rec3 FUEL a0 x1 x2 a3 x4 (1 : Int32) w
theorem P_Ca_addMonths_3_B {X : AX} {l : Launch} {G : AG} {rec3 : Nat → Int32 → Int32 → Nat → Int32 → AW → Option (AW)} (hX : XOK X b_Ca_addMonths "RedSky$Calendar" 8) (hM : XM X l G { frames := 3, cells := 0, slots := 0, locals := 69 }) {o : AW} (hR : XR X none 0 0 none o) (hrec3 : ∀ (a0 : Nat) (x1 : Int32) (x2 : Int32) (a3 : Nat) (x4 : Int32) (w : AW), rec3 a0 x1 x2 a3 x4 w = some o → RJ X 8 0 0 3 [(0, vr a0), (1, vi x1), (2, vi x2), (3, vr a3), (4, vi x4)] [] w) (a0 : Nat) (x1 : Int32) (x2 : Int32) (a3 : Nat) (x4 : Int32) (w : AW) (h : F_Ca_addMonths_3_B rec3 a0 x1 x2 a3 x4 w = some o) : RJ X 8 0 0 3 [(0, vr a0), (1, vi x1), (2, vi x2), (3, vr a3), (4, vi x4)] [] w := by
  unfold F_Ca_addMonths_3_B at h
  refine r_iload (i := 4) hX d_Ca_addMonths_3 4  rfl ?_
  refine r_iconst (v := (4 : Int32)) hX d_Ca_addMonths_5 rfl ?_
  refine r_icmp_ge hX d_Ca_addMonths_6 rfl h (fun h => ?_) (fun h => ?_)
  · cases h; exact r_vret hX hR d_Ca_addMonths_98
  · refine r_iconst (v := (1 : Int32)) hX d_Ca_addMonths_9 rfl ?_
    refine r_istore (i := 5) hX d_Ca_addMonths_10  (by decide) ?_
    exact rj_sub [1, 2, 3, 4, 5, 0] rfl (P_Ca_addMonths_12 hX hM hR hrec3 FUEL _ _ _ _ _ _ _ h)
def F_Ca_addMonths_3 : Nat → Nat → Int32 → Int32 → Nat → Int32 → AW → Option (AW)
  | 0 => fun _ _ _ _ _ _ => none
  | n + 1 => fun a0 x1 x2 a3 x4 w => F_Ca_addMonths_3_B (F_Ca_addMonths_3 n) a0 x1 x2 a3 x4 w
theorem P_Ca_addMonths_3 {X : AX} {l : Launch} {G : AG} (hX : XOK X b_Ca_addMonths "RedSky$Calendar" 8) (hM : XM X l G { frames := 3, cells := 0, slots := 0, locals := 69 }) {o : AW} (hR : XR X none 0 0 none o) (fu : Nat) : ∀ (a0 : Nat) (x1 : Int32) (x2 : Int32) (a3 : Nat) (x4 : Int32) (w : AW), F_Ca_addMonths_3 fu a0 x1 x2 a3 x4 w = some o → RJ X 8 0 0 3 [(0, vr a0), (1, vi x1), (2, vi x2), (3, vr a3), (4, vi x4)] [] w := by
  induction fu with
  | zero => intro a0 x1 x2 a3 x4 w h; cases h
  | succ n9 ih => intro a0 x1 x2 a3 x4 w h; exact P_Ca_addMonths_3_B hX hM hR ih _ _ _ _ _ _ h
def F_Ca_addMonths (a0 : Nat) (x1 : Int32) (x2 : Int32) (a3 : Nat) (w : AW) : Option (AW) :=
  F_Ca_addMonths_3 FUEL a0 x1 x2 a3 (0 : Int32) w
theorem P_Ca_addMonths_0 {X : AX} {l : Launch} {G : AG} (hX : XOK X b_Ca_addMonths "RedSky$Calendar" 8) (hM : XM X l G { frames := 3, cells := 0, slots := 0, locals := 69 }) {o : AW} (hR : XR X none 0 0 none o) (a0 : Nat) (x1 : Int32) (x2 : Int32) (a3 : Nat) (w : AW) (h : F_Ca_addMonths a0 x1 x2 a3 w = some o) : RJ X 8 0 0 0 [(0, vr a0), (1, vi x1), (2, vi x2), (3, vr a3)] [] w := by
  unfold F_Ca_addMonths at h
  refine r_iconst (v := (0 : Int32)) hX d_Ca_addMonths_0 rfl ?_
  refine r_istore (i := 4) hX d_Ca_addMonths_1  (by decide) ?_
  exact rj_sub [1, 2, 3, 4, 0] rfl (P_Ca_addMonths_3 hX hM hR FUEL _ _ _ _ _ _ h)
theorem T_Ca_addMonths {l : Launch} {G : AG} (a0 : Nat) (x1 : Int32) (x2 : Int32) (a3 : Nat) (w : AW) {o : AW} (h : F_Ca_addMonths a0 x1 x2 a3 w = some o) : Mt l G y_Ca_addMonths b_Ca_addMonths 8 none 3 69 0 0 [vr a0, vi x1, vi x2, vr a3] w none o := mt_of (by decide) (Nat.le_of_ble_eq_true rfl) (fun X hX hR hM hI => P_Ca_addMonths_0 hX hM hR _ _ _ _ _ h)
/-! RedSky$Days.turnOver()V -/
theorem d_Dy_turnOver_0 : decode b_Dy_turnOver 0 = .ok (.iconst 0, 1) := by decide +kernel
theorem d_Dy_turnOver_1 : decode b_Dy_turnOver 1 = .ok (.istore_n 1, 1) := by decide +kernel
theorem d_Dy_turnOver_2 : decode b_Dy_turnOver 2 = .ok (.iload_n 1, 1) := by decide +kernel
theorem d_Dy_turnOver_3 : decode b_Dy_turnOver 3 = .ok (.bipush (23), 2) := by decide +kernel
theorem d_Dy_turnOver_5 : decode b_Dy_turnOver 5 = .ok (.if_icmp .ge (25), 3) := by decide +kernel
theorem d_Dy_turnOver_8 : decode b_Dy_turnOver 8 = .ok (.aload_n 0, 1) := by decide +kernel
theorem d_Dy_turnOver_9 : decode b_Dy_turnOver 9 = .ok (.getfield 11, 3) := by decide +kernel
theorem d_Dy_turnOver_12 : decode b_Dy_turnOver 12 = .ok (.iload_n 1, 1) := by decide +kernel
theorem d_Dy_turnOver_13 : decode b_Dy_turnOver 13 = .ok (.aload_n 0, 1) := by decide +kernel
theorem d_Dy_turnOver_14 : decode b_Dy_turnOver 14 = .ok (.getfield 11, 3) := by decide +kernel
theorem d_Dy_turnOver_17 : decode b_Dy_turnOver 17 = .ok (.iload_n 1, 1) := by decide +kernel
theorem d_Dy_turnOver_18 : decode b_Dy_turnOver 18 = .ok (.laload, 1) := by decide +kernel
theorem d_Dy_turnOver_19 : decode b_Dy_turnOver 19 = .ok (.ldc2_w 27, 3) := by decide +kernel
theorem d_Dy_turnOver_22 : decode b_Dy_turnOver 22 = .ok (.lxor, 1) := by decide +kernel
theorem d_Dy_turnOver_23 : decode b_Dy_turnOver 23 = .ok (.lastore, 1) := by decide +kernel
theorem d_Dy_turnOver_24 : decode b_Dy_turnOver 24 = .ok (.iinc 1 (1), 3) := by decide +kernel
theorem d_Dy_turnOver_27 : decode b_Dy_turnOver 27 = .ok (.goto (-25), 3) := by decide +kernel
theorem d_Dy_turnOver_30 : decode b_Dy_turnOver 30 = .ok (.aload_n 0, 1) := by decide +kernel
theorem d_Dy_turnOver_31 : decode b_Dy_turnOver 31 = .ok (.getfield 11, 3) := by decide +kernel
theorem d_Dy_turnOver_34 : decode b_Dy_turnOver 34 = .ok (.bipush (22), 2) := by decide +kernel
theorem d_Dy_turnOver_36 : decode b_Dy_turnOver 36 = .ok (.dup2, 1) := by decide +kernel
theorem d_Dy_turnOver_37 : decode b_Dy_turnOver 37 = .ok (.laload, 1) := by decide +kernel
theorem d_Dy_turnOver_38 : decode b_Dy_turnOver 38 = .ok (.ldc2_w 39, 3) := by decide +kernel
theorem d_Dy_turnOver_41 : decode b_Dy_turnOver 41 = .ok (.land, 1) := by decide +kernel
theorem d_Dy_turnOver_42 : decode b_Dy_turnOver 42 = .ok (.lastore, 1) := by decide +kernel
theorem d_Dy_turnOver_43 : decode b_Dy_turnOver 43 = .ok (.return_, 1) := by decide +kernel
def F_Dy_turnOver_2_B (rec2 : Nat → Int32 → AW → Option (AW)) (a0 : Nat) (x1 : Int32) (w : AW) : Option (AW) :=
  if (23 : Int32) ≤ x1 then
    gd (wk w a0 == 8) <|
    gd (wk w (wr w a0 0) == 101) <|
    gd (inb (22 : Int32) (wn w (wr w a0 0))) <|
    gd (inb (22 : Int32) (wn w (wr w a0 0))) <|
    let w5 : AW := upJ w (wr w a0 0) (Int32.toNatClampNeg (22 : Int32)) ((wj w (wr w a0 0) (Int32.toNatClampNeg (22 : Int32))) &&& (9007199254740991 : Int64))
    some w5
  else
    gd (wk w a0 == 8) <|
    gd (wk w (wr w a0 0) == 101) <|
    gd (inb x1 (wn w (wr w a0 0))) <|
    gd (inb x1 (wn w (wr w a0 0))) <|
    let w10 : AW := upJ w (wr w a0 0) (Int32.toNatClampNeg x1) ((wj w (wr w a0 0) (Int32.toNatClampNeg x1)) ^^^ (-1 : Int64))
    let v11 : Int32 := (x1 + (1 : Int32))
    rec2 a0 v11 w10
theorem P_Dy_turnOver_2_B {X : AX} {l : Launch} {G : AG} {rec2 : Nat → Int32 → AW → Option (AW)} (hX : XOK X b_Dy_turnOver "RedSky$Days" 2) (hM : XM X l G { frames := 0, cells := 0, slots := 0, locals := 0 }) {o : AW} (hR : XR X none 0 0 none o) (hrec2 : ∀ (a0 : Nat) (x1 : Int32) (w : AW), rec2 a0 x1 w = some o → RJ X 2 0 0 2 [(0, vr a0), (1, vi x1)] [] w) (a0 : Nat) (x1 : Int32) (w : AW) (h : F_Dy_turnOver_2_B rec2 a0 x1 w = some o) : RJ X 2 0 0 2 [(0, vr a0), (1, vi x1)] [] w := by
  unfold F_Dy_turnOver_2_B at h
  refine r_iload_n (i := 1) hX d_Dy_turnOver_2 1 rfl rfl ?_
  refine r_bipush (v := (23 : Int32)) hX d_Dy_turnOver_3 rfl ?_
  refine r_icmp_ge hX d_Dy_turnOver_5 rfl h (fun h => ?_) (fun h => ?_)
  · refine r_aload_n (i := 0) hX d_Dy_turnOver_30 0 rfl rfl ?_
    obtain ⟨hk1, h⟩ := gd_e h
    refine r_getR (i := 7) (f := 0) hX ci_7 (by decide) rfl fl_Dy_11 hk1 d_Dy_turnOver_31 ?_
    refine r_bipush (v := (22 : Int32)) hX d_Dy_turnOver_34 rfl ?_
    refine r_dup2 hX d_Dy_turnOver_36 rfl rfl ?_
    obtain ⟨hk2, h⟩ := gd_e h
    obtain ⟨hg3, h⟩ := gd_e h
    refine r_lald hX hk2 hg3 d_Dy_turnOver_37 ?_
    refine r_ldc2 hX d_Dy_turnOver_38 cw_Dy_39 ?_
    refine r_land hX d_Dy_turnOver_41 ?_
    obtain ⟨hg4, h⟩ := gd_e h
    refine r_last hX hk2 hg4 d_Dy_turnOver_42 ?_
    cases h; exact r_vret hX hR d_Dy_turnOver_43
  · refine r_aload_n (i := 0) hX d_Dy_turnOver_8 0 rfl rfl ?_
    obtain ⟨hk6, h⟩ := gd_e h
    refine r_getR (i := 7) (f := 0) hX ci_7 (by decide) rfl fl_Dy_11 hk6 d_Dy_turnOver_9 ?_
    refine r_iload_n (i := 1) hX d_Dy_turnOver_12 1 rfl rfl ?_
    refine r_aload_n (i := 0) hX d_Dy_turnOver_13 0 rfl rfl ?_
    refine r_getR (i := 7) (f := 0) hX ci_7 (by decide) rfl fl_Dy_11 hk6 d_Dy_turnOver_14 ?_
    refine r_iload_n (i := 1) hX d_Dy_turnOver_17 1 rfl rfl ?_
    obtain ⟨hk7, h⟩ := gd_e h
    obtain ⟨hg8, h⟩ := gd_e h
    refine r_lald hX hk7 hg8 d_Dy_turnOver_18 ?_
    refine r_ldc2 hX d_Dy_turnOver_19 cw_Dy_27 ?_
    refine r_lxor hX d_Dy_turnOver_22 ?_
    obtain ⟨hg9, h⟩ := gd_e h
    refine r_last hX hk7 hg9 d_Dy_turnOver_23 ?_
    refine r_iinc (i := 1) (v := (1 : Int32)) hX d_Dy_turnOver_24 1 rfl rfl (by decide) ?_
    refine r_goto hX d_Dy_turnOver_27 rfl ?_
    exact rj_sub [1, 0] rfl (hrec2 _ _ _ h)
def F_Dy_turnOver_2 : Nat → Nat → Int32 → AW → Option (AW)
  | 0 => fun _ _ _ => none
  | n + 1 => fun a0 x1 w => F_Dy_turnOver_2_B (F_Dy_turnOver_2 n) a0 x1 w
theorem P_Dy_turnOver_2 {X : AX} {l : Launch} {G : AG} (hX : XOK X b_Dy_turnOver "RedSky$Days" 2) (hM : XM X l G { frames := 0, cells := 0, slots := 0, locals := 0 }) {o : AW} (hR : XR X none 0 0 none o) (fu : Nat) : ∀ (a0 : Nat) (x1 : Int32) (w : AW), F_Dy_turnOver_2 fu a0 x1 w = some o → RJ X 2 0 0 2 [(0, vr a0), (1, vi x1)] [] w := by
  induction fu with
  | zero => intro a0 x1 w h; cases h
  | succ n9 ih => intro a0 x1 w h; exact P_Dy_turnOver_2_B hX hM hR ih _ _ _ h
def F_Dy_turnOver (a0 : Nat) (w : AW) : Option (AW) :=
  F_Dy_turnOver_2 FUEL a0 (0 : Int32) w
theorem P_Dy_turnOver_0 {X : AX} {l : Launch} {G : AG} (hX : XOK X b_Dy_turnOver "RedSky$Days" 2) (hM : XM X l G { frames := 0, cells := 0, slots := 0, locals := 0 }) {o : AW} (hR : XR X none 0 0 none o) (a0 : Nat) (w : AW) (h : F_Dy_turnOver a0 w = some o) : RJ X 2 0 0 0 [(0, vr a0)] [] w := by
  unfold F_Dy_turnOver at h
  refine r_iconst (v := (0 : Int32)) hX d_Dy_turnOver_0 rfl ?_
  refine r_istore_n (i := 1) hX d_Dy_turnOver_1 rfl (by decide) ?_
  exact rj_sub [1, 0] rfl (P_Dy_turnOver_2 hX hM hR FUEL _ _ _ h)
theorem T_Dy_turnOver {l : Launch} {G : AG} (a0 : Nat) (w : AW) {o : AW} (h : F_Dy_turnOver a0 w = some o) : Mt l G y_Dy_turnOver b_Dy_turnOver 2 none 0 0 0 0 [vr a0] w none o := mt_of (by decide) (Nat.le_of_ble_eq_true rfl) (fun X hX hR hM hI => P_Dy_turnOver_0 hX hM hR _ _ h)
/-! RedSky$Days.fill()V -/
theorem d_Dy_fill_0 : decode b_Dy_fill 0 = .ok (.aload_n 0, 1) := by decide +kernel
theorem d_Dy_fill_1 : decode b_Dy_fill 1 = .ok (.invokevirtual 21, 3) := by decide +kernel
theorem d_Dy_fill_4 : decode b_Dy_fill 4 = .ok (.aload_n 0, 1) := by decide +kernel
theorem d_Dy_fill_5 : decode b_Dy_fill 5 = .ok (.invokevirtual 24, 3) := by decide +kernel
theorem d_Dy_fill_8 : decode b_Dy_fill 8 = .ok (.return_, 1) := by decide +kernel
def F_Dy_fill (a0 : Nat) (w : AW) : Option (AW) :=
  gd (wk w a0 == 8) <|
  (F_Dy_clear a0 w).bind fun r2 =>
  gd (wk r2 a0 == 8) <|
  (F_Dy_turnOver a0 r2).bind fun r5 =>
  some r5
theorem P_Dy_fill_0 {X : AX} {l : Launch} {G : AG} (hX : XOK X b_Dy_fill "RedSky$Days" 1) (hM : XM X l G { frames := 2, cells := 0, slots := 0, locals := 44 }) {o : AW} (hR : XR X none 0 0 none o) (a0 : Nat) (w : AW) (h : F_Dy_fill a0 w = some o) : RJ X 1 0 0 0 [(0, vr a0)] [] w := by
  unfold F_Dy_fill at h
  refine r_aload_n (i := 0) hX d_Dy_fill_0 0 rfl rfl ?_
  obtain ⟨hk1, h⟩ := gd_e h
  obtain ⟨r2, hr3, h⟩ := bd_e h
  refine r_callV0 (As := []) hX hM mw_Dy_21 (T_Dy_clear _ _ hr3) (rc_of ci_7 hk1) rfl rfl ⟨Nat.le_refl _, Nat.le_refl _⟩ rfl rfl d_Dy_fill_1 ?_
  refine r_aload_n (i := 0) hX d_Dy_fill_4 0 rfl rfl ?_
  obtain ⟨hk4, h⟩ := gd_e h
  obtain ⟨r5, hr6, h⟩ := bd_e h
  refine r_callV0 (As := []) hX hM mw_Dy_24 (T_Dy_turnOver _ _ hr6) (rc_of ci_7 hk4) rfl rfl ⟨Nat.le_refl _, Nat.le_refl _⟩ rfl rfl d_Dy_fill_5 ?_
  cases h; exact r_vret hX hR d_Dy_fill_8
theorem T_Dy_fill {l : Launch} {G : AG} (a0 : Nat) (w : AW) {o : AW} (h : F_Dy_fill a0 w = some o) : Mt l G y_Dy_fill b_Dy_fill 1 none 2 44 0 0 [vr a0] w none o := mt_of (by decide) (Nat.le_of_ble_eq_true rfl) (fun X hX hR hM hI => P_Dy_fill_0 hX hM hR _ _ h)
/-! RedSky$Calendar.findSeason(LRedSky$Saying;LRedSky$Days;)V -/
theorem d_Ca_findSeason_0 : decode b_Ca_findSeason 0 = .ok (.aload_n 2, 1) := by decide +kernel
theorem d_Ca_findSeason_1 : decode b_Ca_findSeason 1 = .ok (.invokevirtual 75, 3) := by decide +kernel
theorem d_Ca_findSeason_4 : decode b_Ca_findSeason 4 = .ok (.aload_n 1, 1) := by decide +kernel
theorem d_Ca_findSeason_5 : decode b_Ca_findSeason 5 = .ok (.getfield 78, 3) := by decide +kernel
theorem d_Ca_findSeason_8 : decode b_Ca_findSeason 8 = .ok (.iconst (-1), 1) := by decide +kernel
theorem d_Ca_findSeason_9 : decode b_Ca_findSeason 9 = .ok (.if_icmp .eq (32), 3) := by decide +kernel
theorem d_Ca_findSeason_12 : decode b_Ca_findSeason 12 = .ok (.iconst 0, 1) := by decide +kernel
theorem d_Ca_findSeason_13 : decode b_Ca_findSeason 13 = .ok (.istore_n 3, 1) := by decide +kernel
theorem d_Ca_findSeason_14 : decode b_Ca_findSeason 14 = .ok (.iload_n 3, 1) := by decide +kernel
theorem d_Ca_findSeason_15 : decode b_Ca_findSeason 15 = .ok (.iconst 4, 1) := by decide +kernel
theorem d_Ca_findSeason_16 : decode b_Ca_findSeason 16 = .ok (.if_icmp .ge (22), 3) := by decide +kernel
theorem d_Ca_findSeason_19 : decode b_Ca_findSeason 19 = .ok (.aload_n 2, 1) := by decide +kernel
theorem d_Ca_findSeason_20 : decode b_Ca_findSeason 20 = .ok (.aload_n 0, 1) := by decide +kernel
theorem d_Ca_findSeason_21 : decode b_Ca_findSeason 21 = .ok (.aload_n 1, 1) := by decide +kernel
theorem d_Ca_findSeason_22 : decode b_Ca_findSeason 22 = .ok (.getfield 78, 3) := by decide +kernel
theorem d_Ca_findSeason_25 : decode b_Ca_findSeason 25 = .ok (.iload_n 3, 1) := by decide +kernel
theorem d_Ca_findSeason_26 : decode b_Ca_findSeason 26 = .ok (.invokevirtual 83, 3) := by decide +kernel
theorem d_Ca_findSeason_29 : decode b_Ca_findSeason 29 = .ok (.invokevirtual 86, 3) := by decide +kernel
theorem d_Ca_findSeason_32 : decode b_Ca_findSeason 32 = .ok (.iinc 3 (1), 3) := by decide +kernel
theorem d_Ca_findSeason_35 : decode b_Ca_findSeason 35 = .ok (.goto (-21), 3) := by decide +kernel
theorem d_Ca_findSeason_38 : decode b_Ca_findSeason 38 = .ok (.goto (31), 3) := by decide +kernel
theorem d_Ca_findSeason_41 : decode b_Ca_findSeason 41 = .ok (.aload_n 1, 1) := by decide +kernel
theorem d_Ca_findSeason_42 : decode b_Ca_findSeason 42 = .ok (.getfield 90, 3) := by decide +kernel
theorem d_Ca_findSeason_45 : decode b_Ca_findSeason 45 = .ok (.iconst (-1), 1) := by decide +kernel
theorem d_Ca_findSeason_46 : decode b_Ca_findSeason 46 = .ok (.if_icmp .eq (19), 3) := by decide +kernel
theorem d_Ca_findSeason_49 : decode b_Ca_findSeason 49 = .ok (.aload_n 0, 1) := by decide +kernel
theorem d_Ca_findSeason_50 : decode b_Ca_findSeason 50 = .ok (.aload_n 1, 1) := by decide +kernel
theorem d_Ca_findSeason_51 : decode b_Ca_findSeason 51 = .ok (.getfield 90, 3) := by decide +kernel
theorem d_Ca_findSeason_54 : decode b_Ca_findSeason 54 = .ok (.aload_n 1, 1) := by decide +kernel
theorem d_Ca_findSeason_55 : decode b_Ca_findSeason 55 = .ok (.getfield 93, 3) := by decide +kernel
theorem d_Ca_findSeason_58 : decode b_Ca_findSeason 58 = .ok (.aload_n 2, 1) := by decide +kernel
theorem d_Ca_findSeason_59 : decode b_Ca_findSeason 59 = .ok (.invokevirtual 96, 3) := by decide +kernel
theorem d_Ca_findSeason_62 : decode b_Ca_findSeason 62 = .ok (.goto (7), 3) := by decide +kernel
theorem d_Ca_findSeason_65 : decode b_Ca_findSeason 65 = .ok (.aload_n 2, 1) := by decide +kernel
theorem d_Ca_findSeason_66 : decode b_Ca_findSeason 66 = .ok (.invokevirtual 100, 3) := by decide +kernel
theorem d_Ca_findSeason_69 : decode b_Ca_findSeason 69 = .ok (.return_, 1) := by decide +kernel
def F_Ca_findSeason_14_B (rec14 : Nat → Nat → Nat → Int32 → AW → Option (AW)) (a0 : Nat) (a1 : Nat) (a2 : Nat) (x3 : Int32) (w : AW) : Option (AW) :=
  if (4 : Int32) ≤ x3 then
    some w
  else
    gd (wk w a1 == 5) <|
    gd (wk w a0 == 2) <|
    (F_Ca_feastDay w a0 (wi w a1 7) x3).bind fun r3 =>
    gd (wk w a2 == 8) <|
    (F_Dy_add a2 r3 w).bind fun r6 =>
    let v8 : Int32 := (x3 + (1 : Int32))
    rec14 a0 a1 a2 v8 r6
theorem P_Ca_findSeason_14_B {X : AX} {l : Launch} {G : AG} {rec14 : Nat → Nat → Nat → Int32 → AW → Option (AW)} (hX : XOK X b_Ca_findSeason "RedSky$Calendar" 4) (hM : XM X l G { frames := 4, cells := 0, slots := 0, locals := 96 }) {o : AW} (hR : XR X none 0 0 none o) (hrec14 : ∀ (a0 : Nat) (a1 : Nat) (a2 : Nat) (x3 : Int32) (w : AW), rec14 a0 a1 a2 x3 w = some o → RJ X 4 0 0 14 [(0, vr a0), (1, vr a1), (2, vr a2), (3, vi x3)] [] w) (a0 : Nat) (a1 : Nat) (a2 : Nat) (x3 : Int32) (w : AW) (h : F_Ca_findSeason_14_B rec14 a0 a1 a2 x3 w = some o) : RJ X 4 0 0 14 [(0, vr a0), (1, vr a1), (2, vr a2), (3, vi x3)] [] w := by
  unfold F_Ca_findSeason_14_B at h
  refine r_iload_n (i := 3) hX d_Ca_findSeason_14 3 rfl rfl ?_
  refine r_iconst (v := (4 : Int32)) hX d_Ca_findSeason_15 rfl ?_
  refine r_icmp_ge hX d_Ca_findSeason_16 rfl h (fun h => ?_) (fun h => ?_)
  · refine r_goto hX d_Ca_findSeason_38 rfl ?_
    cases h; exact r_vret hX hR d_Ca_findSeason_69
  · refine r_aload_n (i := 2) hX d_Ca_findSeason_19 2 rfl rfl ?_
    refine r_aload_n (i := 0) hX d_Ca_findSeason_20 0 rfl rfl ?_
    refine r_aload_n (i := 1) hX d_Ca_findSeason_21 1 rfl rfl ?_
    obtain ⟨hk1, h⟩ := gd_e h
    refine r_getI (i := 4) (f := 7) hX ci_4 (by decide) rfl fl_Ca_78 hk1 d_Ca_findSeason_22 ?_
    refine r_iload_n (i := 3) hX d_Ca_findSeason_25 3 rfl rfl ?_
    obtain ⟨hk2, h⟩ := gd_e h
    obtain ⟨r3, hr4, h⟩ := bd_e h
    refine r_callV1 (As := [_, _]) hX hM mw_Ca_83 (T_Ca_feastDay _ _ _ _ hr4) (rc_of ci_1 hk2) rfl rfl ⟨Nat.le_refl _, Nat.le_refl _⟩ rfl rfl d_Ca_findSeason_26 ?_
    obtain ⟨hk5, h⟩ := gd_e h
    obtain ⟨r6, hr7, h⟩ := bd_e h
    refine r_callV0 (As := [_]) hX hM mw_Ca_86 (T_Dy_add _ _ _ hr7) (rc_of ci_7 hk5) rfl rfl ⟨Nat.le_refl _, Nat.le_refl _⟩ rfl rfl d_Ca_findSeason_29 ?_
    refine r_iinc (i := 3) (v := (1 : Int32)) hX d_Ca_findSeason_32 3 rfl rfl (by decide) ?_
    refine r_goto hX d_Ca_findSeason_35 rfl ?_
    exact rj_sub [1, 2, 3, 0] rfl (hrec14 _ _ _ _ _ h)
def F_Ca_findSeason_14 : Nat → Nat → Nat → Nat → Int32 → AW → Option (AW)
  | 0 => fun _ _ _ _ _ => none
  | n + 1 => fun a0 a1 a2 x3 w => F_Ca_findSeason_14_B (F_Ca_findSeason_14 n) a0 a1 a2 x3 w
theorem P_Ca_findSeason_14 {X : AX} {l : Launch} {G : AG} (hX : XOK X b_Ca_findSeason "RedSky$Calendar" 4) (hM : XM X l G { frames := 4, cells := 0, slots := 0, locals := 96 }) {o : AW} (hR : XR X none 0 0 none o) (fu : Nat) : ∀ (a0 : Nat) (a1 : Nat) (a2 : Nat) (x3 : Int32) (w : AW), F_Ca_findSeason_14 fu a0 a1 a2 x3 w = some o → RJ X 4 0 0 14 [(0, vr a0), (1, vr a1), (2, vr a2), (3, vi x3)] [] w := by
  induction fu with
  | zero => intro a0 a1 a2 x3 w h; cases h
  | succ n9 ih => intro a0 a1 a2 x3 w h; exact P_Ca_findSeason_14_B hX hM hR ih _ _ _ _ _ h
def F_Ca_findSeason (a0 : Nat) (a1 : Nat) (a2 : Nat) (w : AW) : Option (AW) :=
  gd (wk w a2 == 8) <|
  (F_Dy_clear a2 w).bind fun r2 =>
  gd (wk r2 a1 == 5) <|
  if (wi r2 a1 7) = (-1 : Int32) then
    if (wi r2 a1 5) = (-1 : Int32) then
      gd (wk r2 a2 == 8) <|
      (F_Dy_fill a2 r2).bind fun r6 =>
      some r6
    else
      gd (wk r2 a0 == 2) <|
      (F_Ca_addMonths a0 (wi r2 a1 5) (wi r2 a1 6) a2 r2).bind fun r9 =>
      some r9
  else
    F_Ca_findSeason_14 FUEL a0 a1 a2 (0 : Int32) r2
theorem P_Ca_findSeason_0 {X : AX} {l : Launch} {G : AG} (hX : XOK X b_Ca_findSeason "RedSky$Calendar" 4) (hM : XM X l G { frames := 4, cells := 0, slots := 0, locals := 96 }) {o : AW} (hR : XR X none 0 0 none o) (a0 : Nat) (a1 : Nat) (a2 : Nat) (w : AW) (h : F_Ca_findSeason a0 a1 a2 w = some o) : RJ X 4 0 0 0 [(0, vr a0), (1, vr a1), (2, vr a2)] [] w := by
  unfold F_Ca_findSeason at h
  refine r_aload_n (i := 2) hX d_Ca_findSeason_0 2 rfl rfl ?_
  obtain ⟨hk1, h⟩ := gd_e h
  obtain ⟨r2, hr3, h⟩ := bd_e h
  refine r_callV0 (As := []) hX hM mw_Ca_75 (T_Dy_clear _ _ hr3) (rc_of ci_7 hk1) rfl rfl ⟨Nat.le_refl _, Nat.le_refl _⟩ rfl rfl d_Ca_findSeason_1 ?_
  refine r_aload_n (i := 1) hX d_Ca_findSeason_4 1 rfl rfl ?_
  obtain ⟨hk4, h⟩ := gd_e h
  refine r_getI (i := 4) (f := 7) hX ci_4 (by decide) rfl fl_Ca_78 hk4 d_Ca_findSeason_5 ?_
  refine r_iconst (v := (-1 : Int32)) hX d_Ca_findSeason_8 rfl ?_
  refine r_icmp_eq hX d_Ca_findSeason_9 rfl h (fun h => ?_) (fun h => ?_)
  · refine r_aload_n (i := 1) hX d_Ca_findSeason_41 1 rfl rfl ?_
    refine r_getI (i := 4) (f := 5) hX ci_4 (by decide) rfl fl_Ca_90 hk4 d_Ca_findSeason_42 ?_
    refine r_iconst (v := (-1 : Int32)) hX d_Ca_findSeason_45 rfl ?_
    refine r_icmp_eq hX d_Ca_findSeason_46 rfl h (fun h => ?_) (fun h => ?_)
    · refine r_aload_n (i := 2) hX d_Ca_findSeason_65 2 rfl rfl ?_
      obtain ⟨hk5, h⟩ := gd_e h
      obtain ⟨r6, hr7, h⟩ := bd_e h
      refine r_callV0 (As := []) hX hM mw_Ca_100 (T_Dy_fill _ _ hr7) (rc_of ci_7 hk5) rfl rfl ⟨Nat.le_refl _, Nat.le_refl _⟩ rfl rfl d_Ca_findSeason_66 ?_
      cases h; exact r_vret hX hR d_Ca_findSeason_69
    · refine r_aload_n (i := 0) hX d_Ca_findSeason_49 0 rfl rfl ?_
      refine r_aload_n (i := 1) hX d_Ca_findSeason_50 1 rfl rfl ?_
      refine r_getI (i := 4) (f := 5) hX ci_4 (by decide) rfl fl_Ca_90 hk4 d_Ca_findSeason_51 ?_
      refine r_aload_n (i := 1) hX d_Ca_findSeason_54 1 rfl rfl ?_
      refine r_getI (i := 4) (f := 6) hX ci_4 (by decide) rfl fl_Ca_93 hk4 d_Ca_findSeason_55 ?_
      refine r_aload_n (i := 2) hX d_Ca_findSeason_58 2 rfl rfl ?_
      obtain ⟨hk8, h⟩ := gd_e h
      obtain ⟨r9, hr10, h⟩ := bd_e h
      refine r_callV0 (As := [_, _, _]) hX hM mw_Ca_96 (T_Ca_addMonths _ _ _ _ _ hr10) (rc_of ci_1 hk8) rfl rfl ⟨Nat.le_refl _, Nat.le_refl _⟩ rfl rfl d_Ca_findSeason_59 ?_
      refine r_goto hX d_Ca_findSeason_62 rfl ?_
      cases h; exact r_vret hX hR d_Ca_findSeason_69
  · refine r_iconst (v := (0 : Int32)) hX d_Ca_findSeason_12 rfl ?_
    refine r_istore_n (i := 3) hX d_Ca_findSeason_13 rfl (by decide) ?_
    exact rj_sub [1, 2, 3, 0] rfl (P_Ca_findSeason_14 hX hM hR FUEL _ _ _ _ _ h)
theorem T_Ca_findSeason {l : Launch} {G : AG} (a0 : Nat) (a1 : Nat) (a2 : Nat) (w : AW) {o : AW} (h : F_Ca_findSeason a0 a1 a2 w = some o) : Mt l G y_Ca_findSeason b_Ca_findSeason 4 none 4 96 0 0 [vr a0, vr a1, vr a2] w none o := mt_of (by decide) (Nat.le_of_ble_eq_true rfl) (fun X hX hR hM hI => P_Ca_findSeason_0 hX hM hR _ _ _ _ h)
/-! RedSky$Condition.stepAt(I)I -/
theorem d_Co_stepAt_0 : decode b_Co_stepAt 0 = .ok (.iload_n 1, 1) := by decide +kernel
theorem d_Co_stepAt_1 : decode b_Co_stepAt 1 = .ok (.iconst 0, 1) := by decide +kernel
theorem d_Co_stepAt_2 : decode b_Co_stepAt 2 = .ok (.bipush (79), 2) := by decide +kernel
theorem d_Co_stepAt_4 : decode b_Co_stepAt 4 = .ok (.invokestatic 36, 3) := by decide +kernel
theorem d_Co_stepAt_7 : decode b_Co_stepAt 7 = .ok (.ifCond .eq (12), 3) := by decide +kernel
theorem d_Co_stepAt_10 : decode b_Co_stepAt 10 = .ok (.aload_n 0, 1) := by decide +kernel
theorem d_Co_stepAt_11 : decode b_Co_stepAt 11 = .ok (.getfield 9, 3) := by decide +kernel
theorem d_Co_stepAt_14 : decode b_Co_stepAt 14 = .ok (.iload_n 1, 1) := by decide +kernel
theorem d_Co_stepAt_15 : decode b_Co_stepAt 15 = .ok (.baload, 1) := by decide +kernel
theorem d_Co_stepAt_16 : decode b_Co_stepAt 16 = .ok (.goto (5), 3) := by decide +kernel
theorem d_Co_stepAt_19 : decode b_Co_stepAt 19 = .ok (.bipush (12), 2) := by decide +kernel
theorem d_Co_stepAt_21 : decode b_Co_stepAt 21 = .ok (.ireturn, 1) := by decide +kernel
def F_Co_stepAt (w : AW) (a0 : Nat) (x1 : Int32) : Option (Int32) :=
  if (F_A_within x1 (0 : Int32) (79 : Int32)) = 0 then
    some (12 : Int32)
  else
    gd (wk w a0 == 6) <|
    gd (wk w (wr w a0 0) == 102) <|
    gd (inb x1 (wn w (wr w a0 0))) <|
    some (wi w (wr w a0 0) (Int32.toNatClampNeg x1))
theorem P_Co_stepAt_0 {X : AX} {l : Launch} {G : AG} {w : AW} (hX : XOK X b_Co_stepAt "RedSky$Condition" 2) (hM : XM X l G { frames := 1, cells := 0, slots := 0, locals := 22 }) {o : Int32} (hR : XR X (some .int) 0 0 (some (vi o)) w) (a0 : Nat) (x1 : Int32) (h : F_Co_stepAt w a0 x1 = some o) : RJ X 2 0 0 0 [(0, vr a0), (1, vi x1)] [] w := by
  unfold F_Co_stepAt at h
  refine r_iload_n (i := 1) hX d_Co_stepAt_0 1 rfl rfl ?_
  refine r_iconst (v := (0 : Int32)) hX d_Co_stepAt_1 rfl ?_
  refine r_bipush (v := (79 : Int32)) hX d_Co_stepAt_2 rfl ?_
  refine r_callSN1 (As := [_, _, _]) hX hM mw_Co_36 (T_A_within _ _ _ _) rfl rfl ⟨Nat.le_refl _, Nat.le_refl _⟩ rfl rfl d_Co_stepAt_4 ?_
  refine r_if_eq hX d_Co_stepAt_7 rfl h (fun h => ?_) (fun h => ?_)
  · refine r_bipush (v := (12 : Int32)) hX d_Co_stepAt_19 rfl ?_
    cases h; exact r_iret hX hR d_Co_stepAt_21
  · refine r_aload_n (i := 0) hX d_Co_stepAt_10 0 rfl rfl ?_
    obtain ⟨hk1, h⟩ := gd_e h
    refine r_getR (i := 5) (f := 0) hX ci_5 (by decide) rfl fl_Co_9 hk1 d_Co_stepAt_11 ?_
    refine r_iload_n (i := 1) hX d_Co_stepAt_14 1 rfl rfl ?_
    obtain ⟨hk2, h⟩ := gd_e h
    obtain ⟨hg3, h⟩ := gd_e h
    refine r_bald hX hk2 hg3 d_Co_stepAt_15 ?_
    refine r_goto hX d_Co_stepAt_16 rfl ?_
    cases h; exact r_iret hX hR d_Co_stepAt_21
theorem T_Co_stepAt {l : Launch} {G : AG} (w : AW) (a0 : Nat) (x1 : Int32) {o : Int32} (h : F_Co_stepAt w a0 x1 = some o) : Mt l G y_Co_stepAt b_Co_stepAt 2 (some (.int)) 1 22 0 0 [vr a0, vi x1] w (some (vi o)) w := mt_of (by decide) (Nat.le_of_ble_eq_true rfl) (fun X hX hR hM hI => P_Co_stepAt_0 hX hM hR _ _ h)
/-! RedSky$Condition.fieldOf(I)I -/
theorem d_Co_fieldOf_0 : decode b_Co_fieldOf 0 = .ok (.iload_n 0, 1) := by decide +kernel
theorem d_Co_fieldOf_1 : decode b_Co_fieldOf 1 = .ok (.iconst 3, 1) := by decide +kernel
theorem d_Co_fieldOf_2 : decode b_Co_fieldOf 2 = .ok (.idiv, 1) := by decide +kernel
theorem d_Co_fieldOf_3 : decode b_Co_fieldOf 3 = .ok (.ireturn, 1) := by decide +kernel
def Fo_Co_fieldOf (w : AW) (x0 : Int32) : Option (Int32) :=
  some (x0 / (3 : Int32))
theorem P_Co_fieldOf_0 {X : AX} {l : Launch} {G : AG} {w : AW} (hX : XOK X b_Co_fieldOf "RedSky$Condition" 1) (hM : XM X l G { frames := 0, cells := 0, slots := 0, locals := 0 }) {o : Int32} (hR : XR X (some .int) 0 0 (some (vi o)) w) (x0 : Int32) (h : Fo_Co_fieldOf w x0 = some o) : RJ X 1 0 0 0 [(0, vi x0)] [] w := by
  unfold Fo_Co_fieldOf at h
  refine r_iload_n (i := 0) hX d_Co_fieldOf_0 0 rfl rfl ?_
  refine r_iconst (v := (3 : Int32)) hX d_Co_fieldOf_1 rfl ?_
  refine r_idiv hX d_Co_fieldOf_2 (by decide) ?_
  cases h; exact r_iret hX hR d_Co_fieldOf_3
def F_Co_fieldOf (x0 : Int32) : Int32 :=
  (x0 / (3 : Int32))
theorem E_Co_fieldOf (w : AW) (x0 : Int32) : Fo_Co_fieldOf w x0 = some (F_Co_fieldOf x0) := by
  simp only [Fo_Co_fieldOf, F_Co_fieldOf, apply_ite (some : Int32 → Option Int32)]
theorem T_Co_fieldOf {l : Launch} {G : AG} (x0 : Int32) (w : AW)  : Mt l G y_Co_fieldOf b_Co_fieldOf 1 (some (.int)) 0 0 0 0 [vi x0] w (some (vi (F_Co_fieldOf x0))) w := mt_of (by decide) (Nat.le_of_ble_eq_true rfl) (fun X hX hR hM hI => P_Co_fieldOf_0 hX hM hR _ (E_Co_fieldOf _ _))
