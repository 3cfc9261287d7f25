/-! RedSky$Page.endTerm()V -/
theorem d_Pg_endTerm_0 : decode b_Pg_endTerm 0 = .ok (.aload_n 0, 1) := by decide +kernel
theorem d_Pg_endTerm_1 : decode b_Pg_endTerm 1 = .ok (.invokevirtual 149, 3) := by decide +kernel
theorem d_Pg_endTerm_4 : decode b_Pg_endTerm 4 = .ok (.istore_n 1, 1) := by decide +kernel
theorem d_Pg_endTerm_5 : decode b_Pg_endTerm 5 = .ok (.aload_n 0, 1) := by decide +kernel
theorem d_Pg_endTerm_6 : decode b_Pg_endTerm 6 = .ok (.getfield 68, 3) := by decide +kernel
theorem d_Pg_endTerm_9 : decode b_Pg_endTerm 9 = .ok (.iload_n 1, 1) := by decide +kernel
theorem d_Pg_endTerm_10 : decode b_Pg_endTerm 10 = .ok (.iaload, 1) := by decide +kernel
theorem d_Pg_endTerm_11 : decode b_Pg_endTerm 11 = .ok (.ifCond .le (12), 3) := by decide +kernel
theorem d_Pg_endTerm_14 : decode b_Pg_endTerm 14 = .ok (.aload_n 0, 1) := by decide +kernel
theorem d_Pg_endTerm_15 : decode b_Pg_endTerm 15 = .ok (.getfield 30, 3) := by decide +kernel
theorem d_Pg_endTerm_18 : decode b_Pg_endTerm 18 = .ok (.bipush (14), 2) := by decide +kernel
theorem d_Pg_endTerm_20 : decode b_Pg_endTerm 20 = .ok (.invokevirtual 176, 3) := by decide +kernel
theorem d_Pg_endTerm_23 : decode b_Pg_endTerm 23 = .ok (.aload_n 0, 1) := by decide +kernel
theorem d_Pg_endTerm_24 : decode b_Pg_endTerm 24 = .ok (.getfield 68, 3) := by decide +kernel
theorem d_Pg_endTerm_27 : decode b_Pg_endTerm 27 = .ok (.iload_n 1, 1) := by decide +kernel
theorem d_Pg_endTerm_28 : decode b_Pg_endTerm 28 = .ok (.dup2, 1) := by decide +kernel
theorem d_Pg_endTerm_29 : decode b_Pg_endTerm 29 = .ok (.iaload, 1) := by decide +kernel
theorem d_Pg_endTerm_30 : decode b_Pg_endTerm 30 = .ok (.iconst 1, 1) := by decide +kernel
theorem d_Pg_endTerm_31 : decode b_Pg_endTerm 31 = .ok (.iadd, 1) := by decide +kernel
theorem d_Pg_endTerm_32 : decode b_Pg_endTerm 32 = .ok (.iastore, 1) := by decide +kernel
theorem d_Pg_endTerm_33 : decode b_Pg_endTerm 33 = .ok (.aload_n 0, 1) := by decide +kernel
theorem d_Pg_endTerm_34 : decode b_Pg_endTerm 34 = .ok (.getfield 62, 3) := by decide +kernel
theorem d_Pg_endTerm_37 : decode b_Pg_endTerm 37 = .ok (.iload_n 1, 1) := by decide +kernel
theorem d_Pg_endTerm_38 : decode b_Pg_endTerm 38 = .ok (.iaload, 1) := by decide +kernel
theorem d_Pg_endTerm_39 : decode b_Pg_endTerm 39 = .ok (.iconst 1, 1) := by decide +kernel
theorem d_Pg_endTerm_40 : decode b_Pg_endTerm 40 = .ok (.if_icmp .le (14), 3) := by decide +kernel
theorem d_Pg_endTerm_43 : decode b_Pg_endTerm 43 = .ok (.aload_n 0, 1) := by decide +kernel
theorem d_Pg_endTerm_44 : decode b_Pg_endTerm 44 = .ok (.getfield 65, 3) := by decide +kernel
theorem d_Pg_endTerm_47 : decode b_Pg_endTerm 47 = .ok (.iload_n 1, 1) := by decide +kernel
theorem d_Pg_endTerm_48 : decode b_Pg_endTerm 48 = .ok (.iaload, 1) := by decide +kernel
theorem d_Pg_endTerm_49 : decode b_Pg_endTerm 49 = .ok (.iconst 1, 1) := by decide +kernel
theorem d_Pg_endTerm_50 : decode b_Pg_endTerm 50 = .ok (.iadd, 1) := by decide +kernel
theorem d_Pg_endTerm_51 : decode b_Pg_endTerm 51 = .ok (.goto (9), 3) := by decide +kernel
theorem d_Pg_endTerm_54 : decode b_Pg_endTerm 54 = .ok (.aload_n 0, 1) := by decide +kernel
theorem d_Pg_endTerm_55 : decode b_Pg_endTerm 55 = .ok (.getfield 65, 3) := by decide +kernel
theorem d_Pg_endTerm_58 : decode b_Pg_endTerm 58 = .ok (.iload_n 1, 1) := by decide +kernel
theorem d_Pg_endTerm_59 : decode b_Pg_endTerm 59 = .ok (.iaload, 1) := by decide +kernel
theorem d_Pg_endTerm_60 : decode b_Pg_endTerm 60 = .ok (.istore_n 2, 1) := by decide +kernel
theorem d_Pg_endTerm_61 : decode b_Pg_endTerm 61 = .ok (.aload_n 0, 1) := by decide +kernel
theorem d_Pg_endTerm_62 : decode b_Pg_endTerm 62 = .ok (.getfield 71, 3) := by decide +kernel
theorem d_Pg_endTerm_65 : decode b_Pg_endTerm 65 = .ok (.iload_n 1, 1) := by decide +kernel
theorem d_Pg_endTerm_66 : decode b_Pg_endTerm 66 = .ok (.aload_n 0, 1) := by decide +kernel
theorem d_Pg_endTerm_67 : decode b_Pg_endTerm 67 = .ok (.getfield 71, 3) := by decide +kernel
theorem d_Pg_endTerm_70 : decode b_Pg_endTerm 70 = .ok (.iload_n 1, 1) := by decide +kernel
theorem d_Pg_endTerm_71 : decode b_Pg_endTerm 71 = .ok (.iaload, 1) := by decide +kernel
theorem d_Pg_endTerm_72 : decode b_Pg_endTerm 72 = .ok (.iload_n 2, 1) := by decide +kernel
theorem d_Pg_endTerm_73 : decode b_Pg_endTerm 73 = .ok (.invokestatic 179, 3) := by decide +kernel
theorem d_Pg_endTerm_76 : decode b_Pg_endTerm 76 = .ok (.iastore, 1) := by decide +kernel
theorem d_Pg_endTerm_77 : decode b_Pg_endTerm 77 = .ok (.aload_n 0, 1) := by decide +kernel
theorem d_Pg_endTerm_78 : decode b_Pg_endTerm 78 = .ok (.getfield 62, 3) := by decide +kernel
theorem d_Pg_endTerm_81 : decode b_Pg_endTerm 81 = .ok (.iload_n 1, 1) := by decide +kernel
theorem d_Pg_endTerm_82 : decode b_Pg_endTerm 82 = .ok (.iconst 0, 1) := by decide +kernel
theorem d_Pg_endTerm_83 : decode b_Pg_endTerm 83 = .ok (.iastore, 1) := by decide +kernel
theorem d_Pg_endTerm_84 : decode b_Pg_endTerm 84 = .ok (.aload_n 0, 1) := by decide +kernel
theorem d_Pg_endTerm_85 : decode b_Pg_endTerm 85 = .ok (.getfield 65, 3) := by decide +kernel
theorem d_Pg_endTerm_88 : decode b_Pg_endTerm 88 = .ok (.iload_n 1, 1) := by decide +kernel
theorem d_Pg_endTerm_89 : decode b_Pg_endTerm 89 = .ok (.iconst 0, 1) := by decide +kernel
theorem d_Pg_endTerm_90 : decode b_Pg_endTerm 90 = .ok (.iastore, 1) := by decide +kernel
theorem d_Pg_endTerm_91 : decode b_Pg_endTerm 91 = .ok (.return_, 1) := by decide +kernel
def F_Pg_endTerm_60 (a0 : Nat) (x1 : Int32) (s0 : Int32) (w : AW) : Option (AW) :=
  gd (wk w a0 == 4) <|
  gd (wk w (wr w a0 16) == 100) <|
  gd (inb x1 (wn w (wr w a0 16))) <|
  gd (inb x1 (wn w (wr w a0 16))) <|
  let w5 : AW := upI w (wr w a0 16) (Int32.toNatClampNeg x1) (F_Jmath_max (wi w (wr w a0 16) (Int32.toNatClampNeg x1)) s0)
  gd (wk w5 (wr w5 a0 13) == 100) <|
  gd (inb x1 (wn w5 (wr w5 a0 13))) <|
  let w8 : AW := upI w5 (wr w5 a0 13) (Int32.toNatClampNeg x1) (0 : Int32)
  gd (wk w8 (wr w8 a0 14) == 100) <|
  gd (inb x1 (wn w8 (wr w8 a0 14))) <|
  let w11 : AW := upI w8 (wr w8 a0 14) (Int32.toNatClampNeg x1) (0 : Int32)
  some w11
theorem P_Pg_endTerm_60 {X : AX} {l : Launch} {G : AG} (hX : XOK X b_Pg_endTerm "RedSky$Page" 3) (hM : XM X l G { frames := 1, cells := 0, slots := 0, locals := 21 }) {o : AW} (hR : XR X none 0 0 none o) (a0 : Nat) (x1 : Int32) (s0 : Int32) (w : AW) (h : F_Pg_endTerm_60 a0 x1 s0 w = some o) : RJ X 3 0 0 60 [(0, vr a0), (1, vi x1)] [vi s0] w := by
  unfold F_Pg_endTerm_60 at h
  refine r_istore_n (i := 2) hX d_Pg_endTerm_60 rfl (by decide) ?_
  refine r_aload_n (i := 0) hX d_Pg_endTerm_61 1 rfl rfl ?_
  obtain ⟨hk1, h⟩ := gd_e h
  refine r_getR (i := 3) (f := 16) hX ci_3 (by decide) rfl fl_Pg_71 hk1 d_Pg_endTerm_62 ?_
  refine r_iload_n (i := 1) hX d_Pg_endTerm_65 2 rfl rfl ?_
  refine r_aload_n (i := 0) hX d_Pg_endTerm_66 1 rfl rfl ?_
  refine r_getR (i := 3) (f := 16) hX ci_3 (by decide) rfl fl_Pg_71 hk1 d_Pg_endTerm_67 ?_
  refine r_iload_n (i := 1) hX d_Pg_endTerm_70 2 rfl rfl ?_
  obtain ⟨hk2, h⟩ := gd_e h
  obtain ⟨hg3, h⟩ := gd_e h
  refine r_iald hX hk2 hg3 d_Pg_endTerm_71 ?_
  refine r_iload_n (i := 2) hX d_Pg_endTerm_72 0 rfl rfl ?_
  refine r_max hX hM mx_Pg_179 rfl rfl ⟨Nat.le_refl _, Nat.le_refl _⟩ d_Pg_endTerm_73 ?_
  obtain ⟨hg4, h⟩ := gd_e h
  refine r_iast hX hk2 hg4 d_Pg_endTerm_76 ?_
  refine r_aload_n (i := 0) hX d_Pg_endTerm_77 1 rfl rfl ?_
  refine r_getR (i := 3) (f := 13) hX ci_3 (by decide) rfl fl_Pg_62 (kI hk1) d_Pg_endTerm_78 ?_
  refine r_iload_n (i := 1) hX d_Pg_endTerm_81 2 rfl rfl ?_
  refine r_iconst (v := (0 : Int32)) hX d_Pg_endTerm_82 rfl ?_
  obtain ⟨hk6, h⟩ := gd_e h
  obtain ⟨hg7, h⟩ := gd_e h
  refine r_iast hX hk6 hg7 d_Pg_endTerm_83 ?_
  refine r_aload_n (i := 0) hX d_Pg_endTerm_84 1 rfl rfl ?_
  refine r_getR (i := 3) (f := 14) hX ci_3 (by decide) rfl fl_Pg_65 (kI (kI hk1)) d_Pg_endTerm_85 ?_
  refine r_iload_n (i := 1) hX d_Pg_endTerm_88 2 rfl rfl ?_
  refine r_iconst (v := (0 : Int32)) hX d_Pg_endTerm_89 rfl ?_
  obtain ⟨hk9, h⟩ := gd_e h
  obtain ⟨hg10, h⟩ := gd_e h
  refine r_iast hX hk9 hg10 d_Pg_endTerm_90 ?_
  cases h; exact r_vret hX hR d_Pg_endTerm_91
def F_Pg_endTerm_23 (a0 : Nat) (x1 : Int32) (w : AW) : Option (AW) :=
  gd (wk w a0 == 4) <|
  gd (wk w (wr w a0 15) == 100) <|
  gd (inb x1 (wn w (wr w a0 15))) <|
  gd (inb x1 (wn w (wr w a0 15))) <|
  let w5 : AW := upI w (wr w a0 15) (Int32.toNatClampNeg x1) ((wi w (wr w a0 15) (Int32.toNatClampNeg x1)) + (1 : Int32))
  gd (wk w5 (wr w5 a0 13) == 100) <|
  gd (inb x1 (wn w5 (wr w5 a0 13))) <|
  if (wi w5 (wr w5 a0 13) (Int32.toNatClampNeg x1)) ≤ (1 : Int32) then
    gd (wk w5 (wr w5 a0 14) == 100) <|
    gd (inb x1 (wn w5 (wr w5 a0 14))) <|
    F_Pg_endTerm_60 a0 x1 (wi w5 (wr w5 a0 14) (Int32.toNatClampNeg x1)) w5
  else
    gd (wk w5 (wr w5 a0 14) == 100) <|
    gd (inb x1 (wn w5 (wr w5 a0 14))) <|
    F_Pg_endTerm_60 a0 x1 ((wi w5 (wr w5 a0 14) (Int32.toNatClampNeg x1)) + (1 : Int32)) w5
theorem P_Pg_endTerm_23 {X : AX} {l : Launch} {G : AG} (hX : XOK X b_Pg_endTerm "RedSky$Page" 3) (hM : XM X l G { frames := 1, cells := 0, slots := 0, locals := 21 }) {o : AW} (hR : XR X none 0 0 none o) (a0 : Nat) (x1 : Int32) (w : AW) (h : F_Pg_endTerm_23 a0 x1 w = some o) : RJ X 3 0 0 23 [(0, vr a0), (1, vi x1)] [] w := by
  unfold F_Pg_endTerm_23 at h
  refine r_aload_n (i := 0) hX d_Pg_endTerm_23 0 rfl rfl ?_
  obtain ⟨hk1, h⟩ := gd_e h
  refine r_getR (i := 3) (f := 15) hX ci_3 (by decide) rfl fl_Pg_68 hk1 d_Pg_endTerm_24 ?_
  refine r_iload_n (i := 1) hX d_Pg_endTerm_27 1 rfl rfl ?_
  refine r_dup2 hX d_Pg_endTerm_28 rfl rfl ?_
  obtain ⟨hk2, h⟩ := gd_e h
  obtain ⟨hg3, h⟩ := gd_e h
  refine r_iald hX hk2 hg3 d_Pg_endTerm_29 ?_
  refine r_iconst (v := (1 : Int32)) hX d_Pg_endTerm_30 rfl ?_
  refine r_iadd hX d_Pg_endTerm_31 ?_
  obtain ⟨hg4, h⟩ := gd_e h
  refine r_iast hX hk2 hg4 d_Pg_endTerm_32 ?_
  refine r_aload_n (i := 0) hX d_Pg_endTerm_33 0 rfl rfl ?_
  refine r_getR (i := 3) (f := 13) hX ci_3 (by decide) rfl fl_Pg_62 (kI hk1) d_Pg_endTerm_34 ?_
  refine r_iload_n (i := 1) hX d_Pg_endTerm_37 1 rfl rfl ?_
  obtain ⟨hk6, h⟩ := gd_e h
  obtain ⟨hg7, h⟩ := gd_e h
  refine r_iald hX hk6 hg7 d_Pg_endTerm_38 ?_
  refine r_iconst (v := (1 : Int32)) hX d_Pg_endTerm_39 rfl ?_
  refine r_icmp_le hX d_Pg_endTerm_40 rfl h (fun h => ?_) (fun h => ?_)
  · refine r_aload_n (i := 0) hX d_Pg_endTerm_54 0 rfl rfl ?_
    refine r_getR (i := 3) (f := 14) hX ci_3 (by decide) rfl fl_Pg_65 (kI hk1) d_Pg_endTerm_55 ?_
    refine r_iload_n (i := 1) hX d_Pg_endTerm_58 1 rfl rfl ?_
    obtain ⟨hk8, h⟩ := gd_e h
    obtain ⟨hg9, h⟩ := gd_e h
    refine r_iald hX hk8 hg9 d_Pg_endTerm_59 ?_
    exact rj_sub [0, 1] rfl (P_Pg_endTerm_60 hX hM hR _ _ _ _ h)
  · refine r_aload_n (i := 0) hX d_Pg_endTerm_43 0 rfl rfl ?_
    refine r_getR (i := 3) (f := 14) hX ci_3 (by decide) rfl fl_Pg_65 (kI hk1) d_Pg_endTerm_44 ?_
    refine r_iload_n (i := 1) hX d_Pg_endTerm_47 1 rfl rfl ?_
    obtain ⟨hk10, h⟩ := gd_e h
    obtain ⟨hg11, h⟩ := gd_e h
    refine r_iald hX hk10 hg11 d_Pg_endTerm_48 ?_
    refine r_iconst (v := (1 : Int32)) hX d_Pg_endTerm_49 rfl ?_
    refine r_iadd hX d_Pg_endTerm_50 ?_
    refine r_goto hX d_Pg_endTerm_51 rfl ?_
    exact rj_sub [0, 1] rfl (P_Pg_endTerm_60 hX hM hR _ _ _ _ h)
def F_Pg_endTerm (a0 : Nat) (w : AW) : Option (AW) :=
  gd (wk w a0 == 4) <|
  (F_Pg_level w a0).bind fun r2 =>
  gd (wk w (wr w a0 15) == 100) <|
  gd (inb r2 (wn w (wr w a0 15))) <|
  if (wi w (wr w a0 15) (Int32.toNatClampNeg r2)) ≤ 0 then
    F_Pg_endTerm_23 a0 r2 w
  else
    gd (wk w (wr w a0 3) == 6) <|
    (F_Co_addStep (wr w a0 3) (14 : Int32) w).bind fun r7 =>
    F_Pg_endTerm_23 a0 r2 r7
theorem P_Pg_endTerm_0 {X : AX} {l : Launch} {G : AG} (hX : XOK X b_Pg_endTerm "RedSky$Page" 3) (hM : XM X l G { frames := 1, cells := 0, slots := 0, locals := 21 }) {o : AW} (hR : XR X none 0 0 none o) (a0 : Nat) (w : AW) (h : F_Pg_endTerm a0 w = some o) : RJ X 3 0 0 0 [(0, vr a0)] [] w := by
  unfold F_Pg_endTerm at h
  refine r_aload_n (i := 0) hX d_Pg_endTerm_0 0 rfl rfl ?_
  obtain ⟨hk1, h⟩ := gd_e h
  obtain ⟨r2, hr3, h⟩ := bd_e h
  refine r_callV1 (As := []) hX hM mw_Pg_149 (T_Pg_level _ _ hr3) (rc_of ci_3 hk1) rfl rfl ⟨Nat.le_refl _, Nat.le_refl _⟩ rfl rfl d_Pg_endTerm_1 ?_
  refine r_istore_n (i := 1) hX d_Pg_endTerm_4 rfl (by decide) ?_
  refine r_aload_n (i := 0) hX d_Pg_endTerm_5 1 rfl rfl ?_
  refine r_getR (i := 3) (f := 15) hX ci_3 (by decide) rfl fl_Pg_68 hk1 d_Pg_endTerm_6 ?_
  refine r_iload_n (i := 1) hX d_Pg_endTerm_9 0 rfl rfl ?_
  obtain ⟨hk4, h⟩ := gd_e h
  obtain ⟨hg5, h⟩ := gd_e h
  refine r_iald hX hk4 hg5 d_Pg_endTerm_10 ?_
  refine r_if_le hX d_Pg_endTerm_11 rfl h (fun h => ?_) (fun h => ?_)
  · exact rj_sub [1, 0] rfl (P_Pg_endTerm_23 hX hM hR _ _ _ h)
  · refine r_aload_n (i := 0) hX d_Pg_endTerm_14 1 rfl rfl ?_
    refine r_getR (i := 3) (f := 3) hX ci_3 (by decide) rfl fl_Pg_30 hk1 d_Pg_endTerm_15 ?_
    refine r_bipush (v := (14 : Int32)) hX d_Pg_endTerm_18 rfl ?_
    obtain ⟨hk6, h⟩ := gd_e h
    obtain ⟨r7, hr8, h⟩ := bd_e h
    refine r_callV0 (As := [_]) hX hM mw_Pg_176 (T_Co_addStep _ _ _ hr8) (rc_of ci_5 hk6) rfl rfl ⟨Nat.le_refl _, Nat.le_refl _⟩ rfl rfl d_Pg_endTerm_20 ?_
    exact rj_sub [1, 0] rfl (P_Pg_endTerm_23 hX hM hR _ _ _ h)
theorem T_Pg_endTerm {l : Launch} {G : AG} (a0 : Nat) (w : AW) {o : AW} (h : F_Pg_endTerm a0 w = some o) : Mt l G y_Pg_endTerm b_Pg_endTerm 3 none 1 21 0 0 [vr a0] w none o := mt_of (by decide) (Nat.le_of_ble_eq_true rfl) (fun X hX hR hM hI => P_Pg_endTerm_0 hX hM hR _ _ h)
/-! RedSky$Page.endLevel()I -/
theorem d_Pg_endLevel_0 : decode b_Pg_endLevel 0 = .ok (.aload_n 0, 1) := by decide +kernel
theorem d_Pg_endLevel_1 : decode b_Pg_endLevel 1 = .ok (.invokevirtual 184, 3) := by decide +kernel
theorem d_Pg_endLevel_4 : decode b_Pg_endLevel 4 = .ok (.aload_n 0, 1) := by decide +kernel
theorem d_Pg_endLevel_5 : decode b_Pg_endLevel 5 = .ok (.invokevirtual 149, 3) := by decide +kernel
theorem d_Pg_endLevel_8 : decode b_Pg_endLevel 8 = .ok (.istore_n 1, 1) := by decide +kernel
theorem d_Pg_endLevel_9 : decode b_Pg_endLevel 9 = .ok (.aload_n 0, 1) := by decide +kernel
theorem d_Pg_endLevel_10 : decode b_Pg_endLevel 10 = .ok (.getfield 68, 3) := by decide +kernel
theorem d_Pg_endLevel_13 : decode b_Pg_endLevel 13 = .ok (.iload_n 1, 1) := by decide +kernel
theorem d_Pg_endLevel_14 : decode b_Pg_endLevel 14 = .ok (.iaload, 1) := by decide +kernel
theorem d_Pg_endLevel_15 : decode b_Pg_endLevel 15 = .ok (.iconst 1, 1) := by decide +kernel
theorem d_Pg_endLevel_16 : decode b_Pg_endLevel 16 = .ok (.if_icmp .le (14), 3) := by decide +kernel
theorem d_Pg_endLevel_19 : decode b_Pg_endLevel 19 = .ok (.aload_n 0, 1) := by decide +kernel
theorem d_Pg_endLevel_20 : decode b_Pg_endLevel 20 = .ok (.getfield 71, 3) := by decide +kernel
theorem d_Pg_endLevel_23 : decode b_Pg_endLevel 23 = .ok (.iload_n 1, 1) := by decide +kernel
theorem d_Pg_endLevel_24 : decode b_Pg_endLevel 24 = .ok (.iaload, 1) := by decide +kernel
theorem d_Pg_endLevel_25 : decode b_Pg_endLevel 25 = .ok (.iconst 1, 1) := by decide +kernel
theorem d_Pg_endLevel_26 : decode b_Pg_endLevel 26 = .ok (.iadd, 1) := by decide +kernel
theorem d_Pg_endLevel_27 : decode b_Pg_endLevel 27 = .ok (.goto (9), 3) := by decide +kernel
theorem d_Pg_endLevel_30 : decode b_Pg_endLevel 30 = .ok (.aload_n 0, 1) := by decide +kernel
theorem d_Pg_endLevel_31 : decode b_Pg_endLevel 31 = .ok (.getfield 71, 3) := by decide +kernel
theorem d_Pg_endLevel_34 : decode b_Pg_endLevel 34 = .ok (.iload_n 1, 1) := by decide +kernel
theorem d_Pg_endLevel_35 : decode b_Pg_endLevel 35 = .ok (.iaload, 1) := by decide +kernel
theorem d_Pg_endLevel_36 : decode b_Pg_endLevel 36 = .ok (.ireturn, 1) := by decide +kernel
def F_Pg_endLevel (a0 : Nat) (w : AW) : Option (Int32 × AW) :=
  gd (wk w a0 == 4) <|
  (F_Pg_endTerm a0 w).bind fun r2 =>
  gd (wk r2 a0 == 4) <|
  (F_Pg_level r2 a0).bind fun r5 =>
  gd (wk r2 (wr r2 a0 15) == 100) <|
  gd (inb r5 (wn r2 (wr r2 a0 15))) <|
  if (wi r2 (wr r2 a0 15) (Int32.toNatClampNeg r5)) ≤ (1 : Int32) then
    gd (wk r2 (wr r2 a0 16) == 100) <|
    gd (inb r5 (wn r2 (wr r2 a0 16))) <|
    some ((wi r2 (wr r2 a0 16) (Int32.toNatClampNeg r5)), r2)
  else
    gd (wk r2 (wr r2 a0 16) == 100) <|
    gd (inb r5 (wn r2 (wr r2 a0 16))) <|
    some (((wi r2 (wr r2 a0 16) (Int32.toNatClampNeg r5)) + (1 : Int32)), r2)
theorem P_Pg_endLevel_0 {X : AX} {l : Launch} {G : AG} (hX : XOK X b_Pg_endLevel "RedSky$Page" 2) (hM : XM X l G { frames := 2, cells := 0, slots := 0, locals := 43 }) {o : Int32 × AW} (hR : XR X (some .int) 0 0 (some (vi o.1)) o.2) (a0 : Nat) (w : AW) (h : F_Pg_endLevel a0 w = some o) : RJ X 2 0 0 0 [(0, vr a0)] [] w := by
  unfold F_Pg_endLevel at h
  refine r_aload_n (i := 0) hX d_Pg_endLevel_0 0 rfl rfl ?_
  obtain ⟨hk1, h⟩ := gd_e h
  obtain ⟨r2, hr3, h⟩ := bd_e h
  refine r_callV0 (As := []) hX hM mw_Pg_184 (T_Pg_endTerm _ _ hr3) (rc_of ci_3 hk1) rfl rfl ⟨Nat.le_refl _, Nat.le_refl _⟩ rfl rfl d_Pg_endLevel_1 ?_
  refine r_aload_n (i := 0) hX d_Pg_endLevel_4 0 rfl rfl ?_
  obtain ⟨hk4, h⟩ := gd_e h
  obtain ⟨r5, hr6, h⟩ := bd_e h
  refine r_callV1 (As := []) hX hM mw_Pg_149 (T_Pg_level _ _ hr6) (rc_of ci_3 hk4) rfl rfl ⟨Nat.le_refl _, Nat.le_refl _⟩ rfl rfl d_Pg_endLevel_5 ?_
  refine r_istore_n (i := 1) hX d_Pg_endLevel_8 rfl (by decide) ?_
  refine r_aload_n (i := 0) hX d_Pg_endLevel_9 1 rfl rfl ?_
  refine r_getR (i := 3) (f := 15) hX ci_3 (by decide) rfl fl_Pg_68 hk4 d_Pg_endLevel_10 ?_
  refine r_iload_n (i := 1) hX d_Pg_endLevel_13 0 rfl rfl ?_
  obtain ⟨hk7, h⟩ := gd_e h
  obtain ⟨hg8, h⟩ := gd_e h
  refine r_iald hX hk7 hg8 d_Pg_endLevel_14 ?_
  refine r_iconst (v := (1 : Int32)) hX d_Pg_endLevel_15 rfl ?_
  refine r_icmp_le hX d_Pg_endLevel_16 rfl h (fun h => ?_) (fun h => ?_)
  · refine r_aload_n (i := 0) hX d_Pg_endLevel_30 1 rfl rfl ?_
    refine r_getR (i := 3) (f := 16) hX ci_3 (by decide) rfl fl_Pg_71 hk4 d_Pg_endLevel_31 ?_
    refine r_iload_n (i := 1) hX d_Pg_endLevel_34 0 rfl rfl ?_
    obtain ⟨hk9, h⟩ := gd_e h
    obtain ⟨hg10, h⟩ := gd_e h
    refine r_iald hX hk9 hg10 d_Pg_endLevel_35 ?_
    cases h; exact r_iret hX hR d_Pg_endLevel_36
  · refine r_aload_n (i := 0) hX d_Pg_endLevel_19 1 rfl rfl ?_
    refine r_getR (i := 3) (f := 16) hX ci_3 (by decide) rfl fl_Pg_71 hk4 d_Pg_endLevel_20 ?_
    refine r_iload_n (i := 1) hX d_Pg_endLevel_23 0 rfl rfl ?_
    obtain ⟨hk11, h⟩ := gd_e h
    obtain ⟨hg12, h⟩ := gd_e h
    refine r_iald hX hk11 hg12 d_Pg_endLevel_24 ?_
    refine r_iconst (v := (1 : Int32)) hX d_Pg_endLevel_25 rfl ?_
    refine r_iadd hX d_Pg_endLevel_26 ?_
    refine r_goto hX d_Pg_endLevel_27 rfl ?_
    cases h; exact r_iret hX hR d_Pg_endLevel_36
theorem T_Pg_endLevel {l : Launch} {G : AG} (a0 : Nat) (w : AW) {o : Int32 × AW} (h : F_Pg_endLevel a0 w = some o) : Mt l G y_Pg_endLevel b_Pg_endLevel 2 (some (.int)) 2 43 0 0 [vr a0] w (some (vi o.1)) o.2 := mt_of (by decide) (Nat.le_of_ble_eq_true rfl) (fun X hX hR hM hI => P_Pg_endLevel_0 hX hM hR _ _ h)
/-! RedSky$Page.closes()Z -/
theorem d_Pg_closes_0 : decode b_Pg_closes 0 = .ok (.aload_n 0, 1) := by decide +kernel
theorem d_Pg_closes_1 : decode b_Pg_closes 1 = .ok (.invokevirtual 99, 3) := by decide +kernel
theorem d_Pg_closes_4 : decode b_Pg_closes 4 = .ok (.istore_n 1, 1) := by decide +kernel
theorem d_Pg_closes_5 : decode b_Pg_closes 5 = .ok (.aload_n 0, 1) := by decide +kernel
theorem d_Pg_closes_6 : decode b_Pg_closes 6 = .ok (.dup, 1) := by decide +kernel
theorem d_Pg_closes_7 : decode b_Pg_closes 7 = .ok (.getfield 55, 3) := by decide +kernel
theorem d_Pg_closes_10 : decode b_Pg_closes 10 = .ok (.iconst 1, 1) := by decide +kernel
theorem d_Pg_closes_11 : decode b_Pg_closes 11 = .ok (.isub, 1) := by decide +kernel
theorem d_Pg_closes_12 : decode b_Pg_closes 12 = .ok (.putfield 55, 3) := by decide +kernel
theorem d_Pg_closes_15 : decode b_Pg_closes 15 = .ok (.aload_n 0, 1) := by decide +kernel
theorem d_Pg_closes_16 : decode b_Pg_closes 16 = .ok (.iload_n 1, 1) := by decide +kernel
theorem d_Pg_closes_17 : decode b_Pg_closes 17 = .ok (.invokevirtual 172, 3) := by decide +kernel
theorem d_Pg_closes_20 : decode b_Pg_closes 20 = .ok (.iconst 1, 1) := by decide +kernel
theorem d_Pg_closes_21 : decode b_Pg_closes 21 = .ok (.ireturn, 1) := by decide +kernel
def F_Pg_closes (a0 : Nat) (w : AW) : Option (Int32 × AW) :=
  gd (wk w a0 == 4) <|
  (F_Pg_endLevel a0 w).bind fun r2 =>
  let v4 : Int32 := r2.1
  gd (wk r2.2 a0 == 4) <|
  let w6 : AW := upI r2.2 a0 11 ((wi r2.2 a0 11) - (1 : Int32))
  (F_Pg_endFactor a0 v4 w6).bind fun r7 =>
  some ((1 : Int32), r7)
theorem P_Pg_closes_0 {X : AX} {l : Launch} {G : AG} (hX : XOK X b_Pg_closes "RedSky$Page" 2) (hM : XM X l G { frames := 3, cells := 0, slots := 0, locals := 64 }) {o : Int32 × AW} (hR : XR X (some .boolean) 0 0 (some (vi o.1)) o.2) (a0 : Nat) (w : AW) (h : F_Pg_closes a0 w = some o) : RJ X 2 0 0 0 [(0, vr a0)] [] w := by
  unfold F_Pg_closes at h
  refine r_aload_n (i := 0) hX d_Pg_closes_0 0 rfl rfl ?_
  obtain ⟨hk1, h⟩ := gd_e h
  obtain ⟨r2, hr3, h⟩ := bd_e h
  refine r_callV1 (As := []) hX hM mw_Pg_99 (T_Pg_endLevel _ _ hr3) (rc_of ci_3 hk1) rfl rfl ⟨Nat.le_refl _, Nat.le_refl _⟩ rfl rfl d_Pg_closes_1 ?_
  refine r_istore_n (i := 1) hX d_Pg_closes_4 rfl (by decide) ?_
  refine r_aload_n (i := 0) hX d_Pg_closes_5 1 rfl rfl ?_
  refine r_dup hX d_Pg_closes_6 rfl ?_
  obtain ⟨hk5, h⟩ := gd_e h
  refine r_getI (i := 3) (f := 11) hX ci_3 (by decide) rfl fl_Pg_55 hk5 d_Pg_closes_7 ?_
  refine r_iconst (v := (1 : Int32)) hX d_Pg_closes_10 rfl ?_
  refine r_isub hX d_Pg_closes_11 ?_
  refine r_putI (i := 3) (f := 11) hX ci_3 (by decide) rfl rfl (fun G => rfl) (fun G => rfl) fl_Pg_55 hk5 d_Pg_closes_12 ?_
  refine r_aload_n (i := 0) hX d_Pg_closes_15 1 rfl rfl ?_
  refine r_iload_n (i := 1) hX d_Pg_closes_16 0 rfl rfl ?_
  obtain ⟨r7, hr8, h⟩ := bd_e h
  refine r_callV0 (As := [_]) hX hM mw_Pg_172 (T_Pg_endFactor _ _ _ hr8) (rc_of ci_3 (kI hk5)) rfl rfl ⟨Nat.le_refl _, Nat.le_refl _⟩ rfl rfl d_Pg_closes_17 ?_
  refine r_iconst (v := (1 : Int32)) hX d_Pg_closes_20 rfl ?_
  cases h; exact r_zret hX hR rfl d_Pg_closes_21
theorem T_Pg_closes {l : Launch} {G : AG} (a0 : Nat) (w : AW) {o : Int32 × AW} (h : F_Pg_closes a0 w = some o) : Mt l G y_Pg_closes b_Pg_closes 2 (some (.boolean)) 3 64 0 0 [vr a0] w (some (vi o.1)) o.2 := mt_of (by decide) (Nat.le_of_ble_eq_true rfl) (fun X hX hR hM hI => P_Pg_closes_0 hX hM hR _ _ h)
/-! RedSky$Page.endsFirst()Z -/
theorem d_Pg_endsFirst_0 : decode b_Pg_endsFirst 0 = .ok (.aload_n 0, 1) := by decide +kernel
theorem d_Pg_endsFirst_1 : decode b_Pg_endsFirst 1 = .ok (.getfield 30, 3) := by decide +kernel
theorem d_Pg_endsFirst_4 : decode b_Pg_endsFirst 4 = .ok (.aload_n 0, 1) := by decide +kernel
theorem d_Pg_endsFirst_5 : decode b_Pg_endsFirst 5 = .ok (.invokevirtual 99, 3) := by decide +kernel
theorem d_Pg_endsFirst_8 : decode b_Pg_endsFirst 8 = .ok (.putfield 103, 3) := by decide +kernel
theorem d_Pg_endsFirst_11 : decode b_Pg_endsFirst 11 = .ok (.aload_n 0, 1) := by decide +kernel
theorem d_Pg_endsFirst_12 : decode b_Pg_endsFirst 12 = .ok (.iconst 5, 1) := by decide +kernel
theorem d_Pg_endsFirst_13 : decode b_Pg_endsFirst 13 = .ok (.invokevirtual 133, 3) := by decide +kernel
theorem d_Pg_endsFirst_16 : decode b_Pg_endsFirst 16 = .ok (.ireturn, 1) := by decide +kernel
def F_Pg_endsFirst (a0 : Nat) (w : AW) : Option (Int32 × AW) :=
  gd (wk w a0 == 4) <|
  (F_Pg_endLevel a0 w).bind fun r2 =>
  gd (wk r2.2 (wr w a0 3) == 6) <|
  let w5 : AW := upI r2.2 (wr w a0 3) 5 r2.1
  gd (wk w5 a0 == 4) <|
  (F_Pg_goesTo a0 (5 : Int32) w5).bind fun r7 =>
  gd (r7.1 == 0 || r7.1 == 1) <|
  some (r7.1, r7.2)
theorem P_Pg_endsFirst_0 {X : AX} {l : Launch} {G : AG} (hX : XOK X b_Pg_endsFirst "RedSky$Page" 1) (hM : XM X l G { frames := 3, cells := 0, slots := 0, locals := 64 }) {o : Int32 × AW} (hR : XR X (some .boolean) 0 0 (some (vi o.1)) o.2) (a0 : Nat) (w : AW) (h : F_Pg_endsFirst a0 w = some o) : RJ X 1 0 0 0 [(0, vr a0)] [] w := by
  unfold F_Pg_endsFirst at h
  refine r_aload_n (i := 0) hX d_Pg_endsFirst_0 0 rfl rfl ?_
  obtain ⟨hk1, h⟩ := gd_e h
  refine r_getR (i := 3) (f := 3) hX ci_3 (by decide) rfl fl_Pg_30 hk1 d_Pg_endsFirst_1 ?_
  refine r_aload_n (i := 0) hX d_Pg_endsFirst_4 0 rfl rfl ?_
  obtain ⟨r2, hr3, h⟩ := bd_e h
  refine r_callV1 (As := []) hX hM mw_Pg_99 (T_Pg_endLevel _ _ hr3) (rc_of ci_3 hk1) rfl rfl ⟨Nat.le_refl _, Nat.le_refl _⟩ rfl rfl d_Pg_endsFirst_5 ?_
  obtain ⟨hk4, h⟩ := gd_e h
  refine r_putI (i := 5) (f := 5) hX ci_5 (by decide) rfl rfl (fun G => rfl) (fun G => rfl) fl_Pg_103 hk4 d_Pg_endsFirst_8 ?_
  refine r_aload_n (i := 0) hX d_Pg_endsFirst_11 0 rfl rfl ?_
  refine r_iconst (v := (5 : Int32)) hX d_Pg_endsFirst_12 rfl ?_
  obtain ⟨hk6, h⟩ := gd_e h
  obtain ⟨r7, hr8, h⟩ := bd_e h
  refine r_callV1 (As := [_]) hX hM mw_Pg_133 (T_Pg_goesTo _ _ _ hr8) (rc_of ci_3 hk6) rfl rfl ⟨Nat.le_refl _, Nat.le_refl _⟩ rfl rfl d_Pg_endsFirst_13 ?_
  obtain ⟨hg9, h⟩ := gd_e h
  cases h; exact r_zret hX hR (zn_ok hg9) d_Pg_endsFirst_16
theorem T_Pg_endsFirst {l : Launch} {G : AG} (a0 : Nat) (w : AW) {o : Int32 × AW} (h : F_Pg_endsFirst a0 w = some o) : Mt l G y_Pg_endsFirst b_Pg_endsFirst 1 (some (.boolean)) 3 64 0 0 [vr a0] w (some (vi o.1)) o.2 := mt_of (by decide) (Nat.le_of_ble_eq_true rfl) (fun X hX hR hM hI => P_Pg_endsFirst_0 hX hM hR _ _ h)
/-! RedSky$Page.endsSecond()Z -/
theorem d_Pg_endsSecond_0 : decode b_Pg_endsSecond 0 = .ok (.aload_n 0, 1) := by decide +kernel
theorem d_Pg_endsSecond_1 : decode b_Pg_endsSecond 1 = .ok (.getfield 30, 3) := by decide +kernel
theorem d_Pg_endsSecond_4 : decode b_Pg_endsSecond 4 = .ok (.aload_n 0, 1) := by decide +kernel
theorem d_Pg_endsSecond_5 : decode b_Pg_endsSecond 5 = .ok (.invokevirtual 99, 3) := by decide +kernel
theorem d_Pg_endsSecond_8 : decode b_Pg_endsSecond 8 = .ok (.putfield 103, 3) := by decide +kernel
theorem d_Pg_endsSecond_11 : decode b_Pg_endsSecond 11 = .ok (.aload_n 0, 1) := by decide +kernel
theorem d_Pg_endsSecond_12 : decode b_Pg_endsSecond 12 = .ok (.iconst 0, 1) := by decide +kernel
theorem d_Pg_endsSecond_13 : decode b_Pg_endsSecond 13 = .ok (.putfield 46, 3) := by decide +kernel
theorem d_Pg_endsSecond_16 : decode b_Pg_endsSecond 16 = .ok (.aload_n 0, 1) := by decide +kernel
theorem d_Pg_endsSecond_17 : decode b_Pg_endsSecond 17 = .ok (.iconst 0, 1) := by decide +kernel
theorem d_Pg_endsSecond_18 : decode b_Pg_endsSecond 18 = .ok (.putfield 49, 3) := by decide +kernel
theorem d_Pg_endsSecond_21 : decode b_Pg_endsSecond 21 = .ok (.aload_n 0, 1) := by decide +kernel
theorem d_Pg_endsSecond_22 : decode b_Pg_endsSecond 22 = .ok (.bipush (9), 2) := by decide +kernel
theorem d_Pg_endsSecond_24 : decode b_Pg_endsSecond 24 = .ok (.invokevirtual 133, 3) := by decide +kernel
theorem d_Pg_endsSecond_27 : decode b_Pg_endsSecond 27 = .ok (.ireturn, 1) := by decide +kernel
def F_Pg_endsSecond (a0 : Nat) (w : AW) : Option (Int32 × AW) :=
  gd (wk w a0 == 4) <|
  (F_Pg_endLevel a0 w).bind fun r2 =>
  gd (wk r2.2 (wr w a0 3) == 6) <|
  let w5 : AW := upI r2.2 (wr w a0 3) 5 r2.1
  gd (wk w5 a0 == 4) <|
  let w7 : AW := upI w5 a0 8 (0 : Int32)
  let w8 : AW := upI w7 a0 9 (0 : Int32)
  (F_Pg_goesTo a0 (9 : Int32) w8).bind fun r9 =>
  gd (r9.1 == 0 || r9.1 == 1) <|
  some (r9.1, r9.2)
theorem P_Pg_endsSecond_0 {X : AX} {l : Launch} {G : AG} (hX : XOK X b_Pg_endsSecond "RedSky$Page" 1) (hM : XM X l G { frames := 3, cells := 0, slots := 0, locals := 64 }) {o : Int32 × AW} (hR : XR X (some .boolean) 0 0 (some (vi o.1)) o.2) (a0 : Nat) (w : AW) (h : F_Pg_endsSecond a0 w = some o) : RJ X 1 0 0 0 [(0, vr a0)] [] w := by
  unfold F_Pg_endsSecond at h
  refine r_aload_n (i := 0) hX d_Pg_endsSecond_0 0 rfl rfl ?_
  obtain ⟨hk1, h⟩ := gd_e h
  refine r_getR (i := 3) (f := 3) hX ci_3 (by decide) rfl fl_Pg_30 hk1 d_Pg_endsSecond_1 ?_
  refine r_aload_n (i := 0) hX d_Pg_endsSecond_4 0 rfl rfl ?_
  obtain ⟨r2, hr3, h⟩ := bd_e h
  refine r_callV1 (As := []) hX hM mw_Pg_99 (T_Pg_endLevel _ _ hr3) (rc_of ci_3 hk1) rfl rfl ⟨Nat.le_refl _, Nat.le_refl _⟩ rfl rfl d_Pg_endsSecond_5 ?_
  obtain ⟨hk4, h⟩ := gd_e h
  refine r_putI (i := 5) (f := 5) hX ci_5 (by decide) rfl rfl (fun G => rfl) (fun G => rfl) fl_Pg_103 hk4 d_Pg_endsSecond_8 ?_
  refine r_aload_n (i := 0) hX d_Pg_endsSecond_11 0 rfl rfl ?_
  refine r_iconst (v := (0 : Int32)) hX d_Pg_endsSecond_12 rfl ?_
  obtain ⟨hk6, h⟩ := gd_e h
  refine r_putI (i := 3) (f := 8) hX ci_3 (by decide) rfl rfl (fun G => rfl) (fun G => rfl) fl_Pg_46 hk6 d_Pg_endsSecond_13 ?_
  refine r_aload_n (i := 0) hX d_Pg_endsSecond_16 0 rfl rfl ?_
  refine r_iconst (v := (0 : Int32)) hX d_Pg_endsSecond_17 rfl ?_
  refine r_putI (i := 3) (f := 9) hX ci_3 (by decide) rfl rfl (fun G => rfl) (fun G => rfl) fl_Pg_49 (kI hk6) d_Pg_endsSecond_18 ?_
  refine r_aload_n (i := 0) hX d_Pg_endsSecond_21 0 rfl rfl ?_
  refine r_bipush (v := (9 : Int32)) hX d_Pg_endsSecond_22 rfl ?_
  obtain ⟨r9, hr10, h⟩ := bd_e h
  refine r_callV1 (As := [_]) hX hM mw_Pg_133 (T_Pg_goesTo _ _ _ hr10) (rc_of ci_3 (kI (kI hk6))) rfl rfl ⟨Nat.le_refl _, Nat.le_refl _⟩ rfl rfl d_Pg_endsSecond_24 ?_
  obtain ⟨hg11, h⟩ := gd_e h
  cases h; exact r_zret hX hR (zn_ok hg11) d_Pg_endsSecond_27
theorem T_Pg_endsSecond {l : Launch} {G : AG} (a0 : Nat) (w : AW) {o : Int32 × AW} (h : F_Pg_endsSecond a0 w = some o) : Mt l G y_Pg_endsSecond b_Pg_endsSecond 1 (some (.boolean)) 3 64 0 0 [vr a0] w (some (vi o.1)) o.2 := mt_of (by decide) (Nat.le_of_ble_eq_true rfl) (fun X hX hR hM hI => P_Pg_endsSecond_0 hX hM hR _ _ h)
/-! RedSky$Page.goesOn(I)Z -/
theorem d_Pg_goesOn_0 : decode b_Pg_goesOn 0 = .ok (.aload_n 0, 1) := by decide +kernel
theorem d_Pg_goesOn_1 : decode b_Pg_goesOn 1 = .ok (.iconst 3, 1) := by decide +kernel
theorem d_Pg_goesOn_2 : decode b_Pg_goesOn 2 = .ok (.putfield 49, 3) := by decide +kernel
theorem d_Pg_goesOn_5 : decode b_Pg_goesOn 5 = .ok (.iload_n 1, 1) := by decide +kernel
theorem d_Pg_goesOn_6 : decode b_Pg_goesOn 6 = .ok (.lookupswitch (140) #[(38, 50), (41, 66), (58, 86), (64, 113), (124, 56)], 50) := by decide +kernel
theorem d_Pg_goesOn_56 : decode b_Pg_goesOn 56 = .ok (.aload_n 0, 1) := by decide +kernel
theorem d_Pg_goesOn_57 : decode b_Pg_goesOn 57 = .ok (.iconst 0, 1) := by decide +kernel
theorem d_Pg_goesOn_58 : decode b_Pg_goesOn 58 = .ok (.invokevirtual 133, 3) := by decide +kernel
theorem d_Pg_goesOn_61 : decode b_Pg_goesOn 61 = .ok (.ireturn, 1) := by decide +kernel
theorem d_Pg_goesOn_62 : decode b_Pg_goesOn 62 = .ok (.aload_n 0, 1) := by decide +kernel
theorem d_Pg_goesOn_63 : decode b_Pg_goesOn 63 = .ok (.invokevirtual 184, 3) := by decide +kernel
theorem d_Pg_goesOn_66 : decode b_Pg_goesOn 66 = .ok (.aload_n 0, 1) := by decide +kernel
theorem d_Pg_goesOn_67 : decode b_Pg_goesOn 67 = .ok (.iconst 0, 1) := by decide +kernel
theorem d_Pg_goesOn_68 : decode b_Pg_goesOn 68 = .ok (.invokevirtual 133, 3) := by decide +kernel
theorem d_Pg_goesOn_71 : decode b_Pg_goesOn 71 = .ok (.ireturn, 1) := by decide +kernel
theorem d_Pg_goesOn_72 : decode b_Pg_goesOn 72 = .ok (.aload_n 0, 1) := by decide +kernel
theorem d_Pg_goesOn_73 : decode b_Pg_goesOn 73 = .ok (.getfield 55, 3) := by decide +kernel
theorem d_Pg_goesOn_76 : decode b_Pg_goesOn 76 = .ok (.ifCond .le (14), 3) := by decide +kernel
theorem d_Pg_goesOn_79 : decode b_Pg_goesOn 79 = .ok (.aload_n 0, 1) := by decide +kernel
theorem d_Pg_goesOn_80 : decode b_Pg_goesOn 80 = .ok (.invokevirtual 187, 3) := by decide +kernel
theorem d_Pg_goesOn_83 : decode b_Pg_goesOn 83 = .ok (.ifCond .eq (7), 3) := by decide +kernel
theorem d_Pg_goesOn_86 : decode b_Pg_goesOn 86 = .ok (.iconst 1, 1) := by decide +kernel
theorem d_Pg_goesOn_87 : decode b_Pg_goesOn 87 = .ok (.goto (4), 3) := by decide +kernel
theorem d_Pg_goesOn_90 : decode b_Pg_goesOn 90 = .ok (.iconst 0, 1) := by decide +kernel
theorem d_Pg_goesOn_91 : decode b_Pg_goesOn 91 = .ok (.ireturn, 1) := by decide +kernel
theorem d_Pg_goesOn_92 : decode b_Pg_goesOn 92 = .ok (.aload_n 0, 1) := by decide +kernel
theorem d_Pg_goesOn_93 : decode b_Pg_goesOn 93 = .ok (.getfield 55, 3) := by decide +kernel
theorem d_Pg_goesOn_96 : decode b_Pg_goesOn 96 = .ok (.ifCond .ne (21), 3) := by decide +kernel
theorem d_Pg_goesOn_99 : decode b_Pg_goesOn 99 = .ok (.aload_n 0, 1) := by decide +kernel
theorem d_Pg_goesOn_100 : decode b_Pg_goesOn 100 = .ok (.getfield 33, 3) := by decide +kernel
theorem d_Pg_goesOn_103 : decode b_Pg_goesOn 103 = .ok (.ifCond .ne (14), 3) := by decide +kernel
theorem d_Pg_goesOn_106 : decode b_Pg_goesOn 106 = .ok (.aload_n 0, 1) := by decide +kernel
theorem d_Pg_goesOn_107 : decode b_Pg_goesOn 107 = .ok (.invokevirtual 190, 3) := by decide +kernel
theorem d_Pg_goesOn_110 : decode b_Pg_goesOn 110 = .ok (.ifCond .eq (7), 3) := by decide +kernel
theorem d_Pg_goesOn_113 : decode b_Pg_goesOn 113 = .ok (.iconst 1, 1) := by decide +kernel
theorem d_Pg_goesOn_114 : decode b_Pg_goesOn 114 = .ok (.goto (4), 3) := by decide +kernel
theorem d_Pg_goesOn_117 : decode b_Pg_goesOn 117 = .ok (.iconst 0, 1) := by decide +kernel
theorem d_Pg_goesOn_118 : decode b_Pg_goesOn 118 = .ok (.ireturn, 1) := by decide +kernel
theorem d_Pg_goesOn_119 : decode b_Pg_goesOn 119 = .ok (.aload_n 0, 1) := by decide +kernel
theorem d_Pg_goesOn_120 : decode b_Pg_goesOn 120 = .ok (.getfield 55, 3) := by decide +kernel
theorem d_Pg_goesOn_123 : decode b_Pg_goesOn 123 = .ok (.ifCond .ne (21), 3) := by decide +kernel
theorem d_Pg_goesOn_126 : decode b_Pg_goesOn 126 = .ok (.aload_n 0, 1) := by decide +kernel
theorem d_Pg_goesOn_127 : decode b_Pg_goesOn 127 = .ok (.getfield 33, 3) := by decide +kernel
theorem d_Pg_goesOn_130 : decode b_Pg_goesOn 130 = .ok (.ifCond .eq (14), 3) := by decide +kernel
theorem d_Pg_goesOn_133 : decode b_Pg_goesOn 133 = .ok (.aload_n 0, 1) := by decide +kernel
theorem d_Pg_goesOn_134 : decode b_Pg_goesOn 134 = .ok (.invokevirtual 193, 3) := by decide +kernel
theorem d_Pg_goesOn_137 : decode b_Pg_goesOn 137 = .ok (.ifCond .eq (7), 3) := by decide +kernel
theorem d_Pg_goesOn_140 : decode b_Pg_goesOn 140 = .ok (.iconst 1, 1) := by decide +kernel
theorem d_Pg_goesOn_141 : decode b_Pg_goesOn 141 = .ok (.goto (4), 3) := by decide +kernel
theorem d_Pg_goesOn_144 : decode b_Pg_goesOn 144 = .ok (.iconst 0, 1) := by decide +kernel
theorem d_Pg_goesOn_145 : decode b_Pg_goesOn 145 = .ok (.ireturn, 1) := by decide +kernel
theorem d_Pg_goesOn_146 : decode b_Pg_goesOn 146 = .ok (.iconst 0, 1) := by decide +kernel
theorem d_Pg_goesOn_147 : decode b_Pg_goesOn 147 = .ok (.ireturn, 1) := by decide +kernel
def F_Pg_goesOn (a0 : Nat) (x1 : Int32) (w : AW) : Option (Int32 × AW) :=
  gd (wk w a0 == 4) <|
  let w2 : AW := upI w a0 9 (3 : Int32)
  if x1 = (38 : Int32) then
    (F_Pg_goesTo a0 (0 : Int32) w2).bind fun r3 =>
    gd (r3.1 == 0 || r3.1 == 1) <|
    some (r3.1, r3.2)
  else if x1 = (41 : Int32) then
    if (wi w2 a0 11) ≤ 0 then
      some ((0 : Int32), w2)
    else
      (F_Pg_closes a0 w2).bind fun r6 =>
      if r6.1 = 0 then
        some ((0 : Int32), r6.2)
      else
        some ((1 : Int32), r6.2)
  else if x1 = (58 : Int32) then
    if (wi w2 a0 11) = 0 then
      if (wi w2 a0 4) = 0 then
        (F_Pg_endsFirst a0 w2).bind fun r8 =>
        if r8.1 = 0 then
          some ((0 : Int32), r8.2)
        else
          some ((1 : Int32), r8.2)
      else
        some ((0 : Int32), w2)
    else
      some ((0 : Int32), w2)
  else if x1 = (64 : Int32) then
    if (wi w2 a0 11) = 0 then
      if (wi w2 a0 4) = 0 then
        some ((0 : Int32), w2)
      else
        (F_Pg_endsSecond a0 w2).bind fun r10 =>
        if r10.1 = 0 then
          some ((0 : Int32), r10.2)
        else
          some ((1 : Int32), r10.2)
    else
      some ((0 : Int32), w2)
  else if x1 = (124 : Int32) then
    (F_Pg_endTerm a0 w2).bind fun r12 =>
    gd (wk r12 a0 == 4) <|
    (F_Pg_goesTo a0 (0 : Int32) r12).bind fun r15 =>
    gd (r15.1 == 0 || r15.1 == 1) <|
    some (r15.1, r15.2)
  else
    some ((0 : Int32), w2)
theorem P_Pg_goesOn_0 {X : AX} {l : Launch} {G : AG} (hX : XOK X b_Pg_goesOn "RedSky$Page" 2) (hM : XM X l G { frames := 4, cells := 0, slots := 0, locals := 85 }) {o : Int32 × AW} (hR : XR X (some .boolean) 0 0 (some (vi o.1)) o.2) (a0 : Nat) (x1 : Int32) (w : AW) (h : F_Pg_goesOn a0 x1 w = some o) : RJ X 2 0 0 0 [(0, vr a0), (1, vi x1)] [] w := by
  unfold F_Pg_goesOn at h
  refine r_aload_n (i := 0) hX d_Pg_goesOn_0 0 rfl rfl ?_
  refine r_iconst (v := (3 : Int32)) hX d_Pg_goesOn_1 rfl ?_
  obtain ⟨hk1, h⟩ := gd_e h
  refine r_putI (i := 3) (f := 9) hX ci_3 (by decide) rfl rfl (fun G => rfl) (fun G => rfl) fl_Pg_49 hk1 d_Pg_goesOn_2 ?_
  refine r_iload_n (i := 1) hX d_Pg_goesOn_5 1 rfl rfl ?_
  rcases it_e h with ⟨hc, h⟩ | ⟨hn0, h⟩
  · refine r_ls (off := 50) hX d_Pg_goesOn_6 (by decide) (by rw [hc]; decide) rfl ?_
    refine r_aload_n (i := 0) hX d_Pg_goesOn_56 0 rfl rfl ?_
    refine r_iconst (v := (0 : Int32)) hX d_Pg_goesOn_57 rfl ?_
    obtain ⟨r3, hr4, h⟩ := bd_e h
    refine r_callV1 (As := [_]) hX hM mw_Pg_133 (T_Pg_goesTo _ _ _ hr4) (rc_of ci_3 (kI hk1)) rfl rfl ⟨Nat.le_refl _, Nat.le_refl _⟩ rfl rfl d_Pg_goesOn_58 ?_
    obtain ⟨hg5, h⟩ := gd_e h
    cases h; exact r_zret hX hR (zn_ok hg5) d_Pg_goesOn_61
  rcases it_e h with ⟨hc, h⟩ | ⟨hn1, h⟩
  · refine r_ls (off := 66) hX d_Pg_goesOn_6 (by decide) (by rw [hc]; decide) rfl ?_
    refine r_aload_n (i := 0) hX d_Pg_goesOn_72 0 rfl rfl ?_
    refine r_getI (i := 3) (f := 11) hX ci_3 (by decide) rfl fl_Pg_55 (kI hk1) d_Pg_goesOn_73 ?_
    refine r_if_le hX d_Pg_goesOn_76 rfl h (fun h => ?_) (fun h => ?_)
    · refine r_iconst (v := (0 : Int32)) hX d_Pg_goesOn_90 rfl ?_
      cases h; exact r_zret hX hR rfl d_Pg_goesOn_91
    · refine r_aload_n (i := 0) hX d_Pg_goesOn_79 0 rfl rfl ?_
      obtain ⟨r6, hr7, h⟩ := bd_e h
      refine r_callV1 (As := []) hX hM mw_Pg_187 (T_Pg_closes _ _ hr7) (rc_of ci_3 (kI hk1)) rfl rfl ⟨Nat.le_refl _, Nat.le_refl _⟩ rfl rfl d_Pg_goesOn_80 ?_
      refine r_if_eq hX d_Pg_goesOn_83 rfl h (fun h => ?_) (fun h => ?_)
      · refine r_iconst (v := (0 : Int32)) hX d_Pg_goesOn_90 rfl ?_
        cases h; exact r_zret hX hR rfl d_Pg_goesOn_91
      · refine r_iconst (v := (1 : Int32)) hX d_Pg_goesOn_86 rfl ?_
        refine r_goto hX d_Pg_goesOn_87 rfl ?_
        cases h; exact r_zret hX hR rfl d_Pg_goesOn_91
  rcases it_e h with ⟨hc, h⟩ | ⟨hn2, h⟩
  · refine r_ls (off := 86) hX d_Pg_goesOn_6 (by decide) (by rw [hc]; decide) rfl ?_
    refine r_aload_n (i := 0) hX d_Pg_goesOn_92 0 rfl rfl ?_
    refine r_getI (i := 3) (f := 11) hX ci_3 (by decide) rfl fl_Pg_55 (kI hk1) d_Pg_goesOn_93 ?_
    refine r_if_ne hX d_Pg_goesOn_96 rfl h (fun h => ?_) (fun h => ?_)
    · refine r_iconst (v := (0 : Int32)) hX d_Pg_goesOn_117 rfl ?_
      cases h; exact r_zret hX hR rfl d_Pg_goesOn_118
    · refine r_aload_n (i := 0) hX d_Pg_goesOn_99 0 rfl rfl ?_
      refine r_getI (i := 3) (f := 4) hX ci_3 (by decide) rfl fl_Pg_33 (kI hk1) d_Pg_goesOn_100 ?_
      refine r_if_ne hX d_Pg_goesOn_103 rfl h (fun h => ?_) (fun h => ?_)
      · refine r_iconst (v := (0 : Int32)) hX d_Pg_goesOn_117 rfl ?_
        cases h; exact r_zret hX hR rfl d_Pg_goesOn_118
      · refine r_aload_n (i := 0) hX d_Pg_goesOn_106 0 rfl rfl ?_
        obtain ⟨r8, hr9, h⟩ := bd_e h
        refine r_callV1 (As := []) hX hM mw_Pg_190 (T_Pg_endsFirst _ _ hr9) (rc_of ci_3 (kI hk1)) rfl rfl ⟨Nat.le_refl _, Nat.le_refl _⟩ rfl rfl d_Pg_goesOn_107 ?_
        refine r_if_eq hX d_Pg_goesOn_110 rfl h (fun h => ?_) (fun h => ?_)
        · refine r_iconst (v := (0 : Int32)) hX d_Pg_goesOn_117 rfl ?_
          cases h; exact r_zret hX hR rfl d_Pg_goesOn_118
        · refine r_iconst (v := (1 : Int32)) hX d_Pg_goesOn_113 rfl ?_
          refine r_goto hX d_Pg_goesOn_114 rfl ?_
          cases h; exact r_zret hX hR rfl d_Pg_goesOn_118
  rcases it_e h with ⟨hc, h⟩ | ⟨hn3, h⟩
  · refine r_ls (off := 113) hX d_Pg_goesOn_6 (by decide) (by rw [hc]; decide) rfl ?_
    refine r_aload_n (i := 0) hX d_Pg_goesOn_119 0 rfl rfl ?_
    refine r_getI (i := 3) (f := 11) hX ci_3 (by decide) rfl fl_Pg_55 (kI hk1) d_Pg_goesOn_120 ?_
    refine r_if_ne hX d_Pg_goesOn_123 rfl h (fun h => ?_) (fun h => ?_)
    · refine r_iconst (v := (0 : Int32)) hX d_Pg_goesOn_144 rfl ?_
      cases h; exact r_zret hX hR rfl d_Pg_goesOn_145
    · refine r_aload_n (i := 0) hX d_Pg_goesOn_126 0 rfl rfl ?_
      refine r_getI (i := 3) (f := 4) hX ci_3 (by decide) rfl fl_Pg_33 (kI hk1) d_Pg_goesOn_127 ?_
      refine r_if_eq hX d_Pg_goesOn_130 rfl h (fun h => ?_) (fun h => ?_)
      · refine r_iconst (v := (0 : Int32)) hX d_Pg_goesOn_144 rfl ?_
        cases h; exact r_zret hX hR rfl d_Pg_goesOn_145
      · refine r_aload_n (i := 0) hX d_Pg_goesOn_133 0 rfl rfl ?_
        obtain ⟨r10, hr11, h⟩ := bd_e h
        refine r_callV1 (As := []) hX hM mw_Pg_193 (T_Pg_endsSecond _ _ hr11) (rc_of ci_3 (kI hk1)) rfl rfl ⟨Nat.le_refl _, Nat.le_refl _⟩ rfl rfl d_Pg_goesOn_134 ?_
        refine r_if_eq hX d_Pg_goesOn_137 rfl h (fun h => ?_) (fun h => ?_)
        · refine r_iconst (v := (0 : Int32)) hX d_Pg_goesOn_144 rfl ?_
          cases h; exact r_zret hX hR rfl d_Pg_goesOn_145
        · refine r_iconst (v := (1 : Int32)) hX d_Pg_goesOn_140 rfl ?_
          refine r_goto hX d_Pg_goesOn_141 rfl ?_
          cases h; exact r_zret hX hR rfl d_Pg_goesOn_145
  rcases it_e h with ⟨hc, h⟩ | ⟨hn4, h⟩
  · refine r_ls (off := 56) hX d_Pg_goesOn_6 (by decide) (by rw [hc]; decide) rfl ?_
    refine r_aload_n (i := 0) hX d_Pg_goesOn_62 0 rfl rfl ?_
    obtain ⟨r12, hr13, h⟩ := bd_e h
    refine r_callV0 (As := []) hX hM mw_Pg_184 (T_Pg_endTerm _ _ hr13) (rc_of ci_3 (kI hk1)) rfl rfl ⟨Nat.le_refl _, Nat.le_refl _⟩ rfl rfl d_Pg_goesOn_63 ?_
    refine r_aload_n (i := 0) hX d_Pg_goesOn_66 0 rfl rfl ?_
    refine r_iconst (v := (0 : Int32)) hX d_Pg_goesOn_67 rfl ?_
    obtain ⟨hk14, h⟩ := gd_e h
    obtain ⟨r15, hr16, h⟩ := bd_e h
    refine r_callV1 (As := [_]) hX hM mw_Pg_133 (T_Pg_goesTo _ _ _ hr16) (rc_of ci_3 hk14) rfl rfl ⟨Nat.le_refl _, Nat.le_refl _⟩ rfl rfl d_Pg_goesOn_68 ?_
    obtain ⟨hg17, h⟩ := gd_e h
    cases h; exact r_zret hX hR (zn_ok hg17) d_Pg_goesOn_71
  refine r_ls (off := 140) hX d_Pg_goesOn_6 (by decide) (ls_out hn0 hn1 hn2 hn3 hn4) rfl ?_
  refine r_iconst (v := (0 : Int32)) hX d_Pg_goesOn_146 rfl ?_
  cases h; exact r_zret hX hR rfl d_Pg_goesOn_147
theorem T_Pg_goesOn {l : Launch} {G : AG} (a0 : Nat) (x1 : Int32) (w : AW) {o : Int32 × AW} (h : F_Pg_goesOn a0 x1 w = some o) : Mt l G y_Pg_goesOn b_Pg_goesOn 2 (some (.boolean)) 4 85 0 0 [vr a0, vi x1] w (some (vi o.1)) o.2 := mt_of (by decide) (Nat.le_of_ble_eq_true rfl) (fun X hX hR hM hI => P_Pg_goesOn_0 hX hM hR _ _ _ h)
/-! RedSky$Page.readsSpan(I)Z -/
theorem d_Pg_readsSpan_0 : decode b_Pg_readsSpan 0 = .ok (.iload_n 1, 1) := by decide +kernel
theorem d_Pg_readsSpan_1 : decode b_Pg_readsSpan 1 = .ok (.bipush (126), 2) := by decide +kernel
theorem d_Pg_readsSpan_3 : decode b_Pg_readsSpan 3 = .ok (.if_icmp .eq (9), 3) := by decide +kernel
theorem d_Pg_readsSpan_6 : decode b_Pg_readsSpan 6 = .ok (.iload_n 1, 1) := by decide +kernel
theorem d_Pg_readsSpan_7 : decode b_Pg_readsSpan 7 = .ok (.bipush (94), 2) := by decide +kernel
theorem d_Pg_readsSpan_9 : decode b_Pg_readsSpan 9 = .ok (.if_icmp .ne (7), 3) := by decide +kernel
theorem d_Pg_readsSpan_12 : decode b_Pg_readsSpan 12 = .ok (.iconst 1, 1) := by decide +kernel
theorem d_Pg_readsSpan_13 : decode b_Pg_readsSpan 13 = .ok (.goto (4), 3) := by decide +kernel
theorem d_Pg_readsSpan_16 : decode b_Pg_readsSpan 16 = .ok (.iconst 0, 1) := by decide +kernel
theorem d_Pg_readsSpan_17 : decode b_Pg_readsSpan 17 = .ok (.istore_n 2, 1) := by decide +kernel
theorem d_Pg_readsSpan_18 : decode b_Pg_readsSpan 18 = .ok (.iload_n 2, 1) := by decide +kernel
theorem d_Pg_readsSpan_19 : decode b_Pg_readsSpan 19 = .ok (.ifCond .eq (57), 3) := by decide +kernel
theorem d_Pg_readsSpan_22 : decode b_Pg_readsSpan 22 = .ok (.aload_n 0, 1) := by decide +kernel
theorem d_Pg_readsSpan_23 : decode b_Pg_readsSpan 23 = .ok (.getfield 37, 3) := by decide +kernel
theorem d_Pg_readsSpan_26 : decode b_Pg_readsSpan 26 = .ok (.bipush (6), 2) := by decide +kernel
theorem d_Pg_readsSpan_28 : decode b_Pg_readsSpan 28 = .ok (.if_icmp .eq (12), 3) := by decide +kernel
theorem d_Pg_readsSpan_31 : decode b_Pg_readsSpan 31 = .ok (.aload_n 0, 1) := by decide +kernel
theorem d_Pg_readsSpan_32 : decode b_Pg_readsSpan 32 = .ok (.getfield 37, 3) := by decide +kernel
theorem d_Pg_readsSpan_35 : decode b_Pg_readsSpan 35 = .ok (.bipush (8), 2) := by decide +kernel
theorem d_Pg_readsSpan_37 : decode b_Pg_readsSpan 37 = .ok (.if_icmp .ne (39), 3) := by decide +kernel
theorem d_Pg_readsSpan_40 : decode b_Pg_readsSpan 40 = .ok (.aload_n 0, 1) := by decide +kernel
theorem d_Pg_readsSpan_41 : decode b_Pg_readsSpan 41 = .ok (.getfield 22, 3) := by decide +kernel
theorem d_Pg_readsSpan_44 : decode b_Pg_readsSpan 44 = .ok (.iload_n 1, 1) := by decide +kernel
theorem d_Pg_readsSpan_45 : decode b_Pg_readsSpan 45 = .ok (.bipush (94), 2) := by decide +kernel
theorem d_Pg_readsSpan_47 : decode b_Pg_readsSpan 47 = .ok (.if_icmp .ne (7), 3) := by decide +kernel
theorem d_Pg_readsSpan_50 : decode b_Pg_readsSpan 50 = .ok (.iconst 1, 1) := by decide +kernel
theorem d_Pg_readsSpan_51 : decode b_Pg_readsSpan 51 = .ok (.goto (4), 3) := by decide +kernel
theorem d_Pg_readsSpan_54 : decode b_Pg_readsSpan 54 = .ok (.iconst 0, 1) := by decide +kernel
theorem d_Pg_readsSpan_55 : decode b_Pg_readsSpan 55 = .ok (.putfield 196, 3) := by decide +kernel
theorem d_Pg_readsSpan_58 : decode b_Pg_readsSpan 58 = .ok (.aload_n 0, 1) := by decide +kernel
theorem d_Pg_readsSpan_59 : decode b_Pg_readsSpan 59 = .ok (.aload_n 0, 1) := by decide +kernel
theorem d_Pg_readsSpan_60 : decode b_Pg_readsSpan 60 = .ok (.getfield 22, 3) := by decide +kernel
theorem d_Pg_readsSpan_63 : decode b_Pg_readsSpan 63 = .ok (.getfield 199, 3) := by decide +kernel
theorem d_Pg_readsSpan_66 : decode b_Pg_readsSpan 66 = .ok (.invokevirtual 87, 3) := by decide +kernel
theorem d_Pg_readsSpan_69 : decode b_Pg_readsSpan 69 = .ok (.aload_n 0, 1) := by decide +kernel
theorem d_Pg_readsSpan_70 : decode b_Pg_readsSpan 70 = .ok (.iconst 1, 1) := by decide +kernel
theorem d_Pg_readsSpan_71 : decode b_Pg_readsSpan 71 = .ok (.putfield 33, 3) := by decide +kernel
theorem d_Pg_readsSpan_74 : decode b_Pg_readsSpan 74 = .ok (.iconst 1, 1) := by decide +kernel
theorem d_Pg_readsSpan_75 : decode b_Pg_readsSpan 75 = .ok (.ireturn, 1) := by decide +kernel
theorem d_Pg_readsSpan_76 : decode b_Pg_readsSpan 76 = .ok (.iload_n 1, 1) := by decide +kernel
theorem d_Pg_readsSpan_77 : decode b_Pg_readsSpan 77 = .ok (.bipush (45), 2) := by decide +kernel
theorem d_Pg_readsSpan_79 : decode b_Pg_readsSpan 79 = .ok (.if_icmp .ne (19), 3) := by decide +kernel
theorem d_Pg_readsSpan_82 : decode b_Pg_readsSpan 82 = .ok (.aload_n 0, 1) := by decide +kernel
theorem d_Pg_readsSpan_83 : decode b_Pg_readsSpan 83 = .ok (.getfield 37, 3) := by decide +kernel
theorem d_Pg_readsSpan_86 : decode b_Pg_readsSpan 86 = .ok (.bipush (6), 2) := by decide +kernel
theorem d_Pg_readsSpan_88 : decode b_Pg_readsSpan 88 = .ok (.if_icmp .ne (10), 3) := by decide +kernel
theorem d_Pg_readsSpan_91 : decode b_Pg_readsSpan 91 = .ok (.aload_n 0, 1) := by decide +kernel
theorem d_Pg_readsSpan_92 : decode b_Pg_readsSpan 92 = .ok (.bipush (7), 2) := by decide +kernel
theorem d_Pg_readsSpan_94 : decode b_Pg_readsSpan 94 = .ok (.invokevirtual 133, 3) := by decide +kernel
theorem d_Pg_readsSpan_97 : decode b_Pg_readsSpan 97 = .ok (.ireturn, 1) := by decide +kernel
theorem d_Pg_readsSpan_98 : decode b_Pg_readsSpan 98 = .ok (.iload_n 1, 1) := by decide +kernel
theorem d_Pg_readsSpan_99 : decode b_Pg_readsSpan 99 = .ok (.invokestatic 124, 3) := by decide +kernel
theorem d_Pg_readsSpan_102 : decode b_Pg_readsSpan 102 = .ok (.ifCond .ne (5), 3) := by decide +kernel
theorem d_Pg_readsSpan_105 : decode b_Pg_readsSpan 105 = .ok (.iconst 0, 1) := by decide +kernel
theorem d_Pg_readsSpan_106 : decode b_Pg_readsSpan 106 = .ok (.ireturn, 1) := by decide +kernel
theorem d_Pg_readsSpan_107 : decode b_Pg_readsSpan 107 = .ok (.iload_n 1, 1) := by decide +kernel
theorem d_Pg_readsSpan_108 : decode b_Pg_readsSpan 108 = .ok (.bipush (48), 2) := by decide +kernel
theorem d_Pg_readsSpan_110 : decode b_Pg_readsSpan 110 = .ok (.isub, 1) := by decide +kernel
theorem d_Pg_readsSpan_111 : decode b_Pg_readsSpan 111 = .ok (.istore_n 3, 1) := by decide +kernel
theorem d_Pg_readsSpan_112 : decode b_Pg_readsSpan 112 = .ok (.aload_n 0, 1) := by decide +kernel
theorem d_Pg_readsSpan_113 : decode b_Pg_readsSpan 113 = .ok (.getfield 37, 3) := by decide +kernel
theorem d_Pg_readsSpan_116 : decode b_Pg_readsSpan 116 = .ok (.iconst 5, 1) := by decide +kernel
theorem d_Pg_readsSpan_117 : decode b_Pg_readsSpan 117 = .ok (.if_icmp .ne (26), 3) := by decide +kernel
theorem d_Pg_readsSpan_120 : decode b_Pg_readsSpan 120 = .ok (.aload_n 0, 1) := by decide +kernel
theorem d_Pg_readsSpan_121 : decode b_Pg_readsSpan 121 = .ok (.getfield 22, 3) := by decide +kernel
theorem d_Pg_readsSpan_124 : decode b_Pg_readsSpan 124 = .ok (.iload_n 3, 1) := by decide +kernel
theorem d_Pg_readsSpan_125 : decode b_Pg_readsSpan 125 = .ok (.putfield 202, 3) := by decide +kernel
theorem d_Pg_readsSpan_128 : decode b_Pg_readsSpan 128 = .ok (.aload_n 0, 1) := by decide +kernel
theorem d_Pg_readsSpan_129 : decode b_Pg_readsSpan 129 = .ok (.getfield 22, 3) := by decide +kernel
theorem d_Pg_readsSpan_132 : decode b_Pg_readsSpan 132 = .ok (.iload_n 3, 1) := by decide +kernel
theorem d_Pg_readsSpan_133 : decode b_Pg_readsSpan 133 = .ok (.putfield 205, 3) := by decide +kernel
theorem d_Pg_readsSpan_136 : decode b_Pg_readsSpan 136 = .ok (.aload_n 0, 1) := by decide +kernel
theorem d_Pg_readsSpan_137 : decode b_Pg_readsSpan 137 = .ok (.bipush (6), 2) := by decide +kernel
theorem d_Pg_readsSpan_139 : decode b_Pg_readsSpan 139 = .ok (.invokevirtual 133, 3) := by decide +kernel
theorem d_Pg_readsSpan_142 : decode b_Pg_readsSpan 142 = .ok (.ireturn, 1) := by decide +kernel
theorem d_Pg_readsSpan_143 : decode b_Pg_readsSpan 143 = .ok (.aload_n 0, 1) := by decide +kernel
theorem d_Pg_readsSpan_144 : decode b_Pg_readsSpan 144 = .ok (.getfield 22, 3) := by decide +kernel
theorem d_Pg_readsSpan_147 : decode b_Pg_readsSpan 147 = .ok (.iload_n 3, 1) := by decide +kernel
theorem d_Pg_readsSpan_148 : decode b_Pg_readsSpan 148 = .ok (.putfield 205, 3) := by decide +kernel
theorem d_Pg_readsSpan_151 : decode b_Pg_readsSpan 151 = .ok (.aload_n 0, 1) := by decide +kernel
theorem d_Pg_readsSpan_152 : decode b_Pg_readsSpan 152 = .ok (.getfield 37, 3) := by decide +kernel
theorem d_Pg_readsSpan_155 : decode b_Pg_readsSpan 155 = .ok (.bipush (7), 2) := by decide +kernel
theorem d_Pg_readsSpan_157 : decode b_Pg_readsSpan 157 = .ok (.if_icmp .ne (27), 3) := by decide +kernel
theorem d_Pg_readsSpan_160 : decode b_Pg_readsSpan 160 = .ok (.iload_n 3, 1) := by decide +kernel
theorem d_Pg_readsSpan_161 : decode b_Pg_readsSpan 161 = .ok (.aload_n 0, 1) := by decide +kernel
theorem d_Pg_readsSpan_162 : decode b_Pg_readsSpan 162 = .ok (.getfield 22, 3) := by decide +kernel
theorem d_Pg_readsSpan_165 : decode b_Pg_readsSpan 165 = .ok (.getfield 202, 3) := by decide +kernel
theorem d_Pg_readsSpan_168 : decode b_Pg_readsSpan 168 = .ok (.if_icmp .lt (16), 3) := by decide +kernel
theorem d_Pg_readsSpan_171 : decode b_Pg_readsSpan 171 = .ok (.aload_n 0, 1) := by decide +kernel
theorem d_Pg_readsSpan_172 : decode b_Pg_readsSpan 172 = .ok (.bipush (8), 2) := by decide +kernel
theorem d_Pg_readsSpan_174 : decode b_Pg_readsSpan 174 = .ok (.invokevirtual 133, 3) := by decide +kernel
theorem d_Pg_readsSpan_177 : decode b_Pg_readsSpan 177 = .ok (.ifCond .eq (7), 3) := by decide +kernel
theorem d_Pg_readsSpan_180 : decode b_Pg_readsSpan 180 = .ok (.iconst 1, 1) := by decide +kernel
theorem d_Pg_readsSpan_181 : decode b_Pg_readsSpan 181 = .ok (.goto (4), 3) := by decide +kernel
theorem d_Pg_readsSpan_184 : decode b_Pg_readsSpan 184 = .ok (.iconst 0, 1) := by decide +kernel
theorem d_Pg_readsSpan_185 : decode b_Pg_readsSpan 185 = .ok (.ireturn, 1) := by decide +kernel
def F_Pg_readsSpan_98 (a0 : Nat) (x1 : Int32) (w : AW) : Option (Int32 × AW) :=
  if (F_Pg_isDigit x1) = 0 then
    some ((0 : Int32), w)
  else
    let v1 : Int32 := (x1 - (48 : Int32))
    gd (wk w a0 == 4) <|
    if (wi w a0 5) = (5 : Int32) then
      gd (wk w (wr w a0 2) == 5) <|
      let w9 : AW := upI w (wr w a0 2) 2 v1
      gd (wk w9 (wr w9 a0 2) == 5) <|
      let w11 : AW := upI w9 (wr w9 a0 2) 3 v1
      (F_Pg_goesTo a0 (6 : Int32) w11).bind fun r12 =>
      gd (r12.1 == 0 || r12.1 == 1) <|
      some (r12.1, r12.2)
    else
      gd (wk w (wr w a0 2) == 5) <|
      let w4 : AW := upI w (wr w a0 2) 3 v1
      if (wi w4 a0 5) = (7 : Int32) then
        gd (wk w4 (wr w4 a0 2) == 5) <|
        if v1 < (wi w4 (wr w4 a0 2) 2) then
          some ((0 : Int32), w4)
        else
          (F_Pg_goesTo a0 (8 : Int32) w4).bind fun r6 =>
          if r6.1 = 0 then
            some ((0 : Int32), r6.2)
          else
            some ((1 : Int32), r6.2)
      else
        some ((0 : Int32), w4)
theorem P_Pg_readsSpan_98 {X : AX} {l : Launch} {G : AG} (hX : XOK X b_Pg_readsSpan "RedSky$Page" 4) (hM : XM X l G { frames := 2, cells := 0, slots := 0, locals := 42 }) {o : Int32 × AW} (hR : XR X (some .boolean) 0 0 (some (vi o.1)) o.2) (a0 : Nat) (x1 : Int32) (w : AW) (h : F_Pg_readsSpan_98 a0 x1 w = some o) : RJ X 4 0 0 98 [(0, vr a0), (1, vi x1)] [] w := by
  unfold F_Pg_readsSpan_98 at h
  refine r_iload_n (i := 1) hX d_Pg_readsSpan_98 1 rfl rfl ?_
  refine r_callS1 (As := [_]) hX hM mw_Pg_124 (T_Pg_isDigit _ _) rfl rfl ⟨Nat.le_refl _, Nat.le_refl _⟩ rfl rfl d_Pg_readsSpan_99 ?_
  refine r_if_ne hX d_Pg_readsSpan_102 rfl h (fun h => ?_) (fun h => ?_)
  · refine r_iload_n (i := 1) hX d_Pg_readsSpan_107 1 rfl rfl ?_
    refine r_bipush (v := (48 : Int32)) hX d_Pg_readsSpan_108 rfl ?_
    refine r_isub hX d_Pg_readsSpan_110 ?_
    refine r_istore_n (i := 3) hX d_Pg_readsSpan_111 rfl (by decide) ?_
    refine r_aload_n (i := 0) hX d_Pg_readsSpan_112 1 rfl rfl ?_
    obtain ⟨hk2, h⟩ := gd_e h
    refine r_getI (i := 3) (f := 5) hX ci_3 (by decide) rfl fl_Pg_37 hk2 d_Pg_readsSpan_113 ?_
    refine r_iconst (v := (5 : Int32)) hX d_Pg_readsSpan_116 rfl ?_
    refine r_icmp_ne hX d_Pg_readsSpan_117 rfl h (fun h => ?_) (fun h => ?_)
    · refine r_aload_n (i := 0) hX d_Pg_readsSpan_143 1 rfl rfl ?_
      refine r_getR (i := 3) (f := 2) hX ci_3 (by decide) rfl fl_Pg_22 hk2 d_Pg_readsSpan_144 ?_
      refine r_iload_n (i := 3) hX d_Pg_readsSpan_147 0 rfl rfl ?_
      obtain ⟨hk3, h⟩ := gd_e h
      refine r_putI (i := 4) (f := 3) hX ci_4 (by decide) rfl rfl (fun G => rfl) (fun G => rfl) fl_Pg_205 hk3 d_Pg_readsSpan_148 ?_
      refine r_aload_n (i := 0) hX d_Pg_readsSpan_151 1 rfl rfl ?_
      refine r_getI (i := 3) (f := 5) hX ci_3 (by decide) rfl fl_Pg_37 (kI hk2) d_Pg_readsSpan_152 ?_
      refine r_bipush (v := (7 : Int32)) hX d_Pg_readsSpan_155 rfl ?_
      refine r_icmp_ne hX d_Pg_readsSpan_157 rfl h (fun h => ?_) (fun h => ?_)
      · refine r_iconst (v := (0 : Int32)) hX d_Pg_readsSpan_184 rfl ?_
        cases h; exact r_zret hX hR rfl d_Pg_readsSpan_185
      · refine r_iload_n (i := 3) hX d_Pg_readsSpan_160 0 rfl rfl ?_
        refine r_aload_n (i := 0) hX d_Pg_readsSpan_161 1 rfl rfl ?_
        refine r_getR (i := 3) (f := 2) hX ci_3 (by decide) rfl fl_Pg_22 (kI hk2) d_Pg_readsSpan_162 ?_
        obtain ⟨hk5, h⟩ := gd_e h
        refine r_getI (i := 4) (f := 2) hX ci_4 (by decide) rfl fl_Pg_202 hk5 d_Pg_readsSpan_165 ?_
        refine r_icmp_lt hX d_Pg_readsSpan_168 rfl h (fun h => ?_) (fun h => ?_)
        · refine r_iconst (v := (0 : Int32)) hX d_Pg_readsSpan_184 rfl ?_
          cases h; exact r_zret hX hR rfl d_Pg_readsSpan_185
        · refine r_aload_n (i := 0) hX d_Pg_readsSpan_171 1 rfl rfl ?_
          refine r_bipush (v := (8 : Int32)) hX d_Pg_readsSpan_172 rfl ?_
          obtain ⟨r6, hr7, h⟩ := bd_e h
          refine r_callV1 (As := [_]) hX hM mw_Pg_133 (T_Pg_goesTo _ _ _ hr7) (rc_of ci_3 (kI hk2)) rfl rfl ⟨Nat.le_refl _, Nat.le_refl _⟩ rfl rfl d_Pg_readsSpan_174 ?_
          refine r_if_eq hX d_Pg_readsSpan_177 rfl h (fun h => ?_) (fun h => ?_)
          · refine r_iconst (v := (0 : Int32)) hX d_Pg_readsSpan_184 rfl ?_
            cases h; exact r_zret hX hR rfl d_Pg_readsSpan_185
          · refine r_iconst (v := (1 : Int32)) hX d_Pg_readsSpan_180 rfl ?_
            refine r_goto hX d_Pg_readsSpan_181 rfl ?_
            cases h; exact r_zret hX hR rfl d_Pg_readsSpan_185
    · refine r_aload_n (i := 0) hX d_Pg_readsSpan_120 1 rfl rfl ?_
      refine r_getR (i := 3) (f := 2) hX ci_3 (by decide) rfl fl_Pg_22 hk2 d_Pg_readsSpan_121 ?_
      refine r_iload_n (i := 3) hX d_Pg_readsSpan_124 0 rfl rfl ?_
      obtain ⟨hk8, h⟩ := gd_e h
      refine r_putI (i := 4) (f := 2) hX ci_4 (by decide) rfl rfl (fun G => rfl) (fun G => rfl) fl_Pg_202 hk8 d_Pg_readsSpan_125 ?_
      refine r_aload_n (i := 0) hX d_Pg_readsSpan_128 1 rfl rfl ?_
      refine r_getR (i := 3) (f := 2) hX ci_3 (by decide) rfl fl_Pg_22 (kI hk2) d_Pg_readsSpan_129 ?_
      refine r_iload_n (i := 3) hX d_Pg_readsSpan_132 0 rfl rfl ?_
      obtain ⟨hk10, h⟩ := gd_e h
      refine r_putI (i := 4) (f := 3) hX ci_4 (by decide) rfl rfl (fun G => rfl) (fun G => rfl) fl_Pg_205 hk10 d_Pg_readsSpan_133 ?_
      refine r_aload_n (i := 0) hX d_Pg_readsSpan_136 1 rfl rfl ?_
      refine r_bipush (v := (6 : Int32)) hX d_Pg_readsSpan_137 rfl ?_
      obtain ⟨r12, hr13, h⟩ := bd_e h
      refine r_callV1 (As := [_]) hX hM mw_Pg_133 (T_Pg_goesTo _ _ _ hr13) (rc_of ci_3 (kI (kI hk2))) rfl rfl ⟨Nat.le_refl _, Nat.le_refl _⟩ rfl rfl d_Pg_readsSpan_139 ?_
      obtain ⟨hg14, h⟩ := gd_e h
      cases h; exact r_zret hX hR (zn_ok hg14) d_Pg_readsSpan_142
  · refine r_iconst (v := (0 : Int32)) hX d_Pg_readsSpan_105 rfl ?_
    cases h; exact r_zret hX hR rfl d_Pg_readsSpan_106
def F_Pg_readsSpan_76 (a0 : Nat) (x1 : Int32) (w : AW) : Option (Int32 × AW) :=
  if x1 = (45 : Int32) then
    gd (wk w a0 == 4) <|
    if (wi w a0 5) = (6 : Int32) then
      (F_Pg_goesTo a0 (7 : Int32) w).bind fun r2 =>
      gd (r2.1 == 0 || r2.1 == 1) <|
      some (r2.1, r2.2)
    else
      F_Pg_readsSpan_98 a0 x1 w
  else
    F_Pg_readsSpan_98 a0 x1 w
theorem P_Pg_readsSpan_76 {X : AX} {l : Launch} {G : AG} (hX : XOK X b_Pg_readsSpan "RedSky$Page" 4) (hM : XM X l G { frames := 2, cells := 0, slots := 0, locals := 42 }) {o : Int32 × AW} (hR : XR X (some .boolean) 0 0 (some (vi o.1)) o.2) (a0 : Nat) (x1 : Int32) (w : AW) (h : F_Pg_readsSpan_76 a0 x1 w = some o) : RJ X 4 0 0 76 [(0, vr a0), (1, vi x1)] [] w := by
  unfold F_Pg_readsSpan_76 at h
  refine r_iload_n (i := 1) hX d_Pg_readsSpan_76 1 rfl rfl ?_
  refine r_bipush (v := (45 : Int32)) hX d_Pg_readsSpan_77 rfl ?_
  refine r_icmp_ne hX d_Pg_readsSpan_79 rfl h (fun h => ?_) (fun h => ?_)
  · exact rj_sub [0, 1] rfl (P_Pg_readsSpan_98 hX hM hR _ _ _ h)
  · refine r_aload_n (i := 0) hX d_Pg_readsSpan_82 0 rfl rfl ?_
    obtain ⟨hk1, h⟩ := gd_e h
    refine r_getI (i := 3) (f := 5) hX ci_3 (by decide) rfl fl_Pg_37 hk1 d_Pg_readsSpan_83 ?_
    refine r_bipush (v := (6 : Int32)) hX d_Pg_readsSpan_86 rfl ?_
    refine r_icmp_ne hX d_Pg_readsSpan_88 rfl h (fun h => ?_) (fun h => ?_)
    · exact rj_sub [0, 1] rfl (P_Pg_readsSpan_98 hX hM hR _ _ _ h)
    · refine r_aload_n (i := 0) hX d_Pg_readsSpan_91 0 rfl rfl ?_
      refine r_bipush (v := (7 : Int32)) hX d_Pg_readsSpan_92 rfl ?_
      obtain ⟨r2, hr3, h⟩ := bd_e h
      refine r_callV1 (As := [_]) hX hM mw_Pg_133 (T_Pg_goesTo _ _ _ hr3) (rc_of ci_3 hk1) rfl rfl ⟨Nat.le_refl _, Nat.le_refl _⟩ rfl rfl d_Pg_readsSpan_94 ?_
      obtain ⟨hg4, h⟩ := gd_e h
      cases h; exact r_zret hX hR (zn_ok hg4) d_Pg_readsSpan_97
def F_Pg_readsSpan_55 (a0 : Nat) (s1 : Int32) (s0 : Nat) (w : AW) : Option (Int32 × AW) :=
  gd (wk w s0 == 5) <|
  gd (s1 == 0 || s1 == 1) <|
  let w3 : AW := upI w s0 4 s1
  gd (wk w3 a0 == 4) <|
  gd (wk w3 (wr w3 a0 2) == 5) <|
  (F_Pg_startCondition a0 (wr w3 (wr w3 a0 2) 1) w3).bind fun r6 =>
  gd (wk r6 a0 == 4) <|
  let w9 : AW := upI r6 a0 4 (1 : Int32)
  some ((1 : Int32), w9)
theorem P_Pg_readsSpan_55 {X : AX} {l : Launch} {G : AG} (hX : XOK X b_Pg_readsSpan "RedSky$Page" 4) (hM : XM X l G { frames := 2, cells := 0, slots := 0, locals := 42 }) {o : Int32 × AW} (hR : XR X (some .boolean) 0 0 (some (vi o.1)) o.2) (a0 : Nat) (s1 : Int32) (s0 : Nat) (w : AW) (h : F_Pg_readsSpan_55 a0 s1 s0 w = some o) : RJ X 4 0 0 55 [(0, vr a0)] [vi s1, vr s0] w := by
  unfold F_Pg_readsSpan_55 at h
  obtain ⟨hk1, h⟩ := gd_e h
  obtain ⟨hg2, h⟩ := gd_e h
  refine r_putI (i := 4) (f := 4) hX ci_4 (by decide) rfl rfl (fun G => nw_z _ hg2) (fun G => ft_z _ hg2) fl_Pg_196 hk1 d_Pg_readsSpan_55 ?_
  refine r_aload_n (i := 0) hX d_Pg_readsSpan_58 0 rfl rfl ?_
  refine r_aload_n (i := 0) hX d_Pg_readsSpan_59 0 rfl rfl ?_
  obtain ⟨hk4, h⟩ := gd_e h
  refine r_getR (i := 3) (f := 2) hX ci_3 (by decide) rfl fl_Pg_22 hk4 d_Pg_readsSpan_60 ?_
  obtain ⟨hk5, h⟩ := gd_e h
  refine r_getR (i := 4) (f := 1) hX ci_4 (by decide) rfl fl_Pg_199 hk5 d_Pg_readsSpan_63 ?_
  obtain ⟨r6, hr7, h⟩ := bd_e h
  refine r_callV0 (As := [_]) hX hM mw_Pg_87 (T_Pg_startCondition _ _ _ hr7) (rc_of ci_3 hk4) rfl rfl ⟨Nat.le_refl _, Nat.le_refl _⟩ rfl rfl d_Pg_readsSpan_66 ?_
  refine r_aload_n (i := 0) hX d_Pg_readsSpan_69 0 rfl rfl ?_
  refine r_iconst (v := (1 : Int32)) hX d_Pg_readsSpan_70 rfl ?_
  obtain ⟨hk8, h⟩ := gd_e h
  refine r_putI (i := 3) (f := 4) hX ci_3 (by decide) rfl rfl (fun G => rfl) (fun G => rfl) fl_Pg_33 hk8 d_Pg_readsSpan_71 ?_
  refine r_iconst (v := (1 : Int32)) hX d_Pg_readsSpan_74 rfl ?_
  cases h; exact r_zret hX hR rfl d_Pg_readsSpan_75
def F_Pg_readsSpan_40 (a0 : Nat) (x1 : Int32) (w : AW) : Option (Int32 × AW) :=
  gd (wk w a0 == 4) <|
  if x1 = (94 : Int32) then
    F_Pg_readsSpan_55 a0 (1 : Int32) (wr w a0 2) w
  else
    F_Pg_readsSpan_55 a0 (0 : Int32) (wr w a0 2) w
theorem P_Pg_readsSpan_40 {X : AX} {l : Launch} {G : AG} (hX : XOK X b_Pg_readsSpan "RedSky$Page" 4) (hM : XM X l G { frames := 2, cells := 0, slots := 0, locals := 42 }) {o : Int32 × AW} (hR : XR X (some .boolean) 0 0 (some (vi o.1)) o.2) (a0 : Nat) (x1 : Int32) (w : AW) (h : F_Pg_readsSpan_40 a0 x1 w = some o) : RJ X 4 0 0 40 [(0, vr a0), (1, vi x1)] [] w := by
  unfold F_Pg_readsSpan_40 at h
  refine r_aload_n (i := 0) hX d_Pg_readsSpan_40 0 rfl rfl ?_
  obtain ⟨hk1, h⟩ := gd_e h
  refine r_getR (i := 3) (f := 2) hX ci_3 (by decide) rfl fl_Pg_22 hk1 d_Pg_readsSpan_41 ?_
  refine r_iload_n (i := 1) hX d_Pg_readsSpan_44 1 rfl rfl ?_
  refine r_bipush (v := (94 : Int32)) hX d_Pg_readsSpan_45 rfl ?_
  refine r_icmp_ne hX d_Pg_readsSpan_47 rfl h (fun h => ?_) (fun h => ?_)
  · refine r_iconst (v := (0 : Int32)) hX d_Pg_readsSpan_54 rfl ?_
    exact rj_sub [0] rfl (P_Pg_readsSpan_55 hX hM hR _ _ _ _ h)
  · refine r_iconst (v := (1 : Int32)) hX d_Pg_readsSpan_50 rfl ?_
    refine r_goto hX d_Pg_readsSpan_51 rfl ?_
    exact rj_sub [0] rfl (P_Pg_readsSpan_55 hX hM hR _ _ _ _ h)
def F_Pg_readsSpan_17 (a0 : Nat) (x1 : Int32) (s0 : Int32) (w : AW) : Option (Int32 × AW) :=
  if s0 = 0 then
    F_Pg_readsSpan_76 a0 x1 w
  else
    gd (wk w a0 == 4) <|
    if (wi w a0 5) = (6 : Int32) then
      F_Pg_readsSpan_40 a0 x1 w
    else
      if (wi w a0 5) = (8 : Int32) then
        F_Pg_readsSpan_40 a0 x1 w
      else
        F_Pg_readsSpan_76 a0 x1 w
theorem P_Pg_readsSpan_17 {X : AX} {l : Launch} {G : AG} (hX : XOK X b_Pg_readsSpan "RedSky$Page" 4) (hM : XM X l G { frames := 2, cells := 0, slots := 0, locals := 42 }) {o : Int32 × AW} (hR : XR X (some .boolean) 0 0 (some (vi o.1)) o.2) (a0 : Nat) (x1 : Int32) (s0 : Int32) (w : AW) (h : F_Pg_readsSpan_17 a0 x1 s0 w = some o) : RJ X 4 0 0 17 [(0, vr a0), (1, vi x1)] [vi s0] w := by
  unfold F_Pg_readsSpan_17 at h
  refine r_istore_n (i := 2) hX d_Pg_readsSpan_17 rfl (by decide) ?_
  refine r_iload_n (i := 2) hX d_Pg_readsSpan_18 0 rfl rfl ?_
  refine r_if_eq hX d_Pg_readsSpan_19 rfl h (fun h => ?_) (fun h => ?_)
  · exact rj_sub [1, 2] rfl (P_Pg_readsSpan_76 hX hM hR _ _ _ h)
  · refine r_aload_n (i := 0) hX d_Pg_readsSpan_22 1 rfl rfl ?_
    obtain ⟨hk1, h⟩ := gd_e h
    refine r_getI (i := 3) (f := 5) hX ci_3 (by decide) rfl fl_Pg_37 hk1 d_Pg_readsSpan_23 ?_
    refine r_bipush (v := (6 : Int32)) hX d_Pg_readsSpan_26 rfl ?_
    refine r_icmp_eq hX d_Pg_readsSpan_28 rfl h (fun h => ?_) (fun h => ?_)
    · exact rj_sub [1, 2] rfl (P_Pg_readsSpan_40 hX hM hR _ _ _ h)
    · refine r_aload_n (i := 0) hX d_Pg_readsSpan_31 1 rfl rfl ?_
      refine r_getI (i := 3) (f := 5) hX ci_3 (by decide) rfl fl_Pg_37 hk1 d_Pg_readsSpan_32 ?_
      refine r_bipush (v := (8 : Int32)) hX d_Pg_readsSpan_35 rfl ?_
      refine r_icmp_ne hX d_Pg_readsSpan_37 rfl h (fun h => ?_) (fun h => ?_)
      · exact rj_sub [1, 2] rfl (P_Pg_readsSpan_76 hX hM hR _ _ _ h)
      · exact rj_sub [1, 2] rfl (P_Pg_readsSpan_40 hX hM hR _ _ _ h)
def F_Pg_readsSpan (a0 : Nat) (x1 : Int32) (w : AW) : Option (Int32 × AW) :=
  if x1 = (126 : Int32) then
    F_Pg_readsSpan_17 a0 x1 (1 : Int32) w
  else
    if x1 = (94 : Int32) then
      F_Pg_readsSpan_17 a0 x1 (1 : Int32) w
    else
      F_Pg_readsSpan_17 a0 x1 (0 : Int32) w
theorem P_Pg_readsSpan_0 {X : AX} {l : Launch} {G : AG} (hX : XOK X b_Pg_readsSpan "RedSky$Page" 4) (hM : XM X l G { frames := 2, cells := 0, slots := 0, locals := 42 }) {o : Int32 × AW} (hR : XR X (some .boolean) 0 0 (some (vi o.1)) o.2) (a0 : Nat) (x1 : Int32) (w : AW) (h : F_Pg_readsSpan a0 x1 w = some o) : RJ X 4 0 0 0 [(0, vr a0), (1, vi x1)] [] w := by
  unfold F_Pg_readsSpan at h
  refine r_iload_n (i := 1) hX d_Pg_readsSpan_0 1 rfl rfl ?_
  refine r_bipush (v := (126 : Int32)) hX d_Pg_readsSpan_1 rfl ?_
  refine r_icmp_eq hX d_Pg_readsSpan_3 rfl h (fun h => ?_) (fun h => ?_)
  · refine r_iconst (v := (1 : Int32)) hX d_Pg_readsSpan_12 rfl ?_
    refine r_goto hX d_Pg_readsSpan_13 rfl ?_
    exact rj_sub [0, 1] rfl (P_Pg_readsSpan_17 hX hM hR _ _ _ _ h)
  · refine r_iload_n (i := 1) hX d_Pg_readsSpan_6 1 rfl rfl ?_
    refine r_bipush (v := (94 : Int32)) hX d_Pg_readsSpan_7 rfl ?_
    refine r_icmp_ne hX d_Pg_readsSpan_9 rfl h (fun h => ?_) (fun h => ?_)
    · refine r_iconst (v := (0 : Int32)) hX d_Pg_readsSpan_16 rfl ?_
      exact rj_sub [0, 1] rfl (P_Pg_readsSpan_17 hX hM hR _ _ _ _ h)
    · refine r_iconst (v := (1 : Int32)) hX d_Pg_readsSpan_12 rfl ?_
      refine r_goto hX d_Pg_readsSpan_13 rfl ?_
      exact rj_sub [0, 1] rfl (P_Pg_readsSpan_17 hX hM hR _ _ _ _ h)
theorem T_Pg_readsSpan {l : Launch} {G : AG} (a0 : Nat) (x1 : Int32) (w : AW) {o : Int32 × AW} (h : F_Pg_readsSpan a0 x1 w = some o) : Mt l G y_Pg_readsSpan b_Pg_readsSpan 4 (some (.boolean)) 2 42 0 0 [vr a0, vi x1] w (some (vi o.1)) o.2 := mt_of (by decide) (Nat.le_of_ble_eq_true rfl) (fun X hX hR hM hI => P_Pg_readsSpan_0 hX hM hR _ _ _ h)
/-! RedSky$Page.readsMonth(II)Z -/
theorem d_Pg_readsMonth_0 : decode b_Pg_readsMonth 0 = .ok (.iload_n 1, 1) := by decide +kernel
theorem d_Pg_readsMonth_1 : decode b_Pg_readsMonth 1 = .ok (.invokestatic 124, 3) := by decide +kernel
theorem d_Pg_readsMonth_4 : decode b_Pg_readsMonth 4 = .ok (.ifCond .eq (11), 3) := by decide +kernel
theorem d_Pg_readsMonth_7 : decode b_Pg_readsMonth 7 = .ok (.aload_n 0, 1) := by decide +kernel
theorem d_Pg_readsMonth_8 : decode b_Pg_readsMonth 8 = .ok (.getfield 49, 3) := by decide +kernel
theorem d_Pg_readsMonth_11 : decode b_Pg_readsMonth 11 = .ok (.iconst 3, 1) := by decide +kernel
theorem d_Pg_readsMonth_12 : decode b_Pg_readsMonth 12 = .ok (.if_icmp .lt (5), 3) := by decide +kernel
theorem d_Pg_readsMonth_15 : decode b_Pg_readsMonth 15 = .ok (.iconst 0, 1) := by decide +kernel
theorem d_Pg_readsMonth_16 : decode b_Pg_readsMonth 16 = .ok (.ireturn, 1) := by decide +kernel
theorem d_Pg_readsMonth_17 : decode b_Pg_readsMonth 17 = .ok (.aload_n 0, 1) := by decide +kernel
theorem d_Pg_readsMonth_18 : decode b_Pg_readsMonth 18 = .ok (.bipush (10), 2) := by decide +kernel
theorem d_Pg_readsMonth_20 : decode b_Pg_readsMonth 20 = .ok (.aload_n 0, 1) := by decide +kernel
theorem d_Pg_readsMonth_21 : decode b_Pg_readsMonth 21 = .ok (.getfield 46, 3) := by decide +kernel
theorem d_Pg_readsMonth_24 : decode b_Pg_readsMonth 24 = .ok (.imul, 1) := by decide +kernel
theorem d_Pg_readsMonth_25 : decode b_Pg_readsMonth 25 = .ok (.iload_n 1, 1) := by decide +kernel
theorem d_Pg_readsMonth_26 : decode b_Pg_readsMonth 26 = .ok (.iadd, 1) := by decide +kernel
theorem d_Pg_readsMonth_27 : decode b_Pg_readsMonth 27 = .ok (.bipush (48), 2) := by decide +kernel
theorem d_Pg_readsMonth_29 : decode b_Pg_readsMonth 29 = .ok (.isub, 1) := by decide +kernel
theorem d_Pg_readsMonth_30 : decode b_Pg_readsMonth 30 = .ok (.putfield 46, 3) := by decide +kernel
theorem d_Pg_readsMonth_33 : decode b_Pg_readsMonth 33 = .ok (.aload_n 0, 1) := by decide +kernel
theorem d_Pg_readsMonth_34 : decode b_Pg_readsMonth 34 = .ok (.dup, 1) := by decide +kernel
theorem d_Pg_readsMonth_35 : decode b_Pg_readsMonth 35 = .ok (.getfield 49, 3) := by decide +kernel
theorem d_Pg_readsMonth_38 : decode b_Pg_readsMonth 38 = .ok (.iconst 1, 1) := by decide +kernel
theorem d_Pg_readsMonth_39 : decode b_Pg_readsMonth 39 = .ok (.iadd, 1) := by decide +kernel
theorem d_Pg_readsMonth_40 : decode b_Pg_readsMonth 40 = .ok (.putfield 49, 3) := by decide +kernel
theorem d_Pg_readsMonth_43 : decode b_Pg_readsMonth 43 = .ok (.aload_n 0, 1) := by decide +kernel
theorem d_Pg_readsMonth_44 : decode b_Pg_readsMonth 44 = .ok (.getfield 46, 3) := by decide +kernel
theorem d_Pg_readsMonth_47 : decode b_Pg_readsMonth 47 = .ok (.bipush (12), 2) := by decide +kernel
theorem d_Pg_readsMonth_49 : decode b_Pg_readsMonth 49 = .ok (.if_icmp .gt (22), 3) := by decide +kernel
theorem d_Pg_readsMonth_52 : decode b_Pg_readsMonth 52 = .ok (.aload_n 0, 1) := by decide +kernel
theorem d_Pg_readsMonth_53 : decode b_Pg_readsMonth 53 = .ok (.getfield 46, 3) := by decide +kernel
theorem d_Pg_readsMonth_56 : decode b_Pg_readsMonth 56 = .ok (.ifCond .gt (11), 3) := by decide +kernel
theorem d_Pg_readsMonth_59 : decode b_Pg_readsMonth 59 = .ok (.aload_n 0, 1) := by decide +kernel
theorem d_Pg_readsMonth_60 : decode b_Pg_readsMonth 60 = .ok (.getfield 49, 3) := by decide +kernel
theorem d_Pg_readsMonth_63 : decode b_Pg_readsMonth 63 = .ok (.iconst 3, 1) := by decide +kernel
theorem d_Pg_readsMonth_64 : decode b_Pg_readsMonth 64 = .ok (.if_icmp .ge (7), 3) := by decide +kernel
theorem d_Pg_readsMonth_67 : decode b_Pg_readsMonth 67 = .ok (.iconst 1, 1) := by decide +kernel
theorem d_Pg_readsMonth_68 : decode b_Pg_readsMonth 68 = .ok (.goto (4), 3) := by decide +kernel
theorem d_Pg_readsMonth_71 : decode b_Pg_readsMonth 71 = .ok (.iconst 0, 1) := by decide +kernel
theorem d_Pg_readsMonth_72 : decode b_Pg_readsMonth 72 = .ok (.istore_n 3, 1) := by decide +kernel
theorem d_Pg_readsMonth_73 : decode b_Pg_readsMonth 73 = .ok (.iload_n 3, 1) := by decide +kernel
theorem d_Pg_readsMonth_74 : decode b_Pg_readsMonth 74 = .ok (.ifCond .eq (15), 3) := by decide +kernel
theorem d_Pg_readsMonth_77 : decode b_Pg_readsMonth 77 = .ok (.aload_n 0, 1) := by decide +kernel
theorem d_Pg_readsMonth_78 : decode b_Pg_readsMonth 78 = .ok (.iload_n 2, 1) := by decide +kernel
theorem d_Pg_readsMonth_79 : decode b_Pg_readsMonth 79 = .ok (.invokevirtual 133, 3) := by decide +kernel
theorem d_Pg_readsMonth_82 : decode b_Pg_readsMonth 82 = .ok (.ifCond .eq (7), 3) := by decide +kernel
theorem d_Pg_readsMonth_85 : decode b_Pg_readsMonth 85 = .ok (.iconst 1, 1) := by decide +kernel
theorem d_Pg_readsMonth_86 : decode b_Pg_readsMonth 86 = .ok (.goto (4), 3) := by decide +kernel
theorem d_Pg_readsMonth_89 : decode b_Pg_readsMonth 89 = .ok (.iconst 0, 1) := by decide +kernel
theorem d_Pg_readsMonth_90 : decode b_Pg_readsMonth 90 = .ok (.ireturn, 1) := by decide +kernel
def F_Pg_readsMonth_72 (a0 : Nat) (x2 : Int32) (s0 : Int32) (w : AW) : Option (Int32 × AW) :=
  if s0 = 0 then
    some ((0 : Int32), w)
  else
    gd (wk w a0 == 4) <|
    (F_Pg_goesTo a0 x2 w).bind fun r2 =>
    if r2.1 = 0 then
      some ((0 : Int32), r2.2)
    else
      some ((1 : Int32), r2.2)
theorem P_Pg_readsMonth_72 {X : AX} {l : Launch} {G : AG} (hX : XOK X b_Pg_readsMonth "RedSky$Page" 4) (hM : XM X l G { frames := 1, cells := 0, slots := 0, locals := 21 }) {o : Int32 × AW} (hR : XR X (some .boolean) 0 0 (some (vi o.1)) o.2) (a0 : Nat) (x2 : Int32) (s0 : Int32) (w : AW) (h : F_Pg_readsMonth_72 a0 x2 s0 w = some o) : RJ X 4 0 0 72 [(0, vr a0), (2, vi x2)] [vi s0] w := by
  unfold F_Pg_readsMonth_72 at h
  refine r_istore_n (i := 3) hX d_Pg_readsMonth_72 rfl (by decide) ?_
  refine r_iload_n (i := 3) hX d_Pg_readsMonth_73 0 rfl rfl ?_
  refine r_if_eq hX d_Pg_readsMonth_74 rfl h (fun h => ?_) (fun h => ?_)
  · refine r_iconst (v := (0 : Int32)) hX d_Pg_readsMonth_89 rfl ?_
    cases h; exact r_zret hX hR rfl d_Pg_readsMonth_90
  · refine r_aload_n (i := 0) hX d_Pg_readsMonth_77 1 rfl rfl ?_
    refine r_iload_n (i := 2) hX d_Pg_readsMonth_78 2 rfl rfl ?_
    obtain ⟨hk1, h⟩ := gd_e h
    obtain ⟨r2, hr3, h⟩ := bd_e h
    refine r_callV1 (As := [_]) hX hM mw_Pg_133 (T_Pg_goesTo _ _ _ hr3) (rc_of ci_3 hk1) rfl rfl ⟨Nat.le_refl _, Nat.le_refl _⟩ rfl rfl d_Pg_readsMonth_79 ?_
    refine r_if_eq hX d_Pg_readsMonth_82 rfl h (fun h => ?_) (fun h => ?_)
    · refine r_iconst (v := (0 : Int32)) hX d_Pg_readsMonth_89 rfl ?_
      cases h; exact r_zret hX hR rfl d_Pg_readsMonth_90
    · refine r_iconst (v := (1 : Int32)) hX d_Pg_readsMonth_85 rfl ?_
      refine r_goto hX d_Pg_readsMonth_86 rfl ?_
      cases h; exact r_zret hX hR rfl d_Pg_readsMonth_90
def F_Pg_readsMonth (a0 : Nat) (x1 : Int32) (x2 : Int32) (w : AW) : Option (Int32 × AW) :=
  if (F_Pg_isDigit x1) = 0 then
    some ((0 : Int32), w)
  else
    gd (wk w a0 == 4) <|
    if (wi w a0 9) < (3 : Int32) then
      let w2 : AW := upI w a0 8 ((((10 : Int32) * (wi w a0 8)) + x1) - (48 : Int32))
      let w3 : AW := upI w2 a0 9 ((wi w2 a0 9) + (1 : Int32))
      if (12 : Int32) < (wi w3 a0 8) then
        F_Pg_readsMonth_72 a0 x2 (0 : Int32) w3
      else
        if 0 < (wi w3 a0 8) then
          F_Pg_readsMonth_72 a0 x2 (1 : Int32) w3
        else
          if (3 : Int32) ≤ (wi w3 a0 9) then
            F_Pg_readsMonth_72 a0 x2 (0 : Int32) w3
          else
            F_Pg_readsMonth_72 a0 x2 (1 : Int32) w3
    else
      some ((0 : Int32), w)
theorem P_Pg_readsMonth_0 {X : AX} {l : Launch} {G : AG} (hX : XOK X b_Pg_readsMonth "RedSky$Page" 4) (hM : XM X l G { frames := 1, cells := 0, slots := 0, locals := 21 }) {o : Int32 × AW} (hR : XR X (some .boolean) 0 0 (some (vi o.1)) o.2) (a0 : Nat) (x1 : Int32) (x2 : Int32) (w : AW) (h : F_Pg_readsMonth a0 x1 x2 w = some o) : RJ X 4 0 0 0 [(0, vr a0), (1, vi x1), (2, vi x2)] [] w := by
  unfold F_Pg_readsMonth at h
  refine r_iload_n (i := 1) hX d_Pg_readsMonth_0 1 rfl rfl ?_
  refine r_callS1 (As := [_]) hX hM mw_Pg_124 (T_Pg_isDigit _ _) rfl rfl ⟨Nat.le_refl _, Nat.le_refl _⟩ rfl rfl d_Pg_readsMonth_1 ?_
  refine r_if_eq hX d_Pg_readsMonth_4 rfl h (fun h => ?_) (fun h => ?_)
  · refine r_iconst (v := (0 : Int32)) hX d_Pg_readsMonth_15 rfl ?_
    cases h; exact r_zret hX hR rfl d_Pg_readsMonth_16
  · refine r_aload_n (i := 0) hX d_Pg_readsMonth_7 0 rfl rfl ?_
    obtain ⟨hk1, h⟩ := gd_e h
    refine r_getI (i := 3) (f := 9) hX ci_3 (by decide) rfl fl_Pg_49 hk1 d_Pg_readsMonth_8 ?_
    refine r_iconst (v := (3 : Int32)) hX d_Pg_readsMonth_11 rfl ?_
    refine r_icmp_lt hX d_Pg_readsMonth_12 rfl h (fun h => ?_) (fun h => ?_)
    · refine r_aload_n (i := 0) hX d_Pg_readsMonth_17 0 rfl rfl ?_
      refine r_bipush (v := (10 : Int32)) hX d_Pg_readsMonth_18 rfl ?_
      refine r_aload_n (i := 0) hX d_Pg_readsMonth_20 0 rfl rfl ?_
      refine r_getI (i := 3) (f := 8) hX ci_3 (by decide) rfl fl_Pg_46 hk1 d_Pg_readsMonth_21 ?_
      refine r_imul hX d_Pg_readsMonth_24 ?_
      refine r_iload_n (i := 1) hX d_Pg_readsMonth_25 1 rfl rfl ?_
      refine r_iadd hX d_Pg_readsMonth_26 ?_
      refine r_bipush (v := (48 : Int32)) hX d_Pg_readsMonth_27 rfl ?_
      refine r_isub hX d_Pg_readsMonth_29 ?_
      refine r_putI (i := 3) (f := 8) hX ci_3 (by decide) rfl rfl (fun G => rfl) (fun G => rfl) fl_Pg_46 hk1 d_Pg_readsMonth_30 ?_
      refine r_aload_n (i := 0) hX d_Pg_readsMonth_33 0 rfl rfl ?_
      refine r_dup hX d_Pg_readsMonth_34 rfl ?_
      refine r_getI (i := 3) (f := 9) hX ci_3 (by decide) rfl fl_Pg_49 (kI hk1) d_Pg_readsMonth_35 ?_
      refine r_iconst (v := (1 : Int32)) hX d_Pg_readsMonth_38 rfl ?_
      refine r_iadd hX d_Pg_readsMonth_39 ?_
      refine r_putI (i := 3) (f := 9) hX ci_3 (by decide) rfl rfl (fun G => rfl) (fun G => rfl) fl_Pg_49 (kI hk1) d_Pg_readsMonth_40 ?_
      refine r_aload_n (i := 0) hX d_Pg_readsMonth_43 0 rfl rfl ?_
      refine r_getI (i := 3) (f := 8) hX ci_3 (by decide) rfl fl_Pg_46 (kI (kI hk1)) d_Pg_readsMonth_44 ?_
      refine r_bipush (v := (12 : Int32)) hX d_Pg_readsMonth_47 rfl ?_
      refine r_icmp_gt hX d_Pg_readsMonth_49 rfl h (fun h => ?_) (fun h => ?_)
      · refine r_iconst (v := (0 : Int32)) hX d_Pg_readsMonth_71 rfl ?_
        exact rj_sub [0, 2] rfl (P_Pg_readsMonth_72 hX hM hR _ _ _ _ h)
      · refine r_aload_n (i := 0) hX d_Pg_readsMonth_52 0 rfl rfl ?_
        refine r_getI (i := 3) (f := 8) hX ci_3 (by decide) rfl fl_Pg_46 (kI (kI hk1)) d_Pg_readsMonth_53 ?_
        refine r_if_gt hX d_Pg_readsMonth_56 rfl h (fun h => ?_) (fun h => ?_)
        · refine r_iconst (v := (1 : Int32)) hX d_Pg_readsMonth_67 rfl ?_
          refine r_goto hX d_Pg_readsMonth_68 rfl ?_
          exact rj_sub [0, 2] rfl (P_Pg_readsMonth_72 hX hM hR _ _ _ _ h)
        · refine r_aload_n (i := 0) hX d_Pg_readsMonth_59 0 rfl rfl ?_
          refine r_getI (i := 3) (f := 9) hX ci_3 (by decide) rfl fl_Pg_49 (kI (kI hk1)) d_Pg_readsMonth_60 ?_
          refine r_iconst (v := (3 : Int32)) hX d_Pg_readsMonth_63 rfl ?_
          refine r_icmp_ge hX d_Pg_readsMonth_64 rfl h (fun h => ?_) (fun h => ?_)
          · refine r_iconst (v := (0 : Int32)) hX d_Pg_readsMonth_71 rfl ?_
            exact rj_sub [0, 2] rfl (P_Pg_readsMonth_72 hX hM hR _ _ _ _ h)
          · refine r_iconst (v := (1 : Int32)) hX d_Pg_readsMonth_67 rfl ?_
            refine r_goto hX d_Pg_readsMonth_68 rfl ?_
            exact rj_sub [0, 2] rfl (P_Pg_readsMonth_72 hX hM hR _ _ _ _ h)
    · refine r_iconst (v := (0 : Int32)) hX d_Pg_readsMonth_15 rfl ?_
      cases h; exact r_zret hX hR rfl d_Pg_readsMonth_16
theorem T_Pg_readsMonth {l : Launch} {G : AG} (a0 : Nat) (x1 : Int32) (x2 : Int32) (w : AW) {o : Int32 × AW} (h : F_Pg_readsMonth a0 x1 x2 w = some o) : Mt l G y_Pg_readsMonth b_Pg_readsMonth 4 (some (.boolean)) 1 21 0 0 [vr a0, vi x1, vi x2] w (some (vi o.1)) o.2 := mt_of (by decide) (Nat.le_of_ble_eq_true rfl) (fun X hX hR hM hI => P_Pg_readsMonth_0 hX hM hR _ _ _ _ h)
/-! RedSky$Page.readsSaint(I)Z -/
theorem d_Pg_readsSaint_0 : decode b_Pg_readsSaint 0 = .ok (.aload_n 0, 1) := by decide +kernel
theorem d_Pg_readsSaint_1 : decode b_Pg_readsSaint 1 = .ok (.getfield 22, 3) := by decide +kernel
theorem d_Pg_readsSaint_4 : decode b_Pg_readsSaint 4 = .ok (.iload_n 1, 1) := by decide +kernel
theorem d_Pg_readsSaint_5 : decode b_Pg_readsSaint 5 = .ok (.bipush (48), 2) := by decide +kernel
theorem d_Pg_readsSaint_7 : decode b_Pg_readsSaint 7 = .ok (.isub, 1) := by decide +kernel
theorem d_Pg_readsSaint_8 : decode b_Pg_readsSaint 8 = .ok (.putfield 208, 3) := by decide +kernel
theorem d_Pg_readsSaint_11 : decode b_Pg_readsSaint 11 = .ok (.aload_n 0, 1) := by decide +kernel
theorem d_Pg_readsSaint_12 : decode b_Pg_readsSaint 12 = .ok (.getfield 22, 3) := by decide +kernel
theorem d_Pg_readsSaint_15 : decode b_Pg_readsSaint 15 = .ok (.getfield 208, 3) := by decide +kernel
theorem d_Pg_readsSaint_18 : decode b_Pg_readsSaint 18 = .ok (.iconst 0, 1) := by decide +kernel
theorem d_Pg_readsSaint_19 : decode b_Pg_readsSaint 19 = .ok (.bipush (7), 2) := by decide +kernel
theorem d_Pg_readsSaint_21 : decode b_Pg_readsSaint 21 = .ok (.invokestatic 80, 3) := by decide +kernel
theorem d_Pg_readsSaint_24 : decode b_Pg_readsSaint 24 = .ok (.ifCond .eq (16), 3) := by decide +kernel
theorem d_Pg_readsSaint_27 : decode b_Pg_readsSaint 27 = .ok (.aload_n 0, 1) := by decide +kernel
theorem d_Pg_readsSaint_28 : decode b_Pg_readsSaint 28 = .ok (.bipush (14), 2) := by decide +kernel
theorem d_Pg_readsSaint_30 : decode b_Pg_readsSaint 30 = .ok (.invokevirtual 133, 3) := by decide +kernel
theorem d_Pg_readsSaint_33 : decode b_Pg_readsSaint 33 = .ok (.ifCond .eq (7), 3) := by decide +kernel
theorem d_Pg_readsSaint_36 : decode b_Pg_readsSaint 36 = .ok (.iconst 1, 1) := by decide +kernel
theorem d_Pg_readsSaint_37 : decode b_Pg_readsSaint 37 = .ok (.goto (4), 3) := by decide +kernel
theorem d_Pg_readsSaint_40 : decode b_Pg_readsSaint 40 = .ok (.iconst 0, 1) := by decide +kernel
theorem d_Pg_readsSaint_41 : decode b_Pg_readsSaint 41 = .ok (.ireturn, 1) := by decide +kernel
def F_Pg_readsSaint (a0 : Nat) (x1 : Int32) (w : AW) : Option (Int32 × AW) :=
  gd (wk w a0 == 4) <|
  gd (wk w (wr w a0 2) == 5) <|
  let w3 : AW := upI w (wr w a0 2) 7 (x1 - (48 : Int32))
  gd (wk w3 (wr w3 a0 2) == 5) <|
  if (F_A_within (wi w3 (wr w3 a0 2) 7) (0 : Int32) (7 : Int32)) = 0 then
    some ((0 : Int32), w3)
  else
    (F_Pg_goesTo a0 (14 : Int32) w3).bind fun r5 =>
    if r5.1 = 0 then
      some ((0 : Int32), r5.2)
    else
      some ((1 : Int32), r5.2)
theorem P_Pg_readsSaint_0 {X : AX} {l : Launch} {G : AG} (hX : XOK X b_Pg_readsSaint "RedSky$Page" 2) (hM : XM X l G { frames := 1, cells := 0, slots := 0, locals := 22 }) {o : Int32 × AW} (hR : XR X (some .boolean) 0 0 (some (vi o.1)) o.2) (a0 : Nat) (x1 : Int32) (w : AW) (h : F_Pg_readsSaint a0 x1 w = some o) : RJ X 2 0 0 0 [(0, vr a0), (1, vi x1)] [] w := by
  unfold F_Pg_readsSaint at h
  refine r_aload_n (i := 0) hX d_Pg_readsSaint_0 0 rfl rfl ?_
  obtain ⟨hk1, h⟩ := gd_e h
  refine r_getR (i := 3) (f := 2) hX ci_3 (by decide) rfl fl_Pg_22 hk1 d_Pg_readsSaint_1 ?_
  refine r_iload_n (i := 1) hX d_Pg_readsSaint_4 1 rfl rfl ?_
  refine r_bipush (v := (48 : Int32)) hX d_Pg_readsSaint_5 rfl ?_
  refine r_isub hX d_Pg_readsSaint_7 ?_
  obtain ⟨hk2, h⟩ := gd_e h
  refine r_putI (i := 4) (f := 7) hX ci_4 (by decide) rfl rfl (fun G => rfl) (fun G => rfl) fl_Pg_208 hk2 d_Pg_readsSaint_8 ?_
  refine r_aload_n (i := 0) hX d_Pg_readsSaint_11 0 rfl rfl ?_
  refine r_getR (i := 3) (f := 2) hX ci_3 (by decide) rfl fl_Pg_22 (kI hk1) d_Pg_readsSaint_12 ?_
  obtain ⟨hk4, h⟩ := gd_e h
  refine r_getI (i := 4) (f := 7) hX ci_4 (by decide) rfl fl_Pg_208 hk4 d_Pg_readsSaint_15 ?_
  refine r_iconst (v := (0 : Int32)) hX d_Pg_readsSaint_18 rfl ?_
  refine r_bipush (v := (7 : Int32)) hX d_Pg_readsSaint_19 rfl ?_
  refine r_callSN1 (As := [_, _, _]) hX hM mw_Pg_80 (T_A_within _ _ _ _) rfl rfl ⟨Nat.le_refl _, Nat.le_refl _⟩ rfl rfl d_Pg_readsSaint_21 ?_
  refine r_if_eq hX d_Pg_readsSaint_24 rfl h (fun h => ?_) (fun h => ?_)
  · refine r_iconst (v := (0 : Int32)) hX d_Pg_readsSaint_40 rfl ?_
    cases h; exact r_zret hX hR rfl d_Pg_readsSaint_41
  · refine r_aload_n (i := 0) hX d_Pg_readsSaint_27 0 rfl rfl ?_
    refine r_bipush (v := (14 : Int32)) hX d_Pg_readsSaint_28 rfl ?_
    obtain ⟨r5, hr6, h⟩ := bd_e h
    refine r_callV1 (As := [_]) hX hM mw_Pg_133 (T_Pg_goesTo _ _ _ hr6) (rc_of ci_3 (kI hk1)) rfl rfl ⟨Nat.le_refl _, Nat.le_refl _⟩ rfl rfl d_Pg_readsSaint_30 ?_
    refine r_if_eq hX d_Pg_readsSaint_33 rfl h (fun h => ?_) (fun h => ?_)
    · refine r_iconst (v := (0 : Int32)) hX d_Pg_readsSaint_40 rfl ?_
      cases h; exact r_zret hX hR rfl d_Pg_readsSaint_41
    · refine r_iconst (v := (1 : Int32)) hX d_Pg_readsSaint_36 rfl ?_
      refine r_goto hX d_Pg_readsSaint_37 rfl ?_
      cases h; exact r_zret hX hR rfl d_Pg_readsSaint_41
theorem T_Pg_readsSaint {l : Launch} {G : AG} (a0 : Nat) (x1 : Int32) (w : AW) {o : Int32 × AW} (h : F_Pg_readsSaint a0 x1 w = some o) : Mt l G y_Pg_readsSaint b_Pg_readsSaint 2 (some (.boolean)) 1 22 0 0 [vr a0, vi x1] w (some (vi o.1)) o.2 := mt_of (by decide) (Nat.le_of_ble_eq_true rfl) (fun X hX hR hM hI => P_Pg_readsSaint_0 hX hM hR _ _ _ h)
/-! RedSky$Page.readsMonthDash()Z -/
theorem d_Pg_readsMonthDash_0 : decode b_Pg_readsMonthDash 0 = .ok (.aload_n 0, 1) := by decide +kernel
theorem d_Pg_readsMonthDash_1 : decode b_Pg_readsMonthDash 1 = .ok (.getfield 46, 3) := by decide +kernel
theorem d_Pg_readsMonthDash_4 : decode b_Pg_readsMonthDash 4 = .ok (.ifCond .le (7), 3) := by decide +kernel
theorem d_Pg_readsMonthDash_7 : decode b_Pg_readsMonthDash 7 = .ok (.iconst 1, 1) := by decide +kernel
theorem d_Pg_readsMonthDash_8 : decode b_Pg_readsMonthDash 8 = .ok (.goto (4), 3) := by decide +kernel
theorem d_Pg_readsMonthDash_11 : decode b_Pg_readsMonthDash 11 = .ok (.iconst 0, 1) := by decide +kernel
theorem d_Pg_readsMonthDash_12 : decode b_Pg_readsMonthDash 12 = .ok (.istore_n 1, 1) := by decide +kernel
theorem d_Pg_readsMonthDash_13 : decode b_Pg_readsMonthDash 13 = .ok (.aload_n 0, 1) := by decide +kernel
theorem d_Pg_readsMonthDash_14 : decode b_Pg_readsMonthDash 14 = .ok (.getfield 22, 3) := by decide +kernel
theorem d_Pg_readsMonthDash_17 : decode b_Pg_readsMonthDash 17 = .ok (.aload_n 0, 1) := by decide +kernel
theorem d_Pg_readsMonthDash_18 : decode b_Pg_readsMonthDash 18 = .ok (.getfield 46, 3) := by decide +kernel
theorem d_Pg_readsMonthDash_21 : decode b_Pg_readsMonthDash 21 = .ok (.putfield 211, 3) := by decide +kernel
theorem d_Pg_readsMonthDash_24 : decode b_Pg_readsMonthDash 24 = .ok (.aload_n 0, 1) := by decide +kernel
theorem d_Pg_readsMonthDash_25 : decode b_Pg_readsMonthDash 25 = .ok (.iconst 0, 1) := by decide +kernel
theorem d_Pg_readsMonthDash_26 : decode b_Pg_readsMonthDash 26 = .ok (.putfield 46, 3) := by decide +kernel
theorem d_Pg_readsMonthDash_29 : decode b_Pg_readsMonthDash 29 = .ok (.aload_n 0, 1) := by decide +kernel
theorem d_Pg_readsMonthDash_30 : decode b_Pg_readsMonthDash 30 = .ok (.iconst 0, 1) := by decide +kernel
theorem d_Pg_readsMonthDash_31 : decode b_Pg_readsMonthDash 31 = .ok (.putfield 49, 3) := by decide +kernel
theorem d_Pg_readsMonthDash_34 : decode b_Pg_readsMonthDash 34 = .ok (.iload_n 1, 1) := by decide +kernel
theorem d_Pg_readsMonthDash_35 : decode b_Pg_readsMonthDash 35 = .ok (.ifCond .eq (16), 3) := by decide +kernel
theorem d_Pg_readsMonthDash_38 : decode b_Pg_readsMonthDash 38 = .ok (.aload_n 0, 1) := by decide +kernel
theorem d_Pg_readsMonthDash_39 : decode b_Pg_readsMonthDash 39 = .ok (.bipush (12), 2) := by decide +kernel
theorem d_Pg_readsMonthDash_41 : decode b_Pg_readsMonthDash 41 = .ok (.invokevirtual 133, 3) := by decide +kernel
theorem d_Pg_readsMonthDash_44 : decode b_Pg_readsMonthDash 44 = .ok (.ifCond .eq (7), 3) := by decide +kernel
theorem d_Pg_readsMonthDash_47 : decode b_Pg_readsMonthDash 47 = .ok (.iconst 1, 1) := by decide +kernel
theorem d_Pg_readsMonthDash_48 : decode b_Pg_readsMonthDash 48 = .ok (.goto (4), 3) := by decide +kernel
theorem d_Pg_readsMonthDash_51 : decode b_Pg_readsMonthDash 51 = .ok (.iconst 0, 1) := by decide +kernel
theorem d_Pg_readsMonthDash_52 : decode b_Pg_readsMonthDash 52 = .ok (.ireturn, 1) := by decide +kernel
def F_Pg_readsMonthDash_12 (a0 : Nat) (s0 : Int32) (w : AW) : Option (Int32 × AW) :=
  gd (wk w a0 == 4) <|
  gd (wk w (wr w a0 2) == 5) <|
  let w3 : AW := upI w (wr w a0 2) 5 (wi w a0 8)
  let w4 : AW := upI w3 a0 8 (0 : Int32)
  let w5 : AW := upI w4 a0 9 (0 : Int32)
  if s0 = 0 then
    some ((0 : Int32), w5)
  else
    (F_Pg_goesTo a0 (12 : Int32) w5).bind fun r6 =>
    if r6.1 = 0 then
      some ((0 : Int32), r6.2)
    else
      some ((1 : Int32), r6.2)
theorem P_Pg_readsMonthDash_12 {X : AX} {l : Launch} {G : AG} (hX : XOK X b_Pg_readsMonthDash "RedSky$Page" 2) (hM : XM X l G { frames := 1, cells := 0, slots := 0, locals := 21 }) {o : Int32 × AW} (hR : XR X (some .boolean) 0 0 (some (vi o.1)) o.2) (a0 : Nat) (s0 : Int32) (w : AW) (h : F_Pg_readsMonthDash_12 a0 s0 w = some o) : RJ X 2 0 0 12 [(0, vr a0)] [vi s0] w := by
  unfold F_Pg_readsMonthDash_12 at h
  refine r_istore_n (i := 1) hX d_Pg_readsMonthDash_12 rfl (by decide) ?_
  refine r_aload_n (i := 0) hX d_Pg_readsMonthDash_13 1 rfl rfl ?_
  obtain ⟨hk1, h⟩ := gd_e h
  refine r_getR (i := 3) (f := 2) hX ci_3 (by decide) rfl fl_Pg_22 hk1 d_Pg_readsMonthDash_14 ?_
  refine r_aload_n (i := 0) hX d_Pg_readsMonthDash_17 1 rfl rfl ?_
  refine r_getI (i := 3) (f := 8) hX ci_3 (by decide) rfl fl_Pg_46 hk1 d_Pg_readsMonthDash_18 ?_
  obtain ⟨hk2, h⟩ := gd_e h
  refine r_putI (i := 4) (f := 5) hX ci_4 (by decide) rfl rfl (fun G => rfl) (fun G => rfl) fl_Pg_211 hk2 d_Pg_readsMonthDash_21 ?_
  refine r_aload_n (i := 0) hX d_Pg_readsMonthDash_24 1 rfl rfl ?_
  refine r_iconst (v := (0 : Int32)) hX d_Pg_readsMonthDash_25 rfl ?_
  refine r_putI (i := 3) (f := 8) hX ci_3 (by decide) rfl rfl (fun G => rfl) (fun G => rfl) fl_Pg_46 (kI hk1) d_Pg_readsMonthDash_26 ?_
  refine r_aload_n (i := 0) hX d_Pg_readsMonthDash_29 1 rfl rfl ?_
  refine r_iconst (v := (0 : Int32)) hX d_Pg_readsMonthDash_30 rfl ?_
  refine r_putI (i := 3) (f := 9) hX ci_3 (by decide) rfl rfl (fun G => rfl) (fun G => rfl) fl_Pg_49 (kI (kI hk1)) d_Pg_readsMonthDash_31 ?_
  refine r_iload_n (i := 1) hX d_Pg_readsMonthDash_34 0 rfl rfl ?_
  refine r_if_eq hX d_Pg_readsMonthDash_35 rfl h (fun h => ?_) (fun h => ?_)
  · refine r_iconst (v := (0 : Int32)) hX d_Pg_readsMonthDash_51 rfl ?_
    cases h; exact r_zret hX hR rfl d_Pg_readsMonthDash_52
  · refine r_aload_n (i := 0) hX d_Pg_readsMonthDash_38 1 rfl rfl ?_
    refine r_bipush (v := (12 : Int32)) hX d_Pg_readsMonthDash_39 rfl ?_
    obtain ⟨r6, hr7, h⟩ := bd_e h
    refine r_callV1 (As := [_]) hX hM mw_Pg_133 (T_Pg_goesTo _ _ _ hr7) (rc_of ci_3 (kI (kI (kI hk1)))) rfl rfl ⟨Nat.le_refl _, Nat.le_refl _⟩ rfl rfl d_Pg_readsMonthDash_41 ?_
    refine r_if_eq hX d_Pg_readsMonthDash_44 rfl h (fun h => ?_) (fun h => ?_)
    · refine r_iconst (v := (0 : Int32)) hX d_Pg_readsMonthDash_51 rfl ?_
      cases h; exact r_zret hX hR rfl d_Pg_readsMonthDash_52
    · refine r_iconst (v := (1 : Int32)) hX d_Pg_readsMonthDash_47 rfl ?_
      refine r_goto hX d_Pg_readsMonthDash_48 rfl ?_
      cases h; exact r_zret hX hR rfl d_Pg_readsMonthDash_52
def F_Pg_readsMonthDash (a0 : Nat) (w : AW) : Option (Int32 × AW) :=
  gd (wk w a0 == 4) <|
  if (wi w a0 8) ≤ 0 then
    F_Pg_readsMonthDash_12 a0 (0 : Int32) w
  else
    F_Pg_readsMonthDash_12 a0 (1 : Int32) w
theorem P_Pg_readsMonthDash_0 {X : AX} {l : Launch} {G : AG} (hX : XOK X b_Pg_readsMonthDash "RedSky$Page" 2) (hM : XM X l G { frames := 1, cells := 0, slots := 0, locals := 21 }) {o : Int32 × AW} (hR : XR X (some .boolean) 0 0 (some (vi o.1)) o.2) (a0 : Nat) (w : AW) (h : F_Pg_readsMonthDash a0 w = some o) : RJ X 2 0 0 0 [(0, vr a0)] [] w := by
  unfold F_Pg_readsMonthDash at h
  refine r_aload_n (i := 0) hX d_Pg_readsMonthDash_0 0 rfl rfl ?_
  obtain ⟨hk1, h⟩ := gd_e h
  refine r_getI (i := 3) (f := 8) hX ci_3 (by decide) rfl fl_Pg_46 hk1 d_Pg_readsMonthDash_1 ?_
  refine r_if_le hX d_Pg_readsMonthDash_4 rfl h (fun h => ?_) (fun h => ?_)
  · refine r_iconst (v := (0 : Int32)) hX d_Pg_readsMonthDash_11 rfl ?_
    exact rj_sub [0] rfl (P_Pg_readsMonthDash_12 hX hM hR _ _ _ h)
  · refine r_iconst (v := (1 : Int32)) hX d_Pg_readsMonthDash_7 rfl ?_
    refine r_goto hX d_Pg_readsMonthDash_8 rfl ?_
    exact rj_sub [0] rfl (P_Pg_readsMonthDash_12 hX hM hR _ _ _ h)
theorem T_Pg_readsMonthDash {l : Launch} {G : AG} (a0 : Nat) (w : AW) {o : Int32 × AW} (h : F_Pg_readsMonthDash a0 w = some o) : Mt l G y_Pg_readsMonthDash b_Pg_readsMonthDash 2 (some (.boolean)) 1 21 0 0 [vr a0] w (some (vi o.1)) o.2 := mt_of (by decide) (Nat.le_of_ble_eq_true rfl) (fun X hX hR hM hI => P_Pg_readsMonthDash_0 hX hM hR _ _ h)
/-! RedSky$Page.accepts(I)Z -/
theorem d_Pg_accepts_0 : decode b_Pg_accepts 0 = .ok (.aload_n 0, 1) := by decide +kernel
theorem d_Pg_accepts_1 : decode b_Pg_accepts 1 = .ok (.getfield 37, 3) := by decide +kernel
theorem d_Pg_accepts_4 : decode b_Pg_accepts 4 = .ok (.tableswitch (194) 0 13 #[72, 78, 84, 103, 109, 130, 130, 130, 130, 136, 159, 165, 186, 186], 72) := by decide +kernel
theorem d_Pg_accepts_76 : decode b_Pg_accepts 76 = .ok (.aload_n 0, 1) := by decide +kernel
theorem d_Pg_accepts_77 : decode b_Pg_accepts 77 = .ok (.iload_n 1, 1) := by decide +kernel
theorem d_Pg_accepts_78 : decode b_Pg_accepts 78 = .ok (.invokevirtual 111, 3) := by decide +kernel
theorem d_Pg_accepts_81 : decode b_Pg_accepts 81 = .ok (.ireturn, 1) := by decide +kernel
theorem d_Pg_accepts_82 : decode b_Pg_accepts 82 = .ok (.aload_n 0, 1) := by decide +kernel
theorem d_Pg_accepts_83 : decode b_Pg_accepts 83 = .ok (.iload_n 1, 1) := by decide +kernel
theorem d_Pg_accepts_84 : decode b_Pg_accepts 84 = .ok (.invokevirtual 114, 3) := by decide +kernel
theorem d_Pg_accepts_87 : decode b_Pg_accepts 87 = .ok (.ireturn, 1) := by decide +kernel
theorem d_Pg_accepts_88 : decode b_Pg_accepts 88 = .ok (.iload_n 1, 1) := by decide +kernel
theorem d_Pg_accepts_89 : decode b_Pg_accepts 89 = .ok (.bipush (45), 2) := by decide +kernel
theorem d_Pg_accepts_91 : decode b_Pg_accepts 91 = .ok (.if_icmp .ne (10), 3) := by decide +kernel
theorem d_Pg_accepts_94 : decode b_Pg_accepts 94 = .ok (.aload_n 0, 1) := by decide +kernel
theorem d_Pg_accepts_95 : decode b_Pg_accepts 95 = .ok (.invokevirtual 117, 3) := by decide +kernel
theorem d_Pg_accepts_98 : decode b_Pg_accepts 98 = .ok (.goto (8), 3) := by decide +kernel
theorem d_Pg_accepts_101 : decode b_Pg_accepts 101 = .ok (.aload_n 0, 1) := by decide +kernel
theorem d_Pg_accepts_102 : decode b_Pg_accepts 102 = .ok (.iload_n 1, 1) := by decide +kernel
theorem d_Pg_accepts_103 : decode b_Pg_accepts 103 = .ok (.invokevirtual 121, 3) := by decide +kernel
theorem d_Pg_accepts_106 : decode b_Pg_accepts 106 = .ok (.ireturn, 1) := by decide +kernel
theorem d_Pg_accepts_107 : decode b_Pg_accepts 107 = .ok (.aload_n 0, 1) := by decide +kernel
theorem d_Pg_accepts_108 : decode b_Pg_accepts 108 = .ok (.iload_n 1, 1) := by decide +kernel
theorem d_Pg_accepts_109 : decode b_Pg_accepts 109 = .ok (.invokevirtual 121, 3) := by decide +kernel
theorem d_Pg_accepts_112 : decode b_Pg_accepts 112 = .ok (.ireturn, 1) := by decide +kernel
theorem d_Pg_accepts_113 : decode b_Pg_accepts 113 = .ok (.iload_n 1, 1) := by decide +kernel
theorem d_Pg_accepts_114 : decode b_Pg_accepts 114 = .ok (.invokestatic 124, 3) := by decide +kernel
theorem d_Pg_accepts_117 : decode b_Pg_accepts 117 = .ok (.ifCond .eq (11), 3) := by decide +kernel
theorem d_Pg_accepts_120 : decode b_Pg_accepts 120 = .ok (.aload_n 0, 1) := by decide +kernel
theorem d_Pg_accepts_121 : decode b_Pg_accepts 121 = .ok (.iload_n 1, 1) := by decide +kernel
theorem d_Pg_accepts_122 : decode b_Pg_accepts 122 = .ok (.invokevirtual 121, 3) := by decide +kernel
theorem d_Pg_accepts_125 : decode b_Pg_accepts 125 = .ok (.goto (8), 3) := by decide +kernel
theorem d_Pg_accepts_128 : decode b_Pg_accepts 128 = .ok (.aload_n 0, 1) := by decide +kernel
theorem d_Pg_accepts_129 : decode b_Pg_accepts 129 = .ok (.iload_n 1, 1) := by decide +kernel
theorem d_Pg_accepts_130 : decode b_Pg_accepts 130 = .ok (.invokevirtual 127, 3) := by decide +kernel
theorem d_Pg_accepts_133 : decode b_Pg_accepts 133 = .ok (.ireturn, 1) := by decide +kernel
theorem d_Pg_accepts_134 : decode b_Pg_accepts 134 = .ok (.aload_n 0, 1) := by decide +kernel
theorem d_Pg_accepts_135 : decode b_Pg_accepts 135 = .ok (.iload_n 1, 1) := by decide +kernel
theorem d_Pg_accepts_136 : decode b_Pg_accepts 136 = .ok (.invokevirtual 130, 3) := by decide +kernel
theorem d_Pg_accepts_139 : decode b_Pg_accepts 139 = .ok (.ireturn, 1) := by decide +kernel
theorem d_Pg_accepts_140 : decode b_Pg_accepts 140 = .ok (.iload_n 1, 1) := by decide +kernel
theorem d_Pg_accepts_141 : decode b_Pg_accepts 141 = .ok (.bipush (35), 2) := by decide +kernel
theorem d_Pg_accepts_143 : decode b_Pg_accepts 143 = .ok (.if_icmp .ne (12), 3) := by decide +kernel
theorem d_Pg_accepts_146 : decode b_Pg_accepts 146 = .ok (.aload_n 0, 1) := by decide +kernel
theorem d_Pg_accepts_147 : decode b_Pg_accepts 147 = .ok (.bipush (10), 2) := by decide +kernel
theorem d_Pg_accepts_149 : decode b_Pg_accepts 149 = .ok (.invokevirtual 133, 3) := by decide +kernel
theorem d_Pg_accepts_152 : decode b_Pg_accepts 152 = .ok (.goto (10), 3) := by decide +kernel
theorem d_Pg_accepts_155 : decode b_Pg_accepts 155 = .ok (.aload_n 0, 1) := by decide +kernel
theorem d_Pg_accepts_156 : decode b_Pg_accepts 156 = .ok (.iload_n 1, 1) := by decide +kernel
theorem d_Pg_accepts_157 : decode b_Pg_accepts 157 = .ok (.bipush (11), 2) := by decide +kernel
theorem d_Pg_accepts_159 : decode b_Pg_accepts 159 = .ok (.invokevirtual 136, 3) := by decide +kernel
theorem d_Pg_accepts_162 : decode b_Pg_accepts 162 = .ok (.ireturn, 1) := by decide +kernel
theorem d_Pg_accepts_163 : decode b_Pg_accepts 163 = .ok (.aload_n 0, 1) := by decide +kernel
theorem d_Pg_accepts_164 : decode b_Pg_accepts 164 = .ok (.iload_n 1, 1) := by decide +kernel
theorem d_Pg_accepts_165 : decode b_Pg_accepts 165 = .ok (.invokevirtual 140, 3) := by decide +kernel
theorem d_Pg_accepts_168 : decode b_Pg_accepts 168 = .ok (.ireturn, 1) := by decide +kernel
theorem d_Pg_accepts_169 : decode b_Pg_accepts 169 = .ok (.iload_n 1, 1) := by decide +kernel
theorem d_Pg_accepts_170 : decode b_Pg_accepts 170 = .ok (.bipush (45), 2) := by decide +kernel
theorem d_Pg_accepts_172 : decode b_Pg_accepts 172 = .ok (.if_icmp .ne (10), 3) := by decide +kernel
theorem d_Pg_accepts_175 : decode b_Pg_accepts 175 = .ok (.aload_n 0, 1) := by decide +kernel
theorem d_Pg_accepts_176 : decode b_Pg_accepts 176 = .ok (.invokevirtual 143, 3) := by decide +kernel
theorem d_Pg_accepts_179 : decode b_Pg_accepts 179 = .ok (.goto (10), 3) := by decide +kernel
theorem d_Pg_accepts_182 : decode b_Pg_accepts 182 = .ok (.aload_n 0, 1) := by decide +kernel
theorem d_Pg_accepts_183 : decode b_Pg_accepts 183 = .ok (.iload_n 1, 1) := by decide +kernel
theorem d_Pg_accepts_184 : decode b_Pg_accepts 184 = .ok (.bipush (11), 2) := by decide +kernel
theorem d_Pg_accepts_186 : decode b_Pg_accepts 186 = .ok (.invokevirtual 136, 3) := by decide +kernel
theorem d_Pg_accepts_189 : decode b_Pg_accepts 189 = .ok (.ireturn, 1) := by decide +kernel
theorem d_Pg_accepts_190 : decode b_Pg_accepts 190 = .ok (.aload_n 0, 1) := by decide +kernel
theorem d_Pg_accepts_191 : decode b_Pg_accepts 191 = .ok (.iload_n 1, 1) := by decide +kernel
theorem d_Pg_accepts_192 : decode b_Pg_accepts 192 = .ok (.bipush (13), 2) := by decide +kernel
theorem d_Pg_accepts_194 : decode b_Pg_accepts 194 = .ok (.invokevirtual 136, 3) := by decide +kernel
theorem d_Pg_accepts_197 : decode b_Pg_accepts 197 = .ok (.ireturn, 1) := by decide +kernel
theorem d_Pg_accepts_198 : decode b_Pg_accepts 198 = .ok (.iconst 0, 1) := by decide +kernel
theorem d_Pg_accepts_199 : decode b_Pg_accepts 199 = .ok (.ireturn, 1) := by decide +kernel
def F_Pg_accepts_190 (a0 : Nat) (x1 : Int32) (w : AW) : Option (Int32 × AW) :=
  gd (wk w a0 == 4) <|
  (F_Pg_readsMonth a0 x1 (13 : Int32) w).bind fun r2 =>
  gd (r2.1 == 0 || r2.1 == 1) <|
  some (r2.1, r2.2)
theorem P_Pg_accepts_190 {X : AX} {l : Launch} {G : AG} (hX : XOK X b_Pg_accepts "RedSky$Page" 2) (hM : XM X l G { frames := 5, cells := 0, slots := 0, locals := 113 }) {o : Int32 × AW} (hR : XR X (some .boolean) 0 0 (some (vi o.1)) o.2) (a0 : Nat) (x1 : Int32) (w : AW) (h : F_Pg_accepts_190 a0 x1 w = some o) : RJ X 2 0 0 190 [(0, vr a0), (1, vi x1)] [] w := by
  unfold F_Pg_accepts_190 at h
  refine r_aload_n (i := 0) hX d_Pg_accepts_190 0 rfl rfl ?_
  refine r_iload_n (i := 1) hX d_Pg_accepts_191 1 rfl rfl ?_
  refine r_bipush (v := (13 : Int32)) hX d_Pg_accepts_192 rfl ?_
  obtain ⟨hk1, h⟩ := gd_e h
  obtain ⟨r2, hr3, h⟩ := bd_e h
  refine r_callV1 (As := [_, _]) hX hM mw_Pg_136 (T_Pg_readsMonth _ _ _ _ hr3) (rc_of ci_3 hk1) rfl rfl ⟨Nat.le_refl _, Nat.le_refl _⟩ rfl rfl d_Pg_accepts_194 ?_
  obtain ⟨hg4, h⟩ := gd_e h
  cases h; exact r_zret hX hR (zn_ok hg4) d_Pg_accepts_197
def F_Pg_accepts_134 (a0 : Nat) (x1 : Int32) (w : AW) : Option (Int32 × AW) :=
  gd (wk w a0 == 4) <|
  (F_Pg_readsSpan a0 x1 w).bind fun r2 =>
  gd (r2.1 == 0 || r2.1 == 1) <|
  some (r2.1, r2.2)
theorem P_Pg_accepts_134 {X : AX} {l : Launch} {G : AG} (hX : XOK X b_Pg_accepts "RedSky$Page" 2) (hM : XM X l G { frames := 5, cells := 0, slots := 0, locals := 113 }) {o : Int32 × AW} (hR : XR X (some .boolean) 0 0 (some (vi o.1)) o.2) (a0 : Nat) (x1 : Int32) (w : AW) (h : F_Pg_accepts_134 a0 x1 w = some o) : RJ X 2 0 0 134 [(0, vr a0), (1, vi x1)] [] w := by
  unfold F_Pg_accepts_134 at h
  refine r_aload_n (i := 0) hX d_Pg_accepts_134 0 rfl rfl ?_
  refine r_iload_n (i := 1) hX d_Pg_accepts_135 1 rfl rfl ?_
  obtain ⟨hk1, h⟩ := gd_e h
  obtain ⟨r2, hr3, h⟩ := bd_e h
  refine r_callV1 (As := [_]) hX hM mw_Pg_130 (T_Pg_readsSpan _ _ _ hr3) (rc_of ci_3 hk1) rfl rfl ⟨Nat.le_refl _, Nat.le_refl _⟩ rfl rfl d_Pg_accepts_136 ?_
  obtain ⟨hg4, h⟩ := gd_e h
  cases h; exact r_zret hX hR (zn_ok hg4) d_Pg_accepts_139
def F_Pg_accepts (a0 : Nat) (x1 : Int32) (w : AW) : Option (Int32 × AW) :=
  gd (wk w a0 == 4) <|
  let v2 : Int32 := (wi w a0 5)
  if Int32.toInt v2 < 0 ∨ 13 < Int32.toInt v2 then
    some ((0 : Int32), w)
  else if v2 = (0 : Int32) then
    (F_Pg_startsFactor a0 x1 w).bind fun r3 =>
    gd (r3.1 == 0 || r3.1 == 1) <|
    some (r3.1, r3.2)
  else if v2 = (1 : Int32) then
    (F_Pg_readsSign a0 x1 w).bind fun r6 =>
    gd (r6.1 == 0 || r6.1 == 1) <|
    some (r6.1, r6.2)
  else if v2 = (2 : Int32) then
    if x1 = (45 : Int32) then
      (F_Pg_readsMinus a0 w).bind fun r12 =>
      gd (r12.1 == 0 || r12.1 == 1) <|
      some (r12.1, r12.2)
    else
      (F_Pg_readsDigit a0 x1 w).bind fun r9 =>
      gd (r9.1 == 0 || r9.1 == 1) <|
      some (r9.1, r9.2)
  else if v2 = (3 : Int32) then
    (F_Pg_readsDigit a0 x1 w).bind fun r15 =>
    gd (r15.1 == 0 || r15.1 == 1) <|
    some (r15.1, r15.2)
  else if v2 = (4 : Int32) then
    if (F_Pg_isDigit x1) = 0 then
      (F_Pg_goesOn a0 x1 w).bind fun r18 =>
      gd (r18.1 == 0 || r18.1 == 1) <|
      some (r18.1, r18.2)
    else
      (F_Pg_readsDigit a0 x1 w).bind fun r21 =>
      gd (r21.1 == 0 || r21.1 == 1) <|
      some (r21.1, r21.2)
  else if v2 = (5 : Int32) then
    F_Pg_accepts_134 a0 x1 w
  else if v2 = (6 : Int32) then
    F_Pg_accepts_134 a0 x1 w
  else if v2 = (7 : Int32) then
    F_Pg_accepts_134 a0 x1 w
  else if v2 = (8 : Int32) then
    F_Pg_accepts_134 a0 x1 w
  else if v2 = (9 : Int32) then
    if x1 = (35 : Int32) then
      (F_Pg_goesTo a0 (10 : Int32) w).bind fun r27 =>
      gd (r27.1 == 0 || r27.1 == 1) <|
      some (r27.1, r27.2)
    else
      (F_Pg_readsMonth a0 x1 (11 : Int32) w).bind fun r24 =>
      gd (r24.1 == 0 || r24.1 == 1) <|
      some (r24.1, r24.2)
  else if v2 = (10 : Int32) then
    (F_Pg_readsSaint a0 x1 w).bind fun r30 =>
    gd (r30.1 == 0 || r30.1 == 1) <|
    some (r30.1, r30.2)
  else if v2 = (11 : Int32) then
    if x1 = (45 : Int32) then
      (F_Pg_readsMonthDash a0 w).bind fun r36 =>
      gd (r36.1 == 0 || r36.1 == 1) <|
      some (r36.1, r36.2)
    else
      (F_Pg_readsMonth a0 x1 (11 : Int32) w).bind fun r33 =>
      gd (r33.1 == 0 || r33.1 == 1) <|
      some (r33.1, r33.2)
  else if v2 = (12 : Int32) then
    F_Pg_accepts_190 a0 x1 w
  else if v2 = (13 : Int32) then
    F_Pg_accepts_190 a0 x1 w
  else none
theorem P_Pg_accepts_0 {X : AX} {l : Launch} {G : AG} (hX : XOK X b_Pg_accepts "RedSky$Page" 2) (hM : XM X l G { frames := 5, cells := 0, slots := 0, locals := 113 }) {o : Int32 × AW} (hR : XR X (some .boolean) 0 0 (some (vi o.1)) o.2) (a0 : Nat) (x1 : Int32) (w : AW) (h : F_Pg_accepts a0 x1 w = some o) : RJ X 2 0 0 0 [(0, vr a0), (1, vi x1)] [] w := by
  unfold F_Pg_accepts at h
  refine r_aload_n (i := 0) hX d_Pg_accepts_0 0 rfl rfl ?_
  obtain ⟨hk1, h⟩ := gd_e h
  refine r_getI (i := 3) (f := 5) hX ci_3 (by decide) rfl fl_Pg_37 hk1 d_Pg_accepts_1 ?_
  rcases it_e h with ⟨hc, h⟩ | ⟨-, h⟩
  · refine r_tsOut hX hc d_Pg_accepts_4 rfl ?_
    refine r_iconst (v := (0 : Int32)) hX d_Pg_accepts_198 rfl ?_
    cases h; exact r_zret hX hR rfl d_Pg_accepts_199
  rcases it_e h with ⟨hc, h⟩ | ⟨-, h⟩
  · refine r_tsIn (v := (0 : Int32)) hX hc d_Pg_accepts_4 (by decide) (by decide) rfl rfl ?_
    refine r_aload_n (i := 0) hX d_Pg_accepts_76 0 rfl rfl ?_
    refine r_iload_n (i := 1) hX d_Pg_accepts_77 1 rfl rfl ?_
    obtain ⟨r3, hr4, h⟩ := bd_e h
    refine r_callV1 (As := [_]) hX hM mw_Pg_111 (T_Pg_startsFactor _ _ _ hr4) (rc_of ci_3 hk1) rfl rfl ⟨Nat.le_refl _, Nat.le_refl _⟩ rfl rfl d_Pg_accepts_78 ?_
    obtain ⟨hg5, h⟩ := gd_e h
    cases h; exact r_zret hX hR (zn_ok hg5) d_Pg_accepts_81
  rcases it_e h with ⟨hc, h⟩ | ⟨-, h⟩
  · refine r_tsIn (v := (1 : Int32)) hX hc d_Pg_accepts_4 (by decide) (by decide) rfl rfl ?_
    refine r_aload_n (i := 0) hX d_Pg_accepts_82 0 rfl rfl ?_
    refine r_iload_n (i := 1) hX d_Pg_accepts_83 1 rfl rfl ?_
    obtain ⟨r6, hr7, h⟩ := bd_e h
    refine r_callV1 (As := [_]) hX hM mw_Pg_114 (T_Pg_readsSign _ _ _ hr7) (rc_of ci_3 hk1) rfl rfl ⟨Nat.le_refl _, Nat.le_refl _⟩ rfl rfl d_Pg_accepts_84 ?_
    obtain ⟨hg8, h⟩ := gd_e h
    cases h; exact r_zret hX hR (zn_ok hg8) d_Pg_accepts_87
  rcases it_e h with ⟨hc, h⟩ | ⟨-, h⟩
  · refine r_tsIn (v := (2 : Int32)) hX hc d_Pg_accepts_4 (by decide) (by decide) rfl rfl ?_
    refine r_iload_n (i := 1) hX d_Pg_accepts_88 1 rfl rfl ?_
    refine r_bipush (v := (45 : Int32)) hX d_Pg_accepts_89 rfl ?_
    refine r_icmp_ne hX d_Pg_accepts_91 rfl h (fun h => ?_) (fun h => ?_)
    · refine r_aload_n (i := 0) hX d_Pg_accepts_101 0 rfl rfl ?_
      refine r_iload_n (i := 1) hX d_Pg_accepts_102 1 rfl rfl ?_
      obtain ⟨r9, hr10, h⟩ := bd_e h
      refine r_callV1 (As := [_]) hX hM mw_Pg_121 (T_Pg_readsDigit _ _ _ hr10) (rc_of ci_3 hk1) rfl rfl ⟨Nat.le_refl _, Nat.le_refl _⟩ rfl rfl d_Pg_accepts_103 ?_
      obtain ⟨hg11, h⟩ := gd_e h
      cases h; exact r_zret hX hR (zn_ok hg11) d_Pg_accepts_106
    · refine r_aload_n (i := 0) hX d_Pg_accepts_94 0 rfl rfl ?_
      obtain ⟨r12, hr13, h⟩ := bd_e h
      refine r_callV1 (As := []) hX hM mw_Pg_117 (T_Pg_readsMinus _ _ hr13) (rc_of ci_3 hk1) rfl rfl ⟨Nat.le_refl _, Nat.le_refl _⟩ rfl rfl d_Pg_accepts_95 ?_
      refine r_goto hX d_Pg_accepts_98 rfl ?_
      obtain ⟨hg14, h⟩ := gd_e h
      cases h; exact r_zret hX hR (zn_ok hg14) d_Pg_accepts_106
  rcases it_e h with ⟨hc, h⟩ | ⟨-, h⟩
  · refine r_tsIn (v := (3 : Int32)) hX hc d_Pg_accepts_4 (by decide) (by decide) rfl rfl ?_
    refine r_aload_n (i := 0) hX d_Pg_accepts_107 0 rfl rfl ?_
    refine r_iload_n (i := 1) hX d_Pg_accepts_108 1 rfl rfl ?_
    obtain ⟨r15, hr16, h⟩ := bd_e h
    refine r_callV1 (As := [_]) hX hM mw_Pg_121 (T_Pg_readsDigit _ _ _ hr16) (rc_of ci_3 hk1) rfl rfl ⟨Nat.le_refl _, Nat.le_refl _⟩ rfl rfl d_Pg_accepts_109 ?_
    obtain ⟨hg17, h⟩ := gd_e h
    cases h; exact r_zret hX hR (zn_ok hg17) d_Pg_accepts_112
  rcases it_e h with ⟨hc, h⟩ | ⟨-, h⟩
  · refine r_tsIn (v := (4 : Int32)) hX hc d_Pg_accepts_4 (by decide) (by decide) rfl rfl ?_
    refine r_iload_n (i := 1) hX d_Pg_accepts_113 1 rfl rfl ?_
    refine r_callS1 (As := [_]) hX hM mw_Pg_124 (T_Pg_isDigit _ _) rfl rfl ⟨Nat.le_refl _, Nat.le_refl _⟩ rfl rfl d_Pg_accepts_114 ?_
    refine r_if_eq hX d_Pg_accepts_117 rfl h (fun h => ?_) (fun h => ?_)
    · refine r_aload_n (i := 0) hX d_Pg_accepts_128 0 rfl rfl ?_
      refine r_iload_n (i := 1) hX d_Pg_accepts_129 1 rfl rfl ?_
      obtain ⟨r18, hr19, h⟩ := bd_e h
      refine r_callV1 (As := [_]) hX hM mw_Pg_127 (T_Pg_goesOn _ _ _ hr19) (rc_of ci_3 hk1) rfl rfl ⟨Nat.le_refl _, Nat.le_refl _⟩ rfl rfl d_Pg_accepts_130 ?_
      obtain ⟨hg20, h⟩ := gd_e h
      cases h; exact r_zret hX hR (zn_ok hg20) d_Pg_accepts_133
    · refine r_aload_n (i := 0) hX d_Pg_accepts_120 0 rfl rfl ?_
      refine r_iload_n (i := 1) hX d_Pg_accepts_121 1 rfl rfl ?_
      obtain ⟨r21, hr22, h⟩ := bd_e h
      refine r_callV1 (As := [_]) hX hM mw_Pg_121 (T_Pg_readsDigit _ _ _ hr22) (rc_of ci_3 hk1) rfl rfl ⟨Nat.le_refl _, Nat.le_refl _⟩ rfl rfl d_Pg_accepts_122 ?_
      refine r_goto hX d_Pg_accepts_125 rfl ?_
      obtain ⟨hg23, h⟩ := gd_e h
      cases h; exact r_zret hX hR (zn_ok hg23) d_Pg_accepts_133
  rcases it_e h with ⟨hc, h⟩ | ⟨-, h⟩
  · refine r_tsIn (v := (5 : Int32)) hX hc d_Pg_accepts_4 (by decide) (by decide) rfl rfl ?_
    exact rj_sub [0, 1] rfl (P_Pg_accepts_134 hX hM hR _ _ _ h)
  rcases it_e h with ⟨hc, h⟩ | ⟨-, h⟩
  · refine r_tsIn (v := (6 : Int32)) hX hc d_Pg_accepts_4 (by decide) (by decide) rfl rfl ?_
    exact rj_sub [0, 1] rfl (P_Pg_accepts_134 hX hM hR _ _ _ h)
  rcases it_e h with ⟨hc, h⟩ | ⟨-, h⟩
  · refine r_tsIn (v := (7 : Int32)) hX hc d_Pg_accepts_4 (by decide) (by decide) rfl rfl ?_
    exact rj_sub [0, 1] rfl (P_Pg_accepts_134 hX hM hR _ _ _ h)
  rcases it_e h with ⟨hc, h⟩ | ⟨-, h⟩
  · refine r_tsIn (v := (8 : Int32)) hX hc d_Pg_accepts_4 (by decide) (by decide) rfl rfl ?_
    exact rj_sub [0, 1] rfl (P_Pg_accepts_134 hX hM hR _ _ _ h)
  rcases it_e h with ⟨hc, h⟩ | ⟨-, h⟩
  · refine r_tsIn (v := (9 : Int32)) hX hc d_Pg_accepts_4 (by decide) (by decide) rfl rfl ?_
    refine r_iload_n (i := 1) hX d_Pg_accepts_140 1 rfl rfl ?_
    refine r_bipush (v := (35 : Int32)) hX d_Pg_accepts_141 rfl ?_
    refine r_icmp_ne hX d_Pg_accepts_143 rfl h (fun h => ?_) (fun h => ?_)
    · refine r_aload_n (i := 0) hX d_Pg_accepts_155 0 rfl rfl ?_
      refine r_iload_n (i := 1) hX d_Pg_accepts_156 1 rfl rfl ?_
      refine r_bipush (v := (11 : Int32)) hX d_Pg_accepts_157 rfl ?_
      obtain ⟨r24, hr25, h⟩ := bd_e h
      refine r_callV1 (As := [_, _]) hX hM mw_Pg_136 (T_Pg_readsMonth _ _ _ _ hr25) (rc_of ci_3 hk1) rfl rfl ⟨Nat.le_refl _, Nat.le_refl _⟩ rfl rfl d_Pg_accepts_159 ?_
      obtain ⟨hg26, h⟩ := gd_e h
      cases h; exact r_zret hX hR (zn_ok hg26) d_Pg_accepts_162
    · refine r_aload_n (i := 0) hX d_Pg_accepts_146 0 rfl rfl ?_
      refine r_bipush (v := (10 : Int32)) hX d_Pg_accepts_147 rfl ?_
      obtain ⟨r27, hr28, h⟩ := bd_e h
      refine r_callV1 (As := [_]) hX hM mw_Pg_133 (T_Pg_goesTo _ _ _ hr28) (rc_of ci_3 hk1) rfl rfl ⟨Nat.le_refl _, Nat.le_refl _⟩ rfl rfl d_Pg_accepts_149 ?_
      refine r_goto hX d_Pg_accepts_152 rfl ?_
      obtain ⟨hg29, h⟩ := gd_e h
      cases h; exact r_zret hX hR (zn_ok hg29) d_Pg_accepts_162
  rcases it_e h with ⟨hc, h⟩ | ⟨-, h⟩
  · refine r_tsIn (v := (10 : Int32)) hX hc d_Pg_accepts_4 (by decide) (by decide) rfl rfl ?_
    refine r_aload_n (i := 0) hX d_Pg_accepts_163 0 rfl rfl ?_
    refine r_iload_n (i := 1) hX d_Pg_accepts_164 1 rfl rfl ?_
    obtain ⟨r30, hr31, h⟩ := bd_e h
    refine r_callV1 (As := [_]) hX hM mw_Pg_140 (T_Pg_readsSaint _ _ _ hr31) (rc_of ci_3 hk1) rfl rfl ⟨Nat.le_refl _, Nat.le_refl _⟩ rfl rfl d_Pg_accepts_165 ?_
    obtain ⟨hg32, h⟩ := gd_e h
    cases h; exact r_zret hX hR (zn_ok hg32) d_Pg_accepts_168
  rcases it_e h with ⟨hc, h⟩ | ⟨-, h⟩
  · refine r_tsIn (v := (11 : Int32)) hX hc d_Pg_accepts_4 (by decide) (by decide) rfl rfl ?_
    refine r_iload_n (i := 1) hX d_Pg_accepts_169 1 rfl rfl ?_
    refine r_bipush (v := (45 : Int32)) hX d_Pg_accepts_170 rfl ?_
    refine r_icmp_ne hX d_Pg_accepts_172 rfl h (fun h => ?_) (fun h => ?_)
    · refine r_aload_n (i := 0) hX d_Pg_accepts_182 0 rfl rfl ?_
      refine r_iload_n (i := 1) hX d_Pg_accepts_183 1 rfl rfl ?_
      refine r_bipush (v := (11 : Int32)) hX d_Pg_accepts_184 rfl ?_
      obtain ⟨r33, hr34, h⟩ := bd_e h
      refine r_callV1 (As := [_, _]) hX hM mw_Pg_136 (T_Pg_readsMonth _ _ _ _ hr34) (rc_of ci_3 hk1) rfl rfl ⟨Nat.le_refl _, Nat.le_refl _⟩ rfl rfl d_Pg_accepts_186 ?_
      obtain ⟨hg35, h⟩ := gd_e h
      cases h; exact r_zret hX hR (zn_ok hg35) d_Pg_accepts_189
    · refine r_aload_n (i := 0) hX d_Pg_accepts_175 0 rfl rfl ?_
      obtain ⟨r36, hr37, h⟩ := bd_e h
      refine r_callV1 (As := []) hX hM mw_Pg_143 (T_Pg_readsMonthDash _ _ hr37) (rc_of ci_3 hk1) rfl rfl ⟨Nat.le_refl _, Nat.le_refl _⟩ rfl rfl d_Pg_accepts_176 ?_
      refine r_goto hX d_Pg_accepts_179 rfl ?_
      obtain ⟨hg38, h⟩ := gd_e h
      cases h; exact r_zret hX hR (zn_ok hg38) d_Pg_accepts_189
  rcases it_e h with ⟨hc, h⟩ | ⟨-, h⟩
  · refine r_tsIn (v := (12 : Int32)) hX hc d_Pg_accepts_4 (by decide) (by decide) rfl rfl ?_
    exact rj_sub [0, 1] rfl (P_Pg_accepts_190 hX hM hR _ _ _ h)
  rcases it_e h with ⟨hc, h⟩ | ⟨-, h⟩
  · refine r_tsIn (v := (13 : Int32)) hX hc d_Pg_accepts_4 (by decide) (by decide) rfl rfl ?_
    exact rj_sub [0, 1] rfl (P_Pg_accepts_190 hX hM hR _ _ _ h)
  cases h
theorem T_Pg_accepts {l : Launch} {G : AG} (a0 : Nat) (x1 : Int32) (w : AW) {o : Int32 × AW} (h : F_Pg_accepts a0 x1 w = some o) : Mt l G y_Pg_accepts b_Pg_accepts 2 (some (.boolean)) 5 113 0 0 [vr a0, vi x1] w (some (vi o.1)) o.2 := mt_of (by decide) (Nat.le_of_ble_eq_true rfl) (fun X hX hR hM hI => P_Pg_accepts_0 hX hM hR _ _ _ h)
/-! RedSky$Page.readLetters()I -/
theorem d_Pg_readLetters_0 : decode b_Pg_readLetters 0 = .ok (.aload_n 0, 1) := by decide +kernel
theorem d_Pg_readLetters_1 : decode b_Pg_readLetters 1 = .ok (.getfield 22, 3) := by decide +kernel
theorem d_Pg_readLetters_4 : decode b_Pg_readLetters 4 = .ok (.invokevirtual 84, 3) := by decide +kernel
theorem d_Pg_readLetters_7 : decode b_Pg_readLetters 7 = .ok (.aload_n 0, 1) := by decide +kernel
theorem d_Pg_readLetters_8 : decode b_Pg_readLetters 8 = .ok (.aload_n 0, 1) := by decide +kernel
theorem d_Pg_readLetters_9 : decode b_Pg_readLetters 9 = .ok (.getfield 22, 3) := by decide +kernel
theorem d_Pg_readLetters_12 : decode b_Pg_readLetters 12 = .ok (.getfield 26, 3) := by decide +kernel
theorem d_Pg_readLetters_15 : decode b_Pg_readLetters 15 = .ok (.invokevirtual 87, 3) := by decide +kernel
theorem d_Pg_readLetters_18 : decode b_Pg_readLetters 18 = .ok (.aload_n 0, 1) := by decide +kernel
theorem d_Pg_readLetters_19 : decode b_Pg_readLetters 19 = .ok (.iconst 0, 1) := by decide +kernel
theorem d_Pg_readLetters_20 : decode b_Pg_readLetters 20 = .ok (.putfield 33, 3) := by decide +kernel
theorem d_Pg_readLetters_23 : decode b_Pg_readLetters 23 = .ok (.iconst 0, 1) := by decide +kernel
theorem d_Pg_readLetters_24 : decode b_Pg_readLetters 24 = .ok (.istore_n 1, 1) := by decide +kernel
theorem d_Pg_readLetters_25 : decode b_Pg_readLetters 25 = .ok (.iload_n 1, 1) := by decide +kernel
theorem d_Pg_readLetters_26 : decode b_Pg_readLetters 26 = .ok (.aload_n 0, 1) := by decide +kernel
theorem d_Pg_readLetters_27 : decode b_Pg_readLetters 27 = .ok (.getfield 9, 3) := by decide +kernel
theorem d_Pg_readLetters_30 : decode b_Pg_readLetters 30 = .ok (.if_icmp .ge (21), 3) := by decide +kernel
theorem d_Pg_readLetters_33 : decode b_Pg_readLetters 33 = .ok (.aload_n 0, 1) := by decide +kernel
theorem d_Pg_readLetters_34 : decode b_Pg_readLetters 34 = .ok (.aload_n 0, 1) := by decide +kernel
theorem d_Pg_readLetters_35 : decode b_Pg_readLetters 35 = .ok (.iload_n 1, 1) := by decide +kernel
theorem d_Pg_readLetters_36 : decode b_Pg_readLetters 36 = .ok (.invokevirtual 91, 3) := by decide +kernel
theorem d_Pg_readLetters_39 : decode b_Pg_readLetters 39 = .ok (.invokevirtual 95, 3) := by decide +kernel
theorem d_Pg_readLetters_42 : decode b_Pg_readLetters 42 = .ok (.ifCond .eq (9), 3) := by decide +kernel
theorem d_Pg_readLetters_45 : decode b_Pg_readLetters 45 = .ok (.iinc 1 (1), 3) := by decide +kernel
theorem d_Pg_readLetters_48 : decode b_Pg_readLetters 48 = .ok (.goto (-23), 3) := by decide +kernel
theorem d_Pg_readLetters_51 : decode b_Pg_readLetters 51 = .ok (.iload_n 1, 1) := by decide +kernel
theorem d_Pg_readLetters_52 : decode b_Pg_readLetters 52 = .ok (.ireturn, 1) := by decide +kernel
def F_Pg_readLetters_25_B (rec25 : Nat → Int32 → AW → Option (Int32 × AW)) (a0 : Nat) (x1 : Int32) (w : AW) : Option (Int32 × AW) :=
  gd (wk w a0 == 4) <|
  if (wi w a0 0) ≤ x1 then
    some (x1, w)
  else
    (F_Pg_letterAt w a0 x1).bind fun r2 =>
    (F_Pg_accepts a0 r2 w).bind fun r4 =>
    if r4.1 = 0 then
      some (x1, r4.2)
    else
      let v6 : Int32 := (x1 + (1 : Int32))
      rec25 a0 v6 r4.2
theorem P_Pg_readLetters_25_B {X : AX} {l : Launch} {G : AG} {rec25 : Nat → Int32 → AW → Option (Int32 × AW)} (hX : XOK X b_Pg_readLetters "RedSky$Page" 2) (hM : XM X l G { frames := 6, cells := 0, slots := 0, locals := 134 }) {o : Int32 × AW} (hR : XR X (some .int) 0 0 (some (vi o.1)) o.2) (hrec25 : ∀ (a0 : Nat) (x1 : Int32) (w : AW), rec25 a0 x1 w = some o → RJ X 2 0 0 25 [(0, vr a0), (1, vi x1)] [] w) (a0 : Nat) (x1 : Int32) (w : AW) (h : F_Pg_readLetters_25_B rec25 a0 x1 w = some o) : RJ X 2 0 0 25 [(0, vr a0), (1, vi x1)] [] w := by
  unfold F_Pg_readLetters_25_B at h
  refine r_iload_n (i := 1) hX d_Pg_readLetters_25 1 rfl rfl ?_
  refine r_aload_n (i := 0) hX d_Pg_readLetters_26 0 rfl rfl ?_
  obtain ⟨hk1, h⟩ := gd_e h
  refine r_getI (i := 3) (f := 0) hX ci_3 (by decide) rfl fl_Pg_9 hk1 d_Pg_readLetters_27 ?_
  refine r_icmp_ge hX d_Pg_readLetters_30 rfl h (fun h => ?_) (fun h => ?_)
  · refine r_iload_n (i := 1) hX d_Pg_readLetters_51 1 rfl rfl ?_
    cases h; exact r_iret hX hR d_Pg_readLetters_52
  · refine r_aload_n (i := 0) hX d_Pg_readLetters_33 0 rfl rfl ?_
    refine r_aload_n (i := 0) hX d_Pg_readLetters_34 0 rfl rfl ?_
    refine r_iload_n (i := 1) hX d_Pg_readLetters_35 1 rfl rfl ?_
    obtain ⟨r2, hr3, h⟩ := bd_e h
    refine r_callV1 (As := [_]) hX hM mw_Pg_91 (T_Pg_letterAt _ _ _ hr3) (rc_of ci_3 hk1) rfl rfl ⟨Nat.le_refl _, Nat.le_refl _⟩ rfl rfl d_Pg_readLetters_36 ?_
    obtain ⟨r4, hr5, h⟩ := bd_e h
    refine r_callV1 (As := [_]) hX hM mw_Pg_95 (T_Pg_accepts _ _ _ hr5) (rc_of ci_3 hk1) rfl rfl ⟨Nat.le_refl _, Nat.le_refl _⟩ rfl rfl d_Pg_readLetters_39 ?_
    refine r_if_eq hX d_Pg_readLetters_42 rfl h (fun h => ?_) (fun h => ?_)
    · refine r_iload_n (i := 1) hX d_Pg_readLetters_51 1 rfl rfl ?_
      cases h; exact r_iret hX hR d_Pg_readLetters_52
    · refine r_iinc (i := 1) (v := (1 : Int32)) hX d_Pg_readLetters_45 1 rfl rfl (by decide) ?_
      refine r_goto hX d_Pg_readLetters_48 rfl ?_
      exact rj_sub [1, 0] rfl (hrec25 _ _ _ h)
def F_Pg_readLetters_25 : Nat → Nat → Int32 → AW → Option (Int32 × AW)
  | 0 => fun _ _ _ => none
  | n + 1 => fun a0 x1 w => F_Pg_readLetters_25_B (F_Pg_readLetters_25 n) a0 x1 w
theorem P_Pg_readLetters_25 {X : AX} {l : Launch} {G : AG} (hX : XOK X b_Pg_readLetters "RedSky$Page" 2) (hM : XM X l G { frames := 6, cells := 0, slots := 0, locals := 134 }) {o : Int32 × AW} (hR : XR X (some .int) 0 0 (some (vi o.1)) o.2) (fu : Nat) : ∀ (a0 : Nat) (x1 : Int32) (w : AW), F_Pg_readLetters_25 fu a0 x1 w = some o → RJ X 2 0 0 25 [(0, vr a0), (1, vi x1)] [] w := by
  induction fu with
  | zero => intro a0 x1 w h; cases h
  | succ n9 ih => intro a0 x1 w h; exact P_Pg_readLetters_25_B hX hM hR ih _ _ _ h
def F_Pg_readLetters (a0 : Nat) (w : AW) : Option (Int32 × AW) :=
  gd (wk w a0 == 4) <|
  gd (wk w (wr w a0 2) == 5) <|
  (F_Sa_clear (wr w a0 2) w).bind fun r3 =>
  gd (wk r3 a0 == 4) <|
  gd (wk r3 (wr r3 a0 2) == 5) <|
  (F_Pg_startCondition a0 (wr r3 (wr r3 a0 2) 0) r3).bind fun r7 =>
  gd (wk r7 a0 == 4) <|
  let w10 : AW := upI r7 a0 4 (0 : Int32)
  F_Pg_readLetters_25 FUEL a0 (0 : Int32) w10
theorem P_Pg_readLetters_0 {X : AX} {l : Launch} {G : AG} (hX : XOK X b_Pg_readLetters "RedSky$Page" 2) (hM : XM X l G { frames := 6, cells := 0, slots := 0, locals := 134 }) {o : Int32 × AW} (hR : XR X (some .int) 0 0 (some (vi o.1)) o.2) (a0 : Nat) (w : AW) (h : F_Pg_readLetters a0 w = some o) : RJ X 2 0 0 0 [(0, vr a0)] [] w := by
  unfold F_Pg_readLetters at h
  refine r_aload_n (i := 0) hX d_Pg_readLetters_0 0 rfl rfl ?_
  obtain ⟨hk1, h⟩ := gd_e h
  refine r_getR (i := 3) (f := 2) hX ci_3 (by decide) rfl fl_Pg_22 hk1 d_Pg_readLetters_1 ?_
  obtain ⟨hk2, h⟩ := gd_e h
  obtain ⟨r3, hr4, h⟩ := bd_e h
  refine r_callV0 (As := []) hX hM mw_Pg_84 (T_Sa_clear _ _ hr4) (rc_of ci_4 hk2) rfl rfl ⟨Nat.le_refl _, Nat.le_refl _⟩ rfl rfl d_Pg_readLetters_4 ?_
  refine r_aload_n (i := 0) hX d_Pg_readLetters_7 0 rfl rfl ?_
  refine r_aload_n (i := 0) hX d_Pg_readLetters_8 0 rfl rfl ?_
  obtain ⟨hk5, h⟩ := gd_e h
  refine r_getR (i := 3) (f := 2) hX ci_3 (by decide) rfl fl_Pg_22 hk5 d_Pg_readLetters_9 ?_
  obtain ⟨hk6, h⟩ := gd_e h
  refine r_getR (i := 4) (f := 0) hX ci_4 (by decide) rfl fl_Pg_26 hk6 d_Pg_readLetters_12 ?_
  obtain ⟨r7, hr8, h⟩ := bd_e h
  refine r_callV0 (As := [_]) hX hM mw_Pg_87 (T_Pg_startCondition _ _ _ hr8) (rc_of ci_3 hk5) rfl rfl ⟨Nat.le_refl _, Nat.le_refl _⟩ rfl rfl d_Pg_readLetters_15 ?_
  refine r_aload_n (i := 0) hX d_Pg_readLetters_18 0 rfl rfl ?_
  refine r_iconst (v := (0 : Int32)) hX d_Pg_readLetters_19 rfl ?_
  obtain ⟨hk9, h⟩ := gd_e h
  refine r_putI (i := 3) (f := 4) hX ci_3 (by decide) rfl rfl (fun G => rfl) (fun G => rfl) fl_Pg_33 hk9 d_Pg_readLetters_20 ?_
  refine r_iconst (v := (0 : Int32)) hX d_Pg_readLetters_23 rfl ?_
  refine r_istore_n (i := 1) hX d_Pg_readLetters_24 rfl (by decide) ?_
  exact rj_sub [1, 0] rfl (P_Pg_readLetters_25 hX hM hR FUEL _ _ _ h)
theorem T_Pg_readLetters {l : Launch} {G : AG} (a0 : Nat) (w : AW) {o : Int32 × AW} (h : F_Pg_readLetters a0 w = some o) : Mt l G y_Pg_readLetters b_Pg_readLetters 2 (some (.int)) 6 134 0 0 [vr a0] w (some (vi o.1)) o.2 := mt_of (by decide) (Nat.le_of_ble_eq_true rfl) (fun X hX hR hM hI => P_Pg_readLetters_0 hX hM hR _ _ h)
/-! RedSky$Page.isWhole()Z -/
theorem d_Pg_isWhole_0 : decode b_Pg_isWhole 0 = .ok (.aload_n 0, 1) := by decide +kernel
theorem d_Pg_isWhole_1 : decode b_Pg_isWhole 1 = .ok (.getfield 37, 3) := by decide +kernel
theorem d_Pg_isWhole_4 : decode b_Pg_isWhole 4 = .ok (.iconst 4, 1) := by decide +kernel
theorem d_Pg_isWhole_5 : decode b_Pg_isWhole 5 = .ok (.if_icmp .ne (21), 3) := by decide +kernel
theorem d_Pg_isWhole_8 : decode b_Pg_isWhole 8 = .ok (.aload_n 0, 1) := by decide +kernel
theorem d_Pg_isWhole_9 : decode b_Pg_isWhole 9 = .ok (.getfield 33, 3) := by decide +kernel
theorem d_Pg_isWhole_12 : decode b_Pg_isWhole 12 = .ok (.ifCond .eq (14), 3) := by decide +kernel
theorem d_Pg_isWhole_15 : decode b_Pg_isWhole 15 = .ok (.aload_n 0, 1) := by decide +kernel
theorem d_Pg_isWhole_16 : decode b_Pg_isWhole 16 = .ok (.getfield 55, 3) := by decide +kernel
theorem d_Pg_isWhole_19 : decode b_Pg_isWhole 19 = .ok (.ifCond .ne (7), 3) := by decide +kernel
theorem d_Pg_isWhole_22 : decode b_Pg_isWhole 22 = .ok (.iconst 1, 1) := by decide +kernel
theorem d_Pg_isWhole_23 : decode b_Pg_isWhole 23 = .ok (.goto (4), 3) := by decide +kernel
theorem d_Pg_isWhole_26 : decode b_Pg_isWhole 26 = .ok (.iconst 0, 1) := by decide +kernel
theorem d_Pg_isWhole_27 : decode b_Pg_isWhole 27 = .ok (.istore_n 1, 1) := by decide +kernel
theorem d_Pg_isWhole_28 : decode b_Pg_isWhole 28 = .ok (.iload_n 1, 1) := by decide +kernel
theorem d_Pg_isWhole_29 : decode b_Pg_isWhole 29 = .ok (.ifCond .ne (28), 3) := by decide +kernel
theorem d_Pg_isWhole_32 : decode b_Pg_isWhole 32 = .ok (.aload_n 0, 1) := by decide +kernel
theorem d_Pg_isWhole_33 : decode b_Pg_isWhole 33 = .ok (.getfield 37, 3) := by decide +kernel
theorem d_Pg_isWhole_36 : decode b_Pg_isWhole 36 = .ok (.bipush (13), 2) := by decide +kernel
theorem d_Pg_isWhole_38 : decode b_Pg_isWhole 38 = .ok (.if_icmp .ne (10), 3) := by decide +kernel
theorem d_Pg_isWhole_41 : decode b_Pg_isWhole 41 = .ok (.aload_n 0, 1) := by decide +kernel
theorem d_Pg_isWhole_42 : decode b_Pg_isWhole 42 = .ok (.getfield 46, 3) := by decide +kernel
theorem d_Pg_isWhole_45 : decode b_Pg_isWhole 45 = .ok (.ifCond .gt (12), 3) := by decide +kernel
theorem d_Pg_isWhole_48 : decode b_Pg_isWhole 48 = .ok (.aload_n 0, 1) := by decide +kernel
theorem d_Pg_isWhole_49 : decode b_Pg_isWhole 49 = .ok (.getfield 37, 3) := by decide +kernel
theorem d_Pg_isWhole_52 : decode b_Pg_isWhole 52 = .ok (.bipush (14), 2) := by decide +kernel
theorem d_Pg_isWhole_54 : decode b_Pg_isWhole 54 = .ok (.if_icmp .ne (7), 3) := by decide +kernel
theorem d_Pg_isWhole_57 : decode b_Pg_isWhole 57 = .ok (.iconst 1, 1) := by decide +kernel
theorem d_Pg_isWhole_58 : decode b_Pg_isWhole 58 = .ok (.goto (4), 3) := by decide +kernel
theorem d_Pg_isWhole_61 : decode b_Pg_isWhole 61 = .ok (.iconst 0, 1) := by decide +kernel
theorem d_Pg_isWhole_62 : decode b_Pg_isWhole 62 = .ok (.ireturn, 1) := by decide +kernel
def F_Pg_isWhole_48 (w : AW) (a0 : Nat) : Option (Int32) :=
  gd (wk w a0 == 4) <|
  if (wi w a0 5) = (14 : Int32) then
    some (1 : Int32)
  else
    some (0 : Int32)
theorem P_Pg_isWhole_48 {X : AX} {l : Launch} {G : AG} {w : AW} (hX : XOK X b_Pg_isWhole "RedSky$Page" 2) (hM : XM X l G { frames := 0, cells := 0, slots := 0, locals := 0 }) {o : Int32} (hR : XR X (some .boolean) 0 0 (some (vi o)) w) (a0 : Nat) (h : F_Pg_isWhole_48 w a0 = some o) : RJ X 2 0 0 48 [(0, vr a0)] [] w := by
  unfold F_Pg_isWhole_48 at h
  refine r_aload_n (i := 0) hX d_Pg_isWhole_48 0 rfl rfl ?_
  obtain ⟨hk1, h⟩ := gd_e h
  refine r_getI (i := 3) (f := 5) hX ci_3 (by decide) rfl fl_Pg_37 hk1 d_Pg_isWhole_49 ?_
  refine r_bipush (v := (14 : Int32)) hX d_Pg_isWhole_52 rfl ?_
  refine r_icmp_ne hX d_Pg_isWhole_54 rfl h (fun h => ?_) (fun h => ?_)
  · refine r_iconst (v := (0 : Int32)) hX d_Pg_isWhole_61 rfl ?_
    cases h; exact r_zret hX hR rfl d_Pg_isWhole_62
  · refine r_iconst (v := (1 : Int32)) hX d_Pg_isWhole_57 rfl ?_
    refine r_goto hX d_Pg_isWhole_58 rfl ?_
    cases h; exact r_zret hX hR rfl d_Pg_isWhole_62
def F_Pg_isWhole_27 (w : AW) (a0 : Nat) (s0 : Int32) : Option (Int32) :=
  if s0 = 0 then
    gd (wk w a0 == 4) <|
    if (wi w a0 5) = (13 : Int32) then
      if 0 < (wi w a0 8) then
        some (1 : Int32)
      else
        F_Pg_isWhole_48 w a0
    else
      F_Pg_isWhole_48 w a0
  else
    some (1 : Int32)
theorem P_Pg_isWhole_27 {X : AX} {l : Launch} {G : AG} {w : AW} (hX : XOK X b_Pg_isWhole "RedSky$Page" 2) (hM : XM X l G { frames := 0, cells := 0, slots := 0, locals := 0 }) {o : Int32} (hR : XR X (some .boolean) 0 0 (some (vi o)) w) (a0 : Nat) (s0 : Int32) (h : F_Pg_isWhole_27 w a0 s0 = some o) : RJ X 2 0 0 27 [(0, vr a0)] [vi s0] w := by
  unfold F_Pg_isWhole_27 at h
  refine r_istore_n (i := 1) hX d_Pg_isWhole_27 rfl (by decide) ?_
  refine r_iload_n (i := 1) hX d_Pg_isWhole_28 0 rfl rfl ?_
  refine r_if_ne hX d_Pg_isWhole_29 rfl h (fun h => ?_) (fun h => ?_)
  · refine r_iconst (v := (1 : Int32)) hX d_Pg_isWhole_57 rfl ?_
    refine r_goto hX d_Pg_isWhole_58 rfl ?_
    cases h; exact r_zret hX hR rfl d_Pg_isWhole_62
  · refine r_aload_n (i := 0) hX d_Pg_isWhole_32 1 rfl rfl ?_
    obtain ⟨hk1, h⟩ := gd_e h
    refine r_getI (i := 3) (f := 5) hX ci_3 (by decide) rfl fl_Pg_37 hk1 d_Pg_isWhole_33 ?_
    refine r_bipush (v := (13 : Int32)) hX d_Pg_isWhole_36 rfl ?_
    refine r_icmp_ne hX d_Pg_isWhole_38 rfl h (fun h => ?_) (fun h => ?_)
    · exact rj_sub [1] rfl (P_Pg_isWhole_48 hX hM hR _ h)
    · refine r_aload_n (i := 0) hX d_Pg_isWhole_41 1 rfl rfl ?_
      refine r_getI (i := 3) (f := 8) hX ci_3 (by decide) rfl fl_Pg_46 hk1 d_Pg_isWhole_42 ?_
      refine r_if_gt hX d_Pg_isWhole_45 rfl h (fun h => ?_) (fun h => ?_)
      · refine r_iconst (v := (1 : Int32)) hX d_Pg_isWhole_57 rfl ?_
        refine r_goto hX d_Pg_isWhole_58 rfl ?_
        cases h; exact r_zret hX hR rfl d_Pg_isWhole_62
      · exact rj_sub [1] rfl (P_Pg_isWhole_48 hX hM hR _ h)
def F_Pg_isWhole (w : AW) (a0 : Nat) : Option (Int32) :=
  gd (wk w a0 == 4) <|
  if (wi w a0 5) = (4 : Int32) then
    if (wi w a0 4) = 0 then
      F_Pg_isWhole_27 w a0 (0 : Int32)
    else
      if (wi w a0 11) = 0 then
        F_Pg_isWhole_27 w a0 (1 : Int32)
      else
        F_Pg_isWhole_27 w a0 (0 : Int32)
  else
    F_Pg_isWhole_27 w a0 (0 : Int32)
theorem P_Pg_isWhole_0 {X : AX} {l : Launch} {G : AG} {w : AW} (hX : XOK X b_Pg_isWhole "RedSky$Page" 2) (hM : XM X l G { frames := 0, cells := 0, slots := 0, locals := 0 }) {o : Int32} (hR : XR X (some .boolean) 0 0 (some (vi o)) w) (a0 : Nat) (h : F_Pg_isWhole w a0 = some o) : RJ X 2 0 0 0 [(0, vr a0)] [] w := by
  unfold F_Pg_isWhole at h
  refine r_aload_n (i := 0) hX d_Pg_isWhole_0 0 rfl rfl ?_
  obtain ⟨hk1, h⟩ := gd_e h
  refine r_getI (i := 3) (f := 5) hX ci_3 (by decide) rfl fl_Pg_37 hk1 d_Pg_isWhole_1 ?_
  refine r_iconst (v := (4 : Int32)) hX d_Pg_isWhole_4 rfl ?_
  refine r_icmp_ne hX d_Pg_isWhole_5 rfl h (fun h => ?_) (fun h => ?_)
  · refine r_iconst (v := (0 : Int32)) hX d_Pg_isWhole_26 rfl ?_
    exact rj_sub [0] rfl (P_Pg_isWhole_27 hX hM hR _ _ h)
  · refine r_aload_n (i := 0) hX d_Pg_isWhole_8 0 rfl rfl ?_
    refine r_getI (i := 3) (f := 4) hX ci_3 (by decide) rfl fl_Pg_33 hk1 d_Pg_isWhole_9 ?_
    refine r_if_eq hX d_Pg_isWhole_12 rfl h (fun h => ?_) (fun h => ?_)
    · refine r_iconst (v := (0 : Int32)) hX d_Pg_isWhole_26 rfl ?_
      exact rj_sub [0] rfl (P_Pg_isWhole_27 hX hM hR _ _ h)
    · refine r_aload_n (i := 0) hX d_Pg_isWhole_15 0 rfl rfl ?_
      refine r_getI (i := 3) (f := 11) hX ci_3 (by decide) rfl fl_Pg_55 hk1 d_Pg_isWhole_16 ?_
      refine r_if_ne hX d_Pg_isWhole_19 rfl h (fun h => ?_) (fun h => ?_)
      · refine r_iconst (v := (0 : Int32)) hX d_Pg_isWhole_26 rfl ?_
        exact rj_sub [0] rfl (P_Pg_isWhole_27 hX hM hR _ _ h)
      · refine r_iconst (v := (1 : Int32)) hX d_Pg_isWhole_22 rfl ?_
        refine r_goto hX d_Pg_isWhole_23 rfl ?_
        exact rj_sub [0] rfl (P_Pg_isWhole_27 hX hM hR _ _ h)
theorem T_Pg_isWhole {l : Launch} {G : AG} (w : AW) (a0 : Nat) {o : Int32} (h : F_Pg_isWhole w a0 = some o) : Mt l G y_Pg_isWhole b_Pg_isWhole 2 (some (.boolean)) 0 0 0 0 [vr a0] w (some (vi o)) w := mt_of (by decide) (Nat.le_of_ble_eq_true rfl) (fun X hX hR hM hI => P_Pg_isWhole_0 hX hM hR _ h)
/-! RedSky$Page.finish()V -/
theorem d_Pg_finish_0 : decode b_Pg_finish 0 = .ok (.aload_n 0, 1) := by decide +kernel
theorem d_Pg_finish_1 : decode b_Pg_finish 1 = .ok (.getfield 37, 3) := by decide +kernel
theorem d_Pg_finish_4 : decode b_Pg_finish 4 = .ok (.iconst 4, 1) := by decide +kernel
theorem d_Pg_finish_5 : decode b_Pg_finish 5 = .ok (.if_icmp .ne (17), 3) := by decide +kernel
theorem d_Pg_finish_8 : decode b_Pg_finish 8 = .ok (.aload_n 0, 1) := by decide +kernel
theorem d_Pg_finish_9 : decode b_Pg_finish 9 = .ok (.getfield 30, 3) := by decide +kernel
theorem d_Pg_finish_12 : decode b_Pg_finish 12 = .ok (.aload_n 0, 1) := by decide +kernel
theorem d_Pg_finish_13 : decode b_Pg_finish 13 = .ok (.invokevirtual 99, 3) := by decide +kernel
theorem d_Pg_finish_16 : decode b_Pg_finish 16 = .ok (.putfield 103, 3) := by decide +kernel
theorem d_Pg_finish_19 : decode b_Pg_finish 19 = .ok (.goto (23), 3) := by decide +kernel
theorem d_Pg_finish_22 : decode b_Pg_finish 22 = .ok (.aload_n 0, 1) := by decide +kernel
theorem d_Pg_finish_23 : decode b_Pg_finish 23 = .ok (.getfield 37, 3) := by decide +kernel
theorem d_Pg_finish_26 : decode b_Pg_finish 26 = .ok (.bipush (13), 2) := by decide +kernel
theorem d_Pg_finish_28 : decode b_Pg_finish 28 = .ok (.if_icmp .ne (14), 3) := by decide +kernel
theorem d_Pg_finish_31 : decode b_Pg_finish 31 = .ok (.aload_n 0, 1) := by decide +kernel
theorem d_Pg_finish_32 : decode b_Pg_finish 32 = .ok (.getfield 22, 3) := by decide +kernel
theorem d_Pg_finish_35 : decode b_Pg_finish 35 = .ok (.aload_n 0, 1) := by decide +kernel
theorem d_Pg_finish_36 : decode b_Pg_finish 36 = .ok (.getfield 46, 3) := by decide +kernel
theorem d_Pg_finish_39 : decode b_Pg_finish 39 = .ok (.putfield 108, 3) := by decide +kernel
theorem d_Pg_finish_42 : decode b_Pg_finish 42 = .ok (.return_, 1) := by decide +kernel
def F_Pg_finish (a0 : Nat) (w : AW) : Option (AW) :=
  gd (wk w a0 == 4) <|
  if (wi w a0 5) = (4 : Int32) then
    (F_Pg_endLevel a0 w).bind fun r4 =>
    gd (wk r4.2 (wr w a0 3) == 6) <|
    let w7 : AW := upI r4.2 (wr w a0 3) 5 r4.1
    some w7
  else
    if (wi w a0 5) = (13 : Int32) then
      gd (wk w (wr w a0 2) == 5) <|
      let w3 : AW := upI w (wr w a0 2) 6 (wi w a0 8)
      some w3
    else
      some w
theorem P_Pg_finish_0 {X : AX} {l : Launch} {G : AG} (hX : XOK X b_Pg_finish "RedSky$Page" 1) (hM : XM X l G { frames := 3, cells := 0, slots := 0, locals := 64 }) {o : AW} (hR : XR X none 0 0 none o) (a0 : Nat) (w : AW) (h : F_Pg_finish a0 w = some o) : RJ X 1 0 0 0 [(0, vr a0)] [] w := by
  unfold F_Pg_finish at h
  refine r_aload_n (i := 0) hX d_Pg_finish_0 0 rfl rfl ?_
  obtain ⟨hk1, h⟩ := gd_e h
  refine r_getI (i := 3) (f := 5) hX ci_3 (by decide) rfl fl_Pg_37 hk1 d_Pg_finish_1 ?_
  refine r_iconst (v := (4 : Int32)) hX d_Pg_finish_4 rfl ?_
  refine r_icmp_ne hX d_Pg_finish_5 rfl h (fun h => ?_) (fun h => ?_)
  · refine r_aload_n (i := 0) hX d_Pg_finish_22 0 rfl rfl ?_
    refine r_getI (i := 3) (f := 5) hX ci_3 (by decide) rfl fl_Pg_37 hk1 d_Pg_finish_23 ?_
    refine r_bipush (v := (13 : Int32)) hX d_Pg_finish_26 rfl ?_
    refine r_icmp_ne hX d_Pg_finish_28 rfl h (fun h => ?_) (fun h => ?_)
    · cases h; exact r_vret hX hR d_Pg_finish_42
    · refine r_aload_n (i := 0) hX d_Pg_finish_31 0 rfl rfl ?_
      refine r_getR (i := 3) (f := 2) hX ci_3 (by decide) rfl fl_Pg_22 hk1 d_Pg_finish_32 ?_
      refine r_aload_n (i := 0) hX d_Pg_finish_35 0 rfl rfl ?_
      refine r_getI (i := 3) (f := 8) hX ci_3 (by decide) rfl fl_Pg_46 hk1 d_Pg_finish_36 ?_
      obtain ⟨hk2, h⟩ := gd_e h
      refine r_putI (i := 4) (f := 6) hX ci_4 (by decide) rfl rfl (fun G => rfl) (fun G => rfl) fl_Pg_108 hk2 d_Pg_finish_39 ?_
      cases h; exact r_vret hX hR d_Pg_finish_42
  · refine r_aload_n (i := 0) hX d_Pg_finish_8 0 rfl rfl ?_
    refine r_getR (i := 3) (f := 3) hX ci_3 (by decide) rfl fl_Pg_30 hk1 d_Pg_finish_9 ?_
    refine r_aload_n (i := 0) hX d_Pg_finish_12 0 rfl rfl ?_
    obtain ⟨r4, hr5, h⟩ := bd_e h
    refine r_callV1 (As := []) hX hM mw_Pg_99 (T_Pg_endLevel _ _ hr5) (rc_of ci_3 hk1) rfl rfl ⟨Nat.le_refl _, Nat.le_refl _⟩ rfl rfl d_Pg_finish_13 ?_
    obtain ⟨hk6, h⟩ := gd_e h
    refine r_putI (i := 5) (f := 5) hX ci_5 (by decide) rfl rfl (fun G => rfl) (fun G => rfl) fl_Pg_103 hk6 d_Pg_finish_16 ?_
    refine r_goto hX d_Pg_finish_19 rfl ?_
    cases h; exact r_vret hX hR d_Pg_finish_42
theorem T_Pg_finish {l : Launch} {G : AG} (a0 : Nat) (w : AW) {o : AW} (h : F_Pg_finish a0 w = some o) : Mt l G y_Pg_finish b_Pg_finish 1 none 3 64 0 0 [vr a0] w none o := mt_of (by decide) (Nat.le_of_ble_eq_true rfl) (fun X hX hR hM hI => P_Pg_finish_0 hX hM hR _ _ h)
/-! RedSky.say()I -/
theorem d_A_say_0 : decode b_A_say 0 = .ok (.aload_n 0, 1) := by decide +kernel
theorem d_A_say_1 : decode b_A_say 1 = .ok (.getfield 25, 3) := by decide +kernel
theorem d_A_say_4 : decode b_A_say 4 = .ok (.invokevirtual 185, 3) := by decide +kernel
theorem d_A_say_7 : decode b_A_say 7 = .ok (.aload_n 0, 1) := by decide +kernel
theorem d_A_say_8 : decode b_A_say 8 = .ok (.getfield 25, 3) := by decide +kernel
theorem d_A_say_11 : decode b_A_say 11 = .ok (.getfield 178, 3) := by decide +kernel
theorem d_A_say_14 : decode b_A_say 14 = .ok (.if_icmp .lt (13), 3) := by decide +kernel
theorem d_A_say_17 : decode b_A_say 17 = .ok (.aload_n 0, 1) := by decide +kernel
theorem d_A_say_18 : decode b_A_say 18 = .ok (.getfield 25, 3) := by decide +kernel
theorem d_A_say_21 : decode b_A_say 21 = .ok (.invokevirtual 189, 3) := by decide +kernel
theorem d_A_say_24 : decode b_A_say 24 = .ok (.ifCond .ne (6), 3) := by decide +kernel
theorem d_A_say_27 : decode b_A_say 27 = .ok (.bipush (-103), 2) := by decide +kernel
theorem d_A_say_29 : decode b_A_say 29 = .ok (.ireturn, 1) := by decide +kernel
theorem d_A_say_30 : decode b_A_say 30 = .ok (.aload_n 0, 1) := by decide +kernel
theorem d_A_say_31 : decode b_A_say 31 = .ok (.getfield 35, 3) := by decide +kernel
theorem d_A_say_34 : decode b_A_say 34 = .ok (.iconst 0, 1) := by decide +kernel
theorem d_A_say_35 : decode b_A_say 35 = .ok (.bipush (7), 2) := by decide +kernel
theorem d_A_say_37 : decode b_A_say 37 = .ok (.invokestatic 86, 3) := by decide +kernel
theorem d_A_say_40 : decode b_A_say 40 = .ok (.ifCond .ne (6), 3) := by decide +kernel
theorem d_A_say_43 : decode b_A_say 43 = .ok (.bipush (-104), 2) := by decide +kernel
theorem d_A_say_45 : decode b_A_say 45 = .ok (.ireturn, 1) := by decide +kernel
theorem d_A_say_46 : decode b_A_say 46 = .ok (.aload_n 0, 1) := by decide +kernel
theorem d_A_say_47 : decode b_A_say 47 = .ok (.getfield 25, 3) := by decide +kernel
theorem d_A_say_50 : decode b_A_say 50 = .ok (.invokevirtual 193, 3) := by decide +kernel
theorem d_A_say_53 : decode b_A_say 53 = .ok (.aload_n 0, 1) := by decide +kernel
theorem d_A_say_54 : decode b_A_say 54 = .ok (.getfield 31, 3) := by decide +kernel
theorem d_A_say_57 : decode b_A_say 57 = .ok (.aload_n 0, 1) := by decide +kernel
theorem d_A_say_58 : decode b_A_say 58 = .ok (.getfield 35, 3) := by decide +kernel
theorem d_A_say_61 : decode b_A_say 61 = .ok (.aaload, 1) := by decide +kernel
theorem d_A_say_62 : decode b_A_say 62 = .ok (.astore_n 1, 1) := by decide +kernel
theorem d_A_say_63 : decode b_A_say 63 = .ok (.aload_n 0, 1) := by decide +kernel
theorem d_A_say_64 : decode b_A_say 64 = .ok (.getfield 31, 3) := by decide +kernel
theorem d_A_say_67 : decode b_A_say 67 = .ok (.aload_n 0, 1) := by decide +kernel
theorem d_A_say_68 : decode b_A_say 68 = .ok (.getfield 35, 3) := by decide +kernel
theorem d_A_say_71 : decode b_A_say 71 = .ok (.aload_n 0, 1) := by decide +kernel
theorem d_A_say_72 : decode b_A_say 72 = .ok (.getfield 25, 3) := by decide +kernel
theorem d_A_say_75 : decode b_A_say 75 = .ok (.getfield 196, 3) := by decide +kernel
theorem d_A_say_78 : decode b_A_say 78 = .ok (.aastore, 1) := by decide +kernel
theorem d_A_say_79 : decode b_A_say 79 = .ok (.aload_n 0, 1) := by decide +kernel
theorem d_A_say_80 : decode b_A_say 80 = .ok (.getfield 25, 3) := by decide +kernel
theorem d_A_say_83 : decode b_A_say 83 = .ok (.aload_n 1, 1) := by decide +kernel
theorem d_A_say_84 : decode b_A_say 84 = .ok (.putfield 196, 3) := by decide +kernel
theorem d_A_say_87 : decode b_A_say 87 = .ok (.aload_n 0, 1) := by decide +kernel
theorem d_A_say_88 : decode b_A_say 88 = .ok (.getfield 25, 3) := by decide +kernel
theorem d_A_say_91 : decode b_A_say 91 = .ok (.iconst 0, 1) := by decide +kernel
theorem d_A_say_92 : decode b_A_say 92 = .ok (.putfield 178, 3) := by decide +kernel
theorem d_A_say_95 : decode b_A_say 95 = .ok (.aload_n 0, 1) := by decide +kernel
theorem d_A_say_96 : decode b_A_say 96 = .ok (.dup, 1) := by decide +kernel
theorem d_A_say_97 : decode b_A_say 97 = .ok (.getfield 35, 3) := by decide +kernel
theorem d_A_say_100 : decode b_A_say 100 = .ok (.iconst 1, 1) := by decide +kernel
theorem d_A_say_101 : decode b_A_say 101 = .ok (.iadd, 1) := by decide +kernel
theorem d_A_say_102 : decode b_A_say 102 = .ok (.putfield 35, 3) := by decide +kernel
theorem d_A_say_105 : decode b_A_say 105 = .ok (.aload_n 0, 1) := by decide +kernel
theorem d_A_say_106 : decode b_A_say 106 = .ok (.getfield 35, 3) := by decide +kernel
theorem d_A_say_109 : decode b_A_say 109 = .ok (.iconst 1, 1) := by decide +kernel
theorem d_A_say_110 : decode b_A_say 110 = .ok (.isub, 1) := by decide +kernel
theorem d_A_say_111 : decode b_A_say 111 = .ok (.ireturn, 1) := by decide +kernel
def F_A_say (a0 : Nat) (w : AW) : Option (Int32 × AW) :=
  gd (wk w a0 == 1) <|
  gd (wk w (wr w a0 2) == 4) <|
  (F_Pg_readLetters (wr w a0 2) w).bind fun r3 =>
  gd (wk r3.2 a0 == 1) <|
  gd (wk r3.2 (wr r3.2 a0 2) == 4) <|
  if r3.1 < (wi r3.2 (wr r3.2 a0 2) 0) then
    some ((-103 : Int32), r3.2)
  else
    (F_Pg_isWhole r3.2 (wr r3.2 a0 2)).bind fun r7 =>
    if r7 = 0 then
      some ((-103 : Int32), r3.2)
    else
      if (F_A_within (wi r3.2 a0 4) (0 : Int32) (7 : Int32)) = 0 then
        some ((-104 : Int32), r3.2)
      else
        (F_Pg_finish (wr r3.2 a0 2) r3.2).bind fun r9 =>
        gd (wk r9 a0 == 1) <|
        gd (wk r9 (wr r9 a0 3) == 107) <|
        gd (inb (wi r9 a0 4) (wn r9 (wr r9 a0 3))) <|
        let v14 : Nat := (wr r9 (wr r9 a0 3) (Int32.toNatClampNeg (wi r9 a0 4)))
        gd (wk r9 (wr r9 a0 2) == 4) <|
        gd (wk r9 (wr r9 (wr r9 a0 2) 2) == 5) <|
        gd (inb (wi r9 a0 4) (wn r9 (wr r9 a0 3))) <|
        let w18 : AW := upR r9 (wr r9 a0 3) (Int32.toNatClampNeg (wi r9 a0 4)) (wr r9 (wr r9 a0 2) 2)
        gd (wk w18 (wr w18 a0 2) == 4) <|
        let w20 : AW := upR w18 (wr w18 a0 2) 2 v14
        gd (wk w20 (wr w20 a0 2) == 4) <|
        let w22 : AW := upI w20 (wr w20 a0 2) 0 (0 : Int32)
        let w23 : AW := upI w22 a0 4 ((wi w22 a0 4) + (1 : Int32))
        some (((wi w23 a0 4) - (1 : Int32)), w23)
theorem P_A_say_0 {X : AX} {l : Launch} {G : AG} (hX : XOK X b_A_say "RedSky" 2) (hM : XM X l G { frames := 7, cells := 0, slots := 0, locals := 155 }) {o : Int32 × AW} (hR : XR X (some .int) 0 0 (some (vi o.1)) o.2) (a0 : Nat) (w : AW) (h : F_A_say a0 w = some o) : RJ X 2 0 0 0 [(0, vr a0)] [] w := by
  unfold F_A_say at h
  refine r_aload_n (i := 0) hX d_A_say_0 0 rfl rfl ?_
  obtain ⟨hk1, h⟩ := gd_e h
  refine r_getR (i := 0) (f := 2) hX ci_0 (by decide) rfl fl_A_25 hk1 d_A_say_1 ?_
  obtain ⟨hk2, h⟩ := gd_e h
  obtain ⟨r3, hr4, h⟩ := bd_e h
  refine r_callV1 (As := []) hX hM mw_A_185 (T_Pg_readLetters _ _ hr4) (rc_of ci_3 hk2) rfl rfl ⟨Nat.le_refl _, Nat.le_refl _⟩ rfl rfl d_A_say_4 ?_
  refine r_aload_n (i := 0) hX d_A_say_7 0 rfl rfl ?_
  obtain ⟨hk5, h⟩ := gd_e h
  refine r_getR (i := 0) (f := 2) hX ci_0 (by decide) rfl fl_A_25 hk5 d_A_say_8 ?_
  obtain ⟨hk6, h⟩ := gd_e h
  refine r_getI (i := 3) (f := 0) hX ci_3 (by decide) rfl fl_A_178 hk6 d_A_say_11 ?_
  refine r_icmp_lt hX d_A_say_14 rfl h (fun h => ?_) (fun h => ?_)
  · refine r_bipush (v := (-103 : Int32)) hX d_A_say_27 rfl ?_
    cases h; exact r_iret hX hR d_A_say_29
  · refine r_aload_n (i := 0) hX d_A_say_17 0 rfl rfl ?_
    refine r_getR (i := 0) (f := 2) hX ci_0 (by decide) rfl fl_A_25 hk5 d_A_say_18 ?_
    obtain ⟨r7, hr8, h⟩ := bd_e h
    refine r_callV1 (As := []) hX hM mw_A_189 (T_Pg_isWhole _ _ hr8) (rc_of ci_3 hk6) rfl rfl ⟨Nat.le_refl _, Nat.le_refl _⟩ rfl rfl d_A_say_21 ?_
    refine r_if_ne hX d_A_say_24 rfl h (fun h => ?_) (fun h => ?_)
    · refine r_aload_n (i := 0) hX d_A_say_30 0 rfl rfl ?_
      refine r_getI (i := 0) (f := 4) hX ci_0 (by decide) rfl fl_A_35 hk5 d_A_say_31 ?_
      refine r_iconst (v := (0 : Int32)) hX d_A_say_34 rfl ?_
      refine r_bipush (v := (7 : Int32)) hX d_A_say_35 rfl ?_
      refine r_callS1 (As := [_, _, _]) hX hM mw_A_86 (T_A_within _ _ _ _) rfl rfl ⟨Nat.le_refl _, Nat.le_refl _⟩ rfl rfl d_A_say_37 ?_
      refine r_if_ne hX d_A_say_40 rfl h (fun h => ?_) (fun h => ?_)
      · refine r_aload_n (i := 0) hX d_A_say_46 0 rfl rfl ?_
        refine r_getR (i := 0) (f := 2) hX ci_0 (by decide) rfl fl_A_25 hk5 d_A_say_47 ?_
        obtain ⟨r9, hr10, h⟩ := bd_e h
        refine r_callV0 (As := []) hX hM mw_A_193 (T_Pg_finish _ _ hr10) (rc_of ci_3 hk6) rfl rfl ⟨Nat.le_refl _, Nat.le_refl _⟩ rfl rfl d_A_say_50 ?_
        refine r_aload_n (i := 0) hX d_A_say_53 0 rfl rfl ?_
        obtain ⟨hk11, h⟩ := gd_e h
        refine r_getR (i := 0) (f := 3) hX ci_0 (by decide) rfl fl_A_31 hk11 d_A_say_54 ?_
        refine r_aload_n (i := 0) hX d_A_say_57 0 rfl rfl ?_
        refine r_getI (i := 0) (f := 4) hX ci_0 (by decide) rfl fl_A_35 hk11 d_A_say_58 ?_
        obtain ⟨hk12, h⟩ := gd_e h
        obtain ⟨hg13, h⟩ := gd_e h
        refine r_aald (t := 0) (kd := 107) hX (by decide) (fun G => rfl) hk12 hg13 d_A_say_61 ?_
        refine r_astore_n (i := 1) hX d_A_say_62 rfl (by decide) ?_
        refine r_aload_n (i := 0) hX d_A_say_63 1 rfl rfl ?_
        refine r_getR (i := 0) (f := 3) hX ci_0 (by decide) rfl fl_A_31 hk11 d_A_say_64 ?_
        refine r_aload_n (i := 0) hX d_A_say_67 1 rfl rfl ?_
        refine r_getI (i := 0) (f := 4) hX ci_0 (by decide) rfl fl_A_35 hk11 d_A_say_68 ?_
        refine r_aload_n (i := 0) hX d_A_say_71 1 rfl rfl ?_
        refine r_getR (i := 0) (f := 2) hX ci_0 (by decide) rfl fl_A_25 hk11 d_A_say_72 ?_
        obtain ⟨hk15, h⟩ := gd_e h
        refine r_getR (i := 3) (f := 2) hX ci_3 (by decide) rfl fl_A_196 hk15 d_A_say_75 ?_
        obtain ⟨hk16, h⟩ := gd_e h
        obtain ⟨hg17, h⟩ := gd_e h
        refine r_aast (kd := 107) (ci := 4) hX (by decide) (by decide) rfl (fun G => rfl) hk12 hk16 hg17 d_A_say_78 ?_
        refine r_aload_n (i := 0) hX d_A_say_79 1 rfl rfl ?_
        refine r_getR (i := 0) (f := 2) hX ci_0 (by decide) rfl fl_A_25 (kR hk11) d_A_say_80 ?_
        refine r_aload_n (i := 1) hX d_A_say_83 0 rfl rfl ?_
        obtain ⟨hk19, h⟩ := gd_e h
        refine r_putR (i := 3) (f := 2) hX ci_3 (by decide) rfl rfl (fun G => nw_o _ _) (fun G => ft_o _ _) fl_A_196 hk19 d_A_say_84 ?_
        refine r_aload_n (i := 0) hX d_A_say_87 1 rfl rfl ?_
        refine r_getR (i := 0) (f := 2) hX ci_0 (by decide) rfl fl_A_25 (kR (kR hk11)) d_A_say_88 ?_
        refine r_iconst (v := (0 : Int32)) hX d_A_say_91 rfl ?_
        obtain ⟨hk21, h⟩ := gd_e h
        refine r_putI (i := 3) (f := 0) hX ci_3 (by decide) rfl rfl (fun G => rfl) (fun G => rfl) fl_A_178 hk21 d_A_say_92 ?_
        refine r_aload_n (i := 0) hX d_A_say_95 1 rfl rfl ?_
        refine r_dup hX d_A_say_96 rfl ?_
        refine r_getI (i := 0) (f := 4) hX ci_0 (by decide) rfl fl_A_35 (kI (kR (kR hk11))) d_A_say_97 ?_
        refine r_iconst (v := (1 : Int32)) hX d_A_say_100 rfl ?_
        refine r_iadd hX d_A_say_101 ?_
        refine r_putI (i := 0) (f := 4) hX ci_0 (by decide) rfl rfl (fun G => rfl) (fun G => rfl) fl_A_35 (kI (kR (kR hk11))) d_A_say_102 ?_
        refine r_aload_n (i := 0) hX d_A_say_105 1 rfl rfl ?_
        refine r_getI (i := 0) (f := 4) hX ci_0 (by decide) rfl fl_A_35 (kI (kI (kR (kR hk11)))) d_A_say_106 ?_
        refine r_iconst (v := (1 : Int32)) hX d_A_say_109 rfl ?_
        refine r_isub hX d_A_say_110 ?_
        cases h; exact r_iret hX hR d_A_say_111
      · refine r_bipush (v := (-104 : Int32)) hX d_A_say_43 rfl ?_
        cases h; exact r_iret hX hR d_A_say_45
    · refine r_bipush (v := (-103 : Int32)) hX d_A_say_27 rfl ?_
      cases h; exact r_iret hX hR d_A_say_29
theorem T_A_say {l : Launch} {G : AG} (a0 : Nat) (w : AW) {o : Int32 × AW} (h : F_A_say a0 w = some o) : Mt l G y_A_say b_A_say 2 (some (.int)) 7 155 0 0 [vr a0] w (some (vi o.1)) o.2 := mt_of (by decide) (Nat.le_of_ble_eq_true rfl) (fun X hX hR hM hI => P_A_say_0 hX hM hR _ _ h)
/-! RedSkyModel.beginReading()V -/
theorem d_M_beginReading_0 : decode b_M_beginReading 0 = .ok (.aload_n 0, 1) := by decide +kernel
theorem d_M_beginReading_1 : decode b_M_beginReading 1 = .ok (.iconst 0, 1) := by decide +kernel
theorem d_M_beginReading_2 : decode b_M_beginReading 2 = .ok (.putfield 181, 3) := by decide +kernel
theorem d_M_beginReading_5 : decode b_M_beginReading 5 = .ok (.aload_n 0, 1) := by decide +kernel
theorem d_M_beginReading_6 : decode b_M_beginReading 6 = .ok (.iconst 0, 1) := by decide +kernel
theorem d_M_beginReading_7 : decode b_M_beginReading 7 = .ok (.putfield 184, 3) := by decide +kernel
theorem d_M_beginReading_10 : decode b_M_beginReading 10 = .ok (.aload_n 0, 1) := by decide +kernel
theorem d_M_beginReading_11 : decode b_M_beginReading 11 = .ok (.iconst 0, 1) := by decide +kernel
theorem d_M_beginReading_12 : decode b_M_beginReading 12 = .ok (.putfield 187, 3) := by decide +kernel
theorem d_M_beginReading_15 : decode b_M_beginReading 15 = .ok (.aload_n 0, 1) := by decide +kernel
theorem d_M_beginReading_16 : decode b_M_beginReading 16 = .ok (.iconst 0, 1) := by decide +kernel
theorem d_M_beginReading_17 : decode b_M_beginReading 17 = .ok (.putfield 190, 3) := by decide +kernel
theorem d_M_beginReading_20 : decode b_M_beginReading 20 = .ok (.aload_n 0, 1) := by decide +kernel
theorem d_M_beginReading_21 : decode b_M_beginReading 21 = .ok (.getfield 40, 3) := by decide +kernel
theorem d_M_beginReading_24 : decode b_M_beginReading 24 = .ok (.iconst 0, 1) := by decide +kernel
theorem d_M_beginReading_25 : decode b_M_beginReading 25 = .ok (.iconst 0, 1) := by decide +kernel
theorem d_M_beginReading_26 : decode b_M_beginReading 26 = .ok (.iastore, 1) := by decide +kernel
theorem d_M_beginReading_27 : decode b_M_beginReading 27 = .ok (.aload_n 0, 1) := by decide +kernel
theorem d_M_beginReading_28 : decode b_M_beginReading 28 = .ok (.getfield 40, 3) := by decide +kernel
theorem d_M_beginReading_31 : decode b_M_beginReading 31 = .ok (.iconst 1, 1) := by decide +kernel
theorem d_M_beginReading_32 : decode b_M_beginReading 32 = .ok (.iconst 0, 1) := by decide +kernel
theorem d_M_beginReading_33 : decode b_M_beginReading 33 = .ok (.iastore, 1) := by decide +kernel
theorem d_M_beginReading_34 : decode b_M_beginReading 34 = .ok (.aload_n 0, 1) := by decide +kernel
theorem d_M_beginReading_35 : decode b_M_beginReading 35 = .ok (.iconst (-1), 1) := by decide +kernel
theorem d_M_beginReading_36 : decode b_M_beginReading 36 = .ok (.putfield 193, 3) := by decide +kernel
theorem d_M_beginReading_39 : decode b_M_beginReading 39 = .ok (.aload_n 0, 1) := by decide +kernel
theorem d_M_beginReading_40 : decode b_M_beginReading 40 = .ok (.iconst (-1), 1) := by decide +kernel
theorem d_M_beginReading_41 : decode b_M_beginReading 41 = .ok (.putfield 196, 3) := by decide +kernel
theorem d_M_beginReading_44 : decode b_M_beginReading 44 = .ok (.aload_n 0, 1) := by decide +kernel
theorem d_M_beginReading_45 : decode b_M_beginReading 45 = .ok (.iconst (-1), 1) := by decide +kernel
theorem d_M_beginReading_46 : decode b_M_beginReading 46 = .ok (.putfield 199, 3) := by decide +kernel
theorem d_M_beginReading_49 : decode b_M_beginReading 49 = .ok (.return_, 1) := by decide +kernel
def F_M_beginReading_44 (a0 : Nat) (w : AW) : Option (AW) :=
  gd (wk w a0 == 13) <|
  let w2 : AW := upI w a0 23 (-1 : Int32)
  some w2
theorem P_M_beginReading_44 {X : AX} {l : Launch} {G : AG} (hX : XOK X b_M_beginReading "RedSkyModel" 1) (hM : XM X l G { frames := 0, cells := 0, slots := 0, locals := 0 }) {o : AW} (hR : XR X none 0 0 none o) (a0 : Nat) (w : AW) (h : F_M_beginReading_44 a0 w = some o) : RJ X 1 0 0 44 [(0, vr a0)] [] w := by
  unfold F_M_beginReading_44 at h
  refine r_aload_n (i := 0) hX d_M_beginReading_44 0 rfl rfl ?_
  refine r_iconst (v := (-1 : Int32)) hX d_M_beginReading_45 rfl ?_
  obtain ⟨hk1, h⟩ := gd_e h
  refine r_putI (i := 12) (f := 23) hX ci_12 (by decide) rfl rfl (fun G => rfl) (fun G => rfl) fl_M_199 hk1 d_M_beginReading_46 ?_
  cases h; exact r_vret hX hR d_M_beginReading_49
def F_M_beginReading (a0 : Nat) (w : AW) : Option (AW) :=
  gd (wk w a0 == 13) <|
  let w2 : AW := upI w a0 10 (0 : Int32)
  let w3 : AW := upI w2 a0 11 (0 : Int32)
  let w4 : AW := upI w3 a0 12 (0 : Int32)
  let w5 : AW := upI w4 a0 28 (0 : Int32)
  gd (wk w5 (wr w5 a0 26) == 100) <|
  gd (inb (0 : Int32) (wn w5 (wr w5 a0 26))) <|
  let w8 : AW := upI w5 (wr w5 a0 26) (Int32.toNatClampNeg (0 : Int32)) (0 : Int32)
  gd (wk w8 (wr w8 a0 26) == 100) <|
  gd (inb (1 : Int32) (wn w8 (wr w8 a0 26))) <|
  let w11 : AW := upI w8 (wr w8 a0 26) (Int32.toNatClampNeg (1 : Int32)) (0 : Int32)
  let w12 : AW := upI w11 a0 21 (-1 : Int32)
  let w13 : AW := upI w12 a0 22 (-1 : Int32)
  F_M_beginReading_44 a0 w13
theorem P_M_beginReading_0 {X : AX} {l : Launch} {G : AG} (hX : XOK X b_M_beginReading "RedSkyModel" 1) (hM : XM X l G { frames := 0, cells := 0, slots := 0, locals := 0 }) {o : AW} (hR : XR X none 0 0 none o) (a0 : Nat) (w : AW) (h : F_M_beginReading a0 w = some o) : RJ X 1 0 0 0 [(0, vr a0)] [] w := by
  unfold F_M_beginReading at h
  refine r_aload_n (i := 0) hX d_M_beginReading_0 0 rfl rfl ?_
  refine r_iconst (v := (0 : Int32)) hX d_M_beginReading_1 rfl ?_
  obtain ⟨hk1, h⟩ := gd_e h
  refine r_putI (i := 12) (f := 10) hX ci_12 (by decide) rfl rfl (fun G => rfl) (fun G => rfl) fl_M_181 hk1 d_M_beginReading_2 ?_
  refine r_aload_n (i := 0) hX d_M_beginReading_5 0 rfl rfl ?_
  refine r_iconst (v := (0 : Int32)) hX d_M_beginReading_6 rfl ?_
  refine r_putI (i := 12) (f := 11) hX ci_12 (by decide) rfl rfl (fun G => rfl) (fun G => rfl) fl_M_184 (kI hk1) d_M_beginReading_7 ?_
  refine r_aload_n (i := 0) hX d_M_beginReading_10 0 rfl rfl ?_
  refine r_iconst (v := (0 : Int32)) hX d_M_beginReading_11 rfl ?_
  refine r_putI (i := 12) (f := 12) hX ci_12 (by decide) rfl rfl (fun G => rfl) (fun G => rfl) fl_M_187 (kI (kI hk1)) d_M_beginReading_12 ?_
  refine r_aload_n (i := 0) hX d_M_beginReading_15 0 rfl rfl ?_
  refine r_iconst (v := (0 : Int32)) hX d_M_beginReading_16 rfl ?_
  refine r_putI (i := 12) (f := 28) hX ci_12 (by decide) rfl rfl (fun G => rfl) (fun G => rfl) fl_M_190 (kI (kI (kI hk1))) d_M_beginReading_17 ?_
  refine r_aload_n (i := 0) hX d_M_beginReading_20 0 rfl rfl ?_
  refine r_getR (i := 12) (f := 26) hX ci_12 (by decide) rfl fl_M_40 (kI (kI (kI (kI hk1)))) d_M_beginReading_21 ?_
  refine r_iconst (v := (0 : Int32)) hX d_M_beginReading_24 rfl ?_
  refine r_iconst (v := (0 : Int32)) hX d_M_beginReading_25 rfl ?_
  obtain ⟨hk6, h⟩ := gd_e h
  obtain ⟨hg7, h⟩ := gd_e h
  refine r_iast hX hk6 hg7 d_M_beginReading_26 ?_
  refine r_aload_n (i := 0) hX d_M_beginReading_27 0 rfl rfl ?_
  refine r_getR (i := 12) (f := 26) hX ci_12 (by decide) rfl fl_M_40 (kI (kI (kI (kI (kI hk1))))) d_M_beginReading_28 ?_
  refine r_iconst (v := (1 : Int32)) hX d_M_beginReading_31 rfl ?_
  refine r_iconst (v := (0 : Int32)) hX d_M_beginReading_32 rfl ?_
  obtain ⟨hk9, h⟩ := gd_e h
  obtain ⟨hg10, h⟩ := gd_e h
  refine r_iast hX hk9 hg10 d_M_beginReading_33 ?_
  refine r_aload_n (i := 0) hX d_M_beginReading_34 0 rfl rfl ?_
  refine r_iconst (v := (-1 : Int32)) hX d_M_beginReading_35 rfl ?_
  refine r_putI (i := 12) (f := 21) hX ci_12 (by decide) rfl rfl (fun G => rfl) (fun G => rfl) fl_M_193 (kI (kI (kI (kI (kI (kI hk1)))))) d_M_beginReading_36 ?_
  refine r_aload_n (i := 0) hX d_M_beginReading_39 0 rfl rfl ?_
  refine r_iconst (v := (-1 : Int32)) hX d_M_beginReading_40 rfl ?_
  refine r_putI (i := 12) (f := 22) hX ci_12 (by decide) rfl rfl (fun G => rfl) (fun G => rfl) fl_M_196 (kI (kI (kI (kI (kI (kI (kI hk1))))))) d_M_beginReading_41 ?_
  exact rj_sub [0] rfl (P_M_beginReading_44 hX hM hR _ _ h)
theorem T_M_beginReading {l : Launch} {G : AG} (a0 : Nat) (w : AW) {o : AW} (h : F_M_beginReading a0 w = some o) : Mt l G y_M_beginReading b_M_beginReading 1 none 0 0 0 0 [vr a0] w none o := mt_of (by decide) (Nat.le_of_ble_eq_true rfl) (fun X hX hR hM hI => P_M_beginReading_0 hX hM hR _ _ h)
/-! RedSkyModel.fieldOf(I)I -/
theorem d_M_fieldOf_0 : decode b_M_fieldOf 0 = .ok (.iload_n 0, 1) := by decide +kernel
theorem d_M_fieldOf_1 : decode b_M_fieldOf 1 = .ok (.bipush (83), 2) := by decide +kernel
theorem d_M_fieldOf_3 : decode b_M_fieldOf 3 = .ok (.if_icmp .ne (7), 3) := by decide +kernel
theorem d_M_fieldOf_6 : decode b_M_fieldOf 6 = .ok (.iconst 0, 1) := by decide +kernel
theorem d_M_fieldOf_7 : decode b_M_fieldOf 7 = .ok (.goto (34), 3) := by decide +kernel
theorem d_M_fieldOf_10 : decode b_M_fieldOf 10 = .ok (.iload_n 0, 1) := by decide +kernel
theorem d_M_fieldOf_11 : decode b_M_fieldOf 11 = .ok (.bipush (87), 2) := by decide +kernel
theorem d_M_fieldOf_13 : decode b_M_fieldOf 13 = .ok (.if_icmp .ne (7), 3) := by decide +kernel
theorem d_M_fieldOf_16 : decode b_M_fieldOf 16 = .ok (.iconst 1, 1) := by decide +kernel
theorem d_M_fieldOf_17 : decode b_M_fieldOf 17 = .ok (.goto (24), 3) := by decide +kernel
theorem d_M_fieldOf_20 : decode b_M_fieldOf 20 = .ok (.iload_n 0, 1) := by decide +kernel
theorem d_M_fieldOf_21 : decode b_M_fieldOf 21 = .ok (.bipush (82), 2) := by decide +kernel
theorem d_M_fieldOf_23 : decode b_M_fieldOf 23 = .ok (.if_icmp .ne (7), 3) := by decide +kernel
theorem d_M_fieldOf_26 : decode b_M_fieldOf 26 = .ok (.iconst 2, 1) := by decide +kernel
theorem d_M_fieldOf_27 : decode b_M_fieldOf 27 = .ok (.goto (14), 3) := by decide +kernel
theorem d_M_fieldOf_30 : decode b_M_fieldOf 30 = .ok (.iload_n 0, 1) := by decide +kernel
theorem d_M_fieldOf_31 : decode b_M_fieldOf 31 = .ok (.bipush (84), 2) := by decide +kernel
theorem d_M_fieldOf_33 : decode b_M_fieldOf 33 = .ok (.if_icmp .ne (7), 3) := by decide +kernel
theorem d_M_fieldOf_36 : decode b_M_fieldOf 36 = .ok (.iconst 3, 1) := by decide +kernel
theorem d_M_fieldOf_37 : decode b_M_fieldOf 37 = .ok (.goto (4), 3) := by decide +kernel
theorem d_M_fieldOf_40 : decode b_M_fieldOf 40 = .ok (.iconst (-1), 1) := by decide +kernel
theorem d_M_fieldOf_41 : decode b_M_fieldOf 41 = .ok (.ireturn, 1) := by decide +kernel
def Fo_M_fieldOf (w : AW) (x0 : Int32) : Option (Int32) :=
  if x0 = (83 : Int32) then
    some (0 : Int32)
  else
    if x0 = (87 : Int32) then
      some (1 : Int32)
    else
      if x0 = (82 : Int32) then
        some (2 : Int32)
      else
        if x0 = (84 : Int32) then
          some (3 : Int32)
        else
          some (-1 : Int32)
theorem P_M_fieldOf_0 {X : AX} {l : Launch} {G : AG} {w : AW} (hX : XOK X b_M_fieldOf "RedSkyModel" 1) (hM : XM X l G { frames := 0, cells := 0, slots := 0, locals := 0 }) {o : Int32} (hR : XR X (some .int) 0 0 (some (vi o)) w) (x0 : Int32) (h : Fo_M_fieldOf w x0 = some o) : RJ X 1 0 0 0 [(0, vi x0)] [] w := by
  unfold Fo_M_fieldOf at h
  refine r_iload_n (i := 0) hX d_M_fieldOf_0 0 rfl rfl ?_
  refine r_bipush (v := (83 : Int32)) hX d_M_fieldOf_1 rfl ?_
  refine r_icmp_ne hX d_M_fieldOf_3 rfl h (fun h => ?_) (fun h => ?_)
  · refine r_iload_n (i := 0) hX d_M_fieldOf_10 0 rfl rfl ?_
    refine r_bipush (v := (87 : Int32)) hX d_M_fieldOf_11 rfl ?_
    refine r_icmp_ne hX d_M_fieldOf_13 rfl h (fun h => ?_) (fun h => ?_)
    · refine r_iload_n (i := 0) hX d_M_fieldOf_20 0 rfl rfl ?_
      refine r_bipush (v := (82 : Int32)) hX d_M_fieldOf_21 rfl ?_
      refine r_icmp_ne hX d_M_fieldOf_23 rfl h (fun h => ?_) (fun h => ?_)
      · refine r_iload_n (i := 0) hX d_M_fieldOf_30 0 rfl rfl ?_
        refine r_bipush (v := (84 : Int32)) hX d_M_fieldOf_31 rfl ?_
        refine r_icmp_ne hX d_M_fieldOf_33 rfl h (fun h => ?_) (fun h => ?_)
        · refine r_iconst (v := (-1 : Int32)) hX d_M_fieldOf_40 rfl ?_
          cases h; exact r_iret hX hR d_M_fieldOf_41
        · refine r_iconst (v := (3 : Int32)) hX d_M_fieldOf_36 rfl ?_
          refine r_goto hX d_M_fieldOf_37 rfl ?_
          cases h; exact r_iret hX hR d_M_fieldOf_41
      · refine r_iconst (v := (2 : Int32)) hX d_M_fieldOf_26 rfl ?_
        refine r_goto hX d_M_fieldOf_27 rfl ?_
        cases h; exact r_iret hX hR d_M_fieldOf_41
    · refine r_iconst (v := (1 : Int32)) hX d_M_fieldOf_16 rfl ?_
      refine r_goto hX d_M_fieldOf_17 rfl ?_
      cases h; exact r_iret hX hR d_M_fieldOf_41
  · refine r_iconst (v := (0 : Int32)) hX d_M_fieldOf_6 rfl ?_
    refine r_goto hX d_M_fieldOf_7 rfl ?_
    cases h; exact r_iret hX hR d_M_fieldOf_41
def F_M_fieldOf (x0 : Int32) : Int32 :=
  if x0 = (83 : Int32) then
    (0 : Int32)
  else
    if x0 = (87 : Int32) then
      (1 : Int32)
    else
      if x0 = (82 : Int32) then
        (2 : Int32)
      else
        if x0 = (84 : Int32) then
          (3 : Int32)
        else
          (-1 : Int32)
theorem E_M_fieldOf (w : AW) (x0 : Int32) : Fo_M_fieldOf w x0 = some (F_M_fieldOf x0) := by
  simp only [Fo_M_fieldOf, F_M_fieldOf, apply_ite (some : Int32 → Option Int32)]
theorem T_M_fieldOf {l : Launch} {G : AG} (x0 : Int32) (w : AW)  : Mt l G y_M_fieldOf b_M_fieldOf 1 (some (.int)) 0 0 0 0 [vi x0] w (some (vi (F_M_fieldOf x0))) w := mt_of (by decide) (Nat.le_of_ble_eq_true rfl) (fun X hX hR hM hI => P_M_fieldOf_0 hX hM hR _ (E_M_fieldOf _ _))
/-! RedSkyModel.goOnFactor(I)Z -/
theorem d_M_goOnFactor_0 : decode b_M_goOnFactor 0 = .ok (.iload_n 1, 1) := by decide +kernel
theorem d_M_goOnFactor_1 : decode b_M_goOnFactor 1 = .ok (.bipush (33), 2) := by decide +kernel
theorem d_M_goOnFactor_3 : decode b_M_goOnFactor 3 = .ok (.if_icmp .ne (26), 3) := by decide +kernel
theorem d_M_goOnFactor_6 : decode b_M_goOnFactor 6 = .ok (.aload_n 0, 1) := by decide +kernel
theorem d_M_goOnFactor_7 : decode b_M_goOnFactor 7 = .ok (.getfield 43, 3) := by decide +kernel
theorem d_M_goOnFactor_10 : decode b_M_goOnFactor 10 = .ok (.aload_n 0, 1) := by decide +kernel
theorem d_M_goOnFactor_11 : decode b_M_goOnFactor 11 = .ok (.getfield 190, 3) := by decide +kernel
theorem d_M_goOnFactor_14 : decode b_M_goOnFactor 14 = .ok (.bipush (12), 2) := by decide +kernel
theorem d_M_goOnFactor_16 : decode b_M_goOnFactor 16 = .ok (.iastore, 1) := by decide +kernel
theorem d_M_goOnFactor_17 : decode b_M_goOnFactor 17 = .ok (.aload_n 0, 1) := by decide +kernel
theorem d_M_goOnFactor_18 : decode b_M_goOnFactor 18 = .ok (.dup, 1) := by decide +kernel
theorem d_M_goOnFactor_19 : decode b_M_goOnFactor 19 = .ok (.getfield 190, 3) := by decide +kernel
theorem d_M_goOnFactor_22 : decode b_M_goOnFactor 22 = .ok (.iconst 1, 1) := by decide +kernel
theorem d_M_goOnFactor_23 : decode b_M_goOnFactor 23 = .ok (.iadd, 1) := by decide +kernel
theorem d_M_goOnFactor_24 : decode b_M_goOnFactor 24 = .ok (.putfield 190, 3) := by decide +kernel
theorem d_M_goOnFactor_27 : decode b_M_goOnFactor 27 = .ok (.iconst 1, 1) := by decide +kernel
theorem d_M_goOnFactor_28 : decode b_M_goOnFactor 28 = .ok (.ireturn, 1) := by decide +kernel
theorem d_M_goOnFactor_29 : decode b_M_goOnFactor 29 = .ok (.iload_n 1, 1) := by decide +kernel
theorem d_M_goOnFactor_30 : decode b_M_goOnFactor 30 = .ok (.bipush (40), 2) := by decide +kernel
theorem d_M_goOnFactor_32 : decode b_M_goOnFactor 32 = .ok (.if_icmp .ne (36), 3) := by decide +kernel
theorem d_M_goOnFactor_35 : decode b_M_goOnFactor 35 = .ok (.aload_n 0, 1) := by decide +kernel
theorem d_M_goOnFactor_36 : decode b_M_goOnFactor 36 = .ok (.getfield 43, 3) := by decide +kernel
theorem d_M_goOnFactor_39 : decode b_M_goOnFactor 39 = .ok (.aload_n 0, 1) := by decide +kernel
theorem d_M_goOnFactor_40 : decode b_M_goOnFactor 40 = .ok (.getfield 190, 3) := by decide +kernel
theorem d_M_goOnFactor_43 : decode b_M_goOnFactor 43 = .ok (.bipush (15), 2) := by decide +kernel
theorem d_M_goOnFactor_45 : decode b_M_goOnFactor 45 = .ok (.iastore, 1) := by decide +kernel
theorem d_M_goOnFactor_46 : decode b_M_goOnFactor 46 = .ok (.aload_n 0, 1) := by decide +kernel
theorem d_M_goOnFactor_47 : decode b_M_goOnFactor 47 = .ok (.dup, 1) := by decide +kernel
theorem d_M_goOnFactor_48 : decode b_M_goOnFactor 48 = .ok (.getfield 190, 3) := by decide +kernel
theorem d_M_goOnFactor_51 : decode b_M_goOnFactor 51 = .ok (.iconst 1, 1) := by decide +kernel
theorem d_M_goOnFactor_52 : decode b_M_goOnFactor 52 = .ok (.iadd, 1) := by decide +kernel
theorem d_M_goOnFactor_53 : decode b_M_goOnFactor 53 = .ok (.putfield 190, 3) := by decide +kernel
theorem d_M_goOnFactor_56 : decode b_M_goOnFactor 56 = .ok (.aload_n 0, 1) := by decide +kernel
theorem d_M_goOnFactor_57 : decode b_M_goOnFactor 57 = .ok (.dup, 1) := by decide +kernel
theorem d_M_goOnFactor_58 : decode b_M_goOnFactor 58 = .ok (.getfield 187, 3) := by decide +kernel
theorem d_M_goOnFactor_61 : decode b_M_goOnFactor 61 = .ok (.iconst 1, 1) := by decide +kernel
theorem d_M_goOnFactor_62 : decode b_M_goOnFactor 62 = .ok (.iadd, 1) := by decide +kernel
theorem d_M_goOnFactor_63 : decode b_M_goOnFactor 63 = .ok (.putfield 187, 3) := by decide +kernel
theorem d_M_goOnFactor_66 : decode b_M_goOnFactor 66 = .ok (.iconst 1, 1) := by decide +kernel
theorem d_M_goOnFactor_67 : decode b_M_goOnFactor 67 = .ok (.ireturn, 1) := by decide +kernel
theorem d_M_goOnFactor_68 : decode b_M_goOnFactor 68 = .ok (.aload_n 0, 1) := by decide +kernel
theorem d_M_goOnFactor_69 : decode b_M_goOnFactor 69 = .ok (.iload_n 1, 1) := by decide +kernel
theorem d_M_goOnFactor_70 : decode b_M_goOnFactor 70 = .ok (.invokestatic 233, 3) := by decide +kernel
theorem d_M_goOnFactor_73 : decode b_M_goOnFactor 73 = .ok (.putfield 206, 3) := by decide +kernel
theorem d_M_goOnFactor_76 : decode b_M_goOnFactor 76 = .ok (.aload_n 0, 1) := by decide +kernel
theorem d_M_goOnFactor_77 : decode b_M_goOnFactor 77 = .ok (.iconst 1, 1) := by decide +kernel
theorem d_M_goOnFactor_78 : decode b_M_goOnFactor 78 = .ok (.putfield 181, 3) := by decide +kernel
theorem d_M_goOnFactor_81 : decode b_M_goOnFactor 81 = .ok (.aload_n 0, 1) := by decide +kernel
theorem d_M_goOnFactor_82 : decode b_M_goOnFactor 82 = .ok (.getfield 206, 3) := by decide +kernel
theorem d_M_goOnFactor_85 : decode b_M_goOnFactor 85 = .ok (.iconst (-1), 1) := by decide +kernel
theorem d_M_goOnFactor_86 : decode b_M_goOnFactor 86 = .ok (.if_icmp .eq (7), 3) := by decide +kernel
theorem d_M_goOnFactor_89 : decode b_M_goOnFactor 89 = .ok (.iconst 1, 1) := by decide +kernel
theorem d_M_goOnFactor_90 : decode b_M_goOnFactor 90 = .ok (.goto (4), 3) := by decide +kernel
theorem d_M_goOnFactor_93 : decode b_M_goOnFactor 93 = .ok (.iconst 0, 1) := by decide +kernel
theorem d_M_goOnFactor_94 : decode b_M_goOnFactor 94 = .ok (.ireturn, 1) := by decide +kernel
def F_M_goOnFactor (a0 : Nat) (x1 : Int32) (w : AW) : Option (Int32 × AW) :=
  if x1 = (33 : Int32) then
    gd (wk w a0 == 13) <|
    gd (wk w (wr w a0 27) == 100) <|
    gd (inb (wi w a0 28) (wn w (wr w a0 27))) <|
    let w13 : AW := upI w (wr w a0 27) (Int32.toNatClampNeg (wi w a0 28)) (12 : Int32)
    let w14 : AW := upI w13 a0 28 ((wi w13 a0 28) + (1 : Int32))
    some ((1 : Int32), w14)
  else
    if x1 = (40 : Int32) then
      gd (wk w a0 == 13) <|
      gd (wk w (wr w a0 27) == 100) <|
      gd (inb (wi w a0 28) (wn w (wr w a0 27))) <|
      let w7 : AW := upI w (wr w a0 27) (Int32.toNatClampNeg (wi w a0 28)) (15 : Int32)
      let w8 : AW := upI w7 a0 28 ((wi w7 a0 28) + (1 : Int32))
      let w9 : AW := upI w8 a0 12 ((wi w8 a0 12) + (1 : Int32))
      some ((1 : Int32), w9)
    else
      gd (wk w a0 == 13) <|
      let w2 : AW := upI w a0 16 (F_M_fieldOf x1)
      let w3 : AW := upI w2 a0 10 (1 : Int32)
      if (wi w3 a0 16) = (-1 : Int32) then
        some ((0 : Int32), w3)
      else
        some ((1 : Int32), w3)
theorem P_M_goOnFactor_0 {X : AX} {l : Launch} {G : AG} (hX : XOK X b_M_goOnFactor "RedSkyModel" 2) (hM : XM X l G { frames := 1, cells := 0, slots := 0, locals := 20 }) {o : Int32 × AW} (hR : XR X (some .boolean) 0 0 (some (vi o.1)) o.2) (a0 : Nat) (x1 : Int32) (w : AW) (h : F_M_goOnFactor a0 x1 w = some o) : RJ X 2 0 0 0 [(0, vr a0), (1, vi x1)] [] w := by
  unfold F_M_goOnFactor at h
  refine r_iload_n (i := 1) hX d_M_goOnFactor_0 1 rfl rfl ?_
  refine r_bipush (v := (33 : Int32)) hX d_M_goOnFactor_1 rfl ?_
  refine r_icmp_ne hX d_M_goOnFactor_3 rfl h (fun h => ?_) (fun h => ?_)
  · refine r_iload_n (i := 1) hX d_M_goOnFactor_29 1 rfl rfl ?_
    refine r_bipush (v := (40 : Int32)) hX d_M_goOnFactor_30 rfl ?_
    refine r_icmp_ne hX d_M_goOnFactor_32 rfl h (fun h => ?_) (fun h => ?_)
    · refine r_aload_n (i := 0) hX d_M_goOnFactor_68 0 rfl rfl ?_
      refine r_iload_n (i := 1) hX d_M_goOnFactor_69 1 rfl rfl ?_
      refine r_callS1 (As := [_]) hX hM mw_M_233 (T_M_fieldOf _ _) rfl rfl ⟨Nat.le_refl _, Nat.le_refl _⟩ rfl rfl d_M_goOnFactor_70 ?_
      obtain ⟨hk1, h⟩ := gd_e h
      refine r_putI (i := 12) (f := 16) hX ci_12 (by decide) rfl rfl (fun G => rfl) (fun G => rfl) fl_M_206 hk1 d_M_goOnFactor_73 ?_
      refine r_aload_n (i := 0) hX d_M_goOnFactor_76 0 rfl rfl ?_
      refine r_iconst (v := (1 : Int32)) hX d_M_goOnFactor_77 rfl ?_
      refine r_putI (i := 12) (f := 10) hX ci_12 (by decide) rfl rfl (fun G => rfl) (fun G => rfl) fl_M_181 (kI hk1) d_M_goOnFactor_78 ?_
      refine r_aload_n (i := 0) hX d_M_goOnFactor_81 0 rfl rfl ?_
      refine r_getI (i := 12) (f := 16) hX ci_12 (by decide) rfl fl_M_206 (kI (kI hk1)) d_M_goOnFactor_82 ?_
      refine r_iconst (v := (-1 : Int32)) hX d_M_goOnFactor_85 rfl ?_
      refine r_icmp_eq hX d_M_goOnFactor_86 rfl h (fun h => ?_) (fun h => ?_)
      · refine r_iconst (v := (0 : Int32)) hX d_M_goOnFactor_93 rfl ?_
        cases h; exact r_zret hX hR rfl d_M_goOnFactor_94
      · refine r_iconst (v := (1 : Int32)) hX d_M_goOnFactor_89 rfl ?_
        refine r_goto hX d_M_goOnFactor_90 rfl ?_
        cases h; exact r_zret hX hR rfl d_M_goOnFactor_94
    · refine r_aload_n (i := 0) hX d_M_goOnFactor_35 0 rfl rfl ?_
      obtain ⟨hk4, h⟩ := gd_e h
      refine r_getR (i := 12) (f := 27) hX ci_12 (by decide) rfl fl_M_43 hk4 d_M_goOnFactor_36 ?_
      refine r_aload_n (i := 0) hX d_M_goOnFactor_39 0 rfl rfl ?_
      refine r_getI (i := 12) (f := 28) hX ci_12 (by decide) rfl fl_M_190 hk4 d_M_goOnFactor_40 ?_
      refine r_bipush (v := (15 : Int32)) hX d_M_goOnFactor_43 rfl ?_
      obtain ⟨hk5, h⟩ := gd_e h
      obtain ⟨hg6, h⟩ := gd_e h
      refine r_iast hX hk5 hg6 d_M_goOnFactor_45 ?_
      refine r_aload_n (i := 0) hX d_M_goOnFactor_46 0 rfl rfl ?_
      refine r_dup hX d_M_goOnFactor_47 rfl ?_
      refine r_getI (i := 12) (f := 28) hX ci_12 (by decide) rfl fl_M_190 (kI hk4) d_M_goOnFactor_48 ?_
      refine r_iconst (v := (1 : Int32)) hX d_M_goOnFactor_51 rfl ?_
      refine r_iadd hX d_M_goOnFactor_52 ?_
      refine r_putI (i := 12) (f := 28) hX ci_12 (by decide) rfl rfl (fun G => rfl) (fun G => rfl) fl_M_190 (kI hk4) d_M_goOnFactor_53 ?_
      refine r_aload_n (i := 0) hX d_M_goOnFactor_56 0 rfl rfl ?_
      refine r_dup hX d_M_goOnFactor_57 rfl ?_
      refine r_getI (i := 12) (f := 12) hX ci_12 (by decide) rfl fl_M_187 (kI (kI hk4)) d_M_goOnFactor_58 ?_
      refine r_iconst (v := (1 : Int32)) hX d_M_goOnFactor_61 rfl ?_
      refine r_iadd hX d_M_goOnFactor_62 ?_
      refine r_putI (i := 12) (f := 12) hX ci_12 (by decide) rfl rfl (fun G => rfl) (fun G => rfl) fl_M_187 (kI (kI hk4)) d_M_goOnFactor_63 ?_
      refine r_iconst (v := (1 : Int32)) hX d_M_goOnFactor_66 rfl ?_
      cases h; exact r_zret hX hR rfl d_M_goOnFactor_67
  · refine r_aload_n (i := 0) hX d_M_goOnFactor_6 0 rfl rfl ?_
    obtain ⟨hk10, h⟩ := gd_e h
    refine r_getR (i := 12) (f := 27) hX ci_12 (by decide) rfl fl_M_43 hk10 d_M_goOnFactor_7 ?_
    refine r_aload_n (i := 0) hX d_M_goOnFactor_10 0 rfl rfl ?_
    refine r_getI (i := 12) (f := 28) hX ci_12 (by decide) rfl fl_M_190 hk10 d_M_goOnFactor_11 ?_
    refine r_bipush (v := (12 : Int32)) hX d_M_goOnFactor_14 rfl ?_
    obtain ⟨hk11, h⟩ := gd_e h
    obtain ⟨hg12, h⟩ := gd_e h
    refine r_iast hX hk11 hg12 d_M_goOnFactor_16 ?_
    refine r_aload_n (i := 0) hX d_M_goOnFactor_17 0 rfl rfl ?_
    refine r_dup hX d_M_goOnFactor_18 rfl ?_
    refine r_getI (i := 12) (f := 28) hX ci_12 (by decide) rfl fl_M_190 (kI hk10) d_M_goOnFactor_19 ?_
    refine r_iconst (v := (1 : Int32)) hX d_M_goOnFactor_22 rfl ?_
    refine r_iadd hX d_M_goOnFactor_23 ?_
    refine r_putI (i := 12) (f := 28) hX ci_12 (by decide) rfl rfl (fun G => rfl) (fun G => rfl) fl_M_190 (kI hk10) d_M_goOnFactor_24 ?_
    refine r_iconst (v := (1 : Int32)) hX d_M_goOnFactor_27 rfl ?_
    cases h; exact r_zret hX hR rfl d_M_goOnFactor_28
theorem T_M_goOnFactor {l : Launch} {G : AG} (a0 : Nat) (x1 : Int32) (w : AW) {o : Int32 × AW} (h : F_M_goOnFactor a0 x1 w = some o) : Mt l G y_M_goOnFactor b_M_goOnFactor 2 (some (.boolean)) 1 20 0 0 [vr a0, vi x1] w (some (vi o.1)) o.2 := mt_of (by decide) (Nat.le_of_ble_eq_true rfl) (fun X hX hR hM hI => P_M_goOnFactor_0 hX hM hR _ _ _ h)
/-! RedSkyModel.isFigure(I)Z -/
theorem d_M_isFigure_0 : decode b_M_isFigure 0 = .ok (.iload_n 0, 1) := by decide +kernel
theorem d_M_isFigure_1 : decode b_M_isFigure 1 = .ok (.i2l, 1) := by decide +kernel
theorem d_M_isFigure_2 : decode b_M_isFigure 2 = .ok (.ldc2_w 219, 3) := by decide +kernel
theorem d_M_isFigure_5 : decode b_M_isFigure 5 = .ok (.ldc2_w 221, 3) := by decide +kernel
theorem d_M_isFigure_8 : decode b_M_isFigure 8 = .ok (.invokestatic 122, 3) := by decide +kernel
theorem d_M_isFigure_11 : decode b_M_isFigure 11 = .ok (.ireturn, 1) := by decide +kernel
def Fo_M_isFigure (w : AW) (x0 : Int32) : Option (Int32) :=
  some (F_M_in (Int32.toInt64 x0) (48 : Int64) (57 : Int64))
theorem P_M_isFigure_0 {X : AX} {l : Launch} {G : AG} {w : AW} (hX : XOK X b_M_isFigure "RedSkyModel" 1) (hM : XM X l G { frames := 1, cells := 0, slots := 0, locals := 25 }) {o : Int32} (hR : XR X (some .boolean) 0 0 (some (vi o)) w) (x0 : Int32) (h : Fo_M_isFigure w x0 = some o) : RJ X 1 0 0 0 [(0, vi x0)] [] w := by
  unfold Fo_M_isFigure at h
  refine r_iload_n (i := 0) hX d_M_isFigure_0 0 rfl rfl ?_
  refine r_i2l hX d_M_isFigure_1 ?_
  refine r_ldc2 hX d_M_isFigure_2 cw_M_219 ?_
  refine r_ldc2 hX d_M_isFigure_5 cw_M_221 ?_
  refine r_callS1 (As := [_, _, _]) hX hM mw_M_122 (T_M_in _ _ _ _) rfl rfl ⟨Nat.le_refl _, Nat.le_refl _⟩ rfl rfl d_M_isFigure_8 ?_
  cases h; exact r_zret hX hR (zn_ok (z_M_in _ _ _)) d_M_isFigure_11
def F_M_isFigure (x0 : Int32) : Int32 :=
  (F_M_in (Int32.toInt64 x0) (48 : Int64) (57 : Int64))
theorem E_M_isFigure (w : AW) (x0 : Int32) : Fo_M_isFigure w x0 = some (F_M_isFigure x0) := by
  simp only [Fo_M_isFigure, F_M_isFigure, apply_ite (some : Int32 → Option Int32)]
theorem z_M_isFigure (x0 : Int32) : (F_M_isFigure x0 == 0 || F_M_isFigure x0 == 1) = true := by
  unfold F_M_isFigure; exact (z_M_in _ _ _)
theorem T_M_isFigure {l : Launch} {G : AG} (x0 : Int32) (w : AW)  : Mt l G y_M_isFigure b_M_isFigure 1 (some (.boolean)) 1 25 0 0 [vi x0] w (some (vi (F_M_isFigure x0))) w := mt_of (by decide) (Nat.le_of_ble_eq_true rfl) (fun X hX hR hM hI => P_M_isFigure_0 hX hM hR _ (E_M_isFigure _ _))
