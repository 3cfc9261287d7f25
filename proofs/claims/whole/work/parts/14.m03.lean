/-! RedSkyModel.feast(II)I -/
theorem d_M_feast_0 : decode b_M_feast 0 = .ok (.iload_n 1, 1) := by decide +kernel
theorem d_M_feast_1 : decode b_M_feast 1 = .ok (.i2l, 1) := by decide +kernel
theorem d_M_feast_2 : decode b_M_feast 2 = .ok (.lconst 0, 1) := by decide +kernel
theorem d_M_feast_3 : decode b_M_feast 3 = .ok (.ldc2_w 142, 3) := by decide +kernel
theorem d_M_feast_6 : decode b_M_feast 6 = .ok (.invokestatic 122, 3) := by decide +kernel
theorem d_M_feast_9 : decode b_M_feast 9 = .ok (.ifCond .ne (6), 3) := by decide +kernel
theorem d_M_feast_12 : decode b_M_feast 12 = .ok (.bipush (-101), 2) := by decide +kernel
theorem d_M_feast_14 : decode b_M_feast 14 = .ok (.ireturn, 1) := by decide +kernel
theorem d_M_feast_15 : decode b_M_feast 15 = .ok (.iload_n 2, 1) := by decide +kernel
theorem d_M_feast_16 : decode b_M_feast 16 = .ok (.i2l, 1) := by decide +kernel
theorem d_M_feast_17 : decode b_M_feast 17 = .ok (.lconst 0, 1) := by decide +kernel
theorem d_M_feast_18 : decode b_M_feast 18 = .ok (.ldc2_w 126, 3) := by decide +kernel
theorem d_M_feast_21 : decode b_M_feast 21 = .ok (.invokestatic 122, 3) := by decide +kernel
theorem d_M_feast_24 : decode b_M_feast 24 = .ok (.ifCond .eq (12), 3) := by decide +kernel
theorem d_M_feast_27 : decode b_M_feast 27 = .ok (.aload_n 0, 1) := by decide +kernel
theorem d_M_feast_28 : decode b_M_feast 28 = .ok (.iload_n 1, 1) := by decide +kernel
theorem d_M_feast_29 : decode b_M_feast 29 = .ok (.iload_n 2, 1) := by decide +kernel
theorem d_M_feast_30 : decode b_M_feast 30 = .ok (.invokevirtual 148, 3) := by decide +kernel
theorem d_M_feast_33 : decode b_M_feast 33 = .ok (.goto (5), 3) := by decide +kernel
theorem d_M_feast_36 : decode b_M_feast 36 = .ok (.bipush (-102), 2) := by decide +kernel
theorem d_M_feast_38 : decode b_M_feast 38 = .ok (.ireturn, 1) := by decide +kernel
def F_M_feast (w : AW) (a0 : Nat) (x1 : Int32) (x2 : Int32) : Option (Int32) :=
  if (F_M_in (Int32.toInt64 x1) (0 : Int64) (7 : Int64)) = 0 then
    some (-101 : Int32)
  else
    if (F_M_in (Int32.toInt64 x2) (0 : Int64) (3 : Int64)) = 0 then
      some (-102 : Int32)
    else
      gd (wk w a0 == 13) <|
      (F_M_feastOf w a0 x1 x2).bind fun r2 =>
      some r2
theorem P_M_feast_0 {X : AX} {l : Launch} {G : AG} {w : AW} (hX : XOK X b_M_feast "RedSkyModel" 3) (hM : XM X l G { frames := 5, cells := 0, slots := 0, locals := 113 }) {o : Int32} (hR : XR X (some .int) 0 0 (some (vi o)) w) (a0 : Nat) (x1 : Int32) (x2 : Int32) (h : F_M_feast w a0 x1 x2 = some o) : RJ X 3 0 0 0 [(0, vr a0), (1, vi x1), (2, vi x2)] [] w := by
  unfold F_M_feast at h
  refine r_iload_n (i := 1) hX d_M_feast_0 1 rfl rfl ?_
  refine r_i2l hX d_M_feast_1 ?_
  refine r_lconst (v := (0 : Int64)) hX d_M_feast_2 rfl ?_
  refine r_ldc2 hX d_M_feast_3 cw_M_142 ?_
  refine r_callS1 (As := [_, _, _]) hX hM mw_M_122 (T_M_in _ _ _ _) rfl rfl ⟨Nat.le_refl _, Nat.le_refl _⟩ rfl rfl d_M_feast_6 ?_
  refine r_if_ne hX d_M_feast_9 rfl h (fun h => ?_) (fun h => ?_)
  · refine r_iload_n (i := 2) hX d_M_feast_15 2 rfl rfl ?_
    refine r_i2l hX d_M_feast_16 ?_
    refine r_lconst (v := (0 : Int64)) hX d_M_feast_17 rfl ?_
    refine r_ldc2 hX d_M_feast_18 cw_M_126 ?_
    refine r_callS1 (As := [_, _, _]) hX hM mw_M_122 (T_M_in _ _ _ _) rfl rfl ⟨Nat.le_refl _, Nat.le_refl _⟩ rfl rfl d_M_feast_21 ?_
    refine r_if_eq hX d_M_feast_24 rfl h (fun h => ?_) (fun h => ?_)
    · refine r_bipush (v := (-102 : Int32)) hX d_M_feast_36 rfl ?_
      cases h; exact r_iret hX hR d_M_feast_38
    · refine r_aload_n (i := 0) hX d_M_feast_27 0 rfl rfl ?_
      refine r_iload_n (i := 1) hX d_M_feast_28 1 rfl rfl ?_
      refine r_iload_n (i := 2) hX d_M_feast_29 2 rfl rfl ?_
      obtain ⟨hk1, h⟩ := gd_e h
      obtain ⟨r2, hr3, h⟩ := bd_e h
      refine r_callV1 (As := [_, _]) hX hM mw_M_148 (T_M_feastOf _ _ _ _ hr3) (rc_of ci_12 hk1) rfl rfl ⟨Nat.le_refl _, Nat.le_refl _⟩ rfl rfl d_M_feast_30 ?_
      refine r_goto hX d_M_feast_33 rfl ?_
      cases h; exact r_iret hX hR d_M_feast_38
  · refine r_bipush (v := (-101 : Int32)) hX d_M_feast_12 rfl ?_
    cases h; exact r_iret hX hR d_M_feast_14
theorem T_M_feast {l : Launch} {G : AG} (w : AW) (a0 : Nat) (x1 : Int32) (x2 : Int32) {o : Int32} (h : F_M_feast w a0 x1 x2 = some o) : Mt l G y_M_feast b_M_feast 3 (some (.int)) 5 113 0 0 [vr a0, vi x1, vi x2] w (some (vi o)) w := mt_of (by decide) (Nat.le_of_ble_eq_true rfl) (fun X hX hR hM hI => P_M_feast_0 hX hM hR _ _ _ h)
/-! RedSky.diaryOf(I)LRedSky$Diary; -/
theorem d_A_diaryOf_0 : decode b_A_diaryOf 0 = .ok (.iload_n 1, 1) := by decide +kernel
theorem d_A_diaryOf_1 : decode b_A_diaryOf 1 = .ok (.iconst 0, 1) := by decide +kernel
theorem d_A_diaryOf_2 : decode b_A_diaryOf 2 = .ok (.iconst 2, 1) := by decide +kernel
theorem d_A_diaryOf_3 : decode b_A_diaryOf 3 = .ok (.invokestatic 86, 3) := by decide +kernel
theorem d_A_diaryOf_6 : decode b_A_diaryOf 6 = .ok (.ifCond .eq (12), 3) := by decide +kernel
theorem d_A_diaryOf_9 : decode b_A_diaryOf 9 = .ok (.aload_n 0, 1) := by decide +kernel
theorem d_A_diaryOf_10 : decode b_A_diaryOf 10 = .ok (.getfield 18, 3) := by decide +kernel
theorem d_A_diaryOf_13 : decode b_A_diaryOf 13 = .ok (.iload_n 1, 1) := by decide +kernel
theorem d_A_diaryOf_14 : decode b_A_diaryOf 14 = .ok (.aaload, 1) := by decide +kernel
theorem d_A_diaryOf_15 : decode b_A_diaryOf 15 = .ok (.goto (4), 3) := by decide +kernel
theorem d_A_diaryOf_18 : decode b_A_diaryOf 18 = .ok (.aconst_null, 1) := by decide +kernel
theorem d_A_diaryOf_19 : decode b_A_diaryOf 19 = .ok (.areturn, 1) := by decide +kernel
def F_A_diaryOf (w : AW) (a0 : Nat) (x1 : Int32) : Option (Nat) :=
  if (F_A_within x1 (0 : Int32) (2 : Int32)) = 0 then
    some 0
  else
    gd (wk w a0 == 1) <|
    gd (wk w (wr w a0 1) == 106) <|
    gd (inb x1 (wn w (wr w a0 1))) <|
    some (wr w (wr w a0 1) (Int32.toNatClampNeg x1))
theorem P_A_diaryOf_0 {X : AX} {l : Launch} {G : AG} {w : AW} (hX : XOK X b_A_diaryOf "RedSky" 2) (hM : XM X l G { frames := 1, cells := 0, slots := 0, locals := 22 }) {o : Nat} (hR : XR X (some (.object "RedSky$Diary")) 0 0 (some (vr o)) w) (a0 : Nat) (x1 : Int32) (h : F_A_diaryOf w a0 x1 = some o) : RJ X 2 0 0 0 [(0, vr a0), (1, vi x1)] [] w := by
  unfold F_A_diaryOf at h
  refine r_iload_n (i := 1) hX d_A_diaryOf_0 1 rfl rfl ?_
  refine r_iconst (v := (0 : Int32)) hX d_A_diaryOf_1 rfl ?_
  refine r_iconst (v := (2 : Int32)) hX d_A_diaryOf_2 rfl ?_
  refine r_callS1 (As := [_, _, _]) hX hM mw_A_86 (T_A_within _ _ _ _) rfl rfl ⟨Nat.le_refl _, Nat.le_refl _⟩ rfl rfl d_A_diaryOf_3 ?_
  refine r_if_eq hX d_A_diaryOf_6 rfl h (fun h => ?_) (fun h => ?_)
  · refine r_null hX d_A_diaryOf_18 ?_
    cases h; exact r_aret hX hR d_A_diaryOf_19
  · refine r_aload_n (i := 0) hX d_A_diaryOf_9 0 rfl rfl ?_
    obtain ⟨hk1, h⟩ := gd_e h
    refine r_getR (i := 0) (f := 1) hX ci_0 (by decide) rfl fl_A_18 hk1 d_A_diaryOf_10 ?_
    refine r_iload_n (i := 1) hX d_A_diaryOf_13 1 rfl rfl ?_
    obtain ⟨hk2, h⟩ := gd_e h
    obtain ⟨hg3, h⟩ := gd_e h
    refine r_aald (t := 0) (kd := 106) hX (by decide) (fun G => rfl) hk2 hg3 d_A_diaryOf_14 ?_
    refine r_goto hX d_A_diaryOf_15 rfl ?_
    cases h; exact r_aret hX hR d_A_diaryOf_19
theorem T_A_diaryOf {l : Launch} {G : AG} (w : AW) (a0 : Nat) (x1 : Int32) {o : Nat} (h : F_A_diaryOf w a0 x1 = some o) : Mt l G y_A_diaryOf b_A_diaryOf 2 (some (.object "RedSky$Diary")) 1 22 0 0 [vr a0, vi x1] w (some (vr o)) w := mt_of (by decide) (Nat.le_of_ble_eq_true rfl) (fun X hX hR hM hI => P_A_diaryOf_0 hX hM hR _ _ h)
/-! RedSky.nextSeed(I)I -/
theorem d_A_nextSeed_0 : decode b_A_nextSeed 0 = .ok (.ldc_w 348, 3) := by decide +kernel
theorem d_A_nextSeed_3 : decode b_A_nextSeed 3 = .ok (.iload_n 0, 1) := by decide +kernel
theorem d_A_nextSeed_4 : decode b_A_nextSeed 4 = .ok (.imul, 1) := by decide +kernel
theorem d_A_nextSeed_5 : decode b_A_nextSeed 5 = .ok (.sipush (12345), 3) := by decide +kernel
theorem d_A_nextSeed_8 : decode b_A_nextSeed 8 = .ok (.iadd, 1) := by decide +kernel
theorem d_A_nextSeed_9 : decode b_A_nextSeed 9 = .ok (.ldc_w 349, 3) := by decide +kernel
theorem d_A_nextSeed_12 : decode b_A_nextSeed 12 = .ok (.iand, 1) := by decide +kernel
theorem d_A_nextSeed_13 : decode b_A_nextSeed 13 = .ok (.ireturn, 1) := by decide +kernel
def Fo_A_nextSeed (w : AW) (x0 : Int32) : Option (Int32) :=
  some ((((1103515245 : Int32) * x0) + (12345 : Int32)) &&& (2147483647 : Int32))
theorem P_A_nextSeed_0 {X : AX} {l : Launch} {G : AG} {w : AW} (hX : XOK X b_A_nextSeed "RedSky" 1) (hM : XM X l G { frames := 0, cells := 0, slots := 0, locals := 0 }) {o : Int32} (hR : XR X (some .int) 0 0 (some (vi o)) w) (x0 : Int32) (h : Fo_A_nextSeed w x0 = some o) : RJ X 1 0 0 0 [(0, vi x0)] [] w := by
  unfold Fo_A_nextSeed at h
  refine r_ldcw hX d_A_nextSeed_0 cw_A_348 ?_
  refine r_iload_n (i := 0) hX d_A_nextSeed_3 0 rfl rfl ?_
  refine r_imul hX d_A_nextSeed_4 ?_
  refine r_sipush (v := (12345 : Int32)) hX d_A_nextSeed_5 rfl ?_
  refine r_iadd hX d_A_nextSeed_8 ?_
  refine r_ldcw hX d_A_nextSeed_9 cw_A_349 ?_
  refine r_iand hX d_A_nextSeed_12 ?_
  cases h; exact r_iret hX hR d_A_nextSeed_13
def F_A_nextSeed (x0 : Int32) : Int32 :=
  ((((1103515245 : Int32) * x0) + (12345 : Int32)) &&& (2147483647 : Int32))
theorem E_A_nextSeed (w : AW) (x0 : Int32) : Fo_A_nextSeed w x0 = some (F_A_nextSeed x0) := by
  simp only [Fo_A_nextSeed, F_A_nextSeed, apply_ite (some : Int32 → Option Int32)]
theorem T_A_nextSeed {l : Launch} {G : AG} (x0 : Int32) (w : AW)  : Mt l G y_A_nextSeed b_A_nextSeed 1 (some (.int)) 0 0 0 0 [vi x0] w (some (vi (F_A_nextSeed x0))) w := mt_of (by decide) (Nat.le_of_ble_eq_true rfl) (fun X hX hR hM hI => P_A_nextSeed_0 hX hM hR _ (E_A_nextSeed _ _))
/-! RedSky$Diary.written(II)I -/
theorem d_Di_written_0 : decode b_Di_written 0 = .ok (.iload_n 0, 1) := by decide +kernel
theorem d_Di_written_1 : decode b_Di_written 1 = .ok (.tableswitch (51) 0 2 #[27, 31, 36], 27) := by decide +kernel
theorem d_Di_written_28 : decode b_Di_written 28 = .ok (.iload_n 1, 1) := by decide +kernel
theorem d_Di_written_29 : decode b_Di_written 29 = .ok (.iconst 4, 1) := by decide +kernel
theorem d_Di_written_30 : decode b_Di_written 30 = .ok (.irem, 1) := by decide +kernel
theorem d_Di_written_31 : decode b_Di_written 31 = .ok (.ireturn, 1) := by decide +kernel
theorem d_Di_written_32 : decode b_Di_written 32 = .ok (.iload_n 1, 1) := by decide +kernel
theorem d_Di_written_33 : decode b_Di_written 33 = .ok (.bipush (10), 2) := by decide +kernel
theorem d_Di_written_35 : decode b_Di_written 35 = .ok (.irem, 1) := by decide +kernel
theorem d_Di_written_36 : decode b_Di_written 36 = .ok (.ireturn, 1) := by decide +kernel
theorem d_Di_written_37 : decode b_Di_written 37 = .ok (.iload_n 1, 1) := by decide +kernel
theorem d_Di_written_38 : decode b_Di_written 38 = .ok (.iconst 3, 1) := by decide +kernel
theorem d_Di_written_39 : decode b_Di_written 39 = .ok (.irem, 1) := by decide +kernel
theorem d_Di_written_40 : decode b_Di_written 40 = .ok (.ifCond .ne (7), 3) := by decide +kernel
theorem d_Di_written_43 : decode b_Di_written 43 = .ok (.iconst 0, 1) := by decide +kernel
theorem d_Di_written_44 : decode b_Di_written 44 = .ok (.goto (7), 3) := by decide +kernel
theorem d_Di_written_47 : decode b_Di_written 47 = .ok (.iload_n 1, 1) := by decide +kernel
theorem d_Di_written_48 : decode b_Di_written 48 = .ok (.bipush (100), 2) := by decide +kernel
theorem d_Di_written_50 : decode b_Di_written 50 = .ok (.irem, 1) := by decide +kernel
theorem d_Di_written_51 : decode b_Di_written 51 = .ok (.ireturn, 1) := by decide +kernel
theorem d_Di_written_52 : decode b_Di_written 52 = .ok (.iload_n 1, 1) := by decide +kernel
theorem d_Di_written_53 : decode b_Di_written 53 = .ok (.bipush (71), 2) := by decide +kernel
theorem d_Di_written_55 : decode b_Di_written 55 = .ok (.irem, 1) := by decide +kernel
theorem d_Di_written_56 : decode b_Di_written 56 = .ok (.bipush (30), 2) := by decide +kernel
theorem d_Di_written_58 : decode b_Di_written 58 = .ok (.isub, 1) := by decide +kernel
theorem d_Di_written_59 : decode b_Di_written 59 = .ok (.ireturn, 1) := by decide +kernel
def F_Di_written (w : AW) (x0 : Int32) (x1 : Int32) : Option (Int32) :=
  if Int32.toInt x0 < 0 ∨ 2 < Int32.toInt x0 then
    some ((irem x1 (71 : Int32)) - (30 : Int32))
  else if x0 = (0 : Int32) then
    some (irem x1 (4 : Int32))
  else if x0 = (1 : Int32) then
    some (irem x1 (10 : Int32))
  else if x0 = (2 : Int32) then
    if (irem x1 (3 : Int32)) = 0 then
      some (0 : Int32)
    else
      some (irem x1 (100 : Int32))
  else none
theorem P_Di_written_0 {X : AX} {l : Launch} {G : AG} {w : AW} (hX : XOK X b_Di_written "RedSky$Diary" 2) (hM : XM X l G { frames := 0, cells := 0, slots := 0, locals := 0 }) {o : Int32} (hR : XR X (some .int) 0 0 (some (vi o)) w) (x0 : Int32) (x1 : Int32) (h : F_Di_written w x0 x1 = some o) : RJ X 2 0 0 0 [(0, vi x0), (1, vi x1)] [] w := by
  unfold F_Di_written at h
  refine r_iload_n (i := 0) hX d_Di_written_0 0 rfl rfl ?_
  rcases it_e h with ⟨hc, h⟩ | ⟨-, h⟩
  · refine r_tsOut hX hc d_Di_written_1 rfl ?_
    refine r_iload_n (i := 1) hX d_Di_written_52 1 rfl rfl ?_
    refine r_bipush (v := (71 : Int32)) hX d_Di_written_53 rfl ?_
    refine r_irem hX d_Di_written_55 (by decide) ?_
    refine r_bipush (v := (30 : Int32)) hX d_Di_written_56 rfl ?_
    refine r_isub hX d_Di_written_58 ?_
    cases h; exact r_iret hX hR d_Di_written_59
  rcases it_e h with ⟨hc, h⟩ | ⟨-, h⟩
  · refine r_tsIn (v := (0 : Int32)) hX hc d_Di_written_1 (by decide) (by decide) rfl rfl ?_
    refine r_iload_n (i := 1) hX d_Di_written_28 1 rfl rfl ?_
    refine r_iconst (v := (4 : Int32)) hX d_Di_written_29 rfl ?_
    refine r_irem hX d_Di_written_30 (by decide) ?_
    cases h; exact r_iret hX hR d_Di_written_31
  rcases it_e h with ⟨hc, h⟩ | ⟨-, h⟩
  · refine r_tsIn (v := (1 : Int32)) hX hc d_Di_written_1 (by decide) (by decide) rfl rfl ?_
    refine r_iload_n (i := 1) hX d_Di_written_32 1 rfl rfl ?_
    refine r_bipush (v := (10 : Int32)) hX d_Di_written_33 rfl ?_
    refine r_irem hX d_Di_written_35 (by decide) ?_
    cases h; exact r_iret hX hR d_Di_written_36
  rcases it_e h with ⟨hc, h⟩ | ⟨-, h⟩
  · refine r_tsIn (v := (2 : Int32)) hX hc d_Di_written_1 (by decide) (by decide) rfl rfl ?_
    refine r_iload_n (i := 1) hX d_Di_written_37 1 rfl rfl ?_
    refine r_iconst (v := (3 : Int32)) hX d_Di_written_38 rfl ?_
    refine r_irem hX d_Di_written_39 (by decide) ?_
    refine r_if_ne hX d_Di_written_40 rfl h (fun h => ?_) (fun h => ?_)
    · refine r_iload_n (i := 1) hX d_Di_written_47 1 rfl rfl ?_
      refine r_bipush (v := (100 : Int32)) hX d_Di_written_48 rfl ?_
      refine r_irem hX d_Di_written_50 (by decide) ?_
      cases h; exact r_iret hX hR d_Di_written_51
    · refine r_iconst (v := (0 : Int32)) hX d_Di_written_43 rfl ?_
      refine r_goto hX d_Di_written_44 rfl ?_
      cases h; exact r_iret hX hR d_Di_written_51
  cases h
theorem T_Di_written {l : Launch} {G : AG} (w : AW) (x0 : Int32) (x1 : Int32) {o : Int32} (h : F_Di_written w x0 x1 = some o) : Mt l G y_Di_written b_Di_written 2 (some (.int)) 0 0 0 0 [vi x0, vi x1] w (some (vi o)) w := mt_of (by decide) (Nat.le_of_ble_eq_true rfl) (fun X hX hR hM hI => P_Di_written_0 hX hM hR _ _ h)
/-! RedSky.isField(I)Z -/
theorem d_A_isField_0 : decode b_A_isField 0 = .ok (.iload_n 0, 1) := by decide +kernel
theorem d_A_isField_1 : decode b_A_isField 1 = .ok (.iconst 0, 1) := by decide +kernel
theorem d_A_isField_2 : decode b_A_isField 2 = .ok (.iconst 3, 1) := by decide +kernel
theorem d_A_isField_3 : decode b_A_isField 3 = .ok (.invokestatic 86, 3) := by decide +kernel
theorem d_A_isField_6 : decode b_A_isField 6 = .ok (.ireturn, 1) := by decide +kernel
def Fo_A_isField (w : AW) (x0 : Int32) : Option (Int32) :=
  some (F_A_within x0 (0 : Int32) (3 : Int32))
theorem P_A_isField_0 {X : AX} {l : Launch} {G : AG} {w : AW} (hX : XOK X b_A_isField "RedSky" 1) (hM : XM X l G { frames := 1, cells := 0, slots := 0, locals := 22 }) {o : Int32} (hR : XR X (some .boolean) 0 0 (some (vi o)) w) (x0 : Int32) (h : Fo_A_isField w x0 = some o) : RJ X 1 0 0 0 [(0, vi x0)] [] w := by
  unfold Fo_A_isField at h
  refine r_iload_n (i := 0) hX d_A_isField_0 0 rfl rfl ?_
  refine r_iconst (v := (0 : Int32)) hX d_A_isField_1 rfl ?_
  refine r_iconst (v := (3 : Int32)) hX d_A_isField_2 rfl ?_
  refine r_callS1 (As := [_, _, _]) hX hM mw_A_86 (T_A_within _ _ _ _) rfl rfl ⟨Nat.le_refl _, Nat.le_refl _⟩ rfl rfl d_A_isField_3 ?_
  cases h; exact r_zret hX hR (zn_ok (z_A_within _ _ _)) d_A_isField_6
def F_A_isField (x0 : Int32) : Int32 :=
  (F_A_within x0 (0 : Int32) (3 : Int32))
theorem E_A_isField (w : AW) (x0 : Int32) : Fo_A_isField w x0 = some (F_A_isField x0) := by
  simp only [Fo_A_isField, F_A_isField, apply_ite (some : Int32 → Option Int32)]
theorem z_A_isField (x0 : Int32) : (F_A_isField x0 == 0 || F_A_isField x0 == 1) = true := by
  unfold F_A_isField; exact (z_A_within _ _ _)
theorem T_A_isField {l : Launch} {G : AG} (x0 : Int32) (w : AW)  : Mt l G y_A_isField b_A_isField 1 (some (.boolean)) 1 22 0 0 [vi x0] w (some (vi (F_A_isField x0))) w := mt_of (by decide) (Nat.le_of_ble_eq_true rfl) (fun X hX hR hM hI => P_A_isField_0 hX hM hR _ (E_A_isField _ _))
/-! RedSky$Diary.putField(III)V -/
theorem d_Di_putField_0 : decode b_Di_putField 0 = .ok (.iload_n 1, 1) := by decide +kernel
theorem d_Di_putField_1 : decode b_Di_putField 1 = .ok (.invokestatic 21, 3) := by decide +kernel
theorem d_Di_putField_4 : decode b_Di_putField 4 = .ok (.ifCond .eq (10), 3) := by decide +kernel
theorem d_Di_putField_7 : decode b_Di_putField 7 = .ok (.iload_n 2, 1) := by decide +kernel
theorem d_Di_putField_8 : decode b_Di_putField 8 = .ok (.invokestatic 25, 3) := by decide +kernel
theorem d_Di_putField_11 : decode b_Di_putField 11 = .ok (.ifCond .ne (4), 3) := by decide +kernel
theorem d_Di_putField_14 : decode b_Di_putField 14 = .ok (.return_, 1) := by decide +kernel
theorem d_Di_putField_15 : decode b_Di_putField 15 = .ok (.iload_n 3, 1) := by decide +kernel
theorem d_Di_putField_16 : decode b_Di_putField 16 = .ok (.sipush (-1000), 3) := by decide +kernel
theorem d_Di_putField_19 : decode b_Di_putField 19 = .ok (.if_icmp .ne (7), 3) := by decide +kernel
theorem d_Di_putField_22 : decode b_Di_putField 22 = .ok (.iconst 0, 1) := by decide +kernel
theorem d_Di_putField_23 : decode b_Di_putField 23 = .ok (.goto (12), 3) := by decide +kernel
theorem d_Di_putField_26 : decode b_Di_putField 26 = .ok (.iload_n 3, 1) := by decide +kernel
theorem d_Di_putField_27 : decode b_Di_putField 27 = .ok (.getstatic 34, 3) := by decide +kernel
theorem d_Di_putField_30 : decode b_Di_putField 30 = .ok (.iload_n 2, 1) := by decide +kernel
theorem d_Di_putField_31 : decode b_Di_putField 31 = .ok (.iaload, 1) := by decide +kernel
theorem d_Di_putField_32 : decode b_Di_putField 32 = .ok (.isub, 1) := by decide +kernel
theorem d_Di_putField_33 : decode b_Di_putField 33 = .ok (.iconst 1, 1) := by decide +kernel
theorem d_Di_putField_34 : decode b_Di_putField 34 = .ok (.iadd, 1) := by decide +kernel
theorem d_Di_putField_35 : decode b_Di_putField 35 = .ok (.istore 4, 2) := by decide +kernel
theorem d_Di_putField_37 : decode b_Di_putField 37 = .ok (.aload_n 0, 1) := by decide +kernel
theorem d_Di_putField_38 : decode b_Di_putField 38 = .ok (.getfield 9, 3) := by decide +kernel
theorem d_Di_putField_41 : decode b_Di_putField 41 = .ok (.iload_n 1, 1) := by decide +kernel
theorem d_Di_putField_42 : decode b_Di_putField 42 = .ok (.aload_n 0, 1) := by decide +kernel
theorem d_Di_putField_43 : decode b_Di_putField 43 = .ok (.getfield 9, 3) := by decide +kernel
theorem d_Di_putField_46 : decode b_Di_putField 46 = .ok (.iload_n 1, 1) := by decide +kernel
theorem d_Di_putField_47 : decode b_Di_putField 47 = .ok (.iaload, 1) := by decide +kernel
theorem d_Di_putField_48 : decode b_Di_putField 48 = .ok (.getstatic 31, 3) := by decide +kernel
theorem d_Di_putField_51 : decode b_Di_putField 51 = .ok (.iload_n 2, 1) := by decide +kernel
theorem d_Di_putField_52 : decode b_Di_putField 52 = .ok (.iaload, 1) := by decide +kernel
theorem d_Di_putField_53 : decode b_Di_putField 53 = .ok (.getstatic 28, 3) := by decide +kernel
theorem d_Di_putField_56 : decode b_Di_putField 56 = .ok (.iload_n 2, 1) := by decide +kernel
theorem d_Di_putField_57 : decode b_Di_putField 57 = .ok (.iaload, 1) := by decide +kernel
theorem d_Di_putField_58 : decode b_Di_putField 58 = .ok (.ishl, 1) := by decide +kernel
theorem d_Di_putField_59 : decode b_Di_putField 59 = .ok (.iconst (-1), 1) := by decide +kernel
theorem d_Di_putField_60 : decode b_Di_putField 60 = .ok (.ixor, 1) := by decide +kernel
theorem d_Di_putField_61 : decode b_Di_putField 61 = .ok (.iand, 1) := by decide +kernel
theorem d_Di_putField_62 : decode b_Di_putField 62 = .ok (.iload 4, 2) := by decide +kernel
theorem d_Di_putField_64 : decode b_Di_putField 64 = .ok (.getstatic 31, 3) := by decide +kernel
theorem d_Di_putField_67 : decode b_Di_putField 67 = .ok (.iload_n 2, 1) := by decide +kernel
theorem d_Di_putField_68 : decode b_Di_putField 68 = .ok (.iaload, 1) := by decide +kernel
theorem d_Di_putField_69 : decode b_Di_putField 69 = .ok (.iand, 1) := by decide +kernel
theorem d_Di_putField_70 : decode b_Di_putField 70 = .ok (.getstatic 28, 3) := by decide +kernel
theorem d_Di_putField_73 : decode b_Di_putField 73 = .ok (.iload_n 2, 1) := by decide +kernel
theorem d_Di_putField_74 : decode b_Di_putField 74 = .ok (.iaload, 1) := by decide +kernel
theorem d_Di_putField_75 : decode b_Di_putField 75 = .ok (.ishl, 1) := by decide +kernel
theorem d_Di_putField_76 : decode b_Di_putField 76 = .ok (.ior, 1) := by decide +kernel
theorem d_Di_putField_77 : decode b_Di_putField 77 = .ok (.iastore, 1) := by decide +kernel
theorem d_Di_putField_78 : decode b_Di_putField 78 = .ok (.return_, 1) := by decide +kernel
def F_Di_putField_35 (a0 : Nat) (x1 : Int32) (x2 : Int32) (s0 : Int32) (w : AW) : Option (AW) :=
  gd (wk w a0 == 3) <|
  gd (wk w (wr w a0 0) == 100) <|
  gd (inb x1 (wn w (wr w a0 0))) <|
  gd (wk w 6 == 110) <|
  gd (inb x2 (wn w 6)) <|
  gd (wk w 5 == 110) <|
  gd (inb x2 (wn w 5)) <|
  gd (inb x2 (wn w 6)) <|
  gd (inb x2 (wn w 5)) <|
  gd (inb x1 (wn w (wr w a0 0))) <|
  let w11 : AW := upI w (wr w a0 0) (Int32.toNatClampNeg x1) (((wi w (wr w a0 0) (Int32.toNatClampNeg x1)) &&& (((wi w 6 (Int32.toNatClampNeg x2)) <<< ((wi w 5 (Int32.toNatClampNeg x2)) &&& 31)) ^^^ (-1 : Int32))) ||| ((s0 &&& (wi w 6 (Int32.toNatClampNeg x2))) <<< ((wi w 5 (Int32.toNatClampNeg x2)) &&& 31)))
  some w11
theorem P_Di_putField_35 {X : AX} {l : Launch} {G : AG} (hX : XOK X b_Di_putField "RedSky$Diary" 5) (hM : XM X l G { frames := 2, cells := 0, slots := 0, locals := 42 }) {o : AW} (hR : XR X none 0 0 none o) (a0 : Nat) (x1 : Int32) (x2 : Int32) (s0 : Int32) (w : AW) (h : F_Di_putField_35 a0 x1 x2 s0 w = some o) : RJ X 5 0 0 35 [(0, vr a0), (1, vi x1), (2, vi x2)] [vi s0] w := by
  unfold F_Di_putField_35 at h
  refine r_istore (i := 4) hX d_Di_putField_35  (by decide) ?_
  refine r_aload_n (i := 0) hX d_Di_putField_37 1 rfl rfl ?_
  obtain ⟨hk1, h⟩ := gd_e h
  refine r_getR (i := 2) (f := 0) hX ci_2 (by decide) rfl fl_Di_9 hk1 d_Di_putField_38 ?_
  refine r_iload_n (i := 1) hX d_Di_putField_41 2 rfl rfl ?_
  refine r_aload_n (i := 0) hX d_Di_putField_42 1 rfl rfl ?_
  refine r_getR (i := 2) (f := 0) hX ci_2 (by decide) rfl fl_Di_9 hk1 d_Di_putField_43 ?_
  refine r_iload_n (i := 1) hX d_Di_putField_46 2 rfl rfl ?_
  obtain ⟨hk2, h⟩ := gd_e h
  obtain ⟨hg3, h⟩ := gd_e h
  refine r_iald hX hk2 hg3 d_Di_putField_47 ?_
  refine r_gets (v := vr 6) hX (List.mem_of_getElem? (i := 4) rfl) fl_Di_31 d_Di_putField_48 ?_
  refine r_iload_n (i := 2) hX d_Di_putField_51 3 rfl rfl ?_
  obtain ⟨hk4, h⟩ := gd_e h
  obtain ⟨hg5, h⟩ := gd_e h
  refine r_xald hX hk4 hg5 d_Di_putField_52 ?_
  refine r_gets (v := vr 5) hX (List.mem_of_getElem? (i := 3) rfl) fl_Di_28 d_Di_putField_53 ?_
  refine r_iload_n (i := 2) hX d_Di_putField_56 3 rfl rfl ?_
  obtain ⟨hk6, h⟩ := gd_e h
  obtain ⟨hg7, h⟩ := gd_e h
  refine r_xald hX hk6 hg7 d_Di_putField_57 ?_
  refine r_ishl hX d_Di_putField_58 ?_
  refine r_iconst (v := (-1 : Int32)) hX d_Di_putField_59 rfl ?_
  refine r_ixor hX d_Di_putField_60 ?_
  refine r_iand hX d_Di_putField_61 ?_
  refine r_iload (i := 4) hX d_Di_putField_62 0  rfl ?_
  refine r_gets (v := vr 6) hX (List.mem_of_getElem? (i := 4) rfl) fl_Di_31 d_Di_putField_64 ?_
  refine r_iload_n (i := 2) hX d_Di_putField_67 3 rfl rfl ?_
  obtain ⟨hg8, h⟩ := gd_e h
  refine r_xald hX hk4 hg8 d_Di_putField_68 ?_
  refine r_iand hX d_Di_putField_69 ?_
  refine r_gets (v := vr 5) hX (List.mem_of_getElem? (i := 3) rfl) fl_Di_28 d_Di_putField_70 ?_
  refine r_iload_n (i := 2) hX d_Di_putField_73 3 rfl rfl ?_
  obtain ⟨hg9, h⟩ := gd_e h
  refine r_xald hX hk6 hg9 d_Di_putField_74 ?_
  refine r_ishl hX d_Di_putField_75 ?_
  refine r_ior hX d_Di_putField_76 ?_
  obtain ⟨hg10, h⟩ := gd_e h
  refine r_iast hX hk2 hg10 d_Di_putField_77 ?_
  cases h; exact r_vret hX hR d_Di_putField_78
def F_Di_putField (a0 : Nat) (x1 : Int32) (x2 : Int32) (x3 : Int32) (w : AW) : Option (AW) :=
  if (F_A_isDay x1) = 0 then
    some w
  else
    if (F_A_isField x2) = 0 then
      some w
    else
      if x3 = (-1000 : Int32) then
        F_Di_putField_35 a0 x1 x2 (0 : Int32) w
      else
        gd (wk w 3 == 110) <|
        gd (inb x2 (wn w 3)) <|
        F_Di_putField_35 a0 x1 x2 ((x3 - (wi w 3 (Int32.toNatClampNeg x2))) + (1 : Int32)) w
theorem P_Di_putField_0 {X : AX} {l : Launch} {G : AG} (hX : XOK X b_Di_putField "RedSky$Diary" 5) (hM : XM X l G { frames := 2, cells := 0, slots := 0, locals := 42 }) {o : AW} (hR : XR X none 0 0 none o) (a0 : Nat) (x1 : Int32) (x2 : Int32) (x3 : Int32) (w : AW) (h : F_Di_putField a0 x1 x2 x3 w = some o) : RJ X 5 0 0 0 [(0, vr a0), (1, vi x1), (2, vi x2), (3, vi x3)] [] w := by
  unfold F_Di_putField at h
  refine r_iload_n (i := 1) hX d_Di_putField_0 1 rfl rfl ?_
  refine r_callSN1 (As := [_]) hX hM mw_Di_21 (T_A_isDay _ _) rfl rfl ⟨Nat.le_refl _, Nat.le_refl _⟩ rfl rfl d_Di_putField_1 ?_
  refine r_if_eq hX d_Di_putField_4 rfl h (fun h => ?_) (fun h => ?_)
  · cases h; exact r_vret hX hR d_Di_putField_14
  · refine r_iload_n (i := 2) hX d_Di_putField_7 2 rfl rfl ?_
    refine r_callSN1 (As := [_]) hX hM mw_Di_25 (T_A_isField _ _) rfl rfl ⟨Nat.le_refl _, Nat.le_refl _⟩ rfl rfl d_Di_putField_8 ?_
    refine r_if_ne hX d_Di_putField_11 rfl h (fun h => ?_) (fun h => ?_)
    · refine r_iload_n (i := 3) hX d_Di_putField_15 3 rfl rfl ?_
      refine r_sipush (v := (-1000 : Int32)) hX d_Di_putField_16 rfl ?_
      refine r_icmp_ne hX d_Di_putField_19 rfl h (fun h => ?_) (fun h => ?_)
      · refine r_iload_n (i := 3) hX d_Di_putField_26 3 rfl rfl ?_
        refine r_gets (v := vr 3) hX (List.mem_of_getElem? (i := 1) rfl) fl_Di_34 d_Di_putField_27 ?_
        refine r_iload_n (i := 2) hX d_Di_putField_30 2 rfl rfl ?_
        obtain ⟨hk1, h⟩ := gd_e h
        obtain ⟨hg2, h⟩ := gd_e h
        refine r_xald hX hk1 hg2 d_Di_putField_31 ?_
        refine r_isub hX d_Di_putField_32 ?_
        refine r_iconst (v := (1 : Int32)) hX d_Di_putField_33 rfl ?_
        refine r_iadd hX d_Di_putField_34 ?_
        exact rj_sub [0, 1, 2] rfl (P_Di_putField_35 hX hM hR _ _ _ _ _ h)
      · refine r_iconst (v := (0 : Int32)) hX d_Di_putField_22 rfl ?_
        refine r_goto hX d_Di_putField_23 rfl ?_
        exact rj_sub [0, 1, 2] rfl (P_Di_putField_35 hX hM hR _ _ _ _ _ h)
    · cases h; exact r_vret hX hR d_Di_putField_14
theorem T_Di_putField {l : Launch} {G : AG} (a0 : Nat) (x1 : Int32) (x2 : Int32) (x3 : Int32) (w : AW) {o : AW} (h : F_Di_putField a0 x1 x2 x3 w = some o) : Mt l G y_Di_putField b_Di_putField 5 none 2 42 0 0 [vr a0, vi x1, vi x2, vi x3] w none o := mt_of (by decide) (Nat.le_of_ble_eq_true rfl) (fun X hX hR hM hI => P_Di_putField_0 hX hM hR _ _ _ _ _ h)
/-! RedSky$Diary.writeDays(IIII)V -/
theorem d_Di_writeDays_0 : decode b_Di_writeDays 0 = .ok (.iload_n 3, 1) := by decide +kernel
theorem d_Di_writeDays_1 : decode b_Di_writeDays 1 = .ok (.istore 5, 2) := by decide +kernel
theorem d_Di_writeDays_3 : decode b_Di_writeDays 3 = .ok (.iload_n 1, 1) := by decide +kernel
theorem d_Di_writeDays_4 : decode b_Di_writeDays 4 = .ok (.istore 6, 2) := by decide +kernel
theorem d_Di_writeDays_6 : decode b_Di_writeDays 6 = .ok (.iload 6, 2) := by decide +kernel
theorem d_Di_writeDays_8 : decode b_Di_writeDays 8 = .ok (.iload_n 2, 1) := by decide +kernel
theorem d_Di_writeDays_9 : decode b_Di_writeDays 9 = .ok (.if_icmp .ge (84), 3) := by decide +kernel
theorem d_Di_writeDays_12 : decode b_Di_writeDays 12 = .ok (.iconst 0, 1) := by decide +kernel
theorem d_Di_writeDays_13 : decode b_Di_writeDays 13 = .ok (.istore 7, 2) := by decide +kernel
theorem d_Di_writeDays_15 : decode b_Di_writeDays 15 = .ok (.iload 7, 2) := by decide +kernel
theorem d_Di_writeDays_17 : decode b_Di_writeDays 17 = .ok (.iconst 4, 1) := by decide +kernel
theorem d_Di_writeDays_18 : decode b_Di_writeDays 18 = .ok (.if_icmp .ge (69), 3) := by decide +kernel
theorem d_Di_writeDays_21 : decode b_Di_writeDays 21 = .ok (.iload 5, 2) := by decide +kernel
theorem d_Di_writeDays_23 : decode b_Di_writeDays 23 = .ok (.invokestatic 37, 3) := by decide +kernel
theorem d_Di_writeDays_26 : decode b_Di_writeDays 26 = .ok (.istore 5, 2) := by decide +kernel
theorem d_Di_writeDays_28 : decode b_Di_writeDays 28 = .ok (.iload 4, 2) := by decide +kernel
theorem d_Di_writeDays_30 : decode b_Di_writeDays 30 = .ok (.ifCond .le (19), 3) := by decide +kernel
theorem d_Di_writeDays_33 : decode b_Di_writeDays 33 = .ok (.iload 5, 2) := by decide +kernel
theorem d_Di_writeDays_35 : decode b_Di_writeDays 35 = .ok (.sipush (256), 3) := by decide +kernel
theorem d_Di_writeDays_38 : decode b_Di_writeDays 38 = .ok (.idiv, 1) := by decide +kernel
theorem d_Di_writeDays_39 : decode b_Di_writeDays 39 = .ok (.iload 4, 2) := by decide +kernel
theorem d_Di_writeDays_41 : decode b_Di_writeDays 41 = .ok (.irem, 1) := by decide +kernel
theorem d_Di_writeDays_42 : decode b_Di_writeDays 42 = .ok (.ifCond .ne (7), 3) := by decide +kernel
theorem d_Di_writeDays_45 : decode b_Di_writeDays 45 = .ok (.iconst 1, 1) := by decide +kernel
theorem d_Di_writeDays_46 : decode b_Di_writeDays 46 = .ok (.goto (4), 3) := by decide +kernel
theorem d_Di_writeDays_49 : decode b_Di_writeDays 49 = .ok (.iconst 0, 1) := by decide +kernel
theorem d_Di_writeDays_50 : decode b_Di_writeDays 50 = .ok (.istore 8, 2) := by decide +kernel
theorem d_Di_writeDays_52 : decode b_Di_writeDays 52 = .ok (.aload_n 0, 1) := by decide +kernel
theorem d_Di_writeDays_53 : decode b_Di_writeDays 53 = .ok (.iload 6, 2) := by decide +kernel
theorem d_Di_writeDays_55 : decode b_Di_writeDays 55 = .ok (.iload 7, 2) := by decide +kernel
theorem d_Di_writeDays_57 : decode b_Di_writeDays 57 = .ok (.iload 8, 2) := by decide +kernel
theorem d_Di_writeDays_59 : decode b_Di_writeDays 59 = .ok (.ifCond .eq (9), 3) := by decide +kernel
theorem d_Di_writeDays_62 : decode b_Di_writeDays 62 = .ok (.sipush (-1000), 3) := by decide +kernel
theorem d_Di_writeDays_65 : decode b_Di_writeDays 65 = .ok (.goto (13), 3) := by decide +kernel
theorem d_Di_writeDays_68 : decode b_Di_writeDays 68 = .ok (.iload 7, 2) := by decide +kernel
theorem d_Di_writeDays_70 : decode b_Di_writeDays 70 = .ok (.iload 5, 2) := by decide +kernel
theorem d_Di_writeDays_72 : decode b_Di_writeDays 72 = .ok (.ldc 41, 2) := by decide +kernel
theorem d_Di_writeDays_74 : decode b_Di_writeDays 74 = .ok (.idiv, 1) := by decide +kernel
theorem d_Di_writeDays_75 : decode b_Di_writeDays 75 = .ok (.invokestatic 42, 3) := by decide +kernel
theorem d_Di_writeDays_78 : decode b_Di_writeDays 78 = .ok (.invokevirtual 46, 3) := by decide +kernel
theorem d_Di_writeDays_81 : decode b_Di_writeDays 81 = .ok (.iinc 7 (1), 3) := by decide +kernel
theorem d_Di_writeDays_84 : decode b_Di_writeDays 84 = .ok (.goto (-69), 3) := by decide +kernel
theorem d_Di_writeDays_87 : decode b_Di_writeDays 87 = .ok (.iinc 6 (1), 3) := by decide +kernel
theorem d_Di_writeDays_90 : decode b_Di_writeDays 90 = .ok (.goto (-84), 3) := by decide +kernel
theorem d_Di_writeDays_93 : decode b_Di_writeDays 93 = .ok (.return_, 1) := by decide +kernel
def F_Di_writeDays_78 (rec6 : Nat → Int32 → Int32 → Int32 → Int32 → AW → Option (AW)) (rec15 : Nat → Int32 → Int32 → Int32 → Int32 → Int32 → AW → Option (AW)) (a0 : Nat) (x2 : Int32) (x4 : Int32) (x5 : Int32) (x6 : Int32) (x7 : Int32) (s3 : Int32) (s2 : Int32) (s1 : Int32) (s0 : Nat) (w : AW) : Option (AW) :=
  gd (wk w s0 == 3) <|
  (F_Di_putField s0 s1 s2 s3 w).bind fun r2 =>
  let v4 : Int32 := (x7 + (1 : Int32))
  rec15 a0 x2 x4 x5 x6 v4 r2
theorem P_Di_writeDays_78 {X : AX} {l : Launch} {G : AG} {rec6 : Nat → Int32 → Int32 → Int32 → Int32 → AW → Option (AW)} {rec15 : Nat → Int32 → Int32 → Int32 → Int32 → Int32 → AW → Option (AW)} (hX : XOK X b_Di_writeDays "RedSky$Diary" 9) (hM : XM X l G { frames := 3, cells := 0, slots := 0, locals := 66 }) {o : AW} (hR : XR X none 0 0 none o) (hrec6 : ∀ (a0 : Nat) (x2 : Int32) (x4 : Int32) (x5 : Int32) (x6 : Int32) (w : AW), rec6 a0 x2 x4 x5 x6 w = some o → RJ X 9 0 0 6 [(0, vr a0), (2, vi x2), (4, vi x4), (5, vi x5), (6, vi x6)] [] w) (hrec15 : ∀ (a0 : Nat) (x2 : Int32) (x4 : Int32) (x5 : Int32) (x6 : Int32) (x7 : Int32) (w : AW), rec15 a0 x2 x4 x5 x6 x7 w = some o → RJ X 9 0 0 15 [(0, vr a0), (2, vi x2), (4, vi x4), (5, vi x5), (6, vi x6), (7, vi x7)] [] w) (a0 : Nat) (x2 : Int32) (x4 : Int32) (x5 : Int32) (x6 : Int32) (x7 : Int32) (s3 : Int32) (s2 : Int32) (s1 : Int32) (s0 : Nat) (w : AW) (h : F_Di_writeDays_78 rec6 rec15 a0 x2 x4 x5 x6 x7 s3 s2 s1 s0 w = some o) : RJ X 9 0 0 78 [(0, vr a0), (2, vi x2), (4, vi x4), (5, vi x5), (6, vi x6), (7, vi x7)] [vi s3, vi s2, vi s1, vr s0] w := by
  unfold F_Di_writeDays_78 at h
  obtain ⟨hk1, h⟩ := gd_e h
  obtain ⟨r2, hr3, h⟩ := bd_e h
  refine r_callV0 (As := [_, _, _]) hX hM mw_Di_46 (T_Di_putField _ _ _ _ _ hr3) (rc_of ci_2 hk1) rfl rfl ⟨Nat.le_refl _, Nat.le_refl _⟩ rfl rfl d_Di_writeDays_78 ?_
  refine r_iinc (i := 7) (v := (1 : Int32)) hX d_Di_writeDays_81 5 rfl rfl (by decide) ?_
  refine r_goto hX d_Di_writeDays_84 rfl ?_
  exact rj_sub [1, 2, 3, 4, 5, 0] rfl (hrec15 _ _ _ _ _ _ _ h)
def F_Di_writeDays_50 (rec6 : Nat → Int32 → Int32 → Int32 → Int32 → AW → Option (AW)) (rec15 : Nat → Int32 → Int32 → Int32 → Int32 → Int32 → AW → Option (AW)) (a0 : Nat) (x2 : Int32) (x4 : Int32) (x5 : Int32) (x6 : Int32) (x7 : Int32) (s0 : Int32) (w : AW) : Option (AW) :=
  if s0 = 0 then
    (F_Di_written w x7 (x5 / (65536 : Int32))).bind fun r1 =>
    F_Di_writeDays_78 rec6 rec15 a0 x2 x4 x5 x6 x7 r1 x7 x6 a0 w
  else
    F_Di_writeDays_78 rec6 rec15 a0 x2 x4 x5 x6 x7 (-1000 : Int32) x7 x6 a0 w
theorem P_Di_writeDays_50 {X : AX} {l : Launch} {G : AG} {rec6 : Nat → Int32 → Int32 → Int32 → Int32 → AW → Option (AW)} {rec15 : Nat → Int32 → Int32 → Int32 → Int32 → Int32 → AW → Option (AW)} (hX : XOK X b_Di_writeDays "RedSky$Diary" 9) (hM : XM X l G { frames := 3, cells := 0, slots := 0, locals := 66 }) {o : AW} (hR : XR X none 0 0 none o) (hrec6 : ∀ (a0 : Nat) (x2 : Int32) (x4 : Int32) (x5 : Int32) (x6 : Int32) (w : AW), rec6 a0 x2 x4 x5 x6 w = some o → RJ X 9 0 0 6 [(0, vr a0), (2, vi x2), (4, vi x4), (5, vi x5), (6, vi x6)] [] w) (hrec15 : ∀ (a0 : Nat) (x2 : Int32) (x4 : Int32) (x5 : Int32) (x6 : Int32) (x7 : Int32) (w : AW), rec15 a0 x2 x4 x5 x6 x7 w = some o → RJ X 9 0 0 15 [(0, vr a0), (2, vi x2), (4, vi x4), (5, vi x5), (6, vi x6), (7, vi x7)] [] w) (a0 : Nat) (x2 : Int32) (x4 : Int32) (x5 : Int32) (x6 : Int32) (x7 : Int32) (s0 : Int32) (w : AW) (h : F_Di_writeDays_50 rec6 rec15 a0 x2 x4 x5 x6 x7 s0 w = some o) : RJ X 9 0 0 50 [(0, vr a0), (2, vi x2), (4, vi x4), (5, vi x5), (6, vi x6), (7, vi x7)] [vi s0] w := by
  unfold F_Di_writeDays_50 at h
  refine r_istore (i := 8) hX d_Di_writeDays_50  (by decide) ?_
  refine r_aload_n (i := 0) hX d_Di_writeDays_52 1 rfl rfl ?_
  refine r_iload (i := 6) hX d_Di_writeDays_53 5  rfl ?_
  refine r_iload (i := 7) hX d_Di_writeDays_55 6  rfl ?_
  refine r_iload (i := 8) hX d_Di_writeDays_57 0  rfl ?_
  refine r_if_eq hX d_Di_writeDays_59 rfl h (fun h => ?_) (fun h => ?_)
  · refine r_iload (i := 7) hX d_Di_writeDays_68 6  rfl ?_
    refine r_iload (i := 5) hX d_Di_writeDays_70 4  rfl ?_
    refine r_ldc hX d_Di_writeDays_72 cw_Di_41 ?_
    refine r_idiv hX d_Di_writeDays_74 (by decide) ?_
    obtain ⟨r1, hr2, h⟩ := bd_e h
    refine r_callS1 (As := [_, _]) hX hM mw_Di_42 (T_Di_written _ _ _ hr2) rfl rfl ⟨Nat.le_refl _, Nat.le_refl _⟩ rfl rfl d_Di_writeDays_75 ?_
    exact rj_sub [1, 2, 3, 4, 5, 6] rfl (P_Di_writeDays_78 hX hM hR hrec6 hrec15 _ _ _ _ _ _ _ _ _ _ _ h)
  · refine r_sipush (v := (-1000 : Int32)) hX d_Di_writeDays_62 rfl ?_
    refine r_goto hX d_Di_writeDays_65 rfl ?_
    exact rj_sub [1, 2, 3, 4, 5, 6] rfl (P_Di_writeDays_78 hX hM hR hrec6 hrec15 _ _ _ _ _ _ _ _ _ _ _ h)
def F_Di_writeDays_15_B (rec6 : Nat → Int32 → Int32 → Int32 → Int32 → AW → Option (AW)) (rec15 : Nat → Int32 → Int32 → Int32 → Int32 → Int32 → AW → Option (AW)) (a0 : Nat) (x2 : Int32) (x4 : Int32) (x5 : Int32) (x6 : Int32) (x7 : Int32) (w : AW) : Option (AW) :=
  if (4 : Int32) ≤ x7 then
    let v1 : Int32 := (x6 + (1 : Int32))
    rec6 a0 x2 x4 x5 v1 w
  else
    let v2 : Int32 := (F_A_nextSeed x5)
    if x4 ≤ 0 then
      F_Di_writeDays_50 rec6 rec15 a0 x2 x4 v2 x6 x7 (0 : Int32) w
    else
      gd (decide (¬ x4 = 0)) <|
      if (irem (v2 / (256 : Int32)) x4) = 0 then
        F_Di_writeDays_50 rec6 rec15 a0 x2 x4 v2 x6 x7 (1 : Int32) w
      else
        F_Di_writeDays_50 rec6 rec15 a0 x2 x4 v2 x6 x7 (0 : Int32) w
theorem P_Di_writeDays_15_B {X : AX} {l : Launch} {G : AG} {rec6 : Nat → Int32 → Int32 → Int32 → Int32 → AW → Option (AW)} {rec15 : Nat → Int32 → Int32 → Int32 → Int32 → Int32 → AW → Option (AW)} (hX : XOK X b_Di_writeDays "RedSky$Diary" 9) (hM : XM X l G { frames := 3, cells := 0, slots := 0, locals := 66 }) {o : AW} (hR : XR X none 0 0 none o) (hrec6 : ∀ (a0 : Nat) (x2 : Int32) (x4 : Int32) (x5 : Int32) (x6 : Int32) (w : AW), rec6 a0 x2 x4 x5 x6 w = some o → RJ X 9 0 0 6 [(0, vr a0), (2, vi x2), (4, vi x4), (5, vi x5), (6, vi x6)] [] w) (hrec15 : ∀ (a0 : Nat) (x2 : Int32) (x4 : Int32) (x5 : Int32) (x6 : Int32) (x7 : Int32) (w : AW), rec15 a0 x2 x4 x5 x6 x7 w = some o → RJ X 9 0 0 15 [(0, vr a0), (2, vi x2), (4, vi x4), (5, vi x5), (6, vi x6), (7, vi x7)] [] w) (a0 : Nat) (x2 : Int32) (x4 : Int32) (x5 : Int32) (x6 : Int32) (x7 : Int32) (w : AW) (h : F_Di_writeDays_15_B rec6 rec15 a0 x2 x4 x5 x6 x7 w = some o) : RJ X 9 0 0 15 [(0, vr a0), (2, vi x2), (4, vi x4), (5, vi x5), (6, vi x6), (7, vi x7)] [] w := by
  unfold F_Di_writeDays_15_B at h
  refine r_iload (i := 7) hX d_Di_writeDays_15 5  rfl ?_
  refine r_iconst (v := (4 : Int32)) hX d_Di_writeDays_17 rfl ?_
  refine r_icmp_ge hX d_Di_writeDays_18 rfl h (fun h => ?_) (fun h => ?_)
  · refine r_iinc (i := 6) (v := (1 : Int32)) hX d_Di_writeDays_87 4 rfl rfl (by decide) ?_
    refine r_goto hX d_Di_writeDays_90 rfl ?_
    exact rj_sub [1, 2, 3, 4, 0] rfl (hrec6 _ _ _ _ _ _ h)
  · refine r_iload (i := 5) hX d_Di_writeDays_21 3  rfl ?_
    refine r_callSN1 (As := [_]) hX hM mw_Di_37 (T_A_nextSeed _ _) rfl rfl ⟨Nat.le_refl _, Nat.le_refl _⟩ rfl rfl d_Di_writeDays_23 ?_
    refine r_istore (i := 5) hX d_Di_writeDays_26  (by decide) ?_
    refine r_iload (i := 4) hX d_Di_writeDays_28 3  rfl ?_
    refine r_if_le hX d_Di_writeDays_30 rfl h (fun h => ?_) (fun h => ?_)
    · refine r_iconst (v := (0 : Int32)) hX d_Di_writeDays_49 rfl ?_
      exact rj_sub [1, 2, 3, 0, 4, 5] rfl (P_Di_writeDays_50 hX hM hR hrec6 hrec15 _ _ _ _ _ _ _ _ h)
    · refine r_iload (i := 5) hX d_Di_writeDays_33 0  rfl ?_
      refine r_sipush (v := (256 : Int32)) hX d_Di_writeDays_35 rfl ?_
      refine r_idiv hX d_Di_writeDays_38 (by decide) ?_
      refine r_iload (i := 4) hX d_Di_writeDays_39 3  rfl ?_
      obtain ⟨hg3, h⟩ := gd_e h
      refine r_irem hX d_Di_writeDays_41 (of_decide_eq_true hg3) ?_
      refine r_if_ne hX d_Di_writeDays_42 rfl h (fun h => ?_) (fun h => ?_)
      · refine r_iconst (v := (0 : Int32)) hX d_Di_writeDays_49 rfl ?_
        exact rj_sub [1, 2, 3, 0, 4, 5] rfl (P_Di_writeDays_50 hX hM hR hrec6 hrec15 _ _ _ _ _ _ _ _ h)
      · refine r_iconst (v := (1 : Int32)) hX d_Di_writeDays_45 rfl ?_
        refine r_goto hX d_Di_writeDays_46 rfl ?_
        exact rj_sub [1, 2, 3, 0, 4, 5] rfl (P_Di_writeDays_50 hX hM hR hrec6 hrec15 _ _ _ _ _ _ _ _ h)
def F_Di_writeDays_15 (rec6 : Nat → Int32 → Int32 → Int32 → Int32 → AW → Option (AW)) : Nat → Nat → Int32 → Int32 → Int32 → Int32 → Int32 → AW → Option (AW)
  | 0 => fun _ _ _ _ _ _ _ => none
  | n + 1 => fun a0 x2 x4 x5 x6 x7 w => F_Di_writeDays_15_B rec6 (F_Di_writeDays_15 rec6 n) a0 x2 x4 x5 x6 x7 w
theorem P_Di_writeDays_15 {X : AX} {l : Launch} {G : AG} {rec6 : Nat → Int32 → Int32 → Int32 → Int32 → AW → Option (AW)} (hX : XOK X b_Di_writeDays "RedSky$Diary" 9) (hM : XM X l G { frames := 3, cells := 0, slots := 0, locals := 66 }) {o : AW} (hR : XR X none 0 0 none o) (hrec6 : ∀ (a0 : Nat) (x2 : Int32) (x4 : Int32) (x5 : Int32) (x6 : Int32) (w : AW), rec6 a0 x2 x4 x5 x6 w = some o → RJ X 9 0 0 6 [(0, vr a0), (2, vi x2), (4, vi x4), (5, vi x5), (6, vi x6)] [] w) (fu : Nat) : ∀ (a0 : Nat) (x2 : Int32) (x4 : Int32) (x5 : Int32) (x6 : Int32) (x7 : Int32) (w : AW), F_Di_writeDays_15 rec6 fu a0 x2 x4 x5 x6 x7 w = some o → RJ X 9 0 0 15 [(0, vr a0), (2, vi x2), (4, vi x4), (5, vi x5), (6, vi x6), (7, vi x7)] [] w := by
  induction fu with
  | zero => intro a0 x2 x4 x5 x6 x7 w h; cases h
  | succ n9 ih => intro a0 x2 x4 x5 x6 x7 w h; exact P_Di_writeDays_15_B hX hM hR hrec6 ih _ _ _ _ _ _ _ h
def F_Di_writeDays_6_B (rec6 : Nat → Int32 → Int32 → Int32 → Int32 → AW → Option (AW)) (a0 : Nat) (x2 : Int32) (x4 : Int32) (x5 : Int32) (x6 : Int32) (w : AW) : Option (AW) :=
  if x2 ≤ x6 then
    some w
  else
    F_Di_writeDays_15 rec6 FUEL a0 x2 x4 x5 x6 (0 : Int32) w
theorem P_Di_writeDays_6_B {X : AX} {l : Launch} {G : AG} {rec6 : Nat → Int32 → Int32 → Int32 → Int32 → AW → Option (AW)} (hX : XOK X b_Di_writeDays "RedSky$Diary" 9) (hM : XM X l G { frames := 3, cells := 0, slots := 0, locals := 66 }) {o : AW} (hR : XR X none 0 0 none o) (hrec6 : ∀ (a0 : Nat) (x2 : Int32) (x4 : Int32) (x5 : Int32) (x6 : Int32) (w : AW), rec6 a0 x2 x4 x5 x6 w = some o → RJ X 9 0 0 6 [(0, vr a0), (2, vi x2), (4, vi x4), (5, vi x5), (6, vi x6)] [] w) (a0 : Nat) (x2 : Int32) (x4 : Int32) (x5 : Int32) (x6 : Int32) (w : AW) (h : F_Di_writeDays_6_B rec6 a0 x2 x4 x5 x6 w = some o) : RJ X 9 0 0 6 [(0, vr a0), (2, vi x2), (4, vi x4), (5, vi x5), (6, vi x6)] [] w := by
  unfold F_Di_writeDays_6_B at h
  refine r_iload (i := 6) hX d_Di_writeDays_6 4  rfl ?_
  refine r_iload_n (i := 2) hX d_Di_writeDays_8 1 rfl rfl ?_
  refine r_icmp_ge hX d_Di_writeDays_9 rfl h (fun h => ?_) (fun h => ?_)
  · cases h; exact r_vret hX hR d_Di_writeDays_93
  · refine r_iconst (v := (0 : Int32)) hX d_Di_writeDays_12 rfl ?_
    refine r_istore (i := 7) hX d_Di_writeDays_13  (by decide) ?_
    exact rj_sub [1, 2, 3, 4, 5, 0] rfl (P_Di_writeDays_15 hX hM hR hrec6 FUEL _ _ _ _ _ _ _ h)
def F_Di_writeDays_6 : Nat → Nat → Int32 → Int32 → Int32 → Int32 → AW → Option (AW)
  | 0 => fun _ _ _ _ _ _ => none
  | n + 1 => fun a0 x2 x4 x5 x6 w => F_Di_writeDays_6_B (F_Di_writeDays_6 n) a0 x2 x4 x5 x6 w
theorem P_Di_writeDays_6 {X : AX} {l : Launch} {G : AG} (hX : XOK X b_Di_writeDays "RedSky$Diary" 9) (hM : XM X l G { frames := 3, cells := 0, slots := 0, locals := 66 }) {o : AW} (hR : XR X none 0 0 none o) (fu : Nat) : ∀ (a0 : Nat) (x2 : Int32) (x4 : Int32) (x5 : Int32) (x6 : Int32) (w : AW), F_Di_writeDays_6 fu a0 x2 x4 x5 x6 w = some o → RJ X 9 0 0 6 [(0, vr a0), (2, vi x2), (4, vi x4), (5, vi x5), (6, vi x6)] [] w := by
  induction fu with
  | zero => intro a0 x2 x4 x5 x6 w h; cases h
  | succ n9 ih => intro a0 x2 x4 x5 x6 w h; exact P_Di_writeDays_6_B hX hM hR ih _ _ _ _ _ _ h
def F_Di_writeDays (a0 : Nat) (x1 : Int32) (x2 : Int32) (x3 : Int32) (x4 : Int32) (w : AW) : Option (AW) :=
  F_Di_writeDays_6 FUEL a0 x2 x4 x3 x1 w
theorem P_Di_writeDays_0 {X : AX} {l : Launch} {G : AG} (hX : XOK X b_Di_writeDays "RedSky$Diary" 9) (hM : XM X l G { frames := 3, cells := 0, slots := 0, locals := 66 }) {o : AW} (hR : XR X none 0 0 none o) (a0 : Nat) (x1 : Int32) (x2 : Int32) (x3 : Int32) (x4 : Int32) (w : AW) (h : F_Di_writeDays a0 x1 x2 x3 x4 w = some o) : RJ X 9 0 0 0 [(0, vr a0), (1, vi x1), (2, vi x2), (3, vi x3), (4, vi x4)] [] w := by
  unfold F_Di_writeDays at h
  refine r_iload_n (i := 3) hX d_Di_writeDays_0 3 rfl rfl ?_
  refine r_istore (i := 5) hX d_Di_writeDays_1  (by decide) ?_
  refine r_iload_n (i := 1) hX d_Di_writeDays_3 2 rfl rfl ?_
  refine r_istore (i := 6) hX d_Di_writeDays_4  (by decide) ?_
  exact rj_sub [2, 4, 6, 1, 0] rfl (P_Di_writeDays_6 hX hM hR FUEL _ _ _ _ _ _ h)
theorem T_Di_writeDays {l : Launch} {G : AG} (a0 : Nat) (x1 : Int32) (x2 : Int32) (x3 : Int32) (x4 : Int32) (w : AW) {o : AW} (h : F_Di_writeDays a0 x1 x2 x3 x4 w = some o) : Mt l G y_Di_writeDays b_Di_writeDays 9 none 3 66 0 0 [vr a0, vi x1, vi x2, vi x3, vi x4] w none o := mt_of (by decide) (Nat.le_of_ble_eq_true rfl) (fun X hX hR hM hI => P_Di_writeDays_0 hX hM hR _ _ _ _ _ _ h)
/-! RedSky$Diary.fieldAt(II)I -/
theorem d_Di_fieldAt_0 : decode b_Di_fieldAt 0 = .ok (.iload_n 1, 1) := by decide +kernel
theorem d_Di_fieldAt_1 : decode b_Di_fieldAt 1 = .ok (.invokestatic 21, 3) := by decide +kernel
theorem d_Di_fieldAt_4 : decode b_Di_fieldAt 4 = .ok (.ifCond .eq (10), 3) := by decide +kernel
theorem d_Di_fieldAt_7 : decode b_Di_fieldAt 7 = .ok (.iload_n 2, 1) := by decide +kernel
theorem d_Di_fieldAt_8 : decode b_Di_fieldAt 8 = .ok (.invokestatic 25, 3) := by decide +kernel
theorem d_Di_fieldAt_11 : decode b_Di_fieldAt 11 = .ok (.ifCond .ne (7), 3) := by decide +kernel
theorem d_Di_fieldAt_14 : decode b_Di_fieldAt 14 = .ok (.sipush (-1000), 3) := by decide +kernel
theorem d_Di_fieldAt_17 : decode b_Di_fieldAt 17 = .ok (.ireturn, 1) := by decide +kernel
theorem d_Di_fieldAt_18 : decode b_Di_fieldAt 18 = .ok (.aload_n 0, 1) := by decide +kernel
theorem d_Di_fieldAt_19 : decode b_Di_fieldAt 19 = .ok (.getfield 9, 3) := by decide +kernel
theorem d_Di_fieldAt_22 : decode b_Di_fieldAt 22 = .ok (.iload_n 1, 1) := by decide +kernel
theorem d_Di_fieldAt_23 : decode b_Di_fieldAt 23 = .ok (.iaload, 1) := by decide +kernel
theorem d_Di_fieldAt_24 : decode b_Di_fieldAt 24 = .ok (.getstatic 28, 3) := by decide +kernel
theorem d_Di_fieldAt_27 : decode b_Di_fieldAt 27 = .ok (.iload_n 2, 1) := by decide +kernel
theorem d_Di_fieldAt_28 : decode b_Di_fieldAt 28 = .ok (.iaload, 1) := by decide +kernel
theorem d_Di_fieldAt_29 : decode b_Di_fieldAt 29 = .ok (.ishr, 1) := by decide +kernel
theorem d_Di_fieldAt_30 : decode b_Di_fieldAt 30 = .ok (.getstatic 31, 3) := by decide +kernel
theorem d_Di_fieldAt_33 : decode b_Di_fieldAt 33 = .ok (.iload_n 2, 1) := by decide +kernel
theorem d_Di_fieldAt_34 : decode b_Di_fieldAt 34 = .ok (.iaload, 1) := by decide +kernel
theorem d_Di_fieldAt_35 : decode b_Di_fieldAt 35 = .ok (.iand, 1) := by decide +kernel
theorem d_Di_fieldAt_36 : decode b_Di_fieldAt 36 = .ok (.istore_n 3, 1) := by decide +kernel
theorem d_Di_fieldAt_37 : decode b_Di_fieldAt 37 = .ok (.iload_n 3, 1) := by decide +kernel
theorem d_Di_fieldAt_38 : decode b_Di_fieldAt 38 = .ok (.ifCond .ne (9), 3) := by decide +kernel
theorem d_Di_fieldAt_41 : decode b_Di_fieldAt 41 = .ok (.sipush (-1000), 3) := by decide +kernel
theorem d_Di_fieldAt_44 : decode b_Di_fieldAt 44 = .ok (.goto (12), 3) := by decide +kernel
theorem d_Di_fieldAt_47 : decode b_Di_fieldAt 47 = .ok (.iload_n 3, 1) := by decide +kernel
theorem d_Di_fieldAt_48 : decode b_Di_fieldAt 48 = .ok (.iconst 1, 1) := by decide +kernel
theorem d_Di_fieldAt_49 : decode b_Di_fieldAt 49 = .ok (.isub, 1) := by decide +kernel
theorem d_Di_fieldAt_50 : decode b_Di_fieldAt 50 = .ok (.getstatic 34, 3) := by decide +kernel
theorem d_Di_fieldAt_53 : decode b_Di_fieldAt 53 = .ok (.iload_n 2, 1) := by decide +kernel
theorem d_Di_fieldAt_54 : decode b_Di_fieldAt 54 = .ok (.iaload, 1) := by decide +kernel
theorem d_Di_fieldAt_55 : decode b_Di_fieldAt 55 = .ok (.iadd, 1) := by decide +kernel
theorem d_Di_fieldAt_56 : decode b_Di_fieldAt 56 = .ok (.ireturn, 1) := by decide +kernel
def F_Di_fieldAt (w : AW) (a0 : Nat) (x1 : Int32) (x2 : Int32) : Option (Int32) :=
  if (F_A_isDay x1) = 0 then
    some (-1000 : Int32)
  else
    if (F_A_isField x2) = 0 then
      some (-1000 : Int32)
    else
      gd (wk w a0 == 3) <|
      gd (wk w (wr w a0 0) == 100) <|
      gd (inb x1 (wn w (wr w a0 0))) <|
      gd (wk w 5 == 110) <|
      gd (inb x2 (wn w 5)) <|
      gd (wk w 6 == 110) <|
      gd (inb x2 (wn w 6)) <|
      let v8 : Int32 := (((wi w (wr w a0 0) (Int32.toNatClampNeg x1)) >>> ((wi w 5 (Int32.toNatClampNeg x2)) &&& 31)) &&& (wi w 6 (Int32.toNatClampNeg x2)))
      if v8 = 0 then
        some (-1000 : Int32)
      else
        gd (wk w 3 == 110) <|
        gd (inb x2 (wn w 3)) <|
        some ((v8 - (1 : Int32)) + (wi w 3 (Int32.toNatClampNeg x2)))
theorem P_Di_fieldAt_0 {X : AX} {l : Launch} {G : AG} {w : AW} (hX : XOK X b_Di_fieldAt "RedSky$Diary" 4) (hM : XM X l G { frames := 2, cells := 0, slots := 0, locals := 42 }) {o : Int32} (hR : XR X (some .int) 0 0 (some (vi o)) w) (a0 : Nat) (x1 : Int32) (x2 : Int32) (h : F_Di_fieldAt w a0 x1 x2 = some o) : RJ X 4 0 0 0 [(0, vr a0), (1, vi x1), (2, vi x2)] [] w := by
  unfold F_Di_fieldAt at h
  refine r_iload_n (i := 1) hX d_Di_fieldAt_0 1 rfl rfl ?_
  refine r_callSN1 (As := [_]) hX hM mw_Di_21 (T_A_isDay _ _) rfl rfl ⟨Nat.le_refl _, Nat.le_refl _⟩ rfl rfl d_Di_fieldAt_1 ?_
  refine r_if_eq hX d_Di_fieldAt_4 rfl h (fun h => ?_) (fun h => ?_)
  · refine r_sipush (v := (-1000 : Int32)) hX d_Di_fieldAt_14 rfl ?_
    cases h; exact r_iret hX hR d_Di_fieldAt_17
  · refine r_iload_n (i := 2) hX d_Di_fieldAt_7 2 rfl rfl ?_
    refine r_callSN1 (As := [_]) hX hM mw_Di_25 (T_A_isField _ _) rfl rfl ⟨Nat.le_refl _, Nat.le_refl _⟩ rfl rfl d_Di_fieldAt_8 ?_
    refine r_if_ne hX d_Di_fieldAt_11 rfl h (fun h => ?_) (fun h => ?_)
    · refine r_aload_n (i := 0) hX d_Di_fieldAt_18 0 rfl rfl ?_
      obtain ⟨hk1, h⟩ := gd_e h
      refine r_getR (i := 2) (f := 0) hX ci_2 (by decide) rfl fl_Di_9 hk1 d_Di_fieldAt_19 ?_
      refine r_iload_n (i := 1) hX d_Di_fieldAt_22 1 rfl rfl ?_
      obtain ⟨hk2, h⟩ := gd_e h
      obtain ⟨hg3, h⟩ := gd_e h
      refine r_iald hX hk2 hg3 d_Di_fieldAt_23 ?_
      refine r_gets (v := vr 5) hX (List.mem_of_getElem? (i := 3) rfl) fl_Di_28 d_Di_fieldAt_24 ?_
      refine r_iload_n (i := 2) hX d_Di_fieldAt_27 2 rfl rfl ?_
      obtain ⟨hk4, h⟩ := gd_e h
      obtain ⟨hg5, h⟩ := gd_e h
      refine r_xald hX hk4 hg5 d_Di_fieldAt_28 ?_
      refine r_ishr hX d_Di_fieldAt_29 ?_
      refine r_gets (v := vr 6) hX (List.mem_of_getElem? (i := 4) rfl) fl_Di_31 d_Di_fieldAt_30 ?_
      refine r_iload_n (i := 2) hX d_Di_fieldAt_33 2 rfl rfl ?_
      obtain ⟨hk6, h⟩ := gd_e h
      obtain ⟨hg7, h⟩ := gd_e h
      refine r_xald hX hk6 hg7 d_Di_fieldAt_34 ?_
      refine r_iand hX d_Di_fieldAt_35 ?_
      refine r_istore_n (i := 3) hX d_Di_fieldAt_36 rfl (by decide) ?_
      refine r_iload_n (i := 3) hX d_Di_fieldAt_37 0 rfl rfl ?_
      refine r_if_ne hX d_Di_fieldAt_38 rfl h (fun h => ?_) (fun h => ?_)
      · refine r_iload_n (i := 3) hX d_Di_fieldAt_47 0 rfl rfl ?_
        refine r_iconst (v := (1 : Int32)) hX d_Di_fieldAt_48 rfl ?_
        refine r_isub hX d_Di_fieldAt_49 ?_
        refine r_gets (v := vr 3) hX (List.mem_of_getElem? (i := 1) rfl) fl_Di_34 d_Di_fieldAt_50 ?_
        refine r_iload_n (i := 2) hX d_Di_fieldAt_53 3 rfl rfl ?_
        obtain ⟨hk9, h⟩ := gd_e h
        obtain ⟨hg10, h⟩ := gd_e h
        refine r_xald hX hk9 hg10 d_Di_fieldAt_54 ?_
        refine r_iadd hX d_Di_fieldAt_55 ?_
        cases h; exact r_iret hX hR d_Di_fieldAt_56
      · refine r_sipush (v := (-1000 : Int32)) hX d_Di_fieldAt_41 rfl ?_
        refine r_goto hX d_Di_fieldAt_44 rfl ?_
        cases h; exact r_iret hX hR d_Di_fieldAt_56
    · refine r_sipush (v := (-1000 : Int32)) hX d_Di_fieldAt_14 rfl ?_
      cases h; exact r_iret hX hR d_Di_fieldAt_17
theorem T_Di_fieldAt {l : Launch} {G : AG} (w : AW) (a0 : Nat) (x1 : Int32) (x2 : Int32) {o : Int32} (h : F_Di_fieldAt w a0 x1 x2 = some o) : Mt l G y_Di_fieldAt b_Di_fieldAt 4 (some (.int)) 2 42 0 0 [vr a0, vi x1, vi x2] w (some (vi o)) w := mt_of (by decide) (Nat.le_of_ble_eq_true rfl) (fun X hX hR hM hI => P_Di_fieldAt_0 hX hM hR _ _ _ h)
/-! RedSky$Diary.numbersIn(II)I -/
theorem d_Di_numbersIn_0 : decode b_Di_numbersIn 0 = .ok (.iconst 0, 1) := by decide +kernel
theorem d_Di_numbersIn_1 : decode b_Di_numbersIn 1 = .ok (.istore_n 3, 1) := by decide +kernel
theorem d_Di_numbersIn_2 : decode b_Di_numbersIn 2 = .ok (.iload_n 1, 1) := by decide +kernel
theorem d_Di_numbersIn_3 : decode b_Di_numbersIn 3 = .ok (.istore 4, 2) := by decide +kernel
theorem d_Di_numbersIn_5 : decode b_Di_numbersIn 5 = .ok (.iload 4, 2) := by decide +kernel
theorem d_Di_numbersIn_7 : decode b_Di_numbersIn 7 = .ok (.iload_n 2, 1) := by decide +kernel
theorem d_Di_numbersIn_8 : decode b_Di_numbersIn 8 = .ok (.if_icmp .ge (41), 3) := by decide +kernel
theorem d_Di_numbersIn_11 : decode b_Di_numbersIn 11 = .ok (.iconst 0, 1) := by decide +kernel
theorem d_Di_numbersIn_12 : decode b_Di_numbersIn 12 = .ok (.istore 5, 2) := by decide +kernel
theorem d_Di_numbersIn_14 : decode b_Di_numbersIn 14 = .ok (.iload 5, 2) := by decide +kernel
theorem d_Di_numbersIn_16 : decode b_Di_numbersIn 16 = .ok (.iconst 4, 1) := by decide +kernel
theorem d_Di_numbersIn_17 : decode b_Di_numbersIn 17 = .ok (.if_icmp .ge (26), 3) := by decide +kernel
theorem d_Di_numbersIn_20 : decode b_Di_numbersIn 20 = .ok (.aload_n 0, 1) := by decide +kernel
theorem d_Di_numbersIn_21 : decode b_Di_numbersIn 21 = .ok (.iload 4, 2) := by decide +kernel
theorem d_Di_numbersIn_23 : decode b_Di_numbersIn 23 = .ok (.iload 5, 2) := by decide +kernel
theorem d_Di_numbersIn_25 : decode b_Di_numbersIn 25 = .ok (.invokevirtual 50, 3) := by decide +kernel
theorem d_Di_numbersIn_28 : decode b_Di_numbersIn 28 = .ok (.sipush (-1000), 3) := by decide +kernel
theorem d_Di_numbersIn_31 : decode b_Di_numbersIn 31 = .ok (.if_icmp .eq (6), 3) := by decide +kernel
theorem d_Di_numbersIn_34 : decode b_Di_numbersIn 34 = .ok (.iinc 3 (1), 3) := by decide +kernel
theorem d_Di_numbersIn_37 : decode b_Di_numbersIn 37 = .ok (.iinc 5 (1), 3) := by decide +kernel
theorem d_Di_numbersIn_40 : decode b_Di_numbersIn 40 = .ok (.goto (-26), 3) := by decide +kernel
theorem d_Di_numbersIn_43 : decode b_Di_numbersIn 43 = .ok (.iinc 4 (1), 3) := by decide +kernel
theorem d_Di_numbersIn_46 : decode b_Di_numbersIn 46 = .ok (.goto (-41), 3) := by decide +kernel
theorem d_Di_numbersIn_49 : decode b_Di_numbersIn 49 = .ok (.iload_n 3, 1) := by decide +kernel
theorem d_Di_numbersIn_50 : decode b_Di_numbersIn 50 = .ok (.ireturn, 1) := by decide +kernel
def F_Di_numbersIn_14_B (rec5 : Nat → Int32 → Int32 → Int32 → Option (Int32)) (rec14 : Nat → Int32 → Int32 → Int32 → Int32 → Option (Int32)) (w : AW) (a0 : Nat) (x2 : Int32) (x3 : Int32) (x4 : Int32) (x5 : Int32) : Option (Int32) :=
  if (4 : Int32) ≤ x5 then
    let v1 : Int32 := (x4 + (1 : Int32))
    rec5 a0 x2 x3 v1
  else
    gd (wk w a0 == 3) <|
    (F_Di_fieldAt w a0 x4 x5).bind fun r3 =>
    if r3 = (-1000 : Int32) then
      let v5 : Int32 := (x5 + (1 : Int32))
      rec14 a0 x2 x3 x4 v5
    else
      let v6 : Int32 := (x3 + (1 : Int32))
      let v7 : Int32 := (x5 + (1 : Int32))
      rec14 a0 x2 v6 x4 v7
theorem P_Di_numbersIn_14_B {X : AX} {l : Launch} {G : AG} {w : AW} {rec5 : Nat → Int32 → Int32 → Int32 → Option (Int32)} {rec14 : Nat → Int32 → Int32 → Int32 → Int32 → Option (Int32)} (hX : XOK X b_Di_numbersIn "RedSky$Diary" 6) (hM : XM X l G { frames := 3, cells := 0, slots := 0, locals := 65 }) {o : Int32} (hR : XR X (some .int) 0 0 (some (vi o)) w) (hrec5 : ∀ (a0 : Nat) (x2 : Int32) (x3 : Int32) (x4 : Int32), rec5 a0 x2 x3 x4 = some o → RJ X 6 0 0 5 [(0, vr a0), (2, vi x2), (3, vi x3), (4, vi x4)] [] w) (hrec14 : ∀ (a0 : Nat) (x2 : Int32) (x3 : Int32) (x4 : Int32) (x5 : Int32), rec14 a0 x2 x3 x4 x5 = some o → RJ X 6 0 0 14 [(0, vr a0), (2, vi x2), (3, vi x3), (4, vi x4), (5, vi x5)] [] w) (a0 : Nat) (x2 : Int32) (x3 : Int32) (x4 : Int32) (x5 : Int32) (h : F_Di_numbersIn_14_B rec5 rec14 w a0 x2 x3 x4 x5 = some o) : RJ X 6 0 0 14 [(0, vr a0), (2, vi x2), (3, vi x3), (4, vi x4), (5, vi x5)] [] w := by
  unfold F_Di_numbersIn_14_B at h
  refine r_iload (i := 5) hX d_Di_numbersIn_14 4  rfl ?_
  refine r_iconst (v := (4 : Int32)) hX d_Di_numbersIn_16 rfl ?_
  refine r_icmp_ge hX d_Di_numbersIn_17 rfl h (fun h => ?_) (fun h => ?_)
  · refine r_iinc (i := 4) (v := (1 : Int32)) hX d_Di_numbersIn_43 3 rfl rfl (by decide) ?_
    refine r_goto hX d_Di_numbersIn_46 rfl ?_
    exact rj_sub [1, 2, 3, 0] rfl (hrec5 _ _ _ _ h)
  · refine r_aload_n (i := 0) hX d_Di_numbersIn_20 0 rfl rfl ?_
    refine r_iload (i := 4) hX d_Di_numbersIn_21 3  rfl ?_
    refine r_iload (i := 5) hX d_Di_numbersIn_23 4  rfl ?_
    obtain ⟨hk2, h⟩ := gd_e h
    obtain ⟨r3, hr4, h⟩ := bd_e h
    refine r_callV1 (As := [_, _]) hX hM mw_Di_50 (T_Di_fieldAt _ _ _ _ hr4) (rc_of ci_2 hk2) rfl rfl ⟨Nat.le_refl _, Nat.le_refl _⟩ rfl rfl d_Di_numbersIn_25 ?_
    refine r_sipush (v := (-1000 : Int32)) hX d_Di_numbersIn_28 rfl ?_
    refine r_icmp_eq hX d_Di_numbersIn_31 rfl h (fun h => ?_) (fun h => ?_)
    · refine r_iinc (i := 5) (v := (1 : Int32)) hX d_Di_numbersIn_37 4 rfl rfl (by decide) ?_
      refine r_goto hX d_Di_numbersIn_40 rfl ?_
      exact rj_sub [1, 2, 3, 4, 0] rfl (hrec14 _ _ _ _ _ h)
    · refine r_iinc (i := 3) (v := (1 : Int32)) hX d_Di_numbersIn_34 2 rfl rfl (by decide) ?_
      refine r_iinc (i := 5) (v := (1 : Int32)) hX d_Di_numbersIn_37 4 rfl rfl (by decide) ?_
      refine r_goto hX d_Di_numbersIn_40 rfl ?_
      exact rj_sub [2, 3, 1, 4, 0] rfl (hrec14 _ _ _ _ _ h)
def F_Di_numbersIn_14 (rec5 : Nat → Int32 → Int32 → Int32 → Option (Int32)) (w : AW) : Nat → Nat → Int32 → Int32 → Int32 → Int32 → Option (Int32)
  | 0 => fun _ _ _ _ _ => none
  | n + 1 => fun a0 x2 x3 x4 x5 => F_Di_numbersIn_14_B rec5 (F_Di_numbersIn_14 rec5 w n) w a0 x2 x3 x4 x5
theorem P_Di_numbersIn_14 {X : AX} {l : Launch} {G : AG} {w : AW} {rec5 : Nat → Int32 → Int32 → Int32 → Option (Int32)} (hX : XOK X b_Di_numbersIn "RedSky$Diary" 6) (hM : XM X l G { frames := 3, cells := 0, slots := 0, locals := 65 }) {o : Int32} (hR : XR X (some .int) 0 0 (some (vi o)) w) (hrec5 : ∀ (a0 : Nat) (x2 : Int32) (x3 : Int32) (x4 : Int32), rec5 a0 x2 x3 x4 = some o → RJ X 6 0 0 5 [(0, vr a0), (2, vi x2), (3, vi x3), (4, vi x4)] [] w) (fu : Nat) : ∀ (a0 : Nat) (x2 : Int32) (x3 : Int32) (x4 : Int32) (x5 : Int32), F_Di_numbersIn_14 rec5 w fu a0 x2 x3 x4 x5 = some o → RJ X 6 0 0 14 [(0, vr a0), (2, vi x2), (3, vi x3), (4, vi x4), (5, vi x5)] [] w := by
  induction fu with
  | zero => intro a0 x2 x3 x4 x5 h; cases h
  | succ n9 ih => intro a0 x2 x3 x4 x5 h; exact P_Di_numbersIn_14_B hX hM hR hrec5 ih _ _ _ _ _ h
def F_Di_numbersIn_5_B (rec5 : Nat → Int32 → Int32 → Int32 → Option (Int32)) (w : AW) (a0 : Nat) (x2 : Int32) (x3 : Int32) (x4 : Int32) : Option (Int32) :=
  if x2 ≤ x4 then
    some x3
  else
    F_Di_numbersIn_14 rec5 w FUEL a0 x2 x3 x4 (0 : Int32)
theorem P_Di_numbersIn_5_B {X : AX} {l : Launch} {G : AG} {w : AW} {rec5 : Nat → Int32 → Int32 → Int32 → Option (Int32)} (hX : XOK X b_Di_numbersIn "RedSky$Diary" 6) (hM : XM X l G { frames := 3, cells := 0, slots := 0, locals := 65 }) {o : Int32} (hR : XR X (some .int) 0 0 (some (vi o)) w) (hrec5 : ∀ (a0 : Nat) (x2 : Int32) (x3 : Int32) (x4 : Int32), rec5 a0 x2 x3 x4 = some o → RJ X 6 0 0 5 [(0, vr a0), (2, vi x2), (3, vi x3), (4, vi x4)] [] w) (a0 : Nat) (x2 : Int32) (x3 : Int32) (x4 : Int32) (h : F_Di_numbersIn_5_B rec5 w a0 x2 x3 x4 = some o) : RJ X 6 0 0 5 [(0, vr a0), (2, vi x2), (3, vi x3), (4, vi x4)] [] w := by
  unfold F_Di_numbersIn_5_B at h
  refine r_iload (i := 4) hX d_Di_numbersIn_5 3  rfl ?_
  refine r_iload_n (i := 2) hX d_Di_numbersIn_7 1 rfl rfl ?_
  refine r_icmp_ge hX d_Di_numbersIn_8 rfl h (fun h => ?_) (fun h => ?_)
  · refine r_iload_n (i := 3) hX d_Di_numbersIn_49 2 rfl rfl ?_
    cases h; exact r_iret hX hR d_Di_numbersIn_50
  · refine r_iconst (v := (0 : Int32)) hX d_Di_numbersIn_11 rfl ?_
    refine r_istore (i := 5) hX d_Di_numbersIn_12  (by decide) ?_
    exact rj_sub [1, 2, 3, 4, 0] rfl (P_Di_numbersIn_14 hX hM hR hrec5 FUEL _ _ _ _ _ h)
def F_Di_numbersIn_5 (w : AW) : Nat → Nat → Int32 → Int32 → Int32 → Option (Int32)
  | 0 => fun _ _ _ _ => none
  | n + 1 => fun a0 x2 x3 x4 => F_Di_numbersIn_5_B (F_Di_numbersIn_5 w n) w a0 x2 x3 x4
theorem P_Di_numbersIn_5 {X : AX} {l : Launch} {G : AG} {w : AW} (hX : XOK X b_Di_numbersIn "RedSky$Diary" 6) (hM : XM X l G { frames := 3, cells := 0, slots := 0, locals := 65 }) {o : Int32} (hR : XR X (some .int) 0 0 (some (vi o)) w) (fu : Nat) : ∀ (a0 : Nat) (x2 : Int32) (x3 : Int32) (x4 : Int32), F_Di_numbersIn_5 w fu a0 x2 x3 x4 = some o → RJ X 6 0 0 5 [(0, vr a0), (2, vi x2), (3, vi x3), (4, vi x4)] [] w := by
  induction fu with
  | zero => intro a0 x2 x3 x4 h; cases h
  | succ n9 ih => intro a0 x2 x3 x4 h; exact P_Di_numbersIn_5_B hX hM hR ih _ _ _ _ h
def F_Di_numbersIn (w : AW) (a0 : Nat) (x1 : Int32) (x2 : Int32) : Option (Int32) :=
  F_Di_numbersIn_5 w FUEL a0 x2 (0 : Int32) x1
theorem P_Di_numbersIn_0 {X : AX} {l : Launch} {G : AG} {w : AW} (hX : XOK X b_Di_numbersIn "RedSky$Diary" 6) (hM : XM X l G { frames := 3, cells := 0, slots := 0, locals := 65 }) {o : Int32} (hR : XR X (some .int) 0 0 (some (vi o)) w) (a0 : Nat) (x1 : Int32) (x2 : Int32) (h : F_Di_numbersIn w a0 x1 x2 = some o) : RJ X 6 0 0 0 [(0, vr a0), (1, vi x1), (2, vi x2)] [] w := by
  unfold F_Di_numbersIn at h
  refine r_iconst (v := (0 : Int32)) hX d_Di_numbersIn_0 rfl ?_
  refine r_istore_n (i := 3) hX d_Di_numbersIn_1 rfl (by decide) ?_
  refine r_iload_n (i := 1) hX d_Di_numbersIn_2 2 rfl rfl ?_
  refine r_istore (i := 4) hX d_Di_numbersIn_3  (by decide) ?_
  exact rj_sub [2, 4, 1, 0] rfl (P_Di_numbersIn_5 hX hM hR FUEL _ _ _ _ h)
theorem T_Di_numbersIn {l : Launch} {G : AG} (w : AW) (a0 : Nat) (x1 : Int32) (x2 : Int32) {o : Int32} (h : F_Di_numbersIn w a0 x1 x2 = some o) : Mt l G y_Di_numbersIn b_Di_numbersIn 6 (some (.int)) 3 65 0 0 [vr a0, vi x1, vi x2] w (some (vi o)) w := mt_of (by decide) (Nat.le_of_ble_eq_true rfl) (fun X hX hR hM hI => P_Di_numbersIn_0 hX hM hR _ _ _ h)
/-! RedSky.write(IIII)I -/
theorem d_A_write_0 : decode b_A_write 0 = .ok (.aload_n 0, 1) := by decide +kernel
theorem d_A_write_1 : decode b_A_write 1 = .ok (.iload_n 1, 1) := by decide +kernel
theorem d_A_write_2 : decode b_A_write 2 = .ok (.invokevirtual 141, 3) := by decide +kernel
theorem d_A_write_5 : decode b_A_write 5 = .ok (.astore 5, 2) := by decide +kernel
theorem d_A_write_7 : decode b_A_write 7 = .ok (.aload 5, 2) := by decide +kernel
theorem d_A_write_9 : decode b_A_write 9 = .ok (.ifnull (10), 3) := by decide +kernel
theorem d_A_write_12 : decode b_A_write 12 = .ok (.iload_n 2, 1) := by decide +kernel
theorem d_A_write_13 : decode b_A_write 13 = .ok (.invokestatic 97, 3) := by decide +kernel
theorem d_A_write_16 : decode b_A_write 16 = .ok (.ifCond .ne (6), 3) := by decide +kernel
theorem d_A_write_19 : decode b_A_write 19 = .ok (.bipush (-101), 2) := by decide +kernel
theorem d_A_write_21 : decode b_A_write 21 = .ok (.ireturn, 1) := by decide +kernel
theorem d_A_write_22 : decode b_A_write 22 = .ok (.iload_n 3, 1) := by decide +kernel
theorem d_A_write_23 : decode b_A_write 23 = .ok (.ifCond .lt (15), 3) := by decide +kernel
theorem d_A_write_26 : decode b_A_write 26 = .ok (.iload 4, 2) := by decide +kernel
theorem d_A_write_28 : decode b_A_write 28 = .ok (.iconst 0, 1) := by decide +kernel
theorem d_A_write_29 : decode b_A_write 29 = .ok (.sipush (1000), 3) := by decide +kernel
theorem d_A_write_32 : decode b_A_write 32 = .ok (.invokestatic 86, 3) := by decide +kernel
theorem d_A_write_35 : decode b_A_write 35 = .ok (.ifCond .ne (6), 3) := by decide +kernel
theorem d_A_write_38 : decode b_A_write 38 = .ok (.bipush (-102), 2) := by decide +kernel
theorem d_A_write_40 : decode b_A_write 40 = .ok (.ireturn, 1) := by decide +kernel
theorem d_A_write_41 : decode b_A_write 41 = .ok (.aload_n 0, 1) := by decide +kernel
theorem d_A_write_42 : decode b_A_write 42 = .ok (.getfield 10, 3) := by decide +kernel
theorem d_A_write_45 : decode b_A_write 45 = .ok (.iload_n 2, 1) := by decide +kernel
theorem d_A_write_46 : decode b_A_write 46 = .ok (.invokevirtual 145, 3) := by decide +kernel
theorem d_A_write_49 : decode b_A_write 49 = .ok (.istore 6, 2) := by decide +kernel
theorem d_A_write_51 : decode b_A_write 51 = .ok (.aload_n 0, 1) := by decide +kernel
theorem d_A_write_52 : decode b_A_write 52 = .ok (.getfield 10, 3) := by decide +kernel
theorem d_A_write_55 : decode b_A_write 55 = .ok (.iload_n 2, 1) := by decide +kernel
theorem d_A_write_56 : decode b_A_write 56 = .ok (.invokevirtual 148, 3) := by decide +kernel
theorem d_A_write_59 : decode b_A_write 59 = .ok (.istore 7, 2) := by decide +kernel
theorem d_A_write_61 : decode b_A_write 61 = .ok (.aload 5, 2) := by decide +kernel
theorem d_A_write_63 : decode b_A_write 63 = .ok (.iload 6, 2) := by decide +kernel
theorem d_A_write_65 : decode b_A_write 65 = .ok (.iload 7, 2) := by decide +kernel
theorem d_A_write_67 : decode b_A_write 67 = .ok (.iload_n 3, 1) := by decide +kernel
theorem d_A_write_68 : decode b_A_write 68 = .ok (.iload 4, 2) := by decide +kernel
theorem d_A_write_70 : decode b_A_write 70 = .ok (.invokevirtual 151, 3) := by decide +kernel
theorem d_A_write_73 : decode b_A_write 73 = .ok (.iconst 4, 1) := by decide +kernel
theorem d_A_write_74 : decode b_A_write 74 = .ok (.iload 7, 2) := by decide +kernel
theorem d_A_write_76 : decode b_A_write 76 = .ok (.iload 6, 2) := by decide +kernel
theorem d_A_write_78 : decode b_A_write 78 = .ok (.isub, 1) := by decide +kernel
theorem d_A_write_79 : decode b_A_write 79 = .ok (.imul, 1) := by decide +kernel
theorem d_A_write_80 : decode b_A_write 80 = .ok (.aload 5, 2) := by decide +kernel
theorem d_A_write_82 : decode b_A_write 82 = .ok (.iload 6, 2) := by decide +kernel
theorem d_A_write_84 : decode b_A_write 84 = .ok (.iload 7, 2) := by decide +kernel
theorem d_A_write_86 : decode b_A_write 86 = .ok (.invokevirtual 155, 3) := by decide +kernel
theorem d_A_write_89 : decode b_A_write 89 = .ok (.isub, 1) := by decide +kernel
theorem d_A_write_90 : decode b_A_write 90 = .ok (.ireturn, 1) := by decide +kernel
def F_A_write (a0 : Nat) (x1 : Int32) (x2 : Int32) (x3 : Int32) (x4 : Int32) (w : AW) : Option (Int32 × AW) :=
  gd (wk w a0 == 1) <|
  (F_A_diaryOf w a0 x1).bind fun r2 =>
  if r2 = 0 then
    some ((-101 : Int32), w)
  else
    if (F_A_isYear x2) = 0 then
      some ((-101 : Int32), w)
    else
      if x3 < 0 then
        some ((-102 : Int32), w)
      else
        if (F_A_within x4 (0 : Int32) (1000 : Int32)) = 0 then
          some ((-102 : Int32), w)
        else
          gd (wk w (wr w a0 0) == 2) <|
          (F_Ca_startOf w (wr w a0 0) x2).bind fun r5 =>
          (F_Ca_endOf w (wr w a0 0) x2).bind fun r7 =>
          gd (wk w r2 == 3) <|
          (F_Di_writeDays r2 r5 r7 x3 x4 w).bind fun r10 =>
          gd (wk r10 r2 == 3) <|
          (F_Di_numbersIn r10 r2 r5 r7).bind fun r13 =>
          some ((((4 : Int32) * (r7 - r5)) - r13), r10)
theorem P_A_write_0 {X : AX} {l : Launch} {G : AG} (hX : XOK X b_A_write "RedSky" 8) (hM : XM X l G { frames := 4, cells := 0, slots := 0, locals := 94 }) {o : Int32 × AW} (hR : XR X (some .int) 0 0 (some (vi o.1)) o.2) (a0 : Nat) (x1 : Int32) (x2 : Int32) (x3 : Int32) (x4 : Int32) (w : AW) (h : F_A_write a0 x1 x2 x3 x4 w = some o) : RJ X 8 0 0 0 [(0, vr a0), (1, vi x1), (2, vi x2), (3, vi x3), (4, vi x4)] [] w := by
  unfold F_A_write at h
  refine r_aload_n (i := 0) hX d_A_write_0 0 rfl rfl ?_
  refine r_iload_n (i := 1) hX d_A_write_1 1 rfl rfl ?_
  obtain ⟨hk1, h⟩ := gd_e h
  obtain ⟨r2, hr3, h⟩ := bd_e h
  refine r_callV1 (As := [_]) hX hM mw_A_141 (T_A_diaryOf _ _ _ hr3) (rc_of ci_0 hk1) rfl rfl ⟨Nat.le_refl _, Nat.le_refl _⟩ rfl rfl d_A_write_2 ?_
  refine r_astore (i := 5) hX d_A_write_5  (by decide) ?_
  refine r_aload (i := 5) hX d_A_write_7 0  rfl ?_
  refine r_ifnull hX d_A_write_9 rfl h (fun h => ?_) (fun h => ?_)
  · refine r_bipush (v := (-101 : Int32)) hX d_A_write_19 rfl ?_
    cases h; exact r_iret hX hR d_A_write_21
  · refine r_iload_n (i := 2) hX d_A_write_12 3 rfl rfl ?_
    refine r_callS1 (As := [_]) hX hM mw_A_97 (T_A_isYear _ _) rfl rfl ⟨Nat.le_refl _, Nat.le_refl _⟩ rfl rfl d_A_write_13 ?_
    refine r_if_ne hX d_A_write_16 rfl h (fun h => ?_) (fun h => ?_)
    · refine r_iload_n (i := 3) hX d_A_write_22 4 rfl rfl ?_
      refine r_if_lt hX d_A_write_23 rfl h (fun h => ?_) (fun h => ?_)
      · refine r_bipush (v := (-102 : Int32)) hX d_A_write_38 rfl ?_
        cases h; exact r_iret hX hR d_A_write_40
      · refine r_iload (i := 4) hX d_A_write_26 5  rfl ?_
        refine r_iconst (v := (0 : Int32)) hX d_A_write_28 rfl ?_
        refine r_sipush (v := (1000 : Int32)) hX d_A_write_29 rfl ?_
        refine r_callS1 (As := [_, _, _]) hX hM mw_A_86 (T_A_within _ _ _ _) rfl rfl ⟨Nat.le_refl _, Nat.le_refl _⟩ rfl rfl d_A_write_32 ?_
        refine r_if_ne hX d_A_write_35 rfl h (fun h => ?_) (fun h => ?_)
        · refine r_aload_n (i := 0) hX d_A_write_41 1 rfl rfl ?_
          refine r_getR (i := 0) (f := 0) hX ci_0 (by decide) rfl fl_A_10 hk1 d_A_write_42 ?_
          refine r_iload_n (i := 2) hX d_A_write_45 3 rfl rfl ?_
          obtain ⟨hk4, h⟩ := gd_e h
          obtain ⟨r5, hr6, h⟩ := bd_e h
          refine r_callV1 (As := [_]) hX hM mw_A_145 (T_Ca_startOf _ _ _ hr6) (rc_of ci_1 hk4) rfl rfl ⟨Nat.le_refl _, Nat.le_refl _⟩ rfl rfl d_A_write_46 ?_
          refine r_istore (i := 6) hX d_A_write_49  (by decide) ?_
          refine r_aload_n (i := 0) hX d_A_write_51 2 rfl rfl ?_
          refine r_getR (i := 0) (f := 0) hX ci_0 (by decide) rfl fl_A_10 hk1 d_A_write_52 ?_
          refine r_iload_n (i := 2) hX d_A_write_55 4 rfl rfl ?_
          obtain ⟨r7, hr8, h⟩ := bd_e h
          refine r_callV1 (As := [_]) hX hM mw_A_148 (T_Ca_endOf _ _ _ hr8) (rc_of ci_1 hk4) rfl rfl ⟨Nat.le_refl _, Nat.le_refl _⟩ rfl rfl d_A_write_56 ?_
          refine r_istore (i := 7) hX d_A_write_59  (by decide) ?_
          refine r_aload (i := 5) hX d_A_write_61 2  rfl ?_
          refine r_iload (i := 6) hX d_A_write_63 1  rfl ?_
          refine r_iload (i := 7) hX d_A_write_65 0  rfl ?_
          refine r_iload_n (i := 3) hX d_A_write_67 6 rfl rfl ?_
          refine r_iload (i := 4) hX d_A_write_68 7  rfl ?_
          obtain ⟨hk9, h⟩ := gd_e h
          obtain ⟨r10, hr11, h⟩ := bd_e h
          refine r_callV0 (As := [_, _, _, _]) hX hM mw_A_151 (T_Di_writeDays _ _ _ _ _ _ hr11) (rc_of ci_2 hk9) rfl rfl ⟨Nat.le_refl _, Nat.le_refl _⟩ rfl rfl d_A_write_70 ?_
          refine r_iconst (v := (4 : Int32)) hX d_A_write_73 rfl ?_
          refine r_iload (i := 7) hX d_A_write_74 0  rfl ?_
          refine r_iload (i := 6) hX d_A_write_76 1  rfl ?_
          refine r_isub hX d_A_write_78 ?_
          refine r_imul hX d_A_write_79 ?_
          refine r_aload (i := 5) hX d_A_write_80 2  rfl ?_
          refine r_iload (i := 6) hX d_A_write_82 1  rfl ?_
          refine r_iload (i := 7) hX d_A_write_84 0  rfl ?_
          obtain ⟨hk12, h⟩ := gd_e h
          obtain ⟨r13, hr14, h⟩ := bd_e h
          refine r_callV1 (As := [_, _]) hX hM mw_A_155 (T_Di_numbersIn _ _ _ _ hr14) (rc_of ci_2 hk12) rfl rfl ⟨Nat.le_refl _, Nat.le_refl _⟩ rfl rfl d_A_write_86 ?_
          refine r_isub hX d_A_write_89 ?_
          cases h; exact r_iret hX hR d_A_write_90
        · refine r_bipush (v := (-102 : Int32)) hX d_A_write_38 rfl ?_
          cases h; exact r_iret hX hR d_A_write_40
    · refine r_bipush (v := (-101 : Int32)) hX d_A_write_19 rfl ?_
      cases h; exact r_iret hX hR d_A_write_21
theorem T_A_write {l : Launch} {G : AG} (a0 : Nat) (x1 : Int32) (x2 : Int32) (x3 : Int32) (x4 : Int32) (w : AW) {o : Int32 × AW} (h : F_A_write a0 x1 x2 x3 x4 w = some o) : Mt l G y_A_write b_A_write 8 (some (.int)) 4 94 0 0 [vr a0, vi x1, vi x2, vi x3, vi x4] w (some (vi o.1)) o.2 := mt_of (by decide) (Nat.le_of_ble_eq_true rfl) (fun X hX hR hM hI => P_A_write_0 hX hM hR _ _ _ _ _ _ h)
/-! RedSkyModel.isValley(I)Z -/
theorem d_M_isValley_0 : decode b_M_isValley 0 = .ok (.iload_n 0, 1) := by decide +kernel
theorem d_M_isValley_1 : decode b_M_isValley 1 = .ok (.i2l, 1) := by decide +kernel
theorem d_M_isValley_2 : decode b_M_isValley 2 = .ok (.lconst 0, 1) := by decide +kernel
theorem d_M_isValley_3 : decode b_M_isValley 3 = .ok (.ldc2_w 151, 3) := by decide +kernel
theorem d_M_isValley_6 : decode b_M_isValley 6 = .ok (.invokestatic 122, 3) := by decide +kernel
theorem d_M_isValley_9 : decode b_M_isValley 9 = .ok (.ireturn, 1) := by decide +kernel
def Fo_M_isValley (w : AW) (x0 : Int32) : Option (Int32) :=
  some (F_M_in (Int32.toInt64 x0) (0 : Int64) (2 : Int64))
theorem P_M_isValley_0 {X : AX} {l : Launch} {G : AG} {w : AW} (hX : XOK X b_M_isValley "RedSkyModel" 1) (hM : XM X l G { frames := 1, cells := 0, slots := 0, locals := 25 }) {o : Int32} (hR : XR X (some .boolean) 0 0 (some (vi o)) w) (x0 : Int32) (h : Fo_M_isValley w x0 = some o) : RJ X 1 0 0 0 [(0, vi x0)] [] w := by
  unfold Fo_M_isValley at h
  refine r_iload_n (i := 0) hX d_M_isValley_0 0 rfl rfl ?_
  refine r_i2l hX d_M_isValley_1 ?_
  refine r_lconst (v := (0 : Int64)) hX d_M_isValley_2 rfl ?_
  refine r_ldc2 hX d_M_isValley_3 cw_M_151 ?_
  refine r_callS1 (As := [_, _, _]) hX hM mw_M_122 (T_M_in _ _ _ _) rfl rfl ⟨Nat.le_refl _, Nat.le_refl _⟩ rfl rfl d_M_isValley_6 ?_
  cases h; exact r_zret hX hR (zn_ok (z_M_in _ _ _)) d_M_isValley_9
def F_M_isValley (x0 : Int32) : Int32 :=
  (F_M_in (Int32.toInt64 x0) (0 : Int64) (2 : Int64))
theorem E_M_isValley (w : AW) (x0 : Int32) : Fo_M_isValley w x0 = some (F_M_isValley x0) := by
  simp only [Fo_M_isValley, F_M_isValley, apply_ite (some : Int32 → Option Int32)]
theorem z_M_isValley (x0 : Int32) : (F_M_isValley x0 == 0 || F_M_isValley x0 == 1) = true := by
  unfold F_M_isValley; exact (z_M_in _ _ _)
theorem T_M_isValley {l : Launch} {G : AG} (x0 : Int32) (w : AW)  : Mt l G y_M_isValley b_M_isValley 1 (some (.boolean)) 1 25 0 0 [vi x0] w (some (vi (F_M_isValley x0))) w := mt_of (by decide) (Nat.le_of_ble_eq_true rfl) (fun X hX hR hM hI => P_M_isValley_0 hX hM hR _ (E_M_isValley _ _))
/-! RedSkyModel.yearEnd(I)I -/
theorem d_M_yearEnd_0 : decode b_M_yearEnd 0 = .ok (.iload_n 1, 1) := by decide +kernel
theorem d_M_yearEnd_1 : decode b_M_yearEnd 1 = .ok (.iconst 3, 1) := by decide +kernel
theorem d_M_yearEnd_2 : decode b_M_yearEnd 2 = .ok (.if_icmp .ne (9), 3) := by decide +kernel
theorem d_M_yearEnd_5 : decode b_M_yearEnd 5 = .ok (.sipush (1461), 3) := by decide +kernel
theorem d_M_yearEnd_8 : decode b_M_yearEnd 8 = .ok (.goto (11), 3) := by decide +kernel
theorem d_M_yearEnd_11 : decode b_M_yearEnd 11 = .ok (.aload_n 0, 1) := by decide +kernel
theorem d_M_yearEnd_12 : decode b_M_yearEnd 12 = .ok (.iload_n 1, 1) := by decide +kernel
theorem d_M_yearEnd_13 : decode b_M_yearEnd 13 = .ok (.iconst 1, 1) := by decide +kernel
theorem d_M_yearEnd_14 : decode b_M_yearEnd 14 = .ok (.iadd, 1) := by decide +kernel
theorem d_M_yearEnd_15 : decode b_M_yearEnd 15 = .ok (.iconst 1, 1) := by decide +kernel
theorem d_M_yearEnd_16 : decode b_M_yearEnd 16 = .ok (.invokevirtual 110, 3) := by decide +kernel
theorem d_M_yearEnd_19 : decode b_M_yearEnd 19 = .ok (.ireturn, 1) := by decide +kernel
def F_M_yearEnd (w : AW) (a0 : Nat) (x1 : Int32) : Option (Int32) :=
  if x1 = (3 : Int32) then
    some (1461 : Int32)
  else
    gd (wk w a0 == 13) <|
    (F_M_begin w a0 (x1 + (1 : Int32)) (1 : Int32)).bind fun r2 =>
    some r2
theorem P_M_yearEnd_0 {X : AX} {l : Launch} {G : AG} {w : AW} (hX : XOK X b_M_yearEnd "RedSkyModel" 2) (hM : XM X l G { frames := 3, cells := 0, slots := 0, locals := 67 }) {o : Int32} (hR : XR X (some .int) 0 0 (some (vi o)) w) (a0 : Nat) (x1 : Int32) (h : F_M_yearEnd w a0 x1 = some o) : RJ X 2 0 0 0 [(0, vr a0), (1, vi x1)] [] w := by
  unfold F_M_yearEnd at h
  refine r_iload_n (i := 1) hX d_M_yearEnd_0 1 rfl rfl ?_
  refine r_iconst (v := (3 : Int32)) hX d_M_yearEnd_1 rfl ?_
  refine r_icmp_ne hX d_M_yearEnd_2 rfl h (fun h => ?_) (fun h => ?_)
  · refine r_aload_n (i := 0) hX d_M_yearEnd_11 0 rfl rfl ?_
    refine r_iload_n (i := 1) hX d_M_yearEnd_12 1 rfl rfl ?_
    refine r_iconst (v := (1 : Int32)) hX d_M_yearEnd_13 rfl ?_
    refine r_iadd hX d_M_yearEnd_14 ?_
    refine r_iconst (v := (1 : Int32)) hX d_M_yearEnd_15 rfl ?_
    obtain ⟨hk1, h⟩ := gd_e h
    obtain ⟨r2, hr3, h⟩ := bd_e h
    refine r_callV1 (As := [_, _]) hX hM mw_M_110 (T_M_begin _ _ _ _ hr3) (rc_of ci_12 hk1) rfl rfl ⟨Nat.le_refl _, Nat.le_refl _⟩ rfl rfl d_M_yearEnd_16 ?_
    cases h; exact r_iret hX hR d_M_yearEnd_19
  · refine r_sipush (v := (1461 : Int32)) hX d_M_yearEnd_5 rfl ?_
    refine r_goto hX d_M_yearEnd_8 rfl ?_
    cases h; exact r_iret hX hR d_M_yearEnd_19
theorem T_M_yearEnd {l : Launch} {G : AG} (w : AW) (a0 : Nat) (x1 : Int32) {o : Int32} (h : F_M_yearEnd w a0 x1 = some o) : Mt l G y_M_yearEnd b_M_yearEnd 2 (some (.int)) 3 67 0 0 [vr a0, vi x1] w (some (vi o)) w := mt_of (by decide) (Nat.le_of_ble_eq_true rfl) (fun X hX hR hM hI => P_M_yearEnd_0 hX hM hR _ _ h)
/-! RedSkyModel.next(I)I -/
theorem d_M_next_0 : decode b_M_next 0 = .ok (.ldc 153, 2) := by decide +kernel
theorem d_M_next_2 : decode b_M_next 2 = .ok (.iload_n 0, 1) := by decide +kernel
theorem d_M_next_3 : decode b_M_next 3 = .ok (.imul, 1) := by decide +kernel
theorem d_M_next_4 : decode b_M_next 4 = .ok (.sipush (12345), 3) := by decide +kernel
theorem d_M_next_7 : decode b_M_next 7 = .ok (.iadd, 1) := by decide +kernel
theorem d_M_next_8 : decode b_M_next 8 = .ok (.ldc 154, 2) := by decide +kernel
theorem d_M_next_10 : decode b_M_next 10 = .ok (.iand, 1) := by decide +kernel
theorem d_M_next_11 : decode b_M_next 11 = .ok (.ireturn, 1) := by decide +kernel
def Fo_M_next (w : AW) (x0 : Int32) : Option (Int32) :=
  some ((((1103515245 : Int32) * x0) + (12345 : Int32)) &&& (2147483647 : Int32))
theorem P_M_next_0 {X : AX} {l : Launch} {G : AG} {w : AW} (hX : XOK X b_M_next "RedSkyModel" 1) (hM : XM X l G { frames := 0, cells := 0, slots := 0, locals := 0 }) {o : Int32} (hR : XR X (some .int) 0 0 (some (vi o)) w) (x0 : Int32) (h : Fo_M_next w x0 = some o) : RJ X 1 0 0 0 [(0, vi x0)] [] w := by
  unfold Fo_M_next at h
  refine r_ldc hX d_M_next_0 cw_M_153 ?_
  refine r_iload_n (i := 0) hX d_M_next_2 0 rfl rfl ?_
  refine r_imul hX d_M_next_3 ?_
  refine r_sipush (v := (12345 : Int32)) hX d_M_next_4 rfl ?_
  refine r_iadd hX d_M_next_7 ?_
  refine r_ldc hX d_M_next_8 cw_M_154 ?_
  refine r_iand hX d_M_next_10 ?_
  cases h; exact r_iret hX hR d_M_next_11
def F_M_next (x0 : Int32) : Int32 :=
  ((((1103515245 : Int32) * x0) + (12345 : Int32)) &&& (2147483647 : Int32))
theorem E_M_next (w : AW) (x0 : Int32) : Fo_M_next w x0 = some (F_M_next x0) := by
  simp only [Fo_M_next, F_M_next, apply_ite (some : Int32 → Option Int32)]
theorem T_M_next {l : Launch} {G : AG} (x0 : Int32) (w : AW)  : Mt l G y_M_next b_M_next 1 (some (.int)) 0 0 0 0 [vi x0] w (some (vi (F_M_next x0))) w := mt_of (by decide) (Nat.le_of_ble_eq_true rfl) (fun X hX hR hM hI => P_M_next_0 hX hM hR _ (E_M_next _ _))
/-! RedSkyModel.at(III)I -/
theorem d_M_at_0 : decode b_M_at 0 = .ok (.iload_n 0, 1) := by decide +kernel
theorem d_M_at_1 : decode b_M_at 1 = .ok (.sipush (1461), 3) := by decide +kernel
theorem d_M_at_4 : decode b_M_at 4 = .ok (.imul, 1) := by decide +kernel
theorem d_M_at_5 : decode b_M_at 5 = .ok (.iload_n 1, 1) := by decide +kernel
theorem d_M_at_6 : decode b_M_at 6 = .ok (.iadd, 1) := by decide +kernel
theorem d_M_at_7 : decode b_M_at 7 = .ok (.iconst 4, 1) := by decide +kernel
theorem d_M_at_8 : decode b_M_at 8 = .ok (.imul, 1) := by decide +kernel
theorem d_M_at_9 : decode b_M_at 9 = .ok (.iload_n 2, 1) := by decide +kernel
theorem d_M_at_10 : decode b_M_at 10 = .ok (.iadd, 1) := by decide +kernel
theorem d_M_at_11 : decode b_M_at 11 = .ok (.ireturn, 1) := by decide +kernel
def Fo_M_at (w : AW) (x0 : Int32) (x1 : Int32) (x2 : Int32) : Option (Int32) :=
  some ((((x0 * (1461 : Int32)) + x1) * (4 : Int32)) + x2)
theorem P_M_at_0 {X : AX} {l : Launch} {G : AG} {w : AW} (hX : XOK X b_M_at "RedSkyModel" 3) (hM : XM X l G { frames := 0, cells := 0, slots := 0, locals := 0 }) {o : Int32} (hR : XR X (some .int) 0 0 (some (vi o)) w) (x0 : Int32) (x1 : Int32) (x2 : Int32) (h : Fo_M_at w x0 x1 x2 = some o) : RJ X 3 0 0 0 [(0, vi x0), (1, vi x1), (2, vi x2)] [] w := by
  unfold Fo_M_at at h
  refine r_iload_n (i := 0) hX d_M_at_0 0 rfl rfl ?_
  refine r_sipush (v := (1461 : Int32)) hX d_M_at_1 rfl ?_
  refine r_imul hX d_M_at_4 ?_
  refine r_iload_n (i := 1) hX d_M_at_5 1 rfl rfl ?_
  refine r_iadd hX d_M_at_6 ?_
  refine r_iconst (v := (4 : Int32)) hX d_M_at_7 rfl ?_
  refine r_imul hX d_M_at_8 ?_
  refine r_iload_n (i := 2) hX d_M_at_9 2 rfl rfl ?_
  refine r_iadd hX d_M_at_10 ?_
  cases h; exact r_iret hX hR d_M_at_11
def F_M_at (x0 : Int32) (x1 : Int32) (x2 : Int32) : Int32 :=
  ((((x0 * (1461 : Int32)) + x1) * (4 : Int32)) + x2)
theorem E_M_at (w : AW) (x0 : Int32) (x1 : Int32) (x2 : Int32) : Fo_M_at w x0 x1 x2 = some (F_M_at x0 x1 x2) := by
  simp only [Fo_M_at, F_M_at, apply_ite (some : Int32 → Option Int32)]
theorem T_M_at {l : Launch} {G : AG} (x0 : Int32) (x1 : Int32) (x2 : Int32) (w : AW)  : Mt l G y_M_at b_M_at 3 (some (.int)) 0 0 0 0 [vi x0, vi x1, vi x2] w (some (vi (F_M_at x0 x1 x2))) w := mt_of (by decide) (Nat.le_of_ble_eq_true rfl) (fun X hX hR hM hI => P_M_at_0 hX hM hR _ _ _ (E_M_at _ _ _ _))
/-! RedSkyModel.write(IIII)I -/
theorem d_M_write_0 : decode b_M_write 0 = .ok (.iload_n 1, 1) := by decide +kernel
theorem d_M_write_1 : decode b_M_write 1 = .ok (.invokestatic 155, 3) := by decide +kernel
theorem d_M_write_4 : decode b_M_write 4 = .ok (.ifCond .eq (15), 3) := by decide +kernel
theorem d_M_write_7 : decode b_M_write 7 = .ok (.iload_n 2, 1) := by decide +kernel
theorem d_M_write_8 : decode b_M_write 8 = .ok (.i2l, 1) := by decide +kernel
theorem d_M_write_9 : decode b_M_write 9 = .ok (.lconst 0, 1) := by decide +kernel
theorem d_M_write_10 : decode b_M_write 10 = .ok (.ldc2_w 126, 3) := by decide +kernel
theorem d_M_write_13 : decode b_M_write 13 = .ok (.invokestatic 122, 3) := by decide +kernel
theorem d_M_write_16 : decode b_M_write 16 = .ok (.ifCond .ne (6), 3) := by decide +kernel
theorem d_M_write_19 : decode b_M_write 19 = .ok (.bipush (-101), 2) := by decide +kernel
theorem d_M_write_21 : decode b_M_write 21 = .ok (.ireturn, 1) := by decide +kernel
theorem d_M_write_22 : decode b_M_write 22 = .ok (.iload_n 3, 1) := by decide +kernel
theorem d_M_write_23 : decode b_M_write 23 = .ok (.ifCond .lt (16), 3) := by decide +kernel
theorem d_M_write_26 : decode b_M_write 26 = .ok (.iload 4, 2) := by decide +kernel
theorem d_M_write_28 : decode b_M_write 28 = .ok (.i2l, 1) := by decide +kernel
theorem d_M_write_29 : decode b_M_write 29 = .ok (.lconst 0, 1) := by decide +kernel
theorem d_M_write_30 : decode b_M_write 30 = .ok (.ldc2_w 158, 3) := by decide +kernel
theorem d_M_write_33 : decode b_M_write 33 = .ok (.invokestatic 122, 3) := by decide +kernel
theorem d_M_write_36 : decode b_M_write 36 = .ok (.ifCond .ne (6), 3) := by decide +kernel
theorem d_M_write_39 : decode b_M_write 39 = .ok (.bipush (-102), 2) := by decide +kernel
theorem d_M_write_41 : decode b_M_write 41 = .ok (.ireturn, 1) := by decide +kernel
theorem d_M_write_42 : decode b_M_write 42 = .ok (.iconst 0, 1) := by decide +kernel
theorem d_M_write_43 : decode b_M_write 43 = .ok (.istore 5, 2) := by decide +kernel
theorem d_M_write_45 : decode b_M_write 45 = .ok (.iload_n 3, 1) := by decide +kernel
theorem d_M_write_46 : decode b_M_write 46 = .ok (.istore 6, 2) := by decide +kernel
theorem d_M_write_48 : decode b_M_write 48 = .ok (.aload_n 0, 1) := by decide +kernel
theorem d_M_write_49 : decode b_M_write 49 = .ok (.iload_n 2, 1) := by decide +kernel
theorem d_M_write_50 : decode b_M_write 50 = .ok (.iconst 1, 1) := by decide +kernel
theorem d_M_write_51 : decode b_M_write 51 = .ok (.invokevirtual 110, 3) := by decide +kernel
theorem d_M_write_54 : decode b_M_write 54 = .ok (.istore 7, 2) := by decide +kernel
theorem d_M_write_56 : decode b_M_write 56 = .ok (.iload 7, 2) := by decide +kernel
theorem d_M_write_58 : decode b_M_write 58 = .ok (.aload_n 0, 1) := by decide +kernel
theorem d_M_write_59 : decode b_M_write 59 = .ok (.iload_n 2, 1) := by decide +kernel
theorem d_M_write_60 : decode b_M_write 60 = .ok (.invokevirtual 160, 3) := by decide +kernel
theorem d_M_write_63 : decode b_M_write 63 = .ok (.if_icmp .ge (164), 3) := by decide +kernel
theorem d_M_write_66 : decode b_M_write 66 = .ok (.iconst 0, 1) := by decide +kernel
theorem d_M_write_67 : decode b_M_write 67 = .ok (.istore 8, 2) := by decide +kernel
theorem d_M_write_69 : decode b_M_write 69 = .ok (.iload 8, 2) := by decide +kernel
theorem d_M_write_71 : decode b_M_write 71 = .ok (.iconst 4, 1) := by decide +kernel
theorem d_M_write_72 : decode b_M_write 72 = .ok (.if_icmp .ge (149), 3) := by decide +kernel
theorem d_M_write_75 : decode b_M_write 75 = .ok (.iload 6, 2) := by decide +kernel
theorem d_M_write_77 : decode b_M_write 77 = .ok (.invokestatic 163, 3) := by decide +kernel
theorem d_M_write_80 : decode b_M_write 80 = .ok (.istore 6, 2) := by decide +kernel
theorem d_M_write_82 : decode b_M_write 82 = .ok (.iload 6, 2) := by decide +kernel
theorem d_M_write_84 : decode b_M_write 84 = .ok (.ldc 166, 2) := by decide +kernel
theorem d_M_write_86 : decode b_M_write 86 = .ok (.idiv, 1) := by decide +kernel
theorem d_M_write_87 : decode b_M_write 87 = .ok (.istore 9, 2) := by decide +kernel
theorem d_M_write_89 : decode b_M_write 89 = .ok (.iload 8, 2) := by decide +kernel
theorem d_M_write_91 : decode b_M_write 91 = .ok (.ifCond .ne (10), 3) := by decide +kernel
theorem d_M_write_94 : decode b_M_write 94 = .ok (.iload 9, 2) := by decide +kernel
theorem d_M_write_96 : decode b_M_write 96 = .ok (.iconst 4, 1) := by decide +kernel
theorem d_M_write_97 : decode b_M_write 97 = .ok (.irem, 1) := by decide +kernel
theorem d_M_write_98 : decode b_M_write 98 = .ok (.goto (50), 3) := by decide +kernel
theorem d_M_write_101 : decode b_M_write 101 = .ok (.iload 8, 2) := by decide +kernel
theorem d_M_write_103 : decode b_M_write 103 = .ok (.iconst 1, 1) := by decide +kernel
theorem d_M_write_104 : decode b_M_write 104 = .ok (.if_icmp .ne (11), 3) := by decide +kernel
theorem d_M_write_107 : decode b_M_write 107 = .ok (.iload 9, 2) := by decide +kernel
theorem d_M_write_109 : decode b_M_write 109 = .ok (.bipush (10), 2) := by decide +kernel
theorem d_M_write_111 : decode b_M_write 111 = .ok (.irem, 1) := by decide +kernel
theorem d_M_write_112 : decode b_M_write 112 = .ok (.goto (36), 3) := by decide +kernel
theorem d_M_write_115 : decode b_M_write 115 = .ok (.iload 8, 2) := by decide +kernel
theorem d_M_write_117 : decode b_M_write 117 = .ok (.iconst 2, 1) := by decide +kernel
theorem d_M_write_118 : decode b_M_write 118 = .ok (.if_icmp .ne (22), 3) := by decide +kernel
theorem d_M_write_121 : decode b_M_write 121 = .ok (.iload 9, 2) := by decide +kernel
theorem d_M_write_123 : decode b_M_write 123 = .ok (.iconst 3, 1) := by decide +kernel
theorem d_M_write_124 : decode b_M_write 124 = .ok (.irem, 1) := by decide +kernel
theorem d_M_write_125 : decode b_M_write 125 = .ok (.ifCond .ne (7), 3) := by decide +kernel
theorem d_M_write_128 : decode b_M_write 128 = .ok (.iconst 0, 1) := by decide +kernel
theorem d_M_write_129 : decode b_M_write 129 = .ok (.goto (19), 3) := by decide +kernel
theorem d_M_write_132 : decode b_M_write 132 = .ok (.iload 9, 2) := by decide +kernel
theorem d_M_write_134 : decode b_M_write 134 = .ok (.bipush (100), 2) := by decide +kernel
theorem d_M_write_136 : decode b_M_write 136 = .ok (.irem, 1) := by decide +kernel
theorem d_M_write_137 : decode b_M_write 137 = .ok (.goto (11), 3) := by decide +kernel
theorem d_M_write_140 : decode b_M_write 140 = .ok (.iload 9, 2) := by decide +kernel
theorem d_M_write_142 : decode b_M_write 142 = .ok (.bipush (71), 2) := by decide +kernel
theorem d_M_write_144 : decode b_M_write 144 = .ok (.irem, 1) := by decide +kernel
theorem d_M_write_145 : decode b_M_write 145 = .ok (.bipush (30), 2) := by decide +kernel
theorem d_M_write_147 : decode b_M_write 147 = .ok (.isub, 1) := by decide +kernel
theorem d_M_write_148 : decode b_M_write 148 = .ok (.istore 10, 2) := by decide +kernel
theorem d_M_write_150 : decode b_M_write 150 = .ok (.iload 4, 2) := by decide +kernel
theorem d_M_write_152 : decode b_M_write 152 = .ok (.ifCond .le (19), 3) := by decide +kernel
theorem d_M_write_155 : decode b_M_write 155 = .ok (.iload 6, 2) := by decide +kernel
theorem d_M_write_157 : decode b_M_write 157 = .ok (.sipush (256), 3) := by decide +kernel
theorem d_M_write_160 : decode b_M_write 160 = .ok (.idiv, 1) := by decide +kernel
theorem d_M_write_161 : decode b_M_write 161 = .ok (.iload 4, 2) := by decide +kernel
theorem d_M_write_163 : decode b_M_write 163 = .ok (.irem, 1) := by decide +kernel
theorem d_M_write_164 : decode b_M_write 164 = .ok (.ifCond .ne (7), 3) := by decide +kernel
theorem d_M_write_167 : decode b_M_write 167 = .ok (.iconst 1, 1) := by decide +kernel
theorem d_M_write_168 : decode b_M_write 168 = .ok (.goto (4), 3) := by decide +kernel
theorem d_M_write_171 : decode b_M_write 171 = .ok (.iconst 0, 1) := by decide +kernel
theorem d_M_write_172 : decode b_M_write 172 = .ok (.istore 11, 2) := by decide +kernel
theorem d_M_write_174 : decode b_M_write 174 = .ok (.aload_n 0, 1) := by decide +kernel
theorem d_M_write_175 : decode b_M_write 175 = .ok (.getfield 22, 3) := by decide +kernel
theorem d_M_write_178 : decode b_M_write 178 = .ok (.iload_n 1, 1) := by decide +kernel
theorem d_M_write_179 : decode b_M_write 179 = .ok (.iload 7, 2) := by decide +kernel
theorem d_M_write_181 : decode b_M_write 181 = .ok (.iload 8, 2) := by decide +kernel
theorem d_M_write_183 : decode b_M_write 183 = .ok (.invokestatic 167, 3) := by decide +kernel
theorem d_M_write_186 : decode b_M_write 186 = .ok (.iload 11, 2) := by decide +kernel
theorem d_M_write_188 : decode b_M_write 188 = .ok (.ifCond .eq (9), 3) := by decide +kernel
theorem d_M_write_191 : decode b_M_write 191 = .ok (.sipush (-1000), 3) := by decide +kernel
theorem d_M_write_194 : decode b_M_write 194 = .ok (.goto (5), 3) := by decide +kernel
theorem d_M_write_197 : decode b_M_write 197 = .ok (.iload 10, 2) := by decide +kernel
theorem d_M_write_199 : decode b_M_write 199 = .ok (.iastore, 1) := by decide +kernel
theorem d_M_write_200 : decode b_M_write 200 = .ok (.iload 5, 2) := by decide +kernel
theorem d_M_write_202 : decode b_M_write 202 = .ok (.iload 11, 2) := by decide +kernel
theorem d_M_write_204 : decode b_M_write 204 = .ok (.ifCond .eq (7), 3) := by decide +kernel
theorem d_M_write_207 : decode b_M_write 207 = .ok (.iconst 1, 1) := by decide +kernel
theorem d_M_write_208 : decode b_M_write 208 = .ok (.goto (4), 3) := by decide +kernel
theorem d_M_write_211 : decode b_M_write 211 = .ok (.iconst 0, 1) := by decide +kernel
theorem d_M_write_212 : decode b_M_write 212 = .ok (.iadd, 1) := by decide +kernel
theorem d_M_write_213 : decode b_M_write 213 = .ok (.istore 5, 2) := by decide +kernel
theorem d_M_write_215 : decode b_M_write 215 = .ok (.iinc 8 (1), 3) := by decide +kernel
theorem d_M_write_218 : decode b_M_write 218 = .ok (.goto (-149), 3) := by decide +kernel
theorem d_M_write_221 : decode b_M_write 221 = .ok (.iinc 7 (1), 3) := by decide +kernel
theorem d_M_write_224 : decode b_M_write 224 = .ok (.goto (-168), 3) := by decide +kernel
theorem d_M_write_227 : decode b_M_write 227 = .ok (.iload 5, 2) := by decide +kernel
theorem d_M_write_229 : decode b_M_write 229 = .ok (.ireturn, 1) := by decide +kernel
def F_M_write_199 (rec56 : Nat → Int32 → Int32 → Int32 → Int32 → Int32 → Int32 → AW → Option (Int32 × AW)) (rec69 : Nat → Int32 → Int32 → Int32 → Int32 → Int32 → Int32 → Int32 → AW → Option (Int32 × AW)) (a0 : Nat) (x1 : Int32) (x2 : Int32) (x4 : Int32) (x5 : Int32) (x6 : Int32) (x7 : Int32) (x8 : Int32) (x11 : Int32) (s2 : Int32) (s1 : Int32) (s0 : Nat) (w : AW) : Option (Int32 × AW) :=
  gd (wk w s0 == 100) <|
  gd (inb s1 (wn w s0)) <|
  let w3 : AW := upI w s0 (Int32.toNatClampNeg s1) s2
  if x11 = 0 then
    let v4 : Int32 := (x5 + (0 : Int32))
    let v5 : Int32 := (x8 + (1 : Int32))
    rec69 a0 x1 x2 x4 v4 x6 x7 v5 w3
  else
    let v6 : Int32 := (x5 + (1 : Int32))
    let v7 : Int32 := (x8 + (1 : Int32))
    rec69 a0 x1 x2 x4 v6 x6 x7 v7 w3
theorem P_M_write_199 {X : AX} {l : Launch} {G : AG} {rec56 : Nat → Int32 → Int32 → Int32 → Int32 → Int32 → Int32 → AW → Option (Int32 × AW)} {rec69 : Nat → Int32 → Int32 → Int32 → Int32 → Int32 → Int32 → Int32 → AW → Option (Int32 × AW)} (hX : XOK X b_M_write "RedSkyModel" 12) (hM : XM X l G { frames := 4, cells := 0, slots := 0, locals := 88 }) {o : Int32 × AW} (hR : XR X (some .int) 0 0 (some (vi o.1)) o.2) (hrec56 : ∀ (a0 : Nat) (x1 : Int32) (x2 : Int32) (x4 : Int32) (x5 : Int32) (x6 : Int32) (x7 : Int32) (w : AW), rec56 a0 x1 x2 x4 x5 x6 x7 w = some o → RJ X 12 0 0 56 [(0, vr a0), (1, vi x1), (2, vi x2), (4, vi x4), (5, vi x5), (6, vi x6), (7, vi x7)] [] w) (hrec69 : ∀ (a0 : Nat) (x1 : Int32) (x2 : Int32) (x4 : Int32) (x5 : Int32) (x6 : Int32) (x7 : Int32) (x8 : Int32) (w : AW), rec69 a0 x1 x2 x4 x5 x6 x7 x8 w = some o → RJ X 12 0 0 69 [(0, vr a0), (1, vi x1), (2, vi x2), (4, vi x4), (5, vi x5), (6, vi x6), (7, vi x7), (8, vi x8)] [] w) (a0 : Nat) (x1 : Int32) (x2 : Int32) (x4 : Int32) (x5 : Int32) (x6 : Int32) (x7 : Int32) (x8 : Int32) (x11 : Int32) (s2 : Int32) (s1 : Int32) (s0 : Nat) (w : AW) (h : F_M_write_199 rec56 rec69 a0 x1 x2 x4 x5 x6 x7 x8 x11 s2 s1 s0 w = some o) : RJ X 12 0 0 199 [(0, vr a0), (1, vi x1), (2, vi x2), (4, vi x4), (5, vi x5), (6, vi x6), (7, vi x7), (8, vi x8), (11, vi x11)] [vi s2, vi s1, vr s0] w := by
  unfold F_M_write_199 at h
  obtain ⟨hk1, h⟩ := gd_e h
  obtain ⟨hg2, h⟩ := gd_e h
  refine r_iast hX hk1 hg2 d_M_write_199 ?_
  refine r_iload (i := 5) hX d_M_write_200 4  rfl ?_
  refine r_iload (i := 11) hX d_M_write_202 8  rfl ?_
  refine r_if_eq hX d_M_write_204 rfl h (fun h => ?_) (fun h => ?_)
  · refine r_iconst (v := (0 : Int32)) hX d_M_write_211 rfl ?_
    refine r_iadd hX d_M_write_212 ?_
    refine r_istore (i := 5) hX d_M_write_213  (by decide) ?_
    refine r_iinc (i := 8) (v := (1 : Int32)) hX d_M_write_215 7 rfl rfl (by decide) ?_
    refine r_goto hX d_M_write_218 rfl ?_
    exact rj_sub [2, 3, 4, 5, 1, 6, 7, 0] rfl (hrec69 _ _ _ _ _ _ _ _ _ h)
  · refine r_iconst (v := (1 : Int32)) hX d_M_write_207 rfl ?_
    refine r_goto hX d_M_write_208 rfl ?_
    refine r_iadd hX d_M_write_212 ?_
    refine r_istore (i := 5) hX d_M_write_213  (by decide) ?_
    refine r_iinc (i := 8) (v := (1 : Int32)) hX d_M_write_215 7 rfl rfl (by decide) ?_
    refine r_goto hX d_M_write_218 rfl ?_
    exact rj_sub [2, 3, 4, 5, 1, 6, 7, 0] rfl (hrec69 _ _ _ _ _ _ _ _ _ h)
def F_M_write_172 (rec56 : Nat → Int32 → Int32 → Int32 → Int32 → Int32 → Int32 → AW → Option (Int32 × AW)) (rec69 : Nat → Int32 → Int32 → Int32 → Int32 → Int32 → Int32 → Int32 → AW → Option (Int32 × AW)) (a0 : Nat) (x1 : Int32) (x2 : Int32) (x4 : Int32) (x5 : Int32) (x6 : Int32) (x7 : Int32) (x8 : Int32) (x10 : Int32) (s0 : Int32) (w : AW) : Option (Int32 × AW) :=
  gd (wk w a0 == 13) <|
  if s0 = 0 then
    F_M_write_199 rec56 rec69 a0 x1 x2 x4 x5 x6 x7 x8 s0 x10 (F_M_at x1 x7 x8) (wr w a0 5) w
  else
    F_M_write_199 rec56 rec69 a0 x1 x2 x4 x5 x6 x7 x8 s0 (-1000 : Int32) (F_M_at x1 x7 x8) (wr w a0 5) w
theorem P_M_write_172 {X : AX} {l : Launch} {G : AG} {rec56 : Nat → Int32 → Int32 → Int32 → Int32 → Int32 → Int32 → AW → Option (Int32 × AW)} {rec69 : Nat → Int32 → Int32 → Int32 → Int32 → Int32 → Int32 → Int32 → AW → Option (Int32 × AW)} (hX : XOK X b_M_write "RedSkyModel" 12) (hM : XM X l G { frames := 4, cells := 0, slots := 0, locals := 88 }) {o : Int32 × AW} (hR : XR X (some .int) 0 0 (some (vi o.1)) o.2) (hrec56 : ∀ (a0 : Nat) (x1 : Int32) (x2 : Int32) (x4 : Int32) (x5 : Int32) (x6 : Int32) (x7 : Int32) (w : AW), rec56 a0 x1 x2 x4 x5 x6 x7 w = some o → RJ X 12 0 0 56 [(0, vr a0), (1, vi x1), (2, vi x2), (4, vi x4), (5, vi x5), (6, vi x6), (7, vi x7)] [] w) (hrec69 : ∀ (a0 : Nat) (x1 : Int32) (x2 : Int32) (x4 : Int32) (x5 : Int32) (x6 : Int32) (x7 : Int32) (x8 : Int32) (w : AW), rec69 a0 x1 x2 x4 x5 x6 x7 x8 w = some o → RJ X 12 0 0 69 [(0, vr a0), (1, vi x1), (2, vi x2), (4, vi x4), (5, vi x5), (6, vi x6), (7, vi x7), (8, vi x8)] [] w) (a0 : Nat) (x1 : Int32) (x2 : Int32) (x4 : Int32) (x5 : Int32) (x6 : Int32) (x7 : Int32) (x8 : Int32) (x10 : Int32) (s0 : Int32) (w : AW) (h : F_M_write_172 rec56 rec69 a0 x1 x2 x4 x5 x6 x7 x8 x10 s0 w = some o) : RJ X 12 0 0 172 [(0, vr a0), (1, vi x1), (2, vi x2), (4, vi x4), (5, vi x5), (6, vi x6), (7, vi x7), (8, vi x8), (10, vi x10)] [vi s0] w := by
  unfold F_M_write_172 at h
  refine r_istore (i := 11) hX d_M_write_172  (by decide) ?_
  refine r_aload_n (i := 0) hX d_M_write_174 1 rfl rfl ?_
  obtain ⟨hk1, h⟩ := gd_e h
  refine r_getR (i := 12) (f := 5) hX ci_12 (by decide) rfl fl_M_22 hk1 d_M_write_175 ?_
  refine r_iload_n (i := 1) hX d_M_write_178 2 rfl rfl ?_
  refine r_iload (i := 7) hX d_M_write_179 7  rfl ?_
  refine r_iload (i := 8) hX d_M_write_181 8  rfl ?_
  refine r_callS1 (As := [_, _, _]) hX hM mw_M_167 (T_M_at _ _ _ _) rfl rfl ⟨Nat.le_refl _, Nat.le_refl _⟩ rfl rfl d_M_write_183 ?_
  refine r_iload (i := 11) hX d_M_write_186 0  rfl ?_
  refine r_if_eq hX d_M_write_188 rfl h (fun h => ?_) (fun h => ?_)
  · refine r_iload (i := 10) hX d_M_write_197 9  rfl ?_
    exact rj_sub [1, 2, 3, 4, 5, 6, 7, 8, 0] rfl (P_M_write_199 hX hM hR hrec56 hrec69 _ _ _ _ _ _ _ _ _ _ _ _ _ h)
  · refine r_sipush (v := (-1000 : Int32)) hX d_M_write_191 rfl ?_
    refine r_goto hX d_M_write_194 rfl ?_
    exact rj_sub [1, 2, 3, 4, 5, 6, 7, 8, 0] rfl (P_M_write_199 hX hM hR hrec56 hrec69 _ _ _ _ _ _ _ _ _ _ _ _ _ h)
def F_M_write_148 (rec56 : Nat → Int32 → Int32 → Int32 → Int32 → Int32 → Int32 → AW → Option (Int32 × AW)) (rec69 : Nat → Int32 → Int32 → Int32 → Int32 → Int32 → Int32 → Int32 → AW → Option (Int32 × AW)) (a0 : Nat) (x1 : Int32) (x2 : Int32) (x4 : Int32) (x5 : Int32) (x6 : Int32) (x7 : Int32) (x8 : Int32) (s0 : Int32) (w : AW) : Option (Int32 × AW) :=
  if x4 ≤ 0 then
    F_M_write_172 rec56 rec69 a0 x1 x2 x4 x5 x6 x7 x8 s0 (0 : Int32) w
  else
    gd (decide (¬ x4 = 0)) <|
    if (irem (x6 / (256 : Int32)) x4) = 0 then
      F_M_write_172 rec56 rec69 a0 x1 x2 x4 x5 x6 x7 x8 s0 (1 : Int32) w
    else
      F_M_write_172 rec56 rec69 a0 x1 x2 x4 x5 x6 x7 x8 s0 (0 : Int32) w
theorem P_M_write_148 {X : AX} {l : Launch} {G : AG} {rec56 : Nat → Int32 → Int32 → Int32 → Int32 → Int32 → Int32 → AW → Option (Int32 × AW)} {rec69 : Nat → Int32 → Int32 → Int32 → Int32 → Int32 → Int32 → Int32 → AW → Option (Int32 × AW)} (hX : XOK X b_M_write "RedSkyModel" 12) (hM : XM X l G { frames := 4, cells := 0, slots := 0, locals := 88 }) {o : Int32 × AW} (hR : XR X (some .int) 0 0 (some (vi o.1)) o.2) (hrec56 : ∀ (a0 : Nat) (x1 : Int32) (x2 : Int32) (x4 : Int32) (x5 : Int32) (x6 : Int32) (x7 : Int32) (w : AW), rec56 a0 x1 x2 x4 x5 x6 x7 w = some o → RJ X 12 0 0 56 [(0, vr a0), (1, vi x1), (2, vi x2), (4, vi x4), (5, vi x5), (6, vi x6), (7, vi x7)] [] w) (hrec69 : ∀ (a0 : Nat) (x1 : Int32) (x2 : Int32) (x4 : Int32) (x5 : Int32) (x6 : Int32) (x7 : Int32) (x8 : Int32) (w : AW), rec69 a0 x1 x2 x4 x5 x6 x7 x8 w = some o → RJ X 12 0 0 69 [(0, vr a0), (1, vi x1), (2, vi x2), (4, vi x4), (5, vi x5), (6, vi x6), (7, vi x7), (8, vi x8)] [] w) (a0 : Nat) (x1 : Int32) (x2 : Int32) (x4 : Int32) (x5 : Int32) (x6 : Int32) (x7 : Int32) (x8 : Int32) (s0 : Int32) (w : AW) (h : F_M_write_148 rec56 rec69 a0 x1 x2 x4 x5 x6 x7 x8 s0 w = some o) : RJ X 12 0 0 148 [(0, vr a0), (1, vi x1), (2, vi x2), (4, vi x4), (5, vi x5), (6, vi x6), (7, vi x7), (8, vi x8)] [vi s0] w := by
  unfold F_M_write_148 at h
  refine r_istore (i := 10) hX d_M_write_148  (by decide) ?_
  refine r_iload (i := 4) hX d_M_write_150 4  rfl ?_
  refine r_if_le hX d_M_write_152 rfl h (fun h => ?_) (fun h => ?_)
  · refine r_iconst (v := (0 : Int32)) hX d_M_write_171 rfl ?_
    exact rj_sub [1, 2, 3, 4, 5, 6, 7, 8, 0] rfl (P_M_write_172 hX hM hR hrec56 hrec69 _ _ _ _ _ _ _ _ _ _ _ h)
  · refine r_iload (i := 6) hX d_M_write_155 6  rfl ?_
    refine r_sipush (v := (256 : Int32)) hX d_M_write_157 rfl ?_
    refine r_idiv hX d_M_write_160 (by decide) ?_
    refine r_iload (i := 4) hX d_M_write_161 4  rfl ?_
    obtain ⟨hg1, h⟩ := gd_e h
    refine r_irem hX d_M_write_163 (of_decide_eq_true hg1) ?_
    refine r_if_ne hX d_M_write_164 rfl h (fun h => ?_) (fun h => ?_)
    · refine r_iconst (v := (0 : Int32)) hX d_M_write_171 rfl ?_
      exact rj_sub [1, 2, 3, 4, 5, 6, 7, 8, 0] rfl (P_M_write_172 hX hM hR hrec56 hrec69 _ _ _ _ _ _ _ _ _ _ _ h)
    · refine r_iconst (v := (1 : Int32)) hX d_M_write_167 rfl ?_
      refine r_goto hX d_M_write_168 rfl ?_
      exact rj_sub [1, 2, 3, 4, 5, 6, 7, 8, 0] rfl (P_M_write_172 hX hM hR hrec56 hrec69 _ _ _ _ _ _ _ _ _ _ _ h)
def F_M_write_69_B (rec56 : Nat → Int32 → Int32 → Int32 → Int32 → Int32 → Int32 → AW → Option (Int32 × AW)) (rec69 : Nat → Int32 → Int32 → Int32 → Int32 → Int32 → Int32 → Int32 → AW → Option (Int32 × AW)) (a0 : Nat) (x1 : Int32) (x2 : Int32) (x4 : Int32) (x5 : Int32) (x6 : Int32) (x7 : Int32) (x8 : Int32) (w : AW) : Option (Int32 × AW) :=
  if (4 : Int32) ≤ x8 then
    let v1 : Int32 := (x7 + (1 : Int32))
    rec56 a0 x1 x2 x4 x5 x6 v1 w
  else
    let v2 : Int32 := (F_M_next x6)
    let v3 : Int32 := (v2 / (65536 : Int32))
    if x8 = 0 then
      F_M_write_148 rec56 rec69 a0 x1 x2 x4 x5 v2 x7 x8 (irem v3 (4 : Int32)) w
    else
      if x8 = (1 : Int32) then
        F_M_write_148 rec56 rec69 a0 x1 x2 x4 x5 v2 x7 x8 (irem v3 (10 : Int32)) w
      else
        if x8 = (2 : Int32) then
          if (irem v3 (3 : Int32)) = 0 then
            F_M_write_148 rec56 rec69 a0 x1 x2 x4 x5 v2 x7 x8 (0 : Int32) w
          else
            F_M_write_148 rec56 rec69 a0 x1 x2 x4 x5 v2 x7 x8 (irem v3 (100 : Int32)) w
        else
          F_M_write_148 rec56 rec69 a0 x1 x2 x4 x5 v2 x7 x8 ((irem v3 (71 : Int32)) - (30 : Int32)) w
theorem P_M_write_69_B {X : AX} {l : Launch} {G : AG} {rec56 : Nat → Int32 → Int32 → Int32 → Int32 → Int32 → Int32 → AW → Option (Int32 × AW)} {rec69 : Nat → Int32 → Int32 → Int32 → Int32 → Int32 → Int32 → Int32 → AW → Option (Int32 × AW)} (hX : XOK X b_M_write "RedSkyModel" 12) (hM : XM X l G { frames := 4, cells := 0, slots := 0, locals := 88 }) {o : Int32 × AW} (hR : XR X (some .int) 0 0 (some (vi o.1)) o.2) (hrec56 : ∀ (a0 : Nat) (x1 : Int32) (x2 : Int32) (x4 : Int32) (x5 : Int32) (x6 : Int32) (x7 : Int32) (w : AW), rec56 a0 x1 x2 x4 x5 x6 x7 w = some o → RJ X 12 0 0 56 [(0, vr a0), (1, vi x1), (2, vi x2), (4, vi x4), (5, vi x5), (6, vi x6), (7, vi x7)] [] w) (hrec69 : ∀ (a0 : Nat) (x1 : Int32) (x2 : Int32) (x4 : Int32) (x5 : Int32) (x6 : Int32) (x7 : Int32) (x8 : Int32) (w : AW), rec69 a0 x1 x2 x4 x5 x6 x7 x8 w = some o → RJ X 12 0 0 69 [(0, vr a0), (1, vi x1), (2, vi x2), (4, vi x4), (5, vi x5), (6, vi x6), (7, vi x7), (8, vi x8)] [] w) (a0 : Nat) (x1 : Int32) (x2 : Int32) (x4 : Int32) (x5 : Int32) (x6 : Int32) (x7 : Int32) (x8 : Int32) (w : AW) (h : F_M_write_69_B rec56 rec69 a0 x1 x2 x4 x5 x6 x7 x8 w = some o) : RJ X 12 0 0 69 [(0, vr a0), (1, vi x1), (2, vi x2), (4, vi x4), (5, vi x5), (6, vi x6), (7, vi x7), (8, vi x8)] [] w := by
  unfold F_M_write_69_B at h
  refine r_iload (i := 8) hX d_M_write_69 7  rfl ?_
  refine r_iconst (v := (4 : Int32)) hX d_M_write_71 rfl ?_
  refine r_icmp_ge hX d_M_write_72 rfl h (fun h => ?_) (fun h => ?_)
  · refine r_iinc (i := 7) (v := (1 : Int32)) hX d_M_write_221 6 rfl rfl (by decide) ?_
    refine r_goto hX d_M_write_224 rfl ?_
    exact rj_sub [1, 2, 3, 4, 5, 6, 0] rfl (hrec56 _ _ _ _ _ _ _ _ h)
  · refine r_iload (i := 6) hX d_M_write_75 5  rfl ?_
    refine r_callS1 (As := [_]) hX hM mw_M_163 (T_M_next _ _) rfl rfl ⟨Nat.le_refl _, Nat.le_refl _⟩ rfl rfl d_M_write_77 ?_
    refine r_istore (i := 6) hX d_M_write_80  (by decide) ?_
    refine r_iload (i := 6) hX d_M_write_82 0  rfl ?_
    refine r_ldc hX d_M_write_84 cw_M_166 ?_
    refine r_idiv hX d_M_write_86 (by decide) ?_
    refine r_istore (i := 9) hX d_M_write_87  (by decide) ?_
    refine r_iload (i := 8) hX d_M_write_89 8  rfl ?_
    refine r_if_ne hX d_M_write_91 rfl h (fun h => ?_) (fun h => ?_)
    · refine r_iload (i := 8) hX d_M_write_101 8  rfl ?_
      refine r_iconst (v := (1 : Int32)) hX d_M_write_103 rfl ?_
      refine r_icmp_ne hX d_M_write_104 rfl h (fun h => ?_) (fun h => ?_)
      · refine r_iload (i := 8) hX d_M_write_115 8  rfl ?_
        refine r_iconst (v := (2 : Int32)) hX d_M_write_117 rfl ?_
        refine r_icmp_ne hX d_M_write_118 rfl h (fun h => ?_) (fun h => ?_)
        · refine r_iload (i := 9) hX d_M_write_140 0  rfl ?_
          refine r_bipush (v := (71 : Int32)) hX d_M_write_142 rfl ?_
          refine r_irem hX d_M_write_144 (by decide) ?_
          refine r_bipush (v := (30 : Int32)) hX d_M_write_145 rfl ?_
          refine r_isub hX d_M_write_147 ?_
          exact rj_sub [2, 3, 4, 5, 6, 1, 7, 8] rfl (P_M_write_148 hX hM hR hrec56 hrec69 _ _ _ _ _ _ _ _ _ _ h)
        · refine r_iload (i := 9) hX d_M_write_121 0  rfl ?_
          refine r_iconst (v := (3 : Int32)) hX d_M_write_123 rfl ?_
          refine r_irem hX d_M_write_124 (by decide) ?_
          refine r_if_ne hX d_M_write_125 rfl h (fun h => ?_) (fun h => ?_)
          · refine r_iload (i := 9) hX d_M_write_132 0  rfl ?_
            refine r_bipush (v := (100 : Int32)) hX d_M_write_134 rfl ?_
            refine r_irem hX d_M_write_136 (by decide) ?_
            refine r_goto hX d_M_write_137 rfl ?_
            exact rj_sub [2, 3, 4, 5, 6, 1, 7, 8] rfl (P_M_write_148 hX hM hR hrec56 hrec69 _ _ _ _ _ _ _ _ _ _ h)
          · refine r_iconst (v := (0 : Int32)) hX d_M_write_128 rfl ?_
            refine r_goto hX d_M_write_129 rfl ?_
            exact rj_sub [2, 3, 4, 5, 6, 1, 7, 8] rfl (P_M_write_148 hX hM hR hrec56 hrec69 _ _ _ _ _ _ _ _ _ _ h)
      · refine r_iload (i := 9) hX d_M_write_107 0  rfl ?_
        refine r_bipush (v := (10 : Int32)) hX d_M_write_109 rfl ?_
        refine r_irem hX d_M_write_111 (by decide) ?_
        refine r_goto hX d_M_write_112 rfl ?_
        exact rj_sub [2, 3, 4, 5, 6, 1, 7, 8] rfl (P_M_write_148 hX hM hR hrec56 hrec69 _ _ _ _ _ _ _ _ _ _ h)
    · refine r_iload (i := 9) hX d_M_write_94 0  rfl ?_
      refine r_iconst (v := (4 : Int32)) hX d_M_write_96 rfl ?_
      refine r_irem hX d_M_write_97 (by decide) ?_
      refine r_goto hX d_M_write_98 rfl ?_
      exact rj_sub [2, 3, 4, 5, 6, 1, 7, 8] rfl (P_M_write_148 hX hM hR hrec56 hrec69 _ _ _ _ _ _ _ _ _ _ h)
def F_M_write_69 (rec56 : Nat → Int32 → Int32 → Int32 → Int32 → Int32 → Int32 → AW → Option (Int32 × AW)) : Nat → Nat → Int32 → Int32 → Int32 → Int32 → Int32 → Int32 → Int32 → AW → Option (Int32 × AW)
  | 0 => fun _ _ _ _ _ _ _ _ _ => none
  | n + 1 => fun a0 x1 x2 x4 x5 x6 x7 x8 w => F_M_write_69_B rec56 (F_M_write_69 rec56 n) a0 x1 x2 x4 x5 x6 x7 x8 w
theorem P_M_write_69 {X : AX} {l : Launch} {G : AG} {rec56 : Nat → Int32 → Int32 → Int32 → Int32 → Int32 → Int32 → AW → Option (Int32 × AW)} (hX : XOK X b_M_write "RedSkyModel" 12) (hM : XM X l G { frames := 4, cells := 0, slots := 0, locals := 88 }) {o : Int32 × AW} (hR : XR X (some .int) 0 0 (some (vi o.1)) o.2) (hrec56 : ∀ (a0 : Nat) (x1 : Int32) (x2 : Int32) (x4 : Int32) (x5 : Int32) (x6 : Int32) (x7 : Int32) (w : AW), rec56 a0 x1 x2 x4 x5 x6 x7 w = some o → RJ X 12 0 0 56 [(0, vr a0), (1, vi x1), (2, vi x2), (4, vi x4), (5, vi x5), (6, vi x6), (7, vi x7)] [] w) (fu : Nat) : ∀ (a0 : Nat) (x1 : Int32) (x2 : Int32) (x4 : Int32) (x5 : Int32) (x6 : Int32) (x7 : Int32) (x8 : Int32) (w : AW), F_M_write_69 rec56 fu a0 x1 x2 x4 x5 x6 x7 x8 w = some o → RJ X 12 0 0 69 [(0, vr a0), (1, vi x1), (2, vi x2), (4, vi x4), (5, vi x5), (6, vi x6), (7, vi x7), (8, vi x8)] [] w := by
  induction fu with
  | zero => intro a0 x1 x2 x4 x5 x6 x7 x8 w h; cases h
  | succ n9 ih => intro a0 x1 x2 x4 x5 x6 x7 x8 w h; exact P_M_write_69_B hX hM hR hrec56 ih _ _ _ _ _ _ _ _ _ h
def F_M_write_56_B (rec56 : Nat → Int32 → Int32 → Int32 → Int32 → Int32 → Int32 → AW → Option (Int32 × AW)) (a0 : Nat) (x1 : Int32) (x2 : Int32) (x4 : Int32) (x5 : Int32) (x6 : Int32) (x7 : Int32) (w : AW) : Option (Int32 × AW) :=
  gd (wk w a0 == 13) <|
  (F_M_yearEnd w a0 x2).bind fun r2 =>
  if r2 ≤ x7 then
    some (x5, w)
  else
    F_M_write_69 rec56 FUEL a0 x1 x2 x4 x5 x6 x7 (0 : Int32) w
theorem P_M_write_56_B {X : AX} {l : Launch} {G : AG} {rec56 : Nat → Int32 → Int32 → Int32 → Int32 → Int32 → Int32 → AW → Option (Int32 × AW)} (hX : XOK X b_M_write "RedSkyModel" 12) (hM : XM X l G { frames := 4, cells := 0, slots := 0, locals := 88 }) {o : Int32 × AW} (hR : XR X (some .int) 0 0 (some (vi o.1)) o.2) (hrec56 : ∀ (a0 : Nat) (x1 : Int32) (x2 : Int32) (x4 : Int32) (x5 : Int32) (x6 : Int32) (x7 : Int32) (w : AW), rec56 a0 x1 x2 x4 x5 x6 x7 w = some o → RJ X 12 0 0 56 [(0, vr a0), (1, vi x1), (2, vi x2), (4, vi x4), (5, vi x5), (6, vi x6), (7, vi x7)] [] w) (a0 : Nat) (x1 : Int32) (x2 : Int32) (x4 : Int32) (x5 : Int32) (x6 : Int32) (x7 : Int32) (w : AW) (h : F_M_write_56_B rec56 a0 x1 x2 x4 x5 x6 x7 w = some o) : RJ X 12 0 0 56 [(0, vr a0), (1, vi x1), (2, vi x2), (4, vi x4), (5, vi x5), (6, vi x6), (7, vi x7)] [] w := by
  unfold F_M_write_56_B at h
  refine r_iload (i := 7) hX d_M_write_56 6  rfl ?_
  refine r_aload_n (i := 0) hX d_M_write_58 0 rfl rfl ?_
  refine r_iload_n (i := 2) hX d_M_write_59 2 rfl rfl ?_
  obtain ⟨hk1, h⟩ := gd_e h
  obtain ⟨r2, hr3, h⟩ := bd_e h
  refine r_callV1 (As := [_]) hX hM mw_M_160 (T_M_yearEnd _ _ _ hr3) (rc_of ci_12 hk1) rfl rfl ⟨Nat.le_refl _, Nat.le_refl _⟩ rfl rfl d_M_write_60 ?_
  refine r_icmp_ge hX d_M_write_63 rfl h (fun h => ?_) (fun h => ?_)
  · refine r_iload (i := 5) hX d_M_write_227 4  rfl ?_
    cases h; exact r_iret hX hR d_M_write_229
  · refine r_iconst (v := (0 : Int32)) hX d_M_write_66 rfl ?_
    refine r_istore (i := 8) hX d_M_write_67  (by decide) ?_
    exact rj_sub [1, 2, 3, 4, 5, 6, 7, 0] rfl (P_M_write_69 hX hM hR hrec56 FUEL _ _ _ _ _ _ _ _ _ h)
def F_M_write_56 : Nat → Nat → Int32 → Int32 → Int32 → Int32 → Int32 → Int32 → AW → Option (Int32 × AW)
  | 0 => fun _ _ _ _ _ _ _ _ => none
  | n + 1 => fun a0 x1 x2 x4 x5 x6 x7 w => F_M_write_56_B (F_M_write_56 n) a0 x1 x2 x4 x5 x6 x7 w
theorem P_M_write_56 {X : AX} {l : Launch} {G : AG} (hX : XOK X b_M_write "RedSkyModel" 12) (hM : XM X l G { frames := 4, cells := 0, slots := 0, locals := 88 }) {o : Int32 × AW} (hR : XR X (some .int) 0 0 (some (vi o.1)) o.2) (fu : Nat) : ∀ (a0 : Nat) (x1 : Int32) (x2 : Int32) (x4 : Int32) (x5 : Int32) (x6 : Int32) (x7 : Int32) (w : AW), F_M_write_56 fu a0 x1 x2 x4 x5 x6 x7 w = some o → RJ X 12 0 0 56 [(0, vr a0), (1, vi x1), (2, vi x2), (4, vi x4), (5, vi x5), (6, vi x6), (7, vi x7)] [] w := by
  induction fu with
  | zero => intro a0 x1 x2 x4 x5 x6 x7 w h; cases h
  | succ n9 ih => intro a0 x1 x2 x4 x5 x6 x7 w h; exact P_M_write_56_B hX hM hR ih _ _ _ _ _ _ _ _ h
def F_M_write (a0 : Nat) (x1 : Int32) (x2 : Int32) (x3 : Int32) (x4 : Int32) (w : AW) : Option (Int32 × AW) :=
  if (F_M_isValley x1) = 0 then
    some ((-101 : Int32), w)
  else
    if (F_M_in (Int32.toInt64 x2) (0 : Int64) (3 : Int64)) = 0 then
      some ((-101 : Int32), w)
    else
      if x3 < 0 then
        some ((-102 : Int32), w)
      else
        if (F_M_in (Int32.toInt64 x4) (0 : Int64) (1000 : Int64)) = 0 then
          some ((-102 : Int32), w)
        else
          gd (wk w a0 == 13) <|
          (F_M_begin w a0 x2 (1 : Int32)).bind fun r2 =>
          F_M_write_56 FUEL a0 x1 x2 x4 (0 : Int32) x3 r2 w
theorem P_M_write_0 {X : AX} {l : Launch} {G : AG} (hX : XOK X b_M_write "RedSkyModel" 12) (hM : XM X l G { frames := 4, cells := 0, slots := 0, locals := 88 }) {o : Int32 × AW} (hR : XR X (some .int) 0 0 (some (vi o.1)) o.2) (a0 : Nat) (x1 : Int32) (x2 : Int32) (x3 : Int32) (x4 : Int32) (w : AW) (h : F_M_write a0 x1 x2 x3 x4 w = some o) : RJ X 12 0 0 0 [(0, vr a0), (1, vi x1), (2, vi x2), (3, vi x3), (4, vi x4)] [] w := by
  unfold F_M_write at h
  refine r_iload_n (i := 1) hX d_M_write_0 1 rfl rfl ?_
  refine r_callS1 (As := [_]) hX hM mw_M_155 (T_M_isValley _ _) rfl rfl ⟨Nat.le_refl _, Nat.le_refl _⟩ rfl rfl d_M_write_1 ?_
  refine r_if_eq hX d_M_write_4 rfl h (fun h => ?_) (fun h => ?_)
  · refine r_bipush (v := (-101 : Int32)) hX d_M_write_19 rfl ?_
    cases h; exact r_iret hX hR d_M_write_21
  · refine r_iload_n (i := 2) hX d_M_write_7 2 rfl rfl ?_
    refine r_i2l hX d_M_write_8 ?_
    refine r_lconst (v := (0 : Int64)) hX d_M_write_9 rfl ?_
    refine r_ldc2 hX d_M_write_10 cw_M_126 ?_
    refine r_callS1 (As := [_, _, _]) hX hM mw_M_122 (T_M_in _ _ _ _) rfl rfl ⟨Nat.le_refl _, Nat.le_refl _⟩ rfl rfl d_M_write_13 ?_
    refine r_if_ne hX d_M_write_16 rfl h (fun h => ?_) (fun h => ?_)
    · refine r_iload_n (i := 3) hX d_M_write_22 3 rfl rfl ?_
      refine r_if_lt hX d_M_write_23 rfl h (fun h => ?_) (fun h => ?_)
      · refine r_bipush (v := (-102 : Int32)) hX d_M_write_39 rfl ?_
        cases h; exact r_iret hX hR d_M_write_41
      · refine r_iload (i := 4) hX d_M_write_26 4  rfl ?_
        refine r_i2l hX d_M_write_28 ?_
        refine r_lconst (v := (0 : Int64)) hX d_M_write_29 rfl ?_
        refine r_ldc2 hX d_M_write_30 cw_M_158 ?_
        refine r_callS1 (As := [_, _, _]) hX hM mw_M_122 (T_M_in _ _ _ _) rfl rfl ⟨Nat.le_refl _, Nat.le_refl _⟩ rfl rfl d_M_write_33 ?_
        refine r_if_ne hX d_M_write_36 rfl h (fun h => ?_) (fun h => ?_)
        · refine r_iconst (v := (0 : Int32)) hX d_M_write_42 rfl ?_
          refine r_istore (i := 5) hX d_M_write_43  (by decide) ?_
          refine r_iload_n (i := 3) hX d_M_write_45 4 rfl rfl ?_
          refine r_istore (i := 6) hX d_M_write_46  (by decide) ?_
          refine r_aload_n (i := 0) hX d_M_write_48 2 rfl rfl ?_
          refine r_iload_n (i := 2) hX d_M_write_49 4 rfl rfl ?_
          refine r_iconst (v := (1 : Int32)) hX d_M_write_50 rfl ?_
          obtain ⟨hk1, h⟩ := gd_e h
          obtain ⟨r2, hr3, h⟩ := bd_e h
          refine r_callV1 (As := [_, _]) hX hM mw_M_110 (T_M_begin _ _ _ _ hr3) (rc_of ci_12 hk1) rfl rfl ⟨Nat.le_refl _, Nat.le_refl _⟩ rfl rfl d_M_write_51 ?_
          refine r_istore (i := 7) hX d_M_write_54  (by decide) ?_
          exact rj_sub [3, 4, 5, 7, 2, 1, 0] rfl (P_M_write_56 hX hM hR FUEL _ _ _ _ _ _ _ _ h)
        · refine r_bipush (v := (-102 : Int32)) hX d_M_write_39 rfl ?_
          cases h; exact r_iret hX hR d_M_write_41
    · refine r_bipush (v := (-101 : Int32)) hX d_M_write_19 rfl ?_
      cases h; exact r_iret hX hR d_M_write_21
theorem T_M_write {l : Launch} {G : AG} (a0 : Nat) (x1 : Int32) (x2 : Int32) (x3 : Int32) (x4 : Int32) (w : AW) {o : Int32 × AW} (h : F_M_write a0 x1 x2 x3 x4 w = some o) : Mt l G y_M_write b_M_write 12 (some (.int)) 4 88 0 0 [vr a0, vi x1, vi x2, vi x3, vi x4] w (some (vi o.1)) o.2 := mt_of (by decide) (Nat.le_of_ble_eq_true rfl) (fun X hX hR hM hI => P_M_write_0 hX hM hR _ _ _ _ _ _ h)
/-! RedSky.set(IIIIZ)I -/
theorem d_A_set_0 : decode b_A_set 0 = .ok (.aload_n 0, 1) := by decide +kernel
theorem d_A_set_1 : decode b_A_set 1 = .ok (.iload_n 1, 1) := by decide +kernel
theorem d_A_set_2 : decode b_A_set 2 = .ok (.invokevirtual 141, 3) := by decide +kernel
theorem d_A_set_5 : decode b_A_set 5 = .ok (.astore 6, 2) := by decide +kernel
theorem d_A_set_7 : decode b_A_set 7 = .ok (.aload 6, 2) := by decide +kernel
theorem d_A_set_9 : decode b_A_set 9 = .ok (.ifnull (17), 3) := by decide +kernel
theorem d_A_set_12 : decode b_A_set 12 = .ok (.iload_n 2, 1) := by decide +kernel
theorem d_A_set_13 : decode b_A_set 13 = .ok (.invokestatic 111, 3) := by decide +kernel
theorem d_A_set_16 : decode b_A_set 16 = .ok (.ifCond .eq (10), 3) := by decide +kernel
theorem d_A_set_19 : decode b_A_set 19 = .ok (.iload_n 3, 1) := by decide +kernel
theorem d_A_set_20 : decode b_A_set 20 = .ok (.invokestatic 158, 3) := by decide +kernel
theorem d_A_set_23 : decode b_A_set 23 = .ok (.ifCond .ne (6), 3) := by decide +kernel
theorem d_A_set_26 : decode b_A_set 26 = .ok (.bipush (-101), 2) := by decide +kernel
theorem d_A_set_28 : decode b_A_set 28 = .ok (.ireturn, 1) := by decide +kernel
theorem d_A_set_29 : decode b_A_set 29 = .ok (.iload 4, 2) := by decide +kernel
theorem d_A_set_31 : decode b_A_set 31 = .ok (.getstatic 161, 3) := by decide +kernel
theorem d_A_set_34 : decode b_A_set 34 = .ok (.iload_n 3, 1) := by decide +kernel
theorem d_A_set_35 : decode b_A_set 35 = .ok (.iaload, 1) := by decide +kernel
theorem d_A_set_36 : decode b_A_set 36 = .ok (.getstatic 164, 3) := by decide +kernel
theorem d_A_set_39 : decode b_A_set 39 = .ok (.iload_n 3, 1) := by decide +kernel
theorem d_A_set_40 : decode b_A_set 40 = .ok (.iaload, 1) := by decide +kernel
theorem d_A_set_41 : decode b_A_set 41 = .ok (.invokestatic 86, 3) := by decide +kernel
theorem d_A_set_44 : decode b_A_set 44 = .ok (.ifCond .ne (6), 3) := by decide +kernel
theorem d_A_set_47 : decode b_A_set 47 = .ok (.bipush (-102), 2) := by decide +kernel
theorem d_A_set_49 : decode b_A_set 49 = .ok (.ireturn, 1) := by decide +kernel
theorem d_A_set_50 : decode b_A_set 50 = .ok (.aload 6, 2) := by decide +kernel
theorem d_A_set_52 : decode b_A_set 52 = .ok (.iload_n 2, 1) := by decide +kernel
theorem d_A_set_53 : decode b_A_set 53 = .ok (.iload_n 3, 1) := by decide +kernel
theorem d_A_set_54 : decode b_A_set 54 = .ok (.invokevirtual 167, 3) := by decide +kernel
theorem d_A_set_57 : decode b_A_set 57 = .ok (.istore 7, 2) := by decide +kernel
theorem d_A_set_59 : decode b_A_set 59 = .ok (.aload 6, 2) := by decide +kernel
theorem d_A_set_61 : decode b_A_set 61 = .ok (.iload_n 2, 1) := by decide +kernel
theorem d_A_set_62 : decode b_A_set 62 = .ok (.iload_n 3, 1) := by decide +kernel
theorem d_A_set_63 : decode b_A_set 63 = .ok (.iload 5, 2) := by decide +kernel
theorem d_A_set_65 : decode b_A_set 65 = .ok (.ifCond .eq (8), 3) := by decide +kernel
theorem d_A_set_68 : decode b_A_set 68 = .ok (.iload 4, 2) := by decide +kernel
theorem d_A_set_70 : decode b_A_set 70 = .ok (.goto (6), 3) := by decide +kernel
theorem d_A_set_73 : decode b_A_set 73 = .ok (.sipush (-1000), 3) := by decide +kernel
theorem d_A_set_76 : decode b_A_set 76 = .ok (.invokevirtual 170, 3) := by decide +kernel
theorem d_A_set_79 : decode b_A_set 79 = .ok (.iload 7, 2) := by decide +kernel
theorem d_A_set_81 : decode b_A_set 81 = .ok (.sipush (-1000), 3) := by decide +kernel
theorem d_A_set_84 : decode b_A_set 84 = .ok (.if_icmp .ne (7), 3) := by decide +kernel
theorem d_A_set_87 : decode b_A_set 87 = .ok (.iconst 0, 1) := by decide +kernel
theorem d_A_set_88 : decode b_A_set 88 = .ok (.goto (4), 3) := by decide +kernel
theorem d_A_set_91 : decode b_A_set 91 = .ok (.iconst 1, 1) := by decide +kernel
theorem d_A_set_92 : decode b_A_set 92 = .ok (.ireturn, 1) := by decide +kernel
def F_A_set_76 (x7 : Int32) (s3 : Int32) (s2 : Int32) (s1 : Int32) (s0 : Nat) (w : AW) : Option (Int32 × AW) :=
  gd (wk w s0 == 3) <|
  (F_Di_putField s0 s1 s2 s3 w).bind fun r2 =>
  if x7 = (-1000 : Int32) then
    some ((0 : Int32), r2)
  else
    some ((1 : Int32), r2)
theorem P_A_set_76 {X : AX} {l : Launch} {G : AG} (hX : XOK X b_A_set "RedSky" 8) (hM : XM X l G { frames := 3, cells := 0, slots := 0, locals := 66 }) {o : Int32 × AW} (hR : XR X (some .int) 0 0 (some (vi o.1)) o.2) (x7 : Int32) (s3 : Int32) (s2 : Int32) (s1 : Int32) (s0 : Nat) (w : AW) (h : F_A_set_76 x7 s3 s2 s1 s0 w = some o) : RJ X 8 0 0 76 [(7, vi x7)] [vi s3, vi s2, vi s1, vr s0] w := by
  unfold F_A_set_76 at h
  obtain ⟨hk1, h⟩ := gd_e h
  obtain ⟨r2, hr3, h⟩ := bd_e h
  refine r_callV0 (As := [_, _, _]) hX hM mw_A_170 (T_Di_putField _ _ _ _ _ hr3) (rc_of ci_2 hk1) rfl rfl ⟨Nat.le_refl _, Nat.le_refl _⟩ rfl rfl d_A_set_76 ?_
  refine r_iload (i := 7) hX d_A_set_79 0  rfl ?_
  refine r_sipush (v := (-1000 : Int32)) hX d_A_set_81 rfl ?_
  refine r_icmp_ne hX d_A_set_84 rfl h (fun h => ?_) (fun h => ?_)
  · refine r_iconst (v := (1 : Int32)) hX d_A_set_91 rfl ?_
    cases h; exact r_iret hX hR d_A_set_92
  · refine r_iconst (v := (0 : Int32)) hX d_A_set_87 rfl ?_
    refine r_goto hX d_A_set_88 rfl ?_
    cases h; exact r_iret hX hR d_A_set_92
def F_A_set (a0 : Nat) (x1 : Int32) (x2 : Int32) (x3 : Int32) (x4 : Int32) (x5 : Int32) (w : AW) : Option (Int32 × AW) :=
  gd (wk w a0 == 1) <|
  (F_A_diaryOf w a0 x1).bind fun r2 =>
  if r2 = 0 then
    some ((-101 : Int32), w)
  else
    if (F_A_isDay x2) = 0 then
      some ((-101 : Int32), w)
    else
      if (F_A_isField x3) = 0 then
        some ((-101 : Int32), w)
      else
        gd (wk w 3 == 110) <|
        gd (inb x3 (wn w 3)) <|
        gd (wk w 4 == 110) <|
        gd (inb x3 (wn w 4)) <|
        if (F_A_within x4 (wi w 3 (Int32.toNatClampNeg x3)) (wi w 4 (Int32.toNatClampNeg x3))) = 0 then
          some ((-102 : Int32), w)
        else
          gd (wk w r2 == 3) <|
          (F_Di_fieldAt w r2 x2 x3).bind fun r9 =>
          if x5 = 0 then
            F_A_set_76 r9 (-1000 : Int32) x3 x2 r2 w
          else
            F_A_set_76 r9 x4 x3 x2 r2 w
theorem P_A_set_0 {X : AX} {l : Launch} {G : AG} (hX : XOK X b_A_set "RedSky" 8) (hM : XM X l G { frames := 3, cells := 0, slots := 0, locals := 66 }) {o : Int32 × AW} (hR : XR X (some .int) 0 0 (some (vi o.1)) o.2) (a0 : Nat) (x1 : Int32) (x2 : Int32) (x3 : Int32) (x4 : Int32) (x5 : Int32) (w : AW) (h : F_A_set a0 x1 x2 x3 x4 x5 w = some o) : RJ X 8 0 0 0 [(0, vr a0), (1, vi x1), (2, vi x2), (3, vi x3), (4, vi x4), (5, vi x5)] [] w := by
  unfold F_A_set at h
  refine r_aload_n (i := 0) hX d_A_set_0 0 rfl rfl ?_
  refine r_iload_n (i := 1) hX d_A_set_1 1 rfl rfl ?_
  obtain ⟨hk1, h⟩ := gd_e h
  obtain ⟨r2, hr3, h⟩ := bd_e h
  refine r_callV1 (As := [_]) hX hM mw_A_141 (T_A_diaryOf _ _ _ hr3) (rc_of ci_0 hk1) rfl rfl ⟨Nat.le_refl _, Nat.le_refl _⟩ rfl rfl d_A_set_2 ?_
  refine r_astore (i := 6) hX d_A_set_5  (by decide) ?_
  refine r_aload (i := 6) hX d_A_set_7 0  rfl ?_
  refine r_ifnull hX d_A_set_9 rfl h (fun h => ?_) (fun h => ?_)
  · refine r_bipush (v := (-101 : Int32)) hX d_A_set_26 rfl ?_
    cases h; exact r_iret hX hR d_A_set_28
  · refine r_iload_n (i := 2) hX d_A_set_12 3 rfl rfl ?_
    refine r_callS1 (As := [_]) hX hM mw_A_111 (T_A_isDay _ _) rfl rfl ⟨Nat.le_refl _, Nat.le_refl _⟩ rfl rfl d_A_set_13 ?_
    refine r_if_eq hX d_A_set_16 rfl h (fun h => ?_) (fun h => ?_)
    · refine r_bipush (v := (-101 : Int32)) hX d_A_set_26 rfl ?_
      cases h; exact r_iret hX hR d_A_set_28
    · refine r_iload_n (i := 3) hX d_A_set_19 4 rfl rfl ?_
      refine r_callS1 (As := [_]) hX hM mw_A_158 (T_A_isField _ _) rfl rfl ⟨Nat.le_refl _, Nat.le_refl _⟩ rfl rfl d_A_set_20 ?_
      refine r_if_ne hX d_A_set_23 rfl h (fun h => ?_) (fun h => ?_)
      · refine r_iload (i := 4) hX d_A_set_29 5  rfl ?_
        refine r_gets (v := vr 3) hX (List.mem_of_getElem? (i := 1) rfl) fl_A_161 d_A_set_31 ?_
        refine r_iload_n (i := 3) hX d_A_set_34 4 rfl rfl ?_
        obtain ⟨hk4, h⟩ := gd_e h
        obtain ⟨hg5, h⟩ := gd_e h
        refine r_xald hX hk4 hg5 d_A_set_35 ?_
        refine r_gets (v := vr 4) hX (List.mem_of_getElem? (i := 2) rfl) fl_A_164 d_A_set_36 ?_
        refine r_iload_n (i := 3) hX d_A_set_39 4 rfl rfl ?_
        obtain ⟨hk6, h⟩ := gd_e h
        obtain ⟨hg7, h⟩ := gd_e h
        refine r_xald hX hk6 hg7 d_A_set_40 ?_
        refine r_callS1 (As := [_, _, _]) hX hM mw_A_86 (T_A_within _ _ _ _) rfl rfl ⟨Nat.le_refl _, Nat.le_refl _⟩ rfl rfl d_A_set_41 ?_
        refine r_if_ne hX d_A_set_44 rfl h (fun h => ?_) (fun h => ?_)
        · refine r_aload (i := 6) hX d_A_set_50 0  rfl ?_
          refine r_iload_n (i := 2) hX d_A_set_52 3 rfl rfl ?_
          refine r_iload_n (i := 3) hX d_A_set_53 4 rfl rfl ?_
          obtain ⟨hk8, h⟩ := gd_e h
          obtain ⟨r9, hr10, h⟩ := bd_e h
          refine r_callV1 (As := [_, _]) hX hM mw_A_167 (T_Di_fieldAt _ _ _ _ hr10) (rc_of ci_2 hk8) rfl rfl ⟨Nat.le_refl _, Nat.le_refl _⟩ rfl rfl d_A_set_54 ?_
          refine r_istore (i := 7) hX d_A_set_57  (by decide) ?_
          refine r_aload (i := 6) hX d_A_set_59 1  rfl ?_
          refine r_iload_n (i := 2) hX d_A_set_61 4 rfl rfl ?_
          refine r_iload_n (i := 3) hX d_A_set_62 5 rfl rfl ?_
          refine r_iload (i := 5) hX d_A_set_63 7  rfl ?_
          refine r_if_eq hX d_A_set_65 rfl h (fun h => ?_) (fun h => ?_)
          · refine r_sipush (v := (-1000 : Int32)) hX d_A_set_73 rfl ?_
            exact rj_sub [0] rfl (P_A_set_76 hX hM hR _ _ _ _ _ _ h)
          · refine r_iload (i := 4) hX d_A_set_68 6  rfl ?_
            refine r_goto hX d_A_set_70 rfl ?_
            exact rj_sub [0] rfl (P_A_set_76 hX hM hR _ _ _ _ _ _ h)
        · refine r_bipush (v := (-102 : Int32)) hX d_A_set_47 rfl ?_
          cases h; exact r_iret hX hR d_A_set_49
      · refine r_bipush (v := (-101 : Int32)) hX d_A_set_26 rfl ?_
        cases h; exact r_iret hX hR d_A_set_28
theorem T_A_set {l : Launch} {G : AG} (a0 : Nat) (x1 : Int32) (x2 : Int32) (x3 : Int32) (x4 : Int32) (x5 : Int32) (w : AW) {o : Int32 × AW} (h : F_A_set a0 x1 x2 x3 x4 x5 w = some o) : Mt l G y_A_set b_A_set 8 (some (.int)) 3 66 0 0 [vr a0, vi x1, vi x2, vi x3, vi x4, vi x5] w (some (vi o.1)) o.2 := mt_of (by decide) (Nat.le_of_ble_eq_true rfl) (fun X hX hR hM hI => P_A_set_0 hX hM hR _ _ _ _ _ _ _ h)
/-! RedSkyModel.set(IIIIZ)I -/
theorem d_M_set_0 : decode b_M_set 0 = .ok (.iload_n 1, 1) := by decide +kernel
theorem d_M_set_1 : decode b_M_set 1 = .ok (.invokestatic 155, 3) := by decide +kernel
theorem d_M_set_4 : decode b_M_set 4 = .ok (.ifCond .eq (22), 3) := by decide +kernel
theorem d_M_set_7 : decode b_M_set 7 = .ok (.iload_n 2, 1) := by decide +kernel
theorem d_M_set_8 : decode b_M_set 8 = .ok (.invokestatic 136, 3) := by decide +kernel
theorem d_M_set_11 : decode b_M_set 11 = .ok (.ifCond .eq (15), 3) := by decide +kernel
theorem d_M_set_14 : decode b_M_set 14 = .ok (.iload_n 3, 1) := by decide +kernel
theorem d_M_set_15 : decode b_M_set 15 = .ok (.i2l, 1) := by decide +kernel
theorem d_M_set_16 : decode b_M_set 16 = .ok (.lconst 0, 1) := by decide +kernel
theorem d_M_set_17 : decode b_M_set 17 = .ok (.ldc2_w 126, 3) := by decide +kernel
theorem d_M_set_20 : decode b_M_set 20 = .ok (.invokestatic 122, 3) := by decide +kernel
theorem d_M_set_23 : decode b_M_set 23 = .ok (.ifCond .ne (6), 3) := by decide +kernel
theorem d_M_set_26 : decode b_M_set 26 = .ok (.bipush (-101), 2) := by decide +kernel
theorem d_M_set_28 : decode b_M_set 28 = .ok (.ireturn, 1) := by decide +kernel
theorem d_M_set_29 : decode b_M_set 29 = .ok (.iload 4, 2) := by decide +kernel
theorem d_M_set_31 : decode b_M_set 31 = .ok (.i2l, 1) := by decide +kernel
theorem d_M_set_32 : decode b_M_set 32 = .ok (.iload_n 3, 1) := by decide +kernel
theorem d_M_set_33 : decode b_M_set 33 = .ok (.iconst 3, 1) := by decide +kernel
theorem d_M_set_34 : decode b_M_set 34 = .ok (.if_icmp .ne (9), 3) := by decide +kernel
theorem d_M_set_37 : decode b_M_set 37 = .ok (.ldc2_w 144, 3) := by decide +kernel
theorem d_M_set_40 : decode b_M_set 40 = .ok (.goto (4), 3) := by decide +kernel
theorem d_M_set_43 : decode b_M_set 43 = .ok (.lconst 0, 1) := by decide +kernel
theorem d_M_set_44 : decode b_M_set 44 = .ok (.iload_n 3, 1) := by decide +kernel
theorem d_M_set_45 : decode b_M_set 45 = .ok (.ifCond .ne (9), 3) := by decide +kernel
theorem d_M_set_48 : decode b_M_set 48 = .ok (.ldc2_w 126, 3) := by decide +kernel
theorem d_M_set_51 : decode b_M_set 51 = .ok (.goto (28), 3) := by decide +kernel
theorem d_M_set_54 : decode b_M_set 54 = .ok (.iload_n 3, 1) := by decide +kernel
theorem d_M_set_55 : decode b_M_set 55 = .ok (.iconst 1, 1) := by decide +kernel
theorem d_M_set_56 : decode b_M_set 56 = .ok (.if_icmp .ne (9), 3) := by decide +kernel
theorem d_M_set_59 : decode b_M_set 59 = .ok (.ldc2_w 170, 3) := by decide +kernel
theorem d_M_set_62 : decode b_M_set 62 = .ok (.goto (17), 3) := by decide +kernel
theorem d_M_set_65 : decode b_M_set 65 = .ok (.iload_n 3, 1) := by decide +kernel
theorem d_M_set_66 : decode b_M_set 66 = .ok (.iconst 2, 1) := by decide +kernel
theorem d_M_set_67 : decode b_M_set 67 = .ok (.if_icmp .ne (9), 3) := by decide +kernel
theorem d_M_set_70 : decode b_M_set 70 = .ok (.ldc2_w 172, 3) := by decide +kernel
theorem d_M_set_73 : decode b_M_set 73 = .ok (.goto (6), 3) := by decide +kernel
theorem d_M_set_76 : decode b_M_set 76 = .ok (.ldc2_w 174, 3) := by decide +kernel
theorem d_M_set_79 : decode b_M_set 79 = .ok (.invokestatic 122, 3) := by decide +kernel
theorem d_M_set_82 : decode b_M_set 82 = .ok (.ifCond .ne (6), 3) := by decide +kernel
theorem d_M_set_85 : decode b_M_set 85 = .ok (.bipush (-102), 2) := by decide +kernel
theorem d_M_set_87 : decode b_M_set 87 = .ok (.ireturn, 1) := by decide +kernel
theorem d_M_set_88 : decode b_M_set 88 = .ok (.aload_n 0, 1) := by decide +kernel
theorem d_M_set_89 : decode b_M_set 89 = .ok (.getfield 22, 3) := by decide +kernel
theorem d_M_set_92 : decode b_M_set 92 = .ok (.iload_n 1, 1) := by decide +kernel
theorem d_M_set_93 : decode b_M_set 93 = .ok (.iload_n 2, 1) := by decide +kernel
theorem d_M_set_94 : decode b_M_set 94 = .ok (.iload_n 3, 1) := by decide +kernel
theorem d_M_set_95 : decode b_M_set 95 = .ok (.invokestatic 167, 3) := by decide +kernel
theorem d_M_set_98 : decode b_M_set 98 = .ok (.iaload, 1) := by decide +kernel
theorem d_M_set_99 : decode b_M_set 99 = .ok (.sipush (-1000), 3) := by decide +kernel
theorem d_M_set_102 : decode b_M_set 102 = .ok (.if_icmp .ne (7), 3) := by decide +kernel
theorem d_M_set_105 : decode b_M_set 105 = .ok (.iconst 0, 1) := by decide +kernel
theorem d_M_set_106 : decode b_M_set 106 = .ok (.goto (4), 3) := by decide +kernel
theorem d_M_set_109 : decode b_M_set 109 = .ok (.iconst 1, 1) := by decide +kernel
theorem d_M_set_110 : decode b_M_set 110 = .ok (.istore 6, 2) := by decide +kernel
theorem d_M_set_112 : decode b_M_set 112 = .ok (.aload_n 0, 1) := by decide +kernel
theorem d_M_set_113 : decode b_M_set 113 = .ok (.getfield 22, 3) := by decide +kernel
theorem d_M_set_116 : decode b_M_set 116 = .ok (.iload_n 1, 1) := by decide +kernel
theorem d_M_set_117 : decode b_M_set 117 = .ok (.iload_n 2, 1) := by decide +kernel
theorem d_M_set_118 : decode b_M_set 118 = .ok (.iload_n 3, 1) := by decide +kernel
theorem d_M_set_119 : decode b_M_set 119 = .ok (.invokestatic 167, 3) := by decide +kernel
theorem d_M_set_122 : decode b_M_set 122 = .ok (.iload 5, 2) := by decide +kernel
theorem d_M_set_124 : decode b_M_set 124 = .ok (.ifCond .eq (8), 3) := by decide +kernel
theorem d_M_set_127 : decode b_M_set 127 = .ok (.iload 4, 2) := by decide +kernel
theorem d_M_set_129 : decode b_M_set 129 = .ok (.goto (6), 3) := by decide +kernel
theorem d_M_set_132 : decode b_M_set 132 = .ok (.sipush (-1000), 3) := by decide +kernel
theorem d_M_set_135 : decode b_M_set 135 = .ok (.iastore, 1) := by decide +kernel
theorem d_M_set_136 : decode b_M_set 136 = .ok (.iload 6, 2) := by decide +kernel
theorem d_M_set_138 : decode b_M_set 138 = .ok (.ireturn, 1) := by decide +kernel
def F_M_set_110 (a0 : Nat) (x1 : Int32) (x2 : Int32) (x3 : Int32) (x4 : Int32) (x5 : Int32) (s0 : Int32) (w : AW) : Option (Int32 × AW) :=
  gd (wk w a0 == 13) <|
  if x5 = 0 then
    gd (wk w (wr w a0 5) == 100) <|
    gd (inb (F_M_at x1 x2 x3) (wn w (wr w a0 5))) <|
    let w4 : AW := upI w (wr w a0 5) (Int32.toNatClampNeg (F_M_at x1 x2 x3)) (-1000 : Int32)
    some (s0, w4)
  else
    gd (wk w (wr w a0 5) == 100) <|
    gd (inb (F_M_at x1 x2 x3) (wn w (wr w a0 5))) <|
    let w7 : AW := upI w (wr w a0 5) (Int32.toNatClampNeg (F_M_at x1 x2 x3)) x4
    some (s0, w7)
theorem P_M_set_110 {X : AX} {l : Launch} {G : AG} (hX : XOK X b_M_set "RedSkyModel" 7) (hM : XM X l G { frames := 2, cells := 0, slots := 0, locals := 45 }) {o : Int32 × AW} (hR : XR X (some .int) 0 0 (some (vi o.1)) o.2) (a0 : Nat) (x1 : Int32) (x2 : Int32) (x3 : Int32) (x4 : Int32) (x5 : Int32) (s0 : Int32) (w : AW) (h : F_M_set_110 a0 x1 x2 x3 x4 x5 s0 w = some o) : RJ X 7 0 0 110 [(0, vr a0), (1, vi x1), (2, vi x2), (3, vi x3), (4, vi x4), (5, vi x5)] [vi s0] w := by
  unfold F_M_set_110 at h
  refine r_istore (i := 6) hX d_M_set_110  (by decide) ?_
  refine r_aload_n (i := 0) hX d_M_set_112 1 rfl rfl ?_
  obtain ⟨hk1, h⟩ := gd_e h
  refine r_getR (i := 12) (f := 5) hX ci_12 (by decide) rfl fl_M_22 hk1 d_M_set_113 ?_
  refine r_iload_n (i := 1) hX d_M_set_116 2 rfl rfl ?_
  refine r_iload_n (i := 2) hX d_M_set_117 3 rfl rfl ?_
  refine r_iload_n (i := 3) hX d_M_set_118 4 rfl rfl ?_
  refine r_callS1 (As := [_, _, _]) hX hM mw_M_167 (T_M_at _ _ _ _) rfl rfl ⟨Nat.le_refl _, Nat.le_refl _⟩ rfl rfl d_M_set_119 ?_
  refine r_iload (i := 5) hX d_M_set_122 6  rfl ?_
  refine r_if_eq hX d_M_set_124 rfl h (fun h => ?_) (fun h => ?_)
  · refine r_sipush (v := (-1000 : Int32)) hX d_M_set_132 rfl ?_
    obtain ⟨hk2, h⟩ := gd_e h
    obtain ⟨hg3, h⟩ := gd_e h
    refine r_iast hX hk2 hg3 d_M_set_135 ?_
    refine r_iload (i := 6) hX d_M_set_136 0  rfl ?_
    cases h; exact r_iret hX hR d_M_set_138
  · refine r_iload (i := 4) hX d_M_set_127 5  rfl ?_
    refine r_goto hX d_M_set_129 rfl ?_
    obtain ⟨hk5, h⟩ := gd_e h
    obtain ⟨hg6, h⟩ := gd_e h
    refine r_iast hX hk5 hg6 d_M_set_135 ?_
    refine r_iload (i := 6) hX d_M_set_136 0  rfl ?_
    cases h; exact r_iret hX hR d_M_set_138
def F_M_set_79 (a0 : Nat) (x1 : Int32) (x2 : Int32) (x3 : Int32) (x4 : Int32) (x5 : Int32) (s2 : Int64) (s1 : Int64) (s0 : Int64) (w : AW) : Option (Int32 × AW) :=
  if (F_M_in s0 s1 s2) = 0 then
    some ((-102 : Int32), w)
  else
    gd (wk w a0 == 13) <|
    gd (wk w (wr w a0 5) == 100) <|
    gd (inb (F_M_at x1 x2 x3) (wn w (wr w a0 5))) <|
    if (wi w (wr w a0 5) (Int32.toNatClampNeg (F_M_at x1 x2 x3))) = (-1000 : Int32) then
      F_M_set_110 a0 x1 x2 x3 x4 x5 (0 : Int32) w
    else
      F_M_set_110 a0 x1 x2 x3 x4 x5 (1 : Int32) w
theorem P_M_set_79 {X : AX} {l : Launch} {G : AG} (hX : XOK X b_M_set "RedSkyModel" 7) (hM : XM X l G { frames := 2, cells := 0, slots := 0, locals := 45 }) {o : Int32 × AW} (hR : XR X (some .int) 0 0 (some (vi o.1)) o.2) (a0 : Nat) (x1 : Int32) (x2 : Int32) (x3 : Int32) (x4 : Int32) (x5 : Int32) (s2 : Int64) (s1 : Int64) (s0 : Int64) (w : AW) (h : F_M_set_79 a0 x1 x2 x3 x4 x5 s2 s1 s0 w = some o) : RJ X 7 0 0 79 [(0, vr a0), (1, vi x1), (2, vi x2), (3, vi x3), (4, vi x4), (5, vi x5)] [vl s2, vl s1, vl s0] w := by
  unfold F_M_set_79 at h
  refine r_callS1 (As := [_, _, _]) hX hM mw_M_122 (T_M_in _ _ _ _) rfl rfl ⟨Nat.le_refl _, Nat.le_refl _⟩ rfl rfl d_M_set_79 ?_
  refine r_if_ne hX d_M_set_82 rfl h (fun h => ?_) (fun h => ?_)
  · refine r_aload_n (i := 0) hX d_M_set_88 0 rfl rfl ?_
    obtain ⟨hk1, h⟩ := gd_e h
    refine r_getR (i := 12) (f := 5) hX ci_12 (by decide) rfl fl_M_22 hk1 d_M_set_89 ?_
    refine r_iload_n (i := 1) hX d_M_set_92 1 rfl rfl ?_
    refine r_iload_n (i := 2) hX d_M_set_93 2 rfl rfl ?_
    refine r_iload_n (i := 3) hX d_M_set_94 3 rfl rfl ?_
    refine r_callS1 (As := [_, _, _]) hX hM mw_M_167 (T_M_at _ _ _ _) rfl rfl ⟨Nat.le_refl _, Nat.le_refl _⟩ rfl rfl d_M_set_95 ?_
    obtain ⟨hk2, h⟩ := gd_e h
    obtain ⟨hg3, h⟩ := gd_e h
    refine r_iald hX hk2 hg3 d_M_set_98 ?_
    refine r_sipush (v := (-1000 : Int32)) hX d_M_set_99 rfl ?_
    refine r_icmp_ne hX d_M_set_102 rfl h (fun h => ?_) (fun h => ?_)
    · refine r_iconst (v := (1 : Int32)) hX d_M_set_109 rfl ?_
      exact rj_sub [0, 1, 2, 3, 4, 5] rfl (P_M_set_110 hX hM hR _ _ _ _ _ _ _ _ h)
    · refine r_iconst (v := (0 : Int32)) hX d_M_set_105 rfl ?_
      refine r_goto hX d_M_set_106 rfl ?_
      exact rj_sub [0, 1, 2, 3, 4, 5] rfl (P_M_set_110 hX hM hR _ _ _ _ _ _ _ _ h)
  · refine r_bipush (v := (-102 : Int32)) hX d_M_set_85 rfl ?_
    cases h; exact r_iret hX hR d_M_set_87
def F_M_set_44 (a0 : Nat) (x1 : Int32) (x2 : Int32) (x3 : Int32) (x4 : Int32) (x5 : Int32) (s1 : Int64) (s0 : Int64) (w : AW) : Option (Int32 × AW) :=
  if x3 = 0 then
    F_M_set_79 a0 x1 x2 x3 x4 x5 (3 : Int64) s1 s0 w
  else
    if x3 = (1 : Int32) then
      F_M_set_79 a0 x1 x2 x3 x4 x5 (9 : Int64) s1 s0 w
    else
      if x3 = (2 : Int32) then
        F_M_set_79 a0 x1 x2 x3 x4 x5 (99 : Int64) s1 s0 w
      else
        F_M_set_79 a0 x1 x2 x3 x4 x5 (40 : Int64) s1 s0 w
theorem P_M_set_44 {X : AX} {l : Launch} {G : AG} (hX : XOK X b_M_set "RedSkyModel" 7) (hM : XM X l G { frames := 2, cells := 0, slots := 0, locals := 45 }) {o : Int32 × AW} (hR : XR X (some .int) 0 0 (some (vi o.1)) o.2) (a0 : Nat) (x1 : Int32) (x2 : Int32) (x3 : Int32) (x4 : Int32) (x5 : Int32) (s1 : Int64) (s0 : Int64) (w : AW) (h : F_M_set_44 a0 x1 x2 x3 x4 x5 s1 s0 w = some o) : RJ X 7 0 0 44 [(0, vr a0), (1, vi x1), (2, vi x2), (3, vi x3), (4, vi x4), (5, vi x5)] [vl s1, vl s0] w := by
  unfold F_M_set_44 at h
  refine r_iload_n (i := 3) hX d_M_set_44 3 rfl rfl ?_
  refine r_if_ne hX d_M_set_45 rfl h (fun h => ?_) (fun h => ?_)
  · refine r_iload_n (i := 3) hX d_M_set_54 3 rfl rfl ?_
    refine r_iconst (v := (1 : Int32)) hX d_M_set_55 rfl ?_
    refine r_icmp_ne hX d_M_set_56 rfl h (fun h => ?_) (fun h => ?_)
    · refine r_iload_n (i := 3) hX d_M_set_65 3 rfl rfl ?_
      refine r_iconst (v := (2 : Int32)) hX d_M_set_66 rfl ?_
      refine r_icmp_ne hX d_M_set_67 rfl h (fun h => ?_) (fun h => ?_)
      · refine r_ldc2 hX d_M_set_76 cw_M_174 ?_
        exact rj_sub [0, 1, 2, 3, 4, 5] rfl (P_M_set_79 hX hM hR _ _ _ _ _ _ _ _ _ _ h)
      · refine r_ldc2 hX d_M_set_70 cw_M_172 ?_
        refine r_goto hX d_M_set_73 rfl ?_
        exact rj_sub [0, 1, 2, 3, 4, 5] rfl (P_M_set_79 hX hM hR _ _ _ _ _ _ _ _ _ _ h)
    · refine r_ldc2 hX d_M_set_59 cw_M_170 ?_
      refine r_goto hX d_M_set_62 rfl ?_
      exact rj_sub [0, 1, 2, 3, 4, 5] rfl (P_M_set_79 hX hM hR _ _ _ _ _ _ _ _ _ _ h)
  · refine r_ldc2 hX d_M_set_48 cw_M_126 ?_
    refine r_goto hX d_M_set_51 rfl ?_
    exact rj_sub [0, 1, 2, 3, 4, 5] rfl (P_M_set_79 hX hM hR _ _ _ _ _ _ _ _ _ _ h)
def F_M_set (a0 : Nat) (x1 : Int32) (x2 : Int32) (x3 : Int32) (x4 : Int32) (x5 : Int32) (w : AW) : Option (Int32 × AW) :=
  if (F_M_isValley x1) = 0 then
    some ((-101 : Int32), w)
  else
    if (F_M_isDay x2) = 0 then
      some ((-101 : Int32), w)
    else
      if (F_M_in (Int32.toInt64 x3) (0 : Int64) (3 : Int64)) = 0 then
        some ((-101 : Int32), w)
      else
        if x3 = (3 : Int32) then
          F_M_set_44 a0 x1 x2 x3 x4 x5 (-30 : Int64) (Int32.toInt64 x4) w
        else
          F_M_set_44 a0 x1 x2 x3 x4 x5 (0 : Int64) (Int32.toInt64 x4) w
theorem P_M_set_0 {X : AX} {l : Launch} {G : AG} (hX : XOK X b_M_set "RedSkyModel" 7) (hM : XM X l G { frames := 2, cells := 0, slots := 0, locals := 45 }) {o : Int32 × AW} (hR : XR X (some .int) 0 0 (some (vi o.1)) o.2) (a0 : Nat) (x1 : Int32) (x2 : Int32) (x3 : Int32) (x4 : Int32) (x5 : Int32) (w : AW) (h : F_M_set a0 x1 x2 x3 x4 x5 w = some o) : RJ X 7 0 0 0 [(0, vr a0), (1, vi x1), (2, vi x2), (3, vi x3), (4, vi x4), (5, vi x5)] [] w := by
  unfold F_M_set at h
  refine r_iload_n (i := 1) hX d_M_set_0 1 rfl rfl ?_
  refine r_callS1 (As := [_]) hX hM mw_M_155 (T_M_isValley _ _) rfl rfl ⟨Nat.le_refl _, Nat.le_refl _⟩ rfl rfl d_M_set_1 ?_
  refine r_if_eq hX d_M_set_4 rfl h (fun h => ?_) (fun h => ?_)
  · refine r_bipush (v := (-101 : Int32)) hX d_M_set_26 rfl ?_
    cases h; exact r_iret hX hR d_M_set_28
  · refine r_iload_n (i := 2) hX d_M_set_7 2 rfl rfl ?_
    refine r_callS1 (As := [_]) hX hM mw_M_136 (T_M_isDay _ _) rfl rfl ⟨Nat.le_refl _, Nat.le_refl _⟩ rfl rfl d_M_set_8 ?_
    refine r_if_eq hX d_M_set_11 rfl h (fun h => ?_) (fun h => ?_)
    · refine r_bipush (v := (-101 : Int32)) hX d_M_set_26 rfl ?_
      cases h; exact r_iret hX hR d_M_set_28
    · refine r_iload_n (i := 3) hX d_M_set_14 3 rfl rfl ?_
      refine r_i2l hX d_M_set_15 ?_
      refine r_lconst (v := (0 : Int64)) hX d_M_set_16 rfl ?_
      refine r_ldc2 hX d_M_set_17 cw_M_126 ?_
      refine r_callS1 (As := [_, _, _]) hX hM mw_M_122 (T_M_in _ _ _ _) rfl rfl ⟨Nat.le_refl _, Nat.le_refl _⟩ rfl rfl d_M_set_20 ?_
      refine r_if_ne hX d_M_set_23 rfl h (fun h => ?_) (fun h => ?_)
      · refine r_iload (i := 4) hX d_M_set_29 4  rfl ?_
        refine r_i2l hX d_M_set_31 ?_
        refine r_iload_n (i := 3) hX d_M_set_32 3 rfl rfl ?_
        refine r_iconst (v := (3 : Int32)) hX d_M_set_33 rfl ?_
        refine r_icmp_ne hX d_M_set_34 rfl h (fun h => ?_) (fun h => ?_)
        · refine r_lconst (v := (0 : Int64)) hX d_M_set_43 rfl ?_
          exact rj_sub [0, 1, 2, 3, 4, 5] rfl (P_M_set_44 hX hM hR _ _ _ _ _ _ _ _ _ h)
        · refine r_ldc2 hX d_M_set_37 cw_M_144 ?_
          refine r_goto hX d_M_set_40 rfl ?_
          exact rj_sub [0, 1, 2, 3, 4, 5] rfl (P_M_set_44 hX hM hR _ _ _ _ _ _ _ _ _ h)
      · refine r_bipush (v := (-101 : Int32)) hX d_M_set_26 rfl ?_
        cases h; exact r_iret hX hR d_M_set_28
theorem T_M_set {l : Launch} {G : AG} (a0 : Nat) (x1 : Int32) (x2 : Int32) (x3 : Int32) (x4 : Int32) (x5 : Int32) (w : AW) {o : Int32 × AW} (h : F_M_set a0 x1 x2 x3 x4 x5 w = some o) : Mt l G y_M_set b_M_set 7 (some (.int)) 2 45 0 0 [vr a0, vi x1, vi x2, vi x3, vi x4, vi x5] w (some (vi o.1)) o.2 := mt_of (by decide) (Nat.le_of_ble_eq_true rfl) (fun X hX hR hM hI => P_M_set_0 hX hM hR _ _ _ _ _ _ _ h)
/-! RedSky.get(III)I -/
theorem d_A_get_0 : decode b_A_get 0 = .ok (.aload_n 0, 1) := by decide +kernel
theorem d_A_get_1 : decode b_A_get 1 = .ok (.iload_n 1, 1) := by decide +kernel
theorem d_A_get_2 : decode b_A_get 2 = .ok (.invokevirtual 141, 3) := by decide +kernel
theorem d_A_get_5 : decode b_A_get 5 = .ok (.astore 4, 2) := by decide +kernel
theorem d_A_get_7 : decode b_A_get 7 = .ok (.aload 4, 2) := by decide +kernel
theorem d_A_get_9 : decode b_A_get 9 = .ok (.ifnull (17), 3) := by decide +kernel
theorem d_A_get_12 : decode b_A_get 12 = .ok (.iload_n 2, 1) := by decide +kernel
theorem d_A_get_13 : decode b_A_get 13 = .ok (.invokestatic 111, 3) := by decide +kernel
theorem d_A_get_16 : decode b_A_get 16 = .ok (.ifCond .eq (10), 3) := by decide +kernel
theorem d_A_get_19 : decode b_A_get 19 = .ok (.iload_n 3, 1) := by decide +kernel
theorem d_A_get_20 : decode b_A_get 20 = .ok (.invokestatic 158, 3) := by decide +kernel
theorem d_A_get_23 : decode b_A_get 23 = .ok (.ifCond .ne (7), 3) := by decide +kernel
theorem d_A_get_26 : decode b_A_get 26 = .ok (.sipush (-10101), 3) := by decide +kernel
theorem d_A_get_29 : decode b_A_get 29 = .ok (.ireturn, 1) := by decide +kernel
theorem d_A_get_30 : decode b_A_get 30 = .ok (.aload 4, 2) := by decide +kernel
theorem d_A_get_32 : decode b_A_get 32 = .ok (.iload_n 2, 1) := by decide +kernel
theorem d_A_get_33 : decode b_A_get 33 = .ok (.iload_n 3, 1) := by decide +kernel
theorem d_A_get_34 : decode b_A_get 34 = .ok (.invokevirtual 167, 3) := by decide +kernel
theorem d_A_get_37 : decode b_A_get 37 = .ok (.ireturn, 1) := by decide +kernel
def F_A_get (w : AW) (a0 : Nat) (x1 : Int32) (x2 : Int32) (x3 : Int32) : Option (Int32) :=
  gd (wk w a0 == 1) <|
  (F_A_diaryOf w a0 x1).bind fun r2 =>
  if r2 = 0 then
    some (-10101 : Int32)
  else
    if (F_A_isDay x2) = 0 then
      some (-10101 : Int32)
    else
      if (F_A_isField x3) = 0 then
        some (-10101 : Int32)
      else
        gd (wk w r2 == 3) <|
        (F_Di_fieldAt w r2 x2 x3).bind fun r5 =>
        some r5
theorem P_A_get_0 {X : AX} {l : Launch} {G : AG} {w : AW} (hX : XOK X b_A_get "RedSky" 5) (hM : XM X l G { frames := 3, cells := 0, slots := 0, locals := 65 }) {o : Int32} (hR : XR X (some .int) 0 0 (some (vi o)) w) (a0 : Nat) (x1 : Int32) (x2 : Int32) (x3 : Int32) (h : F_A_get w a0 x1 x2 x3 = some o) : RJ X 5 0 0 0 [(0, vr a0), (1, vi x1), (2, vi x2), (3, vi x3)] [] w := by
  unfold F_A_get at h
  refine r_aload_n (i := 0) hX d_A_get_0 0 rfl rfl ?_
  refine r_iload_n (i := 1) hX d_A_get_1 1 rfl rfl ?_
  obtain ⟨hk1, h⟩ := gd_e h
  obtain ⟨r2, hr3, h⟩ := bd_e h
  refine r_callV1 (As := [_]) hX hM mw_A_141 (T_A_diaryOf _ _ _ hr3) (rc_of ci_0 hk1) rfl rfl ⟨Nat.le_refl _, Nat.le_refl _⟩ rfl rfl d_A_get_2 ?_
  refine r_astore (i := 4) hX d_A_get_5  (by decide) ?_
  refine r_aload (i := 4) hX d_A_get_7 0  rfl ?_
  refine r_ifnull hX d_A_get_9 rfl h (fun h => ?_) (fun h => ?_)
  · refine r_sipush (v := (-10101 : Int32)) hX d_A_get_26 rfl ?_
    cases h; exact r_iret hX hR d_A_get_29
  · refine r_iload_n (i := 2) hX d_A_get_12 3 rfl rfl ?_
    refine r_callS1 (As := [_]) hX hM mw_A_111 (T_A_isDay _ _) rfl rfl ⟨Nat.le_refl _, Nat.le_refl _⟩ rfl rfl d_A_get_13 ?_
    refine r_if_eq hX d_A_get_16 rfl h (fun h => ?_) (fun h => ?_)
    · refine r_sipush (v := (-10101 : Int32)) hX d_A_get_26 rfl ?_
      cases h; exact r_iret hX hR d_A_get_29
    · refine r_iload_n (i := 3) hX d_A_get_19 4 rfl rfl ?_
      refine r_callS1 (As := [_]) hX hM mw_A_158 (T_A_isField _ _) rfl rfl ⟨Nat.le_refl _, Nat.le_refl _⟩ rfl rfl d_A_get_20 ?_
      refine r_if_ne hX d_A_get_23 rfl h (fun h => ?_) (fun h => ?_)
      · refine r_aload (i := 4) hX d_A_get_30 0  rfl ?_
        refine r_iload_n (i := 2) hX d_A_get_32 3 rfl rfl ?_
        refine r_iload_n (i := 3) hX d_A_get_33 4 rfl rfl ?_
        obtain ⟨hk4, h⟩ := gd_e h
        obtain ⟨r5, hr6, h⟩ := bd_e h
        refine r_callV1 (As := [_, _]) hX hM mw_A_167 (T_Di_fieldAt _ _ _ _ hr6) (rc_of ci_2 hk4) rfl rfl ⟨Nat.le_refl _, Nat.le_refl _⟩ rfl rfl d_A_get_34 ?_
        cases h; exact r_iret hX hR d_A_get_37
      · refine r_sipush (v := (-10101 : Int32)) hX d_A_get_26 rfl ?_
        cases h; exact r_iret hX hR d_A_get_29
theorem T_A_get {l : Launch} {G : AG} (w : AW) (a0 : Nat) (x1 : Int32) (x2 : Int32) (x3 : Int32) {o : Int32} (h : F_A_get w a0 x1 x2 x3 = some o) : Mt l G y_A_get b_A_get 5 (some (.int)) 3 65 0 0 [vr a0, vi x1, vi x2, vi x3] w (some (vi o)) w := mt_of (by decide) (Nat.le_of_ble_eq_true rfl) (fun X hX hR hM hI => P_A_get_0 hX hM hR _ _ _ _ h)
/-! RedSkyModel.get(III)I -/
theorem d_M_get_0 : decode b_M_get 0 = .ok (.iload_n 1, 1) := by decide +kernel
theorem d_M_get_1 : decode b_M_get 1 = .ok (.invokestatic 155, 3) := by decide +kernel
theorem d_M_get_4 : decode b_M_get 4 = .ok (.ifCond .eq (36), 3) := by decide +kernel
theorem d_M_get_7 : decode b_M_get 7 = .ok (.iload_n 2, 1) := by decide +kernel
theorem d_M_get_8 : decode b_M_get 8 = .ok (.invokestatic 136, 3) := by decide +kernel
theorem d_M_get_11 : decode b_M_get 11 = .ok (.ifCond .eq (29), 3) := by decide +kernel
theorem d_M_get_14 : decode b_M_get 14 = .ok (.iload_n 3, 1) := by decide +kernel
theorem d_M_get_15 : decode b_M_get 15 = .ok (.i2l, 1) := by decide +kernel
theorem d_M_get_16 : decode b_M_get 16 = .ok (.lconst 0, 1) := by decide +kernel
theorem d_M_get_17 : decode b_M_get 17 = .ok (.ldc2_w 126, 3) := by decide +kernel
theorem d_M_get_20 : decode b_M_get 20 = .ok (.invokestatic 122, 3) := by decide +kernel
theorem d_M_get_23 : decode b_M_get 23 = .ok (.ifCond .eq (17), 3) := by decide +kernel
theorem d_M_get_26 : decode b_M_get 26 = .ok (.aload_n 0, 1) := by decide +kernel
theorem d_M_get_27 : decode b_M_get 27 = .ok (.getfield 22, 3) := by decide +kernel
theorem d_M_get_30 : decode b_M_get 30 = .ok (.iload_n 1, 1) := by decide +kernel
theorem d_M_get_31 : decode b_M_get 31 = .ok (.iload_n 2, 1) := by decide +kernel
theorem d_M_get_32 : decode b_M_get 32 = .ok (.iload_n 3, 1) := by decide +kernel
theorem d_M_get_33 : decode b_M_get 33 = .ok (.invokestatic 167, 3) := by decide +kernel
theorem d_M_get_36 : decode b_M_get 36 = .ok (.iaload, 1) := by decide +kernel
theorem d_M_get_37 : decode b_M_get 37 = .ok (.goto (6), 3) := by decide +kernel
theorem d_M_get_40 : decode b_M_get 40 = .ok (.sipush (-10101), 3) := by decide +kernel
theorem d_M_get_43 : decode b_M_get 43 = .ok (.ireturn, 1) := by decide +kernel
def F_M_get (w : AW) (a0 : Nat) (x1 : Int32) (x2 : Int32) (x3 : Int32) : Option (Int32) :=
  if (F_M_isValley x1) = 0 then
    some (-10101 : Int32)
  else
    if (F_M_isDay x2) = 0 then
      some (-10101 : Int32)
    else
      if (F_M_in (Int32.toInt64 x3) (0 : Int64) (3 : Int64)) = 0 then
        some (-10101 : Int32)
      else
        gd (wk w a0 == 13) <|
        gd (wk w (wr w a0 5) == 100) <|
        gd (inb (F_M_at x1 x2 x3) (wn w (wr w a0 5))) <|
        some (wi w (wr w a0 5) (Int32.toNatClampNeg (F_M_at x1 x2 x3)))
theorem P_M_get_0 {X : AX} {l : Launch} {G : AG} {w : AW} (hX : XOK X b_M_get "RedSkyModel" 4) (hM : XM X l G { frames := 2, cells := 0, slots := 0, locals := 45 }) {o : Int32} (hR : XR X (some .int) 0 0 (some (vi o)) w) (a0 : Nat) (x1 : Int32) (x2 : Int32) (x3 : Int32) (h : F_M_get w a0 x1 x2 x3 = some o) : RJ X 4 0 0 0 [(0, vr a0), (1, vi x1), (2, vi x2), (3, vi x3)] [] w := by
  unfold F_M_get at h
  refine r_iload_n (i := 1) hX d_M_get_0 1 rfl rfl ?_
  refine r_callS1 (As := [_]) hX hM mw_M_155 (T_M_isValley _ _) rfl rfl ⟨Nat.le_refl _, Nat.le_refl _⟩ rfl rfl d_M_get_1 ?_
  refine r_if_eq hX d_M_get_4 rfl h (fun h => ?_) (fun h => ?_)
  · refine r_sipush (v := (-10101 : Int32)) hX d_M_get_40 rfl ?_
    cases h; exact r_iret hX hR d_M_get_43
  · refine r_iload_n (i := 2) hX d_M_get_7 2 rfl rfl ?_
    refine r_callS1 (As := [_]) hX hM mw_M_136 (T_M_isDay _ _) rfl rfl ⟨Nat.le_refl _, Nat.le_refl _⟩ rfl rfl d_M_get_8 ?_
    refine r_if_eq hX d_M_get_11 rfl h (fun h => ?_) (fun h => ?_)
    · refine r_sipush (v := (-10101 : Int32)) hX d_M_get_40 rfl ?_
      cases h; exact r_iret hX hR d_M_get_43
    · refine r_iload_n (i := 3) hX d_M_get_14 3 rfl rfl ?_
      refine r_i2l hX d_M_get_15 ?_
      refine r_lconst (v := (0 : Int64)) hX d_M_get_16 rfl ?_
      refine r_ldc2 hX d_M_get_17 cw_M_126 ?_
      refine r_callS1 (As := [_, _, _]) hX hM mw_M_122 (T_M_in _ _ _ _) rfl rfl ⟨Nat.le_refl _, Nat.le_refl _⟩ rfl rfl d_M_get_20 ?_
      refine r_if_eq hX d_M_get_23 rfl h (fun h => ?_) (fun h => ?_)
      · refine r_sipush (v := (-10101 : Int32)) hX d_M_get_40 rfl ?_
        cases h; exact r_iret hX hR d_M_get_43
      · refine r_aload_n (i := 0) hX d_M_get_26 0 rfl rfl ?_
        obtain ⟨hk1, h⟩ := gd_e h
        refine r_getR (i := 12) (f := 5) hX ci_12 (by decide) rfl fl_M_22 hk1 d_M_get_27 ?_
        refine r_iload_n (i := 1) hX d_M_get_30 1 rfl rfl ?_
        refine r_iload_n (i := 2) hX d_M_get_31 2 rfl rfl ?_
        refine r_iload_n (i := 3) hX d_M_get_32 3 rfl rfl ?_
        refine r_callS1 (As := [_, _, _]) hX hM mw_M_167 (T_M_at _ _ _ _) rfl rfl ⟨Nat.le_refl _, Nat.le_refl _⟩ rfl rfl d_M_get_33 ?_
        obtain ⟨hk2, h⟩ := gd_e h
        obtain ⟨hg3, h⟩ := gd_e h
        refine r_iald hX hk2 hg3 d_M_get_36 ?_
        refine r_goto hX d_M_get_37 rfl ?_
        cases h; exact r_iret hX hR d_M_get_43
theorem T_M_get {l : Launch} {G : AG} (w : AW) (a0 : Nat) (x1 : Int32) (x2 : Int32) (x3 : Int32) {o : Int32} (h : F_M_get w a0 x1 x2 x3 = some o) : Mt l G y_M_get b_M_get 4 (some (.int)) 2 45 0 0 [vr a0, vi x1, vi x2, vi x3] w (some (vi o)) w := mt_of (by decide) (Nat.le_of_ble_eq_true rfl) (fun X hX hR hM hI => P_M_get_0 hX hM hR _ _ _ _ h)
/-! RedSky.kept(II)I -/
theorem d_A_kept_0 : decode b_A_kept 0 = .ok (.aload_n 0, 1) := by decide +kernel
theorem d_A_kept_1 : decode b_A_kept 1 = .ok (.iload_n 1, 1) := by decide +kernel
theorem d_A_kept_2 : decode b_A_kept 2 = .ok (.invokevirtual 141, 3) := by decide +kernel
theorem d_A_kept_5 : decode b_A_kept 5 = .ok (.astore_n 3, 1) := by decide +kernel
theorem d_A_kept_6 : decode b_A_kept 6 = .ok (.aload_n 3, 1) := by decide +kernel
theorem d_A_kept_7 : decode b_A_kept 7 = .ok (.ifnull (10), 3) := by decide +kernel
theorem d_A_kept_10 : decode b_A_kept 10 = .ok (.iload_n 2, 1) := by decide +kernel
theorem d_A_kept_11 : decode b_A_kept 11 = .ok (.invokestatic 97, 3) := by decide +kernel
theorem d_A_kept_14 : decode b_A_kept 14 = .ok (.ifCond .ne (6), 3) := by decide +kernel
theorem d_A_kept_17 : decode b_A_kept 17 = .ok (.bipush (-101), 2) := by decide +kernel
theorem d_A_kept_19 : decode b_A_kept 19 = .ok (.ireturn, 1) := by decide +kernel
theorem d_A_kept_20 : decode b_A_kept 20 = .ok (.aload_n 3, 1) := by decide +kernel
theorem d_A_kept_21 : decode b_A_kept 21 = .ok (.aload_n 0, 1) := by decide +kernel
theorem d_A_kept_22 : decode b_A_kept 22 = .ok (.getfield 10, 3) := by decide +kernel
theorem d_A_kept_25 : decode b_A_kept 25 = .ok (.iload_n 2, 1) := by decide +kernel
theorem d_A_kept_26 : decode b_A_kept 26 = .ok (.invokevirtual 145, 3) := by decide +kernel
theorem d_A_kept_29 : decode b_A_kept 29 = .ok (.aload_n 0, 1) := by decide +kernel
theorem d_A_kept_30 : decode b_A_kept 30 = .ok (.getfield 10, 3) := by decide +kernel
theorem d_A_kept_33 : decode b_A_kept 33 = .ok (.iload_n 2, 1) := by decide +kernel
theorem d_A_kept_34 : decode b_A_kept 34 = .ok (.invokevirtual 148, 3) := by decide +kernel
theorem d_A_kept_37 : decode b_A_kept 37 = .ok (.invokevirtual 155, 3) := by decide +kernel
theorem d_A_kept_40 : decode b_A_kept 40 = .ok (.ireturn, 1) := by decide +kernel
def F_A_kept (w : AW) (a0 : Nat) (x1 : Int32) (x2 : Int32) : Option (Int32) :=
  gd (wk w a0 == 1) <|
  (F_A_diaryOf w a0 x1).bind fun r2 =>
  if r2 = 0 then
    some (-101 : Int32)
  else
    if (F_A_isYear x2) = 0 then
      some (-101 : Int32)
    else
      gd (wk w (wr w a0 0) == 2) <|
      (F_Ca_startOf w (wr w a0 0) x2).bind fun r5 =>
      (F_Ca_endOf w (wr w a0 0) x2).bind fun r7 =>
      gd (wk w r2 == 3) <|
      (F_Di_numbersIn w r2 r5 r7).bind fun r10 =>
      some r10
theorem P_A_kept_0 {X : AX} {l : Launch} {G : AG} {w : AW} (hX : XOK X b_A_kept "RedSky" 4) (hM : XM X l G { frames := 4, cells := 0, slots := 0, locals := 90 }) {o : Int32} (hR : XR X (some .int) 0 0 (some (vi o)) w) (a0 : Nat) (x1 : Int32) (x2 : Int32) (h : F_A_kept w a0 x1 x2 = some o) : RJ X 4 0 0 0 [(0, vr a0), (1, vi x1), (2, vi x2)] [] w := by
  unfold F_A_kept at h
  refine r_aload_n (i := 0) hX d_A_kept_0 0 rfl rfl ?_
  refine r_iload_n (i := 1) hX d_A_kept_1 1 rfl rfl ?_
  obtain ⟨hk1, h⟩ := gd_e h
  obtain ⟨r2, hr3, h⟩ := bd_e h
  refine r_callV1 (As := [_]) hX hM mw_A_141 (T_A_diaryOf _ _ _ hr3) (rc_of ci_0 hk1) rfl rfl ⟨Nat.le_refl _, Nat.le_refl _⟩ rfl rfl d_A_kept_2 ?_
  refine r_astore_n (i := 3) hX d_A_kept_5 rfl (by decide) ?_
  refine r_aload_n (i := 3) hX d_A_kept_6 0 rfl rfl ?_
  refine r_ifnull hX d_A_kept_7 rfl h (fun h => ?_) (fun h => ?_)
  · refine r_bipush (v := (-101 : Int32)) hX d_A_kept_17 rfl ?_
    cases h; exact r_iret hX hR d_A_kept_19
  · refine r_iload_n (i := 2) hX d_A_kept_10 3 rfl rfl ?_
    refine r_callS1 (As := [_]) hX hM mw_A_97 (T_A_isYear _ _) rfl rfl ⟨Nat.le_refl _, Nat.le_refl _⟩ rfl rfl d_A_kept_11 ?_
    refine r_if_ne hX d_A_kept_14 rfl h (fun h => ?_) (fun h => ?_)
    · refine r_aload_n (i := 3) hX d_A_kept_20 0 rfl rfl ?_
      refine r_aload_n (i := 0) hX d_A_kept_21 1 rfl rfl ?_
      refine r_getR (i := 0) (f := 0) hX ci_0 (by decide) rfl fl_A_10 hk1 d_A_kept_22 ?_
      refine r_iload_n (i := 2) hX d_A_kept_25 3 rfl rfl ?_
      obtain ⟨hk4, h⟩ := gd_e h
      obtain ⟨r5, hr6, h⟩ := bd_e h
      refine r_callV1 (As := [_]) hX hM mw_A_145 (T_Ca_startOf _ _ _ hr6) (rc_of ci_1 hk4) rfl rfl ⟨Nat.le_refl _, Nat.le_refl _⟩ rfl rfl d_A_kept_26 ?_
      refine r_aload_n (i := 0) hX d_A_kept_29 1 rfl rfl ?_
      refine r_getR (i := 0) (f := 0) hX ci_0 (by decide) rfl fl_A_10 hk1 d_A_kept_30 ?_
      refine r_iload_n (i := 2) hX d_A_kept_33 3 rfl rfl ?_
      obtain ⟨r7, hr8, h⟩ := bd_e h
      refine r_callV1 (As := [_]) hX hM mw_A_148 (T_Ca_endOf _ _ _ hr8) (rc_of ci_1 hk4) rfl rfl ⟨Nat.le_refl _, Nat.le_refl _⟩ rfl rfl d_A_kept_34 ?_
      obtain ⟨hk9, h⟩ := gd_e h
      obtain ⟨r10, hr11, h⟩ := bd_e h
      refine r_callV1 (As := [_, _]) hX hM mw_A_155 (T_Di_numbersIn _ _ _ _ hr11) (rc_of ci_2 hk9) rfl rfl ⟨Nat.le_refl _, Nat.le_refl _⟩ rfl rfl d_A_kept_37 ?_
      cases h; exact r_iret hX hR d_A_kept_40
    · refine r_bipush (v := (-101 : Int32)) hX d_A_kept_17 rfl ?_
      cases h; exact r_iret hX hR d_A_kept_19
theorem T_A_kept {l : Launch} {G : AG} (w : AW) (a0 : Nat) (x1 : Int32) (x2 : Int32) {o : Int32} (h : F_A_kept w a0 x1 x2 = some o) : Mt l G y_A_kept b_A_kept 4 (some (.int)) 4 90 0 0 [vr a0, vi x1, vi x2] w (some (vi o)) w := mt_of (by decide) (Nat.le_of_ble_eq_true rfl) (fun X hX hR hM hI => P_A_kept_0 hX hM hR _ _ _ h)
/-! RedSkyModel.kept(II)I -/
theorem d_M_kept_0 : decode b_M_kept 0 = .ok (.iload_n 1, 1) := by decide +kernel
theorem d_M_kept_1 : decode b_M_kept 1 = .ok (.invokestatic 155, 3) := by decide +kernel
theorem d_M_kept_4 : decode b_M_kept 4 = .ok (.ifCond .eq (15), 3) := by decide +kernel
theorem d_M_kept_7 : decode b_M_kept 7 = .ok (.iload_n 2, 1) := by decide +kernel
theorem d_M_kept_8 : decode b_M_kept 8 = .ok (.i2l, 1) := by decide +kernel
theorem d_M_kept_9 : decode b_M_kept 9 = .ok (.lconst 0, 1) := by decide +kernel
theorem d_M_kept_10 : decode b_M_kept 10 = .ok (.ldc2_w 126, 3) := by decide +kernel
theorem d_M_kept_13 : decode b_M_kept 13 = .ok (.invokestatic 122, 3) := by decide +kernel
theorem d_M_kept_16 : decode b_M_kept 16 = .ok (.ifCond .ne (6), 3) := by decide +kernel
theorem d_M_kept_19 : decode b_M_kept 19 = .ok (.bipush (-101), 2) := by decide +kernel
theorem d_M_kept_21 : decode b_M_kept 21 = .ok (.ireturn, 1) := by decide +kernel
theorem d_M_kept_22 : decode b_M_kept 22 = .ok (.iconst 0, 1) := by decide +kernel
theorem d_M_kept_23 : decode b_M_kept 23 = .ok (.istore_n 3, 1) := by decide +kernel
theorem d_M_kept_24 : decode b_M_kept 24 = .ok (.aload_n 0, 1) := by decide +kernel
theorem d_M_kept_25 : decode b_M_kept 25 = .ok (.iload_n 2, 1) := by decide +kernel
theorem d_M_kept_26 : decode b_M_kept 26 = .ok (.iconst 1, 1) := by decide +kernel
theorem d_M_kept_27 : decode b_M_kept 27 = .ok (.invokevirtual 110, 3) := by decide +kernel
theorem d_M_kept_30 : decode b_M_kept 30 = .ok (.istore 4, 2) := by decide +kernel
theorem d_M_kept_32 : decode b_M_kept 32 = .ok (.iload 4, 2) := by decide +kernel
theorem d_M_kept_34 : decode b_M_kept 34 = .ok (.aload_n 0, 1) := by decide +kernel
theorem d_M_kept_35 : decode b_M_kept 35 = .ok (.iload_n 2, 1) := by decide +kernel
theorem d_M_kept_36 : decode b_M_kept 36 = .ok (.invokevirtual 160, 3) := by decide +kernel
theorem d_M_kept_39 : decode b_M_kept 39 = .ok (.if_icmp .ge (51), 3) := by decide +kernel
theorem d_M_kept_42 : decode b_M_kept 42 = .ok (.iconst 0, 1) := by decide +kernel
theorem d_M_kept_43 : decode b_M_kept 43 = .ok (.istore 5, 2) := by decide +kernel
theorem d_M_kept_45 : decode b_M_kept 45 = .ok (.iload 5, 2) := by decide +kernel
theorem d_M_kept_47 : decode b_M_kept 47 = .ok (.iconst 4, 1) := by decide +kernel
theorem d_M_kept_48 : decode b_M_kept 48 = .ok (.if_icmp .ge (36), 3) := by decide +kernel
theorem d_M_kept_51 : decode b_M_kept 51 = .ok (.iload_n 3, 1) := by decide +kernel
theorem d_M_kept_52 : decode b_M_kept 52 = .ok (.aload_n 0, 1) := by decide +kernel
theorem d_M_kept_53 : decode b_M_kept 53 = .ok (.getfield 22, 3) := by decide +kernel
theorem d_M_kept_56 : decode b_M_kept 56 = .ok (.iload_n 1, 1) := by decide +kernel
theorem d_M_kept_57 : decode b_M_kept 57 = .ok (.iload 4, 2) := by decide +kernel
theorem d_M_kept_59 : decode b_M_kept 59 = .ok (.iload 5, 2) := by decide +kernel
theorem d_M_kept_61 : decode b_M_kept 61 = .ok (.invokestatic 167, 3) := by decide +kernel
theorem d_M_kept_64 : decode b_M_kept 64 = .ok (.iaload, 1) := by decide +kernel
theorem d_M_kept_65 : decode b_M_kept 65 = .ok (.sipush (-1000), 3) := by decide +kernel
theorem d_M_kept_68 : decode b_M_kept 68 = .ok (.if_icmp .ne (7), 3) := by decide +kernel
theorem d_M_kept_71 : decode b_M_kept 71 = .ok (.iconst 0, 1) := by decide +kernel
theorem d_M_kept_72 : decode b_M_kept 72 = .ok (.goto (4), 3) := by decide +kernel
theorem d_M_kept_75 : decode b_M_kept 75 = .ok (.iconst 1, 1) := by decide +kernel
theorem d_M_kept_76 : decode b_M_kept 76 = .ok (.iadd, 1) := by decide +kernel
theorem d_M_kept_77 : decode b_M_kept 77 = .ok (.istore_n 3, 1) := by decide +kernel
theorem d_M_kept_78 : decode b_M_kept 78 = .ok (.iinc 5 (1), 3) := by decide +kernel
theorem d_M_kept_81 : decode b_M_kept 81 = .ok (.goto (-36), 3) := by decide +kernel
theorem d_M_kept_84 : decode b_M_kept 84 = .ok (.iinc 4 (1), 3) := by decide +kernel
theorem d_M_kept_87 : decode b_M_kept 87 = .ok (.goto (-55), 3) := by decide +kernel
theorem d_M_kept_90 : decode b_M_kept 90 = .ok (.iload_n 3, 1) := by decide +kernel
theorem d_M_kept_91 : decode b_M_kept 91 = .ok (.ireturn, 1) := by decide +kernel
def F_M_kept_45_B (rec32 : Nat → Int32 → Int32 → Int32 → Int32 → Option (Int32)) (rec45 : Nat → Int32 → Int32 → Int32 → Int32 → Int32 → Option (Int32)) (w : AW) (a0 : Nat) (x1 : Int32) (x2 : Int32) (x3 : Int32) (x4 : Int32) (x5 : Int32) : Option (Int32) :=
  if (4 : Int32) ≤ x5 then
    let v1 : Int32 := (x4 + (1 : Int32))
    rec32 a0 x1 x2 x3 v1
  else
    gd (wk w a0 == 13) <|
    gd (wk w (wr w a0 5) == 100) <|
    gd (inb (F_M_at x1 x4 x5) (wn w (wr w a0 5))) <|
    if (wi w (wr w a0 5) (Int32.toNatClampNeg (F_M_at x1 x4 x5))) = (-1000 : Int32) then
      let v7 : Int32 := (x3 + (0 : Int32))
      let v8 : Int32 := (x5 + (1 : Int32))
      rec45 a0 x1 x2 v7 x4 v8
    else
      let v5 : Int32 := (x3 + (1 : Int32))
      let v6 : Int32 := (x5 + (1 : Int32))
      rec45 a0 x1 x2 v5 x4 v6
theorem P_M_kept_45_B {X : AX} {l : Launch} {G : AG} {w : AW} {rec32 : Nat → Int32 → Int32 → Int32 → Int32 → Option (Int32)} {rec45 : Nat → Int32 → Int32 → Int32 → Int32 → Int32 → Option (Int32)} (hX : XOK X b_M_kept "RedSkyModel" 6) (hM : XM X l G { frames := 4, cells := 0, slots := 0, locals := 88 }) {o : Int32} (hR : XR X (some .int) 0 0 (some (vi o)) w) (hrec32 : ∀ (a0 : Nat) (x1 : Int32) (x2 : Int32) (x3 : Int32) (x4 : Int32), rec32 a0 x1 x2 x3 x4 = some o → RJ X 6 0 0 32 [(0, vr a0), (1, vi x1), (2, vi x2), (3, vi x3), (4, vi x4)] [] w) (hrec45 : ∀ (a0 : Nat) (x1 : Int32) (x2 : Int32) (x3 : Int32) (x4 : Int32) (x5 : Int32), rec45 a0 x1 x2 x3 x4 x5 = some o → RJ X 6 0 0 45 [(0, vr a0), (1, vi x1), (2, vi x2), (3, vi x3), (4, vi x4), (5, vi x5)] [] w) (a0 : Nat) (x1 : Int32) (x2 : Int32) (x3 : Int32) (x4 : Int32) (x5 : Int32) (h : F_M_kept_45_B rec32 rec45 w a0 x1 x2 x3 x4 x5 = some o) : RJ X 6 0 0 45 [(0, vr a0), (1, vi x1), (2, vi x2), (3, vi x3), (4, vi x4), (5, vi x5)] [] w := by
  unfold F_M_kept_45_B at h
  refine r_iload (i := 5) hX d_M_kept_45 5  rfl ?_
  refine r_iconst (v := (4 : Int32)) hX d_M_kept_47 rfl ?_
  refine r_icmp_ge hX d_M_kept_48 rfl h (fun h => ?_) (fun h => ?_)
  · refine r_iinc (i := 4) (v := (1 : Int32)) hX d_M_kept_84 4 rfl rfl (by decide) ?_
    refine r_goto hX d_M_kept_87 rfl ?_
    exact rj_sub [1, 2, 3, 4, 0] rfl (hrec32 _ _ _ _ _ h)
  · refine r_iload_n (i := 3) hX d_M_kept_51 3 rfl rfl ?_
    refine r_aload_n (i := 0) hX d_M_kept_52 0 rfl rfl ?_
    obtain ⟨hk2, h⟩ := gd_e h
    refine r_getR (i := 12) (f := 5) hX ci_12 (by decide) rfl fl_M_22 hk2 d_M_kept_53 ?_
    refine r_iload_n (i := 1) hX d_M_kept_56 1 rfl rfl ?_
    refine r_iload (i := 4) hX d_M_kept_57 4  rfl ?_
    refine r_iload (i := 5) hX d_M_kept_59 5  rfl ?_
    refine r_callS1 (As := [_, _, _]) hX hM mw_M_167 (T_M_at _ _ _ _) rfl rfl ⟨Nat.le_refl _, Nat.le_refl _⟩ rfl rfl d_M_kept_61 ?_
    obtain ⟨hk3, h⟩ := gd_e h
    obtain ⟨hg4, h⟩ := gd_e h
    refine r_iald hX hk3 hg4 d_M_kept_64 ?_
    refine r_sipush (v := (-1000 : Int32)) hX d_M_kept_65 rfl ?_
    refine r_icmp_ne hX d_M_kept_68 rfl h (fun h => ?_) (fun h => ?_)
    · refine r_iconst (v := (1 : Int32)) hX d_M_kept_75 rfl ?_
      refine r_iadd hX d_M_kept_76 ?_
      refine r_istore_n (i := 3) hX d_M_kept_77 rfl (by decide) ?_
      refine r_iinc (i := 5) (v := (1 : Int32)) hX d_M_kept_78 5 rfl rfl (by decide) ?_
      refine r_goto hX d_M_kept_81 rfl ?_
      exact rj_sub [2, 3, 4, 1, 5, 0] rfl (hrec45 _ _ _ _ _ _ h)
    · refine r_iconst (v := (0 : Int32)) hX d_M_kept_71 rfl ?_
      refine r_goto hX d_M_kept_72 rfl ?_
      refine r_iadd hX d_M_kept_76 ?_
      refine r_istore_n (i := 3) hX d_M_kept_77 rfl (by decide) ?_
      refine r_iinc (i := 5) (v := (1 : Int32)) hX d_M_kept_78 5 rfl rfl (by decide) ?_
      refine r_goto hX d_M_kept_81 rfl ?_
      exact rj_sub [2, 3, 4, 1, 5, 0] rfl (hrec45 _ _ _ _ _ _ h)
def F_M_kept_45 (rec32 : Nat → Int32 → Int32 → Int32 → Int32 → Option (Int32)) (w : AW) : Nat → Nat → Int32 → Int32 → Int32 → Int32 → Int32 → Option (Int32)
  | 0 => fun _ _ _ _ _ _ => none
  | n + 1 => fun a0 x1 x2 x3 x4 x5 => F_M_kept_45_B rec32 (F_M_kept_45 rec32 w n) w a0 x1 x2 x3 x4 x5
theorem P_M_kept_45 {X : AX} {l : Launch} {G : AG} {w : AW} {rec32 : Nat → Int32 → Int32 → Int32 → Int32 → Option (Int32)} (hX : XOK X b_M_kept "RedSkyModel" 6) (hM : XM X l G { frames := 4, cells := 0, slots := 0, locals := 88 }) {o : Int32} (hR : XR X (some .int) 0 0 (some (vi o)) w) (hrec32 : ∀ (a0 : Nat) (x1 : Int32) (x2 : Int32) (x3 : Int32) (x4 : Int32), rec32 a0 x1 x2 x3 x4 = some o → RJ X 6 0 0 32 [(0, vr a0), (1, vi x1), (2, vi x2), (3, vi x3), (4, vi x4)] [] w) (fu : Nat) : ∀ (a0 : Nat) (x1 : Int32) (x2 : Int32) (x3 : Int32) (x4 : Int32) (x5 : Int32), F_M_kept_45 rec32 w fu a0 x1 x2 x3 x4 x5 = some o → RJ X 6 0 0 45 [(0, vr a0), (1, vi x1), (2, vi x2), (3, vi x3), (4, vi x4), (5, vi x5)] [] w := by
  induction fu with
  | zero => intro a0 x1 x2 x3 x4 x5 h; cases h
  | succ n9 ih => intro a0 x1 x2 x3 x4 x5 h; exact P_M_kept_45_B hX hM hR hrec32 ih _ _ _ _ _ _ h
def F_M_kept_32_B (rec32 : Nat → Int32 → Int32 → Int32 → Int32 → Option (Int32)) (w : AW) (a0 : Nat) (x1 : Int32) (x2 : Int32) (x3 : Int32) (x4 : Int32) : Option (Int32) :=
  gd (wk w a0 == 13) <|
  (F_M_yearEnd w a0 x2).bind fun r2 =>
  if r2 ≤ x4 then
    some x3
  else
    F_M_kept_45 rec32 w FUEL a0 x1 x2 x3 x4 (0 : Int32)
theorem P_M_kept_32_B {X : AX} {l : Launch} {G : AG} {w : AW} {rec32 : Nat → Int32 → Int32 → Int32 → Int32 → Option (Int32)} (hX : XOK X b_M_kept "RedSkyModel" 6) (hM : XM X l G { frames := 4, cells := 0, slots := 0, locals := 88 }) {o : Int32} (hR : XR X (some .int) 0 0 (some (vi o)) w) (hrec32 : ∀ (a0 : Nat) (x1 : Int32) (x2 : Int32) (x3 : Int32) (x4 : Int32), rec32 a0 x1 x2 x3 x4 = some o → RJ X 6 0 0 32 [(0, vr a0), (1, vi x1), (2, vi x2), (3, vi x3), (4, vi x4)] [] w) (a0 : Nat) (x1 : Int32) (x2 : Int32) (x3 : Int32) (x4 : Int32) (h : F_M_kept_32_B rec32 w a0 x1 x2 x3 x4 = some o) : RJ X 6 0 0 32 [(0, vr a0), (1, vi x1), (2, vi x2), (3, vi x3), (4, vi x4)] [] w := by
  unfold F_M_kept_32_B at h
  refine r_iload (i := 4) hX d_M_kept_32 4  rfl ?_
  refine r_aload_n (i := 0) hX d_M_kept_34 0 rfl rfl ?_
  refine r_iload_n (i := 2) hX d_M_kept_35 2 rfl rfl ?_
  obtain ⟨hk1, h⟩ := gd_e h
  obtain ⟨r2, hr3, h⟩ := bd_e h
  refine r_callV1 (As := [_]) hX hM mw_M_160 (T_M_yearEnd _ _ _ hr3) (rc_of ci_12 hk1) rfl rfl ⟨Nat.le_refl _, Nat.le_refl _⟩ rfl rfl d_M_kept_36 ?_
  refine r_icmp_ge hX d_M_kept_39 rfl h (fun h => ?_) (fun h => ?_)
  · refine r_iload_n (i := 3) hX d_M_kept_90 3 rfl rfl ?_
    cases h; exact r_iret hX hR d_M_kept_91
  · refine r_iconst (v := (0 : Int32)) hX d_M_kept_42 rfl ?_
    refine r_istore (i := 5) hX d_M_kept_43  (by decide) ?_
    exact rj_sub [1, 2, 3, 4, 5, 0] rfl (P_M_kept_45 hX hM hR hrec32 FUEL _ _ _ _ _ _ h)
def F_M_kept_32 (w : AW) : Nat → Nat → Int32 → Int32 → Int32 → Int32 → Option (Int32)
  | 0 => fun _ _ _ _ _ => none
  | n + 1 => fun a0 x1 x2 x3 x4 => F_M_kept_32_B (F_M_kept_32 w n) w a0 x1 x2 x3 x4
theorem P_M_kept_32 {X : AX} {l : Launch} {G : AG} {w : AW} (hX : XOK X b_M_kept "RedSkyModel" 6) (hM : XM X l G { frames := 4, cells := 0, slots := 0, locals := 88 }) {o : Int32} (hR : XR X (some .int) 0 0 (some (vi o)) w) (fu : Nat) : ∀ (a0 : Nat) (x1 : Int32) (x2 : Int32) (x3 : Int32) (x4 : Int32), F_M_kept_32 w fu a0 x1 x2 x3 x4 = some o → RJ X 6 0 0 32 [(0, vr a0), (1, vi x1), (2, vi x2), (3, vi x3), (4, vi x4)] [] w := by
  induction fu with
  | zero => intro a0 x1 x2 x3 x4 h; cases h
  | succ n9 ih => intro a0 x1 x2 x3 x4 h; exact P_M_kept_32_B hX hM hR ih _ _ _ _ _ h
def F_M_kept (w : AW) (a0 : Nat) (x1 : Int32) (x2 : Int32) : Option (Int32) :=
  if (F_M_isValley x1) = 0 then
    some (-101 : Int32)
  else
    if (F_M_in (Int32.toInt64 x2) (0 : Int64) (3 : Int64)) = 0 then
      some (-101 : Int32)
    else
      gd (wk w a0 == 13) <|
      (F_M_begin w a0 x2 (1 : Int32)).bind fun r2 =>
      F_M_kept_32 w FUEL a0 x1 x2 (0 : Int32) r2
theorem P_M_kept_0 {X : AX} {l : Launch} {G : AG} {w : AW} (hX : XOK X b_M_kept "RedSkyModel" 6) (hM : XM X l G { frames := 4, cells := 0, slots := 0, locals := 88 }) {o : Int32} (hR : XR X (some .int) 0 0 (some (vi o)) w) (a0 : Nat) (x1 : Int32) (x2 : Int32) (h : F_M_kept w a0 x1 x2 = some o) : RJ X 6 0 0 0 [(0, vr a0), (1, vi x1), (2, vi x2)] [] w := by
  unfold F_M_kept at h
  refine r_iload_n (i := 1) hX d_M_kept_0 1 rfl rfl ?_
  refine r_callS1 (As := [_]) hX hM mw_M_155 (T_M_isValley _ _) rfl rfl ⟨Nat.le_refl _, Nat.le_refl _⟩ rfl rfl d_M_kept_1 ?_
  refine r_if_eq hX d_M_kept_4 rfl h (fun h => ?_) (fun h => ?_)
  · refine r_bipush (v := (-101 : Int32)) hX d_M_kept_19 rfl ?_
    cases h; exact r_iret hX hR d_M_kept_21
  · refine r_iload_n (i := 2) hX d_M_kept_7 2 rfl rfl ?_
    refine r_i2l hX d_M_kept_8 ?_
    refine r_lconst (v := (0 : Int64)) hX d_M_kept_9 rfl ?_
    refine r_ldc2 hX d_M_kept_10 cw_M_126 ?_
    refine r_callS1 (As := [_, _, _]) hX hM mw_M_122 (T_M_in _ _ _ _) rfl rfl ⟨Nat.le_refl _, Nat.le_refl _⟩ rfl rfl d_M_kept_13 ?_
    refine r_if_ne hX d_M_kept_16 rfl h (fun h => ?_) (fun h => ?_)
    · refine r_iconst (v := (0 : Int32)) hX d_M_kept_22 rfl ?_
      refine r_istore_n (i := 3) hX d_M_kept_23 rfl (by decide) ?_
      refine r_aload_n (i := 0) hX d_M_kept_24 1 rfl rfl ?_
      refine r_iload_n (i := 2) hX d_M_kept_25 3 rfl rfl ?_
      refine r_iconst (v := (1 : Int32)) hX d_M_kept_26 rfl ?_
      obtain ⟨hk1, h⟩ := gd_e h
      obtain ⟨r2, hr3, h⟩ := bd_e h
      refine r_callV1 (As := [_, _]) hX hM mw_M_110 (T_M_begin _ _ _ _ hr3) (rc_of ci_12 hk1) rfl rfl ⟨Nat.le_refl _, Nat.le_refl _⟩ rfl rfl d_M_kept_27 ?_
      refine r_istore (i := 4) hX d_M_kept_30  (by decide) ?_
      exact rj_sub [2, 3, 4, 1, 0] rfl (P_M_kept_32 hX hM hR FUEL _ _ _ _ _ h)
    · refine r_bipush (v := (-101 : Int32)) hX d_M_kept_19 rfl ?_
      cases h; exact r_iret hX hR d_M_kept_21
theorem T_M_kept {l : Launch} {G : AG} (w : AW) (a0 : Nat) (x1 : Int32) (x2 : Int32) {o : Int32} (h : F_M_kept w a0 x1 x2 = some o) : Mt l G y_M_kept b_M_kept 6 (some (.int)) 4 88 0 0 [vr a0, vi x1, vi x2] w (some (vi o)) w := mt_of (by decide) (Nat.le_of_ble_eq_true rfl) (fun X hX hR hM hI => P_M_kept_0 hX hM hR _ _ _ h)
/-! RedSky$Page.letterIn(JI)I -/
theorem d_Pg_letterIn_0 : decode b_Pg_letterIn 0 = .ok (.lload_n 0, 1) := by decide +kernel
theorem d_Pg_letterIn_1 : decode b_Pg_letterIn 1 = .ok (.bipush (8), 2) := by decide +kernel
theorem d_Pg_letterIn_3 : decode b_Pg_letterIn 3 = .ok (.iload_n 2, 1) := by decide +kernel
theorem d_Pg_letterIn_4 : decode b_Pg_letterIn 4 = .ok (.imul, 1) := by decide +kernel
theorem d_Pg_letterIn_5 : decode b_Pg_letterIn 5 = .ok (.lushr, 1) := by decide +kernel
theorem d_Pg_letterIn_6 : decode b_Pg_letterIn 6 = .ok (.ldc2_w 78, 3) := by decide +kernel
theorem d_Pg_letterIn_9 : decode b_Pg_letterIn 9 = .ok (.land, 1) := by decide +kernel
theorem d_Pg_letterIn_10 : decode b_Pg_letterIn 10 = .ok (.l2i, 1) := by decide +kernel
theorem d_Pg_letterIn_11 : decode b_Pg_letterIn 11 = .ok (.ireturn, 1) := by decide +kernel
def Fo_Pg_letterIn (w : AW) (x0 : Int64) (x2 : Int32) : Option (Int32) :=
  some (Int64.toInt32 ((lshr6 x0 ((8 : Int32) * x2)) &&& (255 : Int64)))
theorem P_Pg_letterIn_0 {X : AX} {l : Launch} {G : AG} {w : AW} (hX : XOK X b_Pg_letterIn "RedSky$Page" 3) (hM : XM X l G { frames := 0, cells := 0, slots := 0, locals := 0 }) {o : Int32} (hR : XR X (some .int) 0 0 (some (vi o)) w) (x0 : Int64) (x2 : Int32) (h : Fo_Pg_letterIn w x0 x2 = some o) : RJ X 3 0 0 0 [(0, vl x0), (2, vi x2)] [] w := by
  unfold Fo_Pg_letterIn at h
  refine r_lload_n (i := 0) hX d_Pg_letterIn_0 0 rfl rfl ?_
  refine r_bipush (v := (8 : Int32)) hX d_Pg_letterIn_1 rfl ?_
  refine r_iload_n (i := 2) hX d_Pg_letterIn_3 1 rfl rfl ?_
  refine r_imul hX d_Pg_letterIn_4 ?_
  refine r_lushr hX d_Pg_letterIn_5 ?_
  refine r_ldc2 hX d_Pg_letterIn_6 cw_Pg_78 ?_
  refine r_land hX d_Pg_letterIn_9 ?_
  refine r_l2i hX d_Pg_letterIn_10 ?_
  cases h; exact r_iret hX hR d_Pg_letterIn_11
def F_Pg_letterIn (x0 : Int64) (x2 : Int32) : Int32 :=
  (Int64.toInt32 ((lshr6 x0 ((8 : Int32) * x2)) &&& (255 : Int64)))
theorem E_Pg_letterIn (w : AW) (x0 : Int64) (x2 : Int32) : Fo_Pg_letterIn w x0 x2 = some (F_Pg_letterIn x0 x2) := by
  simp only [Fo_Pg_letterIn, F_Pg_letterIn, apply_ite (some : Int32 → Option Int32)]
theorem T_Pg_letterIn {l : Launch} {G : AG} (x0 : Int64) (x2 : Int32) (w : AW)  : Mt l G y_Pg_letterIn b_Pg_letterIn 3 (some (.int)) 0 0 0 0 [vl x0, vi x2] w (some (vi (F_Pg_letterIn x0 x2))) w := mt_of (by decide) (Nat.le_of_ble_eq_true rfl) (fun X hX hR hM hI => P_Pg_letterIn_0 hX hM hR _ _ (E_Pg_letterIn _ _ _))
/-! RedSky$Page.lettersIn(J)I -/
theorem d_Pg_lettersIn_0 : decode b_Pg_lettersIn 0 = .ok (.iconst 0, 1) := by decide +kernel
theorem d_Pg_lettersIn_1 : decode b_Pg_lettersIn 1 = .ok (.istore_n 2, 1) := by decide +kernel
theorem d_Pg_lettersIn_2 : decode b_Pg_lettersIn 2 = .ok (.iconst 0, 1) := by decide +kernel
theorem d_Pg_lettersIn_3 : decode b_Pg_lettersIn 3 = .ok (.istore_n 3, 1) := by decide +kernel
theorem d_Pg_lettersIn_4 : decode b_Pg_lettersIn 4 = .ok (.iconst 0, 1) := by decide +kernel
theorem d_Pg_lettersIn_5 : decode b_Pg_lettersIn 5 = .ok (.istore 4, 2) := by decide +kernel
theorem d_Pg_lettersIn_7 : decode b_Pg_lettersIn 7 = .ok (.iload 4, 2) := by decide +kernel
theorem d_Pg_lettersIn_9 : decode b_Pg_lettersIn 9 = .ok (.bipush (8), 2) := by decide +kernel
theorem d_Pg_lettersIn_11 : decode b_Pg_lettersIn 11 = .ok (.if_icmp .ge (48), 3) := by decide +kernel
theorem d_Pg_lettersIn_14 : decode b_Pg_lettersIn 14 = .ok (.lload_n 0, 1) := by decide +kernel
theorem d_Pg_lettersIn_15 : decode b_Pg_lettersIn 15 = .ok (.iload 4, 2) := by decide +kernel
theorem d_Pg_lettersIn_17 : decode b_Pg_lettersIn 17 = .ok (.invokestatic 74, 3) := by decide +kernel
theorem d_Pg_lettersIn_20 : decode b_Pg_lettersIn 20 = .ok (.istore 5, 2) := by decide +kernel
theorem d_Pg_lettersIn_22 : decode b_Pg_lettersIn 22 = .ok (.iload 5, 2) := by decide +kernel
theorem d_Pg_lettersIn_24 : decode b_Pg_lettersIn 24 = .ok (.bipush (126), 2) := by decide +kernel
theorem d_Pg_lettersIn_26 : decode b_Pg_lettersIn 26 = .ok (.if_icmp .gt (12), 3) := by decide +kernel
theorem d_Pg_lettersIn_29 : decode b_Pg_lettersIn 29 = .ok (.iload_n 3, 1) := by decide +kernel
theorem d_Pg_lettersIn_30 : decode b_Pg_lettersIn 30 = .ok (.ifCond .eq (10), 3) := by decide +kernel
theorem d_Pg_lettersIn_33 : decode b_Pg_lettersIn 33 = .ok (.iload 5, 2) := by decide +kernel
theorem d_Pg_lettersIn_35 : decode b_Pg_lettersIn 35 = .ok (.ifCond .eq (5), 3) := by decide +kernel
theorem d_Pg_lettersIn_38 : decode b_Pg_lettersIn 38 = .ok (.iconst (-1), 1) := by decide +kernel
theorem d_Pg_lettersIn_39 : decode b_Pg_lettersIn 39 = .ok (.ireturn, 1) := by decide +kernel
theorem d_Pg_lettersIn_40 : decode b_Pg_lettersIn 40 = .ok (.iload 5, 2) := by decide +kernel
theorem d_Pg_lettersIn_42 : decode b_Pg_lettersIn 42 = .ok (.ifCond .ne (8), 3) := by decide +kernel
theorem d_Pg_lettersIn_45 : decode b_Pg_lettersIn 45 = .ok (.iconst 1, 1) := by decide +kernel
theorem d_Pg_lettersIn_46 : decode b_Pg_lettersIn 46 = .ok (.istore_n 3, 1) := by decide +kernel
theorem d_Pg_lettersIn_47 : decode b_Pg_lettersIn 47 = .ok (.goto (6), 3) := by decide +kernel
theorem d_Pg_lettersIn_50 : decode b_Pg_lettersIn 50 = .ok (.iinc 2 (1), 3) := by decide +kernel
theorem d_Pg_lettersIn_53 : decode b_Pg_lettersIn 53 = .ok (.iinc 4 (1), 3) := by decide +kernel
theorem d_Pg_lettersIn_56 : decode b_Pg_lettersIn 56 = .ok (.goto (-49), 3) := by decide +kernel
theorem d_Pg_lettersIn_59 : decode b_Pg_lettersIn 59 = .ok (.iload_n 2, 1) := by decide +kernel
theorem d_Pg_lettersIn_60 : decode b_Pg_lettersIn 60 = .ok (.ireturn, 1) := by decide +kernel
def F_Pg_lettersIn_40 (rec7 : Int64 → Int32 → Int32 → Int32 → Option (Int32)) (w : AW) (x0 : Int64) (x2 : Int32) (x3 : Int32) (x4 : Int32) (x5 : Int32) : Option (Int32) :=
  if x5 = 0 then
    let v3 : Int32 := (x4 + (1 : Int32))
    rec7 x0 x2 (1 : Int32) v3
  else
    let v1 : Int32 := (x2 + (1 : Int32))
    let v2 : Int32 := (x4 + (1 : Int32))
    rec7 x0 v1 x3 v2
theorem P_Pg_lettersIn_40 {X : AX} {l : Launch} {G : AG} {w : AW} {rec7 : Int64 → Int32 → Int32 → Int32 → Option (Int32)} (hX : XOK X b_Pg_lettersIn "RedSky$Page" 6) (hM : XM X l G { frames := 1, cells := 0, slots := 0, locals := 22 }) {o : Int32} (hR : XR X (some .int) 0 0 (some (vi o)) w) (hrec7 : ∀ (x0 : Int64) (x2 : Int32) (x3 : Int32) (x4 : Int32), rec7 x0 x2 x3 x4 = some o → RJ X 6 0 0 7 [(0, vl x0), (2, vi x2), (3, vi x3), (4, vi x4)] [] w) (x0 : Int64) (x2 : Int32) (x3 : Int32) (x4 : Int32) (x5 : Int32) (h : F_Pg_lettersIn_40 rec7 w x0 x2 x3 x4 x5 = some o) : RJ X 6 0 0 40 [(0, vl x0), (2, vi x2), (3, vi x3), (4, vi x4), (5, vi x5)] [] w := by
  unfold F_Pg_lettersIn_40 at h
  refine r_iload (i := 5) hX d_Pg_lettersIn_40 4  rfl ?_
  refine r_if_ne hX d_Pg_lettersIn_42 rfl h (fun h => ?_) (fun h => ?_)
  · refine r_iinc (i := 2) (v := (1 : Int32)) hX d_Pg_lettersIn_50 1 rfl rfl (by decide) ?_
    refine r_iinc (i := 4) (v := (1 : Int32)) hX d_Pg_lettersIn_53 3 rfl rfl (by decide) ?_
    refine r_goto hX d_Pg_lettersIn_56 rfl ?_
    exact rj_sub [2, 1, 3, 0] rfl (hrec7 _ _ _ _ h)
  · refine r_iconst (v := (1 : Int32)) hX d_Pg_lettersIn_45 rfl ?_
    refine r_istore_n (i := 3) hX d_Pg_lettersIn_46 rfl (by decide) ?_
    refine r_goto hX d_Pg_lettersIn_47 rfl ?_
    refine r_iinc (i := 4) (v := (1 : Int32)) hX d_Pg_lettersIn_53 3 rfl rfl (by decide) ?_
    refine r_goto hX d_Pg_lettersIn_56 rfl ?_
    exact rj_sub [2, 3, 1, 0] rfl (hrec7 _ _ _ _ h)
def F_Pg_lettersIn_7_B (rec7 : Int64 → Int32 → Int32 → Int32 → Option (Int32)) (w : AW) (x0 : Int64) (x2 : Int32) (x3 : Int32) (x4 : Int32) : Option (Int32) :=
  if (8 : Int32) ≤ x4 then
    some x2
  else
    let v1 : Int32 := (F_Pg_letterIn x0 x4)
    if (126 : Int32) < v1 then
      some (-1 : Int32)
    else
      if x3 = 0 then
        F_Pg_lettersIn_40 rec7 w x0 x2 x3 x4 v1
      else
        if v1 = 0 then
          F_Pg_lettersIn_40 rec7 w x0 x2 x3 x4 v1
        else
          some (-1 : Int32)
theorem P_Pg_lettersIn_7_B {X : AX} {l : Launch} {G : AG} {w : AW} {rec7 : Int64 → Int32 → Int32 → Int32 → Option (Int32)} (hX : XOK X b_Pg_lettersIn "RedSky$Page" 6) (hM : XM X l G { frames := 1, cells := 0, slots := 0, locals := 22 }) {o : Int32} (hR : XR X (some .int) 0 0 (some (vi o)) w) (hrec7 : ∀ (x0 : Int64) (x2 : Int32) (x3 : Int32) (x4 : Int32), rec7 x0 x2 x3 x4 = some o → RJ X 6 0 0 7 [(0, vl x0), (2, vi x2), (3, vi x3), (4, vi x4)] [] w) (x0 : Int64) (x2 : Int32) (x3 : Int32) (x4 : Int32) (h : F_Pg_lettersIn_7_B rec7 w x0 x2 x3 x4 = some o) : RJ X 6 0 0 7 [(0, vl x0), (2, vi x2), (3, vi x3), (4, vi x4)] [] w := by
  unfold F_Pg_lettersIn_7_B at h
  refine r_iload (i := 4) hX d_Pg_lettersIn_7 3  rfl ?_
  refine r_bipush (v := (8 : Int32)) hX d_Pg_lettersIn_9 rfl ?_
  refine r_icmp_ge hX d_Pg_lettersIn_11 rfl h (fun h => ?_) (fun h => ?_)
  · refine r_iload_n (i := 2) hX d_Pg_lettersIn_59 1 rfl rfl ?_
    cases h; exact r_iret hX hR d_Pg_lettersIn_60
  · refine r_lload_n (i := 0) hX d_Pg_lettersIn_14 0 rfl rfl ?_
    refine r_iload (i := 4) hX d_Pg_lettersIn_15 3  rfl ?_
    refine r_callS1 (As := [_, _]) hX hM mw_Pg_74 (T_Pg_letterIn _ _ _) rfl rfl ⟨Nat.le_refl _, Nat.le_refl _⟩ rfl rfl d_Pg_lettersIn_17 ?_
    refine r_istore (i := 5) hX d_Pg_lettersIn_20  (by decide) ?_
    refine r_iload (i := 5) hX d_Pg_lettersIn_22 0  rfl ?_
    refine r_bipush (v := (126 : Int32)) hX d_Pg_lettersIn_24 rfl ?_
    refine r_icmp_gt hX d_Pg_lettersIn_26 rfl h (fun h => ?_) (fun h => ?_)
    · refine r_iconst (v := (-1 : Int32)) hX d_Pg_lettersIn_38 rfl ?_
      cases h; exact r_iret hX hR d_Pg_lettersIn_39
    · refine r_iload_n (i := 3) hX d_Pg_lettersIn_29 3 rfl rfl ?_
      refine r_if_eq hX d_Pg_lettersIn_30 rfl h (fun h => ?_) (fun h => ?_)
      · exact rj_sub [1, 2, 3, 4, 0] rfl (P_Pg_lettersIn_40 hX hM hR hrec7 _ _ _ _ _ h)
      · refine r_iload (i := 5) hX d_Pg_lettersIn_33 0  rfl ?_
        refine r_if_eq hX d_Pg_lettersIn_35 rfl h (fun h => ?_) (fun h => ?_)
        · exact rj_sub [1, 2, 3, 4, 0] rfl (P_Pg_lettersIn_40 hX hM hR hrec7 _ _ _ _ _ h)
        · refine r_iconst (v := (-1 : Int32)) hX d_Pg_lettersIn_38 rfl ?_
          cases h; exact r_iret hX hR d_Pg_lettersIn_39
def F_Pg_lettersIn_7 (w : AW) : Nat → Int64 → Int32 → Int32 → Int32 → Option (Int32)
  | 0 => fun _ _ _ _ => none
  | n + 1 => fun x0 x2 x3 x4 => F_Pg_lettersIn_7_B (F_Pg_lettersIn_7 w n) w x0 x2 x3 x4
theorem P_Pg_lettersIn_7 {X : AX} {l : Launch} {G : AG} {w : AW} (hX : XOK X b_Pg_lettersIn "RedSky$Page" 6) (hM : XM X l G { frames := 1, cells := 0, slots := 0, locals := 22 }) {o : Int32} (hR : XR X (some .int) 0 0 (some (vi o)) w) (fu : Nat) : ∀ (x0 : Int64) (x2 : Int32) (x3 : Int32) (x4 : Int32), F_Pg_lettersIn_7 w fu x0 x2 x3 x4 = some o → RJ X 6 0 0 7 [(0, vl x0), (2, vi x2), (3, vi x3), (4, vi x4)] [] w := by
  induction fu with
  | zero => intro x0 x2 x3 x4 h; cases h
  | succ n9 ih => intro x0 x2 x3 x4 h; exact P_Pg_lettersIn_7_B hX hM hR ih _ _ _ _ h
def F_Pg_lettersIn (w : AW) (x0 : Int64) : Option (Int32) :=
  F_Pg_lettersIn_7 w FUEL x0 (0 : Int32) (0 : Int32) (0 : Int32)
theorem P_Pg_lettersIn_0 {X : AX} {l : Launch} {G : AG} {w : AW} (hX : XOK X b_Pg_lettersIn "RedSky$Page" 6) (hM : XM X l G { frames := 1, cells := 0, slots := 0, locals := 22 }) {o : Int32} (hR : XR X (some .int) 0 0 (some (vi o)) w) (x0 : Int64) (h : F_Pg_lettersIn w x0 = some o) : RJ X 6 0 0 0 [(0, vl x0)] [] w := by
  unfold F_Pg_lettersIn at h
  refine r_iconst (v := (0 : Int32)) hX d_Pg_lettersIn_0 rfl ?_
  refine r_istore_n (i := 2) hX d_Pg_lettersIn_1 rfl (by decide) ?_
  refine r_iconst (v := (0 : Int32)) hX d_Pg_lettersIn_2 rfl ?_
  refine r_istore_n (i := 3) hX d_Pg_lettersIn_3 rfl (by decide) ?_
  refine r_iconst (v := (0 : Int32)) hX d_Pg_lettersIn_4 rfl ?_
  refine r_istore (i := 4) hX d_Pg_lettersIn_5  (by decide) ?_
  exact rj_sub [3, 2, 1, 0] rfl (P_Pg_lettersIn_7 hX hM hR FUEL _ _ _ _ h)
theorem T_Pg_lettersIn {l : Launch} {G : AG} (w : AW) (x0 : Int64) {o : Int32} (h : F_Pg_lettersIn w x0 = some o) : Mt l G y_Pg_lettersIn b_Pg_lettersIn 6 (some (.int)) 1 22 0 0 [vl x0] w (some (vi o)) w := mt_of (by decide) (Nat.le_of_ble_eq_true rfl) (fun X hX hR hM hI => P_Pg_lettersIn_0 hX hM hR _ h)
