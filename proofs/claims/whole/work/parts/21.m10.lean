/-! RedSky.month(IIII)I -/
theorem d_A_month_0 : decode b_A_month 0 = .ok (.aload_n 0, 1) := by decide +kernel
theorem d_A_month_1 : decode b_A_month 1 = .ok (.iload_n 1, 1) := by decide +kernel
theorem d_A_month_2 : decode b_A_month 2 = .ok (.invokevirtual 200, 3) := by decide +kernel
theorem d_A_month_5 : decode b_A_month 5 = .ok (.astore 5, 2) := by decide +kernel
theorem d_A_month_7 : decode b_A_month 7 = .ok (.aload_n 0, 1) := by decide +kernel
theorem d_A_month_8 : decode b_A_month 8 = .ok (.iload_n 2, 1) := by decide +kernel
theorem d_A_month_9 : decode b_A_month 9 = .ok (.invokevirtual 141, 3) := by decide +kernel
theorem d_A_month_12 : decode b_A_month 12 = .ok (.astore 6, 2) := by decide +kernel
theorem d_A_month_14 : decode b_A_month 14 = .ok (.aload 5, 2) := by decide +kernel
theorem d_A_month_16 : decode b_A_month 16 = .ok (.ifnull (8), 3) := by decide +kernel
theorem d_A_month_19 : decode b_A_month 19 = .ok (.aload 6, 2) := by decide +kernel
theorem d_A_month_21 : decode b_A_month 21 = .ok (.ifnonnull (6), 3) := by decide +kernel
theorem d_A_month_24 : decode b_A_month 24 = .ok (.bipush (-101), 2) := by decide +kernel
theorem d_A_month_26 : decode b_A_month 26 = .ok (.ireturn, 1) := by decide +kernel
theorem d_A_month_27 : decode b_A_month 27 = .ok (.iload_n 3, 1) := by decide +kernel
theorem d_A_month_28 : decode b_A_month 28 = .ok (.invokestatic 101, 3) := by decide +kernel
theorem d_A_month_31 : decode b_A_month 31 = .ok (.ifCond .eq (13), 3) := by decide +kernel
theorem d_A_month_34 : decode b_A_month 34 = .ok (.iload 4, 2) := by decide +kernel
theorem d_A_month_36 : decode b_A_month 36 = .ok (.iconst 0, 1) := by decide +kernel
theorem d_A_month_37 : decode b_A_month 37 = .ok (.iconst 3, 1) := by decide +kernel
theorem d_A_month_38 : decode b_A_month 38 = .ok (.invokestatic 86, 3) := by decide +kernel
theorem d_A_month_41 : decode b_A_month 41 = .ok (.ifCond .ne (6), 3) := by decide +kernel
theorem d_A_month_44 : decode b_A_month 44 = .ok (.bipush (-102), 2) := by decide +kernel
theorem d_A_month_46 : decode b_A_month 46 = .ok (.ireturn, 1) := by decide +kernel
theorem d_A_month_47 : decode b_A_month 47 = .ok (.aload_n 0, 1) := by decide +kernel
theorem d_A_month_48 : decode b_A_month 48 = .ok (.getfield 49, 3) := by decide +kernel
theorem d_A_month_51 : decode b_A_month 51 = .ok (.aload 5, 2) := by decide +kernel
theorem d_A_month_53 : decode b_A_month 53 = .ok (.aload 6, 2) := by decide +kernel
theorem d_A_month_55 : decode b_A_month 55 = .ok (.aload_n 0, 1) := by decide +kernel
theorem d_A_month_56 : decode b_A_month 56 = .ok (.getfield 10, 3) := by decide +kernel
theorem d_A_month_59 : decode b_A_month 59 = .ok (.aload_n 0, 1) := by decide +kernel
theorem d_A_month_60 : decode b_A_month 60 = .ok (.getfield 42, 3) := by decide +kernel
theorem d_A_month_63 : decode b_A_month 63 = .ok (.invokevirtual 207, 3) := by decide +kernel
theorem d_A_month_66 : decode b_A_month 66 = .ok (.aload_n 0, 1) := by decide +kernel
theorem d_A_month_67 : decode b_A_month 67 = .ok (.getfield 59, 3) := by decide +kernel
theorem d_A_month_70 : decode b_A_month 70 = .ok (.invokevirtual 214, 3) := by decide +kernel
theorem d_A_month_73 : decode b_A_month 73 = .ok (.aload_n 0, 1) := by decide +kernel
theorem d_A_month_74 : decode b_A_month 74 = .ok (.getfield 10, 3) := by decide +kernel
theorem d_A_month_77 : decode b_A_month 77 = .ok (.iload_n 3, 1) := by decide +kernel
theorem d_A_month_78 : decode b_A_month 78 = .ok (.iload_n 3, 1) := by decide +kernel
theorem d_A_month_79 : decode b_A_month 79 = .ok (.aload_n 0, 1) := by decide +kernel
theorem d_A_month_80 : decode b_A_month 80 = .ok (.getfield 59, 3) := by decide +kernel
theorem d_A_month_83 : decode b_A_month 83 = .ok (.invokevirtual 227, 3) := by decide +kernel
theorem d_A_month_86 : decode b_A_month 86 = .ok (.aload_n 0, 1) := by decide +kernel
theorem d_A_month_87 : decode b_A_month 87 = .ok (.getfield 49, 3) := by decide +kernel
theorem d_A_month_90 : decode b_A_month 90 = .ok (.iload 4, 2) := by decide +kernel
theorem d_A_month_92 : decode b_A_month 92 = .ok (.invokevirtual 219, 3) := by decide +kernel
theorem d_A_month_95 : decode b_A_month 95 = .ok (.aload_n 0, 1) := by decide +kernel
theorem d_A_month_96 : decode b_A_month 96 = .ok (.getfield 59, 3) := by decide +kernel
theorem d_A_month_99 : decode b_A_month 99 = .ok (.invokevirtual 223, 3) := by decide +kernel
theorem d_A_month_102 : decode b_A_month 102 = .ok (.ireturn, 1) := by decide +kernel
def F_A_month (a0 : Nat) (x1 : Int32) (x2 : Int32) (x3 : Int32) (x4 : Int32) (w : AW) : Option (Int32 × AW) :=
  gd (wk w a0 == 1) <|
  (F_A_sayingOf w a0 x1).bind fun r2 =>
  (F_A_diaryOf w a0 x2).bind fun r4 =>
  if r2 = 0 then
    some ((-101 : Int32), w)
  else
    if r4 = 0 then
      some ((-101 : Int32), w)
    else
      if (F_A_isMonth x3) = 0 then
        some ((-102 : Int32), w)
      else
        if (F_A_within x4 (0 : Int32) (3 : Int32)) = 0 then
          some ((-102 : Int32), w)
        else
          gd (wk w (wr w a0 6) == 9) <|
          (F_Rd_read (wr w a0 6) r2 r4 (wr w a0 0) (wr w a0 5) w).bind fun r7 =>
          gd (wk r7 a0 == 1) <|
          gd (wk r7 (wr r7 a0 8) == 8) <|
          (F_Dy_clear (wr r7 a0 8) r7).bind fun r11 =>
          gd (wk r11 a0 == 1) <|
          gd (wk r11 (wr r11 a0 0) == 2) <|
          (F_Ca_addMonths (wr r11 a0 0) x3 x3 (wr r11 a0 8) r11).bind fun r15 =>
          gd (wk r15 a0 == 1) <|
          gd (wk r15 (wr r15 a0 6) == 9) <|
          (F_Rd_part r15 (wr r15 a0 6) x4).bind fun r19 =>
          gd (wk r15 r19 == 8) <|
          (F_Dy_sizeWith r15 r19 (wr r15 a0 8)).bind fun r22 =>
          some (r22, r15)
theorem P_A_month_0 {X : AX} {l : Launch} {G : AG} (hX : XOK X b_A_month "RedSky" 7) (hM : XM X l G { frames := 6, cells := 0, slots := 0, locals := 147 }) {o : Int32 × AW} (hR : XR X (some .int) 0 0 (some (vi o.1)) o.2) (a0 : Nat) (x1 : Int32) (x2 : Int32) (x3 : Int32) (x4 : Int32) (w : AW) (h : F_A_month a0 x1 x2 x3 x4 w = some o) : RJ X 7 0 0 0 [(0, vr a0), (1, vi x1), (2, vi x2), (3, vi x3), (4, vi x4)] [] w := by
  unfold F_A_month at h
  refine r_aload_n (i := 0) hX d_A_month_0 0 rfl rfl ?_
  refine r_iload_n (i := 1) hX d_A_month_1 1 rfl rfl ?_
  obtain ⟨hk1, h⟩ := gd_e h
  obtain ⟨r2, hr3, h⟩ := bd_e h
  refine r_callV1 (As := [_]) hX hM mw_A_200 (T_A_sayingOf _ _ _ hr3) (rc_of ci_0 hk1) rfl rfl ⟨Nat.le_refl _, Nat.le_refl _⟩ rfl rfl d_A_month_2 ?_
  refine r_astore (i := 5) hX d_A_month_5  (by decide) ?_
  refine r_aload_n (i := 0) hX d_A_month_7 1 rfl rfl ?_
  refine r_iload_n (i := 2) hX d_A_month_8 3 rfl rfl ?_
  obtain ⟨r4, hr5, h⟩ := bd_e h
  refine r_callV1 (As := [_]) hX hM mw_A_141 (T_A_diaryOf _ _ _ hr5) (rc_of ci_0 hk1) rfl rfl ⟨Nat.le_refl _, Nat.le_refl _⟩ rfl rfl d_A_month_9 ?_
  refine r_astore (i := 6) hX d_A_month_12  (by decide) ?_
  refine r_aload (i := 5) hX d_A_month_14 1  rfl ?_
  refine r_ifnull hX d_A_month_16 rfl h (fun h => ?_) (fun h => ?_)
  · refine r_bipush (v := (-101 : Int32)) hX d_A_month_24 rfl ?_
    cases h; exact r_iret hX hR d_A_month_26
  · refine r_aload (i := 6) hX d_A_month_19 0  rfl ?_
    refine r_ifnonnull hX d_A_month_21 rfl h (fun h => ?_) (fun h => ?_)
    · refine r_iload_n (i := 3) hX d_A_month_27 5 rfl rfl ?_
      refine r_callS1 (As := [_]) hX hM mw_A_101 (T_A_isMonth _ _) rfl rfl ⟨Nat.le_refl _, Nat.le_refl _⟩ rfl rfl d_A_month_28 ?_
      refine r_if_eq hX d_A_month_31 rfl h (fun h => ?_) (fun h => ?_)
      · refine r_bipush (v := (-102 : Int32)) hX d_A_month_44 rfl ?_
        cases h; exact r_iret hX hR d_A_month_46
      · refine r_iload (i := 4) hX d_A_month_34 6  rfl ?_
        refine r_iconst (v := (0 : Int32)) hX d_A_month_36 rfl ?_
        refine r_iconst (v := (3 : Int32)) hX d_A_month_37 rfl ?_
        refine r_callS1 (As := [_, _, _]) hX hM mw_A_86 (T_A_within _ _ _ _) rfl rfl ⟨Nat.le_refl _, Nat.le_refl _⟩ rfl rfl d_A_month_38 ?_
        refine r_if_ne hX d_A_month_41 rfl h (fun h => ?_) (fun h => ?_)
        · refine r_aload_n (i := 0) hX d_A_month_47 2 rfl rfl ?_
          refine r_getR (i := 0) (f := 6) hX ci_0 (by decide) rfl fl_A_49 hk1 d_A_month_48 ?_
          refine r_aload (i := 5) hX d_A_month_51 1  rfl ?_
          refine r_aload (i := 6) hX d_A_month_53 0  rfl ?_
          refine r_aload_n (i := 0) hX d_A_month_55 2 rfl rfl ?_
          refine r_getR (i := 0) (f := 0) hX ci_0 (by decide) rfl fl_A_10 hk1 d_A_month_56 ?_
          refine r_aload_n (i := 0) hX d_A_month_59 2 rfl rfl ?_
          refine r_getR (i := 0) (f := 5) hX ci_0 (by decide) rfl fl_A_42 hk1 d_A_month_60 ?_
          obtain ⟨hk6, h⟩ := gd_e h
          obtain ⟨r7, hr8, h⟩ := bd_e h
          refine r_callV0 (As := [_, _, _, _]) hX hM mw_A_207 (T_Rd_read _ _ _ _ _ _ hr8) (rc_of ci_8 hk6) rfl rfl ⟨Nat.le_refl _, Nat.le_refl _⟩ rfl rfl d_A_month_63 ?_
          refine r_aload_n (i := 0) hX d_A_month_66 2 rfl rfl ?_
          obtain ⟨hk9, h⟩ := gd_e h
          refine r_getR (i := 0) (f := 8) hX ci_0 (by decide) rfl fl_A_59 hk9 d_A_month_67 ?_
          obtain ⟨hk10, h⟩ := gd_e h
          obtain ⟨r11, hr12, h⟩ := bd_e h
          refine r_callV0 (As := []) hX hM mw_A_214 (T_Dy_clear _ _ hr12) (rc_of ci_7 hk10) rfl rfl ⟨Nat.le_refl _, Nat.le_refl _⟩ rfl rfl d_A_month_70 ?_
          refine r_aload_n (i := 0) hX d_A_month_73 2 rfl rfl ?_
          obtain ⟨hk13, h⟩ := gd_e h
          refine r_getR (i := 0) (f := 0) hX ci_0 (by decide) rfl fl_A_10 hk13 d_A_month_74 ?_
          refine r_iload_n (i := 3) hX d_A_month_77 5 rfl rfl ?_
          refine r_iload_n (i := 3) hX d_A_month_78 5 rfl rfl ?_
          refine r_aload_n (i := 0) hX d_A_month_79 2 rfl rfl ?_
          refine r_getR (i := 0) (f := 8) hX ci_0 (by decide) rfl fl_A_59 hk13 d_A_month_80 ?_
          obtain ⟨hk14, h⟩ := gd_e h
          obtain ⟨r15, hr16, h⟩ := bd_e h
          refine r_callV0 (As := [_, _, _]) hX hM mw_A_227 (T_Ca_addMonths _ _ _ _ _ hr16) (rc_of ci_1 hk14) rfl rfl ⟨Nat.le_refl _, Nat.le_refl _⟩ rfl rfl d_A_month_83 ?_
          refine r_aload_n (i := 0) hX d_A_month_86 2 rfl rfl ?_
          obtain ⟨hk17, h⟩ := gd_e h
          refine r_getR (i := 0) (f := 6) hX ci_0 (by decide) rfl fl_A_49 hk17 d_A_month_87 ?_
          refine r_iload (i := 4) hX d_A_month_90 6  rfl ?_
          obtain ⟨hk18, h⟩ := gd_e h
          obtain ⟨r19, hr20, h⟩ := bd_e h
          refine r_callV1 (As := [_]) hX hM mw_A_219 (T_Rd_part _ _ _ hr20) (rc_of ci_8 hk18) rfl rfl ⟨Nat.le_refl _, Nat.le_refl _⟩ rfl rfl d_A_month_92 ?_
          refine r_aload_n (i := 0) hX d_A_month_95 2 rfl rfl ?_
          refine r_getR (i := 0) (f := 8) hX ci_0 (by decide) rfl fl_A_59 hk17 d_A_month_96 ?_
          obtain ⟨hk21, h⟩ := gd_e h
          obtain ⟨r22, hr23, h⟩ := bd_e h
          refine r_callV1 (As := [_]) hX hM mw_A_223 (T_Dy_sizeWith _ _ _ hr23) (rc_of ci_7 hk21) rfl rfl ⟨Nat.le_refl _, Nat.le_refl _⟩ rfl rfl d_A_month_99 ?_
          cases h; exact r_iret hX hR d_A_month_102
        · refine r_bipush (v := (-102 : Int32)) hX d_A_month_44 rfl ?_
          cases h; exact r_iret hX hR d_A_month_46
    · refine r_bipush (v := (-101 : Int32)) hX d_A_month_24 rfl ?_
      cases h; exact r_iret hX hR d_A_month_26
theorem T_A_month {l : Launch} {G : AG} (a0 : Nat) (x1 : Int32) (x2 : Int32) (x3 : Int32) (x4 : Int32) (w : AW) {o : Int32 × AW} (h : F_A_month a0 x1 x2 x3 x4 w = some o) : Mt l G y_A_month b_A_month 7 (some (.int)) 6 147 0 0 [vr a0, vi x1, vi x2, vi x3, vi x4] w (some (vi o.1)) o.2 := mt_of (by decide) (Nat.le_of_ble_eq_true rfl) (fun X hX hR hM hI => P_A_month_0 hX hM hR _ _ _ _ _ _ h)
/-! RedSkyModel.monthCount(IIII)I -/
theorem d_M_monthCount_0 : decode b_M_monthCount 0 = .ok (.iconst 0, 1) := by decide +kernel
theorem d_M_monthCount_1 : decode b_M_monthCount 1 = .ok (.istore 5, 2) := by decide +kernel
theorem d_M_monthCount_3 : decode b_M_monthCount 3 = .ok (.iconst 0, 1) := by decide +kernel
theorem d_M_monthCount_4 : decode b_M_monthCount 4 = .ok (.istore 6, 2) := by decide +kernel
theorem d_M_monthCount_6 : decode b_M_monthCount 6 = .ok (.iload 6, 2) := by decide +kernel
theorem d_M_monthCount_8 : decode b_M_monthCount 8 = .ok (.iconst 4, 1) := by decide +kernel
theorem d_M_monthCount_9 : decode b_M_monthCount 9 = .ok (.if_icmp .ge (44), 3) := by decide +kernel
theorem d_M_monthCount_12 : decode b_M_monthCount 12 = .ok (.iload 5, 2) := by decide +kernel
theorem d_M_monthCount_14 : decode b_M_monthCount 14 = .ok (.aload_n 0, 1) := by decide +kernel
theorem d_M_monthCount_15 : decode b_M_monthCount 15 = .ok (.iload_n 1, 1) := by decide +kernel
theorem d_M_monthCount_16 : decode b_M_monthCount 16 = .ok (.iload_n 2, 1) := by decide +kernel
theorem d_M_monthCount_17 : decode b_M_monthCount 17 = .ok (.aload_n 0, 1) := by decide +kernel
theorem d_M_monthCount_18 : decode b_M_monthCount 18 = .ok (.iload 6, 2) := by decide +kernel
theorem d_M_monthCount_20 : decode b_M_monthCount 20 = .ok (.iload_n 3, 1) := by decide +kernel
theorem d_M_monthCount_21 : decode b_M_monthCount 21 = .ok (.invokevirtual 110, 3) := by decide +kernel
theorem d_M_monthCount_24 : decode b_M_monthCount 24 = .ok (.aload_n 0, 1) := by decide +kernel
theorem d_M_monthCount_25 : decode b_M_monthCount 25 = .ok (.iload 6, 2) := by decide +kernel
theorem d_M_monthCount_27 : decode b_M_monthCount 27 = .ok (.iload_n 3, 1) := by decide +kernel
theorem d_M_monthCount_28 : decode b_M_monthCount 28 = .ok (.invokevirtual 110, 3) := by decide +kernel
theorem d_M_monthCount_31 : decode b_M_monthCount 31 = .ok (.aload_n 0, 1) := by decide +kernel
theorem d_M_monthCount_32 : decode b_M_monthCount 32 = .ok (.iload 6, 2) := by decide +kernel
theorem d_M_monthCount_34 : decode b_M_monthCount 34 = .ok (.iload_n 3, 1) := by decide +kernel
theorem d_M_monthCount_35 : decode b_M_monthCount 35 = .ok (.invokevirtual 106, 3) := by decide +kernel
theorem d_M_monthCount_38 : decode b_M_monthCount 38 = .ok (.iadd, 1) := by decide +kernel
theorem d_M_monthCount_39 : decode b_M_monthCount 39 = .ok (.iload 4, 2) := by decide +kernel
theorem d_M_monthCount_41 : decode b_M_monthCount 41 = .ok (.invokevirtual 331, 3) := by decide +kernel
theorem d_M_monthCount_44 : decode b_M_monthCount 44 = .ok (.iadd, 1) := by decide +kernel
theorem d_M_monthCount_45 : decode b_M_monthCount 45 = .ok (.istore 5, 2) := by decide +kernel
theorem d_M_monthCount_47 : decode b_M_monthCount 47 = .ok (.iinc 6 (1), 3) := by decide +kernel
theorem d_M_monthCount_50 : decode b_M_monthCount 50 = .ok (.goto (-44), 3) := by decide +kernel
theorem d_M_monthCount_53 : decode b_M_monthCount 53 = .ok (.iload 5, 2) := by decide +kernel
theorem d_M_monthCount_55 : decode b_M_monthCount 55 = .ok (.ireturn, 1) := by decide +kernel
def F_M_monthCount_6_B (rec6 : Nat → Int32 → Int32 → Int32 → Int32 → Int32 → Int32 → AW → Option (Int32 × AW)) (a0 : Nat) (x1 : Int32) (x2 : Int32) (x3 : Int32) (x4 : Int32) (x5 : Int32) (x6 : Int32) (w : AW) : Option (Int32 × AW) :=
  if (4 : Int32) ≤ x6 then
    some (x5, w)
  else
    gd (wk w a0 == 13) <|
    (F_M_begin w a0 x6 x3).bind fun r2 =>
    (F_M_begin w a0 x6 x3).bind fun r4 =>
    (F_M_length w a0 x6 x3).bind fun r6 =>
    (F_M_countOf a0 x1 x2 r2 (r4 + r6) x4 w).bind fun r8 =>
    let v10 : Int32 := (x5 + r8.1)
    let v11 : Int32 := (x6 + (1 : Int32))
    rec6 a0 x1 x2 x3 x4 v10 v11 r8.2
theorem P_M_monthCount_6_B {X : AX} {l : Launch} {G : AG} {rec6 : Nat → Int32 → Int32 → Int32 → Int32 → Int32 → Int32 → AW → Option (Int32 × AW)} (hX : XOK X b_M_monthCount "RedSkyModel" 7) (hM : XM X l G { frames := 8, cells := 0, slots := 0, locals := 193 }) {o : Int32 × AW} (hR : XR X (some .int) 0 0 (some (vi o.1)) o.2) (hrec6 : ∀ (a0 : Nat) (x1 : Int32) (x2 : Int32) (x3 : Int32) (x4 : Int32) (x5 : Int32) (x6 : Int32) (w : AW), rec6 a0 x1 x2 x3 x4 x5 x6 w = some o → RJ X 7 0 0 6 [(0, vr a0), (1, vi x1), (2, vi x2), (3, vi x3), (4, vi x4), (5, vi x5), (6, vi x6)] [] w) (a0 : Nat) (x1 : Int32) (x2 : Int32) (x3 : Int32) (x4 : Int32) (x5 : Int32) (x6 : Int32) (w : AW) (h : F_M_monthCount_6_B rec6 a0 x1 x2 x3 x4 x5 x6 w = some o) : RJ X 7 0 0 6 [(0, vr a0), (1, vi x1), (2, vi x2), (3, vi x3), (4, vi x4), (5, vi x5), (6, vi x6)] [] w := by
  unfold F_M_monthCount_6_B at h
  refine r_iload (i := 6) hX d_M_monthCount_6 6  rfl ?_
  refine r_iconst (v := (4 : Int32)) hX d_M_monthCount_8 rfl ?_
  refine r_icmp_ge hX d_M_monthCount_9 rfl h (fun h => ?_) (fun h => ?_)
  · refine r_iload (i := 5) hX d_M_monthCount_53 5  rfl ?_
    cases h; exact r_iret hX hR d_M_monthCount_55
  · refine r_iload (i := 5) hX d_M_monthCount_12 5  rfl ?_
    refine r_aload_n (i := 0) hX d_M_monthCount_14 0 rfl rfl ?_
    refine r_iload_n (i := 1) hX d_M_monthCount_15 1 rfl rfl ?_
    refine r_iload_n (i := 2) hX d_M_monthCount_16 2 rfl rfl ?_
    refine r_aload_n (i := 0) hX d_M_monthCount_17 0 rfl rfl ?_
    refine r_iload (i := 6) hX d_M_monthCount_18 6  rfl ?_
    refine r_iload_n (i := 3) hX d_M_monthCount_20 3 rfl rfl ?_
    obtain ⟨hk1, h⟩ := gd_e h
    obtain ⟨r2, hr3, h⟩ := bd_e h
    refine r_callV1 (As := [_, _]) hX hM mw_M_110 (T_M_begin _ _ _ _ hr3) (rc_of ci_12 hk1) rfl rfl ⟨Nat.le_refl _, Nat.le_refl _⟩ rfl rfl d_M_monthCount_21 ?_
    refine r_aload_n (i := 0) hX d_M_monthCount_24 0 rfl rfl ?_
    refine r_iload (i := 6) hX d_M_monthCount_25 6  rfl ?_
    refine r_iload_n (i := 3) hX d_M_monthCount_27 3 rfl rfl ?_
    obtain ⟨r4, hr5, h⟩ := bd_e h
    refine r_callV1 (As := [_, _]) hX hM mw_M_110 (T_M_begin _ _ _ _ hr5) (rc_of ci_12 hk1) rfl rfl ⟨Nat.le_refl _, Nat.le_refl _⟩ rfl rfl d_M_monthCount_28 ?_
    refine r_aload_n (i := 0) hX d_M_monthCount_31 0 rfl rfl ?_
    refine r_iload (i := 6) hX d_M_monthCount_32 6  rfl ?_
    refine r_iload_n (i := 3) hX d_M_monthCount_34 3 rfl rfl ?_
    obtain ⟨r6, hr7, h⟩ := bd_e h
    refine r_callV1 (As := [_, _]) hX hM mw_M_106 (T_M_length _ _ _ _ hr7) (rc_of ci_12 hk1) rfl rfl ⟨Nat.le_refl _, Nat.le_refl _⟩ rfl rfl d_M_monthCount_35 ?_
    refine r_iadd hX d_M_monthCount_38 ?_
    refine r_iload (i := 4) hX d_M_monthCount_39 4  rfl ?_
    obtain ⟨r8, hr9, h⟩ := bd_e h
    refine r_callV1 (As := [_, _, _, _, _]) hX hM mw_M_331 (T_M_countOf _ _ _ _ _ _ _ hr9) (rc_of ci_12 hk1) rfl rfl ⟨Nat.le_refl _, Nat.le_refl _⟩ rfl rfl d_M_monthCount_41 ?_
    refine r_iadd hX d_M_monthCount_44 ?_
    refine r_istore (i := 5) hX d_M_monthCount_45  (by decide) ?_
    refine r_iinc (i := 6) (v := (1 : Int32)) hX d_M_monthCount_47 6 rfl rfl (by decide) ?_
    refine r_goto hX d_M_monthCount_50 rfl ?_
    exact rj_sub [2, 3, 4, 5, 6, 1, 0] rfl (hrec6 _ _ _ _ _ _ _ _ h)
def F_M_monthCount_6 : Nat → Nat → Int32 → Int32 → Int32 → Int32 → Int32 → Int32 → AW → Option (Int32 × AW)
  | 0 => fun _ _ _ _ _ _ _ _ => none
  | n + 1 => fun a0 x1 x2 x3 x4 x5 x6 w => F_M_monthCount_6_B (F_M_monthCount_6 n) a0 x1 x2 x3 x4 x5 x6 w
theorem P_M_monthCount_6 {X : AX} {l : Launch} {G : AG} (hX : XOK X b_M_monthCount "RedSkyModel" 7) (hM : XM X l G { frames := 8, cells := 0, slots := 0, locals := 193 }) {o : Int32 × AW} (hR : XR X (some .int) 0 0 (some (vi o.1)) o.2) (fu : Nat) : ∀ (a0 : Nat) (x1 : Int32) (x2 : Int32) (x3 : Int32) (x4 : Int32) (x5 : Int32) (x6 : Int32) (w : AW), F_M_monthCount_6 fu a0 x1 x2 x3 x4 x5 x6 w = some o → RJ X 7 0 0 6 [(0, vr a0), (1, vi x1), (2, vi x2), (3, vi x3), (4, vi x4), (5, vi x5), (6, vi x6)] [] w := by
  induction fu with
  | zero => intro a0 x1 x2 x3 x4 x5 x6 w h; cases h
  | succ n9 ih => intro a0 x1 x2 x3 x4 x5 x6 w h; exact P_M_monthCount_6_B hX hM hR ih _ _ _ _ _ _ _ _ h
def F_M_monthCount (a0 : Nat) (x1 : Int32) (x2 : Int32) (x3 : Int32) (x4 : Int32) (w : AW) : Option (Int32 × AW) :=
  F_M_monthCount_6 FUEL a0 x1 x2 x3 x4 (0 : Int32) (0 : Int32) w
theorem P_M_monthCount_0 {X : AX} {l : Launch} {G : AG} (hX : XOK X b_M_monthCount "RedSkyModel" 7) (hM : XM X l G { frames := 8, cells := 0, slots := 0, locals := 193 }) {o : Int32 × AW} (hR : XR X (some .int) 0 0 (some (vi o.1)) o.2) (a0 : Nat) (x1 : Int32) (x2 : Int32) (x3 : Int32) (x4 : Int32) (w : AW) (h : F_M_monthCount a0 x1 x2 x3 x4 w = some o) : RJ X 7 0 0 0 [(0, vr a0), (1, vi x1), (2, vi x2), (3, vi x3), (4, vi x4)] [] w := by
  unfold F_M_monthCount at h
  refine r_iconst (v := (0 : Int32)) hX d_M_monthCount_0 rfl ?_
  refine r_istore (i := 5) hX d_M_monthCount_1  (by decide) ?_
  refine r_iconst (v := (0 : Int32)) hX d_M_monthCount_3 rfl ?_
  refine r_istore (i := 6) hX d_M_monthCount_4  (by decide) ?_
  exact rj_sub [2, 3, 4, 5, 6, 1, 0] rfl (P_M_monthCount_6 hX hM hR FUEL _ _ _ _ _ _ _ _ h)
theorem T_M_monthCount {l : Launch} {G : AG} (a0 : Nat) (x1 : Int32) (x2 : Int32) (x3 : Int32) (x4 : Int32) (w : AW) {o : Int32 × AW} (h : F_M_monthCount a0 x1 x2 x3 x4 w = some o) : Mt l G y_M_monthCount b_M_monthCount 7 (some (.int)) 8 193 0 0 [vr a0, vi x1, vi x2, vi x3, vi x4] w (some (vi o.1)) o.2 := mt_of (by decide) (Nat.le_of_ble_eq_true rfl) (fun X hX hR hM hI => P_M_monthCount_0 hX hM hR _ _ _ _ _ _ h)
/-! RedSkyModel.month(IIII)I -/
theorem d_M_month_0 : decode b_M_month 0 = .ok (.aload_n 0, 1) := by decide +kernel
theorem d_M_month_1 : decode b_M_month 1 = .ok (.iload_n 1, 1) := by decide +kernel
theorem d_M_month_2 : decode b_M_month 2 = .ok (.invokevirtual 306, 3) := by decide +kernel
theorem d_M_month_5 : decode b_M_month 5 = .ok (.ifCond .eq (10), 3) := by decide +kernel
theorem d_M_month_8 : decode b_M_month 8 = .ok (.iload_n 2, 1) := by decide +kernel
theorem d_M_month_9 : decode b_M_month 9 = .ok (.invokestatic 155, 3) := by decide +kernel
theorem d_M_month_12 : decode b_M_month 12 = .ok (.ifCond .ne (6), 3) := by decide +kernel
theorem d_M_month_15 : decode b_M_month 15 = .ok (.bipush (-101), 2) := by decide +kernel
theorem d_M_month_17 : decode b_M_month 17 = .ok (.ireturn, 1) := by decide +kernel
theorem d_M_month_18 : decode b_M_month 18 = .ok (.iload_n 3, 1) := by decide +kernel
theorem d_M_month_19 : decode b_M_month 19 = .ok (.i2l, 1) := by decide +kernel
theorem d_M_month_20 : decode b_M_month 20 = .ok (.lconst 1, 1) := by decide +kernel
theorem d_M_month_21 : decode b_M_month 21 = .ok (.ldc2_w 128, 3) := by decide +kernel
theorem d_M_month_24 : decode b_M_month 24 = .ok (.invokestatic 122, 3) := by decide +kernel
theorem d_M_month_27 : decode b_M_month 27 = .ok (.ifCond .eq (28), 3) := by decide +kernel
theorem d_M_month_30 : decode b_M_month 30 = .ok (.iload 4, 2) := by decide +kernel
theorem d_M_month_32 : decode b_M_month 32 = .ok (.i2l, 1) := by decide +kernel
theorem d_M_month_33 : decode b_M_month 33 = .ok (.lconst 0, 1) := by decide +kernel
theorem d_M_month_34 : decode b_M_month 34 = .ok (.ldc2_w 126, 3) := by decide +kernel
theorem d_M_month_37 : decode b_M_month 37 = .ok (.invokestatic 122, 3) := by decide +kernel
theorem d_M_month_40 : decode b_M_month 40 = .ok (.ifCond .eq (15), 3) := by decide +kernel
theorem d_M_month_43 : decode b_M_month 43 = .ok (.aload_n 0, 1) := by decide +kernel
theorem d_M_month_44 : decode b_M_month 44 = .ok (.iload_n 1, 1) := by decide +kernel
theorem d_M_month_45 : decode b_M_month 45 = .ok (.iload_n 2, 1) := by decide +kernel
theorem d_M_month_46 : decode b_M_month 46 = .ok (.iload_n 3, 1) := by decide +kernel
theorem d_M_month_47 : decode b_M_month 47 = .ok (.iload 4, 2) := by decide +kernel
theorem d_M_month_49 : decode b_M_month 49 = .ok (.invokevirtual 335, 3) := by decide +kernel
theorem d_M_month_52 : decode b_M_month 52 = .ok (.goto (5), 3) := by decide +kernel
theorem d_M_month_55 : decode b_M_month 55 = .ok (.bipush (-102), 2) := by decide +kernel
theorem d_M_month_57 : decode b_M_month 57 = .ok (.ireturn, 1) := by decide +kernel
def F_M_month (a0 : Nat) (x1 : Int32) (x2 : Int32) (x3 : Int32) (x4 : Int32) (w : AW) : Option (Int32 × AW) :=
  gd (wk w a0 == 13) <|
  (F_M_isSaying w a0 x1).bind fun r2 =>
  if r2 = 0 then
    some ((-101 : Int32), w)
  else
    if (F_M_isValley x2) = 0 then
      some ((-101 : Int32), w)
    else
      if (F_M_in (Int32.toInt64 x3) (1 : Int64) (12 : Int64)) = 0 then
        some ((-102 : Int32), w)
      else
        if (F_M_in (Int32.toInt64 x4) (0 : Int64) (3 : Int64)) = 0 then
          some ((-102 : Int32), w)
        else
          (F_M_monthCount a0 x1 x2 x3 x4 w).bind fun r4 =>
          some (r4.1, r4.2)
theorem P_M_month_0 {X : AX} {l : Launch} {G : AG} (hX : XOK X b_M_month "RedSkyModel" 5) (hM : XM X l G { frames := 9, cells := 0, slots := 0, locals := 219 }) {o : Int32 × AW} (hR : XR X (some .int) 0 0 (some (vi o.1)) o.2) (a0 : Nat) (x1 : Int32) (x2 : Int32) (x3 : Int32) (x4 : Int32) (w : AW) (h : F_M_month a0 x1 x2 x3 x4 w = some o) : RJ X 5 0 0 0 [(0, vr a0), (1, vi x1), (2, vi x2), (3, vi x3), (4, vi x4)] [] w := by
  unfold F_M_month at h
  refine r_aload_n (i := 0) hX d_M_month_0 0 rfl rfl ?_
  refine r_iload_n (i := 1) hX d_M_month_1 1 rfl rfl ?_
  obtain ⟨hk1, h⟩ := gd_e h
  obtain ⟨r2, hr3, h⟩ := bd_e h
  refine r_callV1 (As := [_]) hX hM mw_M_306 (T_M_isSaying _ _ _ hr3) (rc_of ci_12 hk1) rfl rfl ⟨Nat.le_refl _, Nat.le_refl _⟩ rfl rfl d_M_month_2 ?_
  refine r_if_eq hX d_M_month_5 rfl h (fun h => ?_) (fun h => ?_)
  · refine r_bipush (v := (-101 : Int32)) hX d_M_month_15 rfl ?_
    cases h; exact r_iret hX hR d_M_month_17
  · refine r_iload_n (i := 2) hX d_M_month_8 2 rfl rfl ?_
    refine r_callS1 (As := [_]) hX hM mw_M_155 (T_M_isValley _ _) rfl rfl ⟨Nat.le_refl _, Nat.le_refl _⟩ rfl rfl d_M_month_9 ?_
    refine r_if_ne hX d_M_month_12 rfl h (fun h => ?_) (fun h => ?_)
    · refine r_iload_n (i := 3) hX d_M_month_18 3 rfl rfl ?_
      refine r_i2l hX d_M_month_19 ?_
      refine r_lconst (v := (1 : Int64)) hX d_M_month_20 rfl ?_
      refine r_ldc2 hX d_M_month_21 cw_M_128 ?_
      refine r_callS1 (As := [_, _, _]) hX hM mw_M_122 (T_M_in _ _ _ _) rfl rfl ⟨Nat.le_refl _, Nat.le_refl _⟩ rfl rfl d_M_month_24 ?_
      refine r_if_eq hX d_M_month_27 rfl h (fun h => ?_) (fun h => ?_)
      · refine r_bipush (v := (-102 : Int32)) hX d_M_month_55 rfl ?_
        cases h; exact r_iret hX hR d_M_month_57
      · refine r_iload (i := 4) hX d_M_month_30 4  rfl ?_
        refine r_i2l hX d_M_month_32 ?_
        refine r_lconst (v := (0 : Int64)) hX d_M_month_33 rfl ?_
        refine r_ldc2 hX d_M_month_34 cw_M_126 ?_
        refine r_callS1 (As := [_, _, _]) hX hM mw_M_122 (T_M_in _ _ _ _) rfl rfl ⟨Nat.le_refl _, Nat.le_refl _⟩ rfl rfl d_M_month_37 ?_
        refine r_if_eq hX d_M_month_40 rfl h (fun h => ?_) (fun h => ?_)
        · refine r_bipush (v := (-102 : Int32)) hX d_M_month_55 rfl ?_
          cases h; exact r_iret hX hR d_M_month_57
        · refine r_aload_n (i := 0) hX d_M_month_43 0 rfl rfl ?_
          refine r_iload_n (i := 1) hX d_M_month_44 1 rfl rfl ?_
          refine r_iload_n (i := 2) hX d_M_month_45 2 rfl rfl ?_
          refine r_iload_n (i := 3) hX d_M_month_46 3 rfl rfl ?_
          refine r_iload (i := 4) hX d_M_month_47 4  rfl ?_
          obtain ⟨r4, hr5, h⟩ := bd_e h
          refine r_callV1 (As := [_, _, _, _]) hX hM mw_M_335 (T_M_monthCount _ _ _ _ _ _ hr5) (rc_of ci_12 hk1) rfl rfl ⟨Nat.le_refl _, Nat.le_refl _⟩ rfl rfl d_M_month_49 ?_
          refine r_goto hX d_M_month_52 rfl ?_
          cases h; exact r_iret hX hR d_M_month_57
    · refine r_bipush (v := (-101 : Int32)) hX d_M_month_15 rfl ?_
      cases h; exact r_iret hX hR d_M_month_17
theorem T_M_month {l : Launch} {G : AG} (a0 : Nat) (x1 : Int32) (x2 : Int32) (x3 : Int32) (x4 : Int32) (w : AW) {o : Int32 × AW} (h : F_M_month a0 x1 x2 x3 x4 w = some o) : Mt l G y_M_month b_M_month 5 (some (.int)) 9 219 0 0 [vr a0, vi x1, vi x2, vi x3, vi x4] w (some (vi o.1)) o.2 := mt_of (by decide) (Nat.le_of_ble_eq_true rfl) (fun X hX hR hM hI => P_M_month_0 hX hM hR _ _ _ _ _ _ h)
/-! RedSky.expectedOfReading()I -/
theorem d_A_expectedOfReading_0 : decode b_A_expectedOfReading 0 = .ok (.iconst 0, 1) := by decide +kernel
theorem d_A_expectedOfReading_1 : decode b_A_expectedOfReading 1 = .ok (.istore_n 1, 1) := by decide +kernel
theorem d_A_expectedOfReading_2 : decode b_A_expectedOfReading 2 = .ok (.iconst 1, 1) := by decide +kernel
theorem d_A_expectedOfReading_3 : decode b_A_expectedOfReading 3 = .ok (.istore_n 2, 1) := by decide +kernel
theorem d_A_expectedOfReading_4 : decode b_A_expectedOfReading 4 = .ok (.iload_n 2, 1) := by decide +kernel
theorem d_A_expectedOfReading_5 : decode b_A_expectedOfReading 5 = .ok (.bipush (12), 2) := by decide +kernel
theorem d_A_expectedOfReading_7 : decode b_A_expectedOfReading 7 = .ok (.if_icmp .gt (86), 3) := by decide +kernel
theorem d_A_expectedOfReading_10 : decode b_A_expectedOfReading 10 = .ok (.aload_n 0, 1) := by decide +kernel
theorem d_A_expectedOfReading_11 : decode b_A_expectedOfReading 11 = .ok (.getfield 59, 3) := by decide +kernel
theorem d_A_expectedOfReading_14 : decode b_A_expectedOfReading 14 = .ok (.invokevirtual 214, 3) := by decide +kernel
theorem d_A_expectedOfReading_17 : decode b_A_expectedOfReading 17 = .ok (.aload_n 0, 1) := by decide +kernel
theorem d_A_expectedOfReading_18 : decode b_A_expectedOfReading 18 = .ok (.getfield 10, 3) := by decide +kernel
theorem d_A_expectedOfReading_21 : decode b_A_expectedOfReading 21 = .ok (.iload_n 2, 1) := by decide +kernel
theorem d_A_expectedOfReading_22 : decode b_A_expectedOfReading 22 = .ok (.iload_n 2, 1) := by decide +kernel
theorem d_A_expectedOfReading_23 : decode b_A_expectedOfReading 23 = .ok (.aload_n 0, 1) := by decide +kernel
theorem d_A_expectedOfReading_24 : decode b_A_expectedOfReading 24 = .ok (.getfield 59, 3) := by decide +kernel
theorem d_A_expectedOfReading_27 : decode b_A_expectedOfReading 27 = .ok (.invokevirtual 227, 3) := by decide +kernel
theorem d_A_expectedOfReading_30 : decode b_A_expectedOfReading 30 = .ok (.aload_n 0, 1) := by decide +kernel
theorem d_A_expectedOfReading_31 : decode b_A_expectedOfReading 31 = .ok (.getfield 49, 3) := by decide +kernel
theorem d_A_expectedOfReading_34 : decode b_A_expectedOfReading 34 = .ok (.getfield 352, 3) := by decide +kernel
theorem d_A_expectedOfReading_37 : decode b_A_expectedOfReading 37 = .ok (.aload_n 0, 1) := by decide +kernel
theorem d_A_expectedOfReading_38 : decode b_A_expectedOfReading 38 = .ok (.getfield 59, 3) := by decide +kernel
theorem d_A_expectedOfReading_41 : decode b_A_expectedOfReading 41 = .ok (.invokevirtual 223, 3) := by decide +kernel
theorem d_A_expectedOfReading_44 : decode b_A_expectedOfReading 44 = .ok (.istore_n 3, 1) := by decide +kernel
theorem d_A_expectedOfReading_45 : decode b_A_expectedOfReading 45 = .ok (.iload_n 3, 1) := by decide +kernel
theorem d_A_expectedOfReading_46 : decode b_A_expectedOfReading 46 = .ok (.ifCond .le (41), 3) := by decide +kernel
theorem d_A_expectedOfReading_49 : decode b_A_expectedOfReading 49 = .ok (.iload_n 1, 1) := by decide +kernel
theorem d_A_expectedOfReading_50 : decode b_A_expectedOfReading 50 = .ok (.aload_n 0, 1) := by decide +kernel
theorem d_A_expectedOfReading_51 : decode b_A_expectedOfReading 51 = .ok (.getfield 49, 3) := by decide +kernel
theorem d_A_expectedOfReading_54 : decode b_A_expectedOfReading 54 = .ok (.getfield 248, 3) := by decide +kernel
theorem d_A_expectedOfReading_57 : decode b_A_expectedOfReading 57 = .ok (.aload_n 0, 1) := by decide +kernel
theorem d_A_expectedOfReading_58 : decode b_A_expectedOfReading 58 = .ok (.getfield 59, 3) := by decide +kernel
theorem d_A_expectedOfReading_61 : decode b_A_expectedOfReading 61 = .ok (.invokevirtual 223, 3) := by decide +kernel
theorem d_A_expectedOfReading_64 : decode b_A_expectedOfReading 64 = .ok (.sipush (1000), 3) := by decide +kernel
theorem d_A_expectedOfReading_67 : decode b_A_expectedOfReading 67 = .ok (.imul, 1) := by decide +kernel
theorem d_A_expectedOfReading_68 : decode b_A_expectedOfReading 68 = .ok (.aload_n 0, 1) := by decide +kernel
theorem d_A_expectedOfReading_69 : decode b_A_expectedOfReading 69 = .ok (.getfield 49, 3) := by decide +kernel
theorem d_A_expectedOfReading_72 : decode b_A_expectedOfReading 72 = .ok (.getfield 355, 3) := by decide +kernel
theorem d_A_expectedOfReading_75 : decode b_A_expectedOfReading 75 = .ok (.aload_n 0, 1) := by decide +kernel
theorem d_A_expectedOfReading_76 : decode b_A_expectedOfReading 76 = .ok (.getfield 59, 3) := by decide +kernel
theorem d_A_expectedOfReading_79 : decode b_A_expectedOfReading 79 = .ok (.invokevirtual 223, 3) := by decide +kernel
theorem d_A_expectedOfReading_82 : decode b_A_expectedOfReading 82 = .ok (.imul, 1) := by decide +kernel
theorem d_A_expectedOfReading_83 : decode b_A_expectedOfReading 83 = .ok (.iload_n 3, 1) := by decide +kernel
theorem d_A_expectedOfReading_84 : decode b_A_expectedOfReading 84 = .ok (.idiv, 1) := by decide +kernel
theorem d_A_expectedOfReading_85 : decode b_A_expectedOfReading 85 = .ok (.iadd, 1) := by decide +kernel
theorem d_A_expectedOfReading_86 : decode b_A_expectedOfReading 86 = .ok (.istore_n 1, 1) := by decide +kernel
theorem d_A_expectedOfReading_87 : decode b_A_expectedOfReading 87 = .ok (.iinc 2 (1), 3) := by decide +kernel
theorem d_A_expectedOfReading_90 : decode b_A_expectedOfReading 90 = .ok (.goto (-86), 3) := by decide +kernel
theorem d_A_expectedOfReading_93 : decode b_A_expectedOfReading 93 = .ok (.iload_n 1, 1) := by decide +kernel
theorem d_A_expectedOfReading_94 : decode b_A_expectedOfReading 94 = .ok (.ireturn, 1) := by decide +kernel
def F_A_expectedOfReading_4_B (rec4 : Nat → Int32 → Int32 → AW → Option (Int32 × AW)) (a0 : Nat) (x1 : Int32) (x2 : Int32) (w : AW) : Option (Int32 × AW) :=
  if (12 : Int32) < x2 then
    some (x1, w)
  else
    gd (wk w a0 == 1) <|
    gd (wk w (wr w a0 8) == 8) <|
    (F_Dy_clear (wr w a0 8) w).bind fun r3 =>
    gd (wk r3 a0 == 1) <|
    gd (wk r3 (wr r3 a0 0) == 2) <|
    (F_Ca_addMonths (wr r3 a0 0) x2 x2 (wr r3 a0 8) r3).bind fun r7 =>
    gd (wk r7 a0 == 1) <|
    gd (wk r7 (wr r7 a0 6) == 9) <|
    gd (wk r7 (wr r7 (wr r7 a0 6) 5) == 8) <|
    (F_Dy_sizeWith r7 (wr r7 (wr r7 a0 6) 5) (wr r7 a0 8)).bind fun r12 =>
    if r12 ≤ 0 then
      let v14 : Int32 := (x2 + (1 : Int32))
      rec4 a0 x1 v14 r7
    else
      gd (wk r7 (wr r7 (wr r7 a0 6) 6) == 8) <|
      (F_Dy_sizeWith r7 (wr r7 (wr r7 a0 6) 6) (wr r7 a0 8)).bind fun r16 =>
      gd (wk r7 (wr r7 (wr r7 a0 6) 8) == 8) <|
      (F_Dy_sizeWith r7 (wr r7 (wr r7 a0 6) 8) (wr r7 a0 8)).bind fun r19 =>
      gd (decide (¬ r12 = 0)) <|
      let v22 : Int32 := (x1 + (((r16 * (1000 : Int32)) * r19) / r12))
      let v23 : Int32 := (x2 + (1 : Int32))
      rec4 a0 v22 v23 r7
theorem P_A_expectedOfReading_4_B {X : AX} {l : Launch} {G : AG} {rec4 : Nat → Int32 → Int32 → AW → Option (Int32 × AW)} (hX : XOK X b_A_expectedOfReading "RedSky" 4) (hM : XM X l G { frames := 4, cells := 0, slots := 0, locals := 96 }) {o : Int32 × AW} (hR : XR X (some .int) 0 0 (some (vi o.1)) o.2) (hrec4 : ∀ (a0 : Nat) (x1 : Int32) (x2 : Int32) (w : AW), rec4 a0 x1 x2 w = some o → RJ X 4 0 0 4 [(0, vr a0), (1, vi x1), (2, vi x2)] [] w) (a0 : Nat) (x1 : Int32) (x2 : Int32) (w : AW) (h : F_A_expectedOfReading_4_B rec4 a0 x1 x2 w = some o) : RJ X 4 0 0 4 [(0, vr a0), (1, vi x1), (2, vi x2)] [] w := by
  unfold F_A_expectedOfReading_4_B at h
  refine r_iload_n (i := 2) hX d_A_expectedOfReading_4 2 rfl rfl ?_
  refine r_bipush (v := (12 : Int32)) hX d_A_expectedOfReading_5 rfl ?_
  refine r_icmp_gt hX d_A_expectedOfReading_7 rfl h (fun h => ?_) (fun h => ?_)
  · refine r_iload_n (i := 1) hX d_A_expectedOfReading_93 1 rfl rfl ?_
    cases h; exact r_iret hX hR d_A_expectedOfReading_94
  · refine r_aload_n (i := 0) hX d_A_expectedOfReading_10 0 rfl rfl ?_
    obtain ⟨hk1, h⟩ := gd_e h
    refine r_getR (i := 0) (f := 8) hX ci_0 (by decide) rfl fl_A_59 hk1 d_A_expectedOfReading_11 ?_
    obtain ⟨hk2, h⟩ := gd_e h
    obtain ⟨r3, hr4, h⟩ := bd_e h
    refine r_callV0 (As := []) hX hM mw_A_214 (T_Dy_clear _ _ hr4) (rc_of ci_7 hk2) rfl rfl ⟨Nat.le_refl _, Nat.le_refl _⟩ rfl rfl d_A_expectedOfReading_14 ?_
    refine r_aload_n (i := 0) hX d_A_expectedOfReading_17 0 rfl rfl ?_
    obtain ⟨hk5, h⟩ := gd_e h
    refine r_getR (i := 0) (f := 0) hX ci_0 (by decide) rfl fl_A_10 hk5 d_A_expectedOfReading_18 ?_
    refine r_iload_n (i := 2) hX d_A_expectedOfReading_21 2 rfl rfl ?_
    refine r_iload_n (i := 2) hX d_A_expectedOfReading_22 2 rfl rfl ?_
    refine r_aload_n (i := 0) hX d_A_expectedOfReading_23 0 rfl rfl ?_
    refine r_getR (i := 0) (f := 8) hX ci_0 (by decide) rfl fl_A_59 hk5 d_A_expectedOfReading_24 ?_
    obtain ⟨hk6, h⟩ := gd_e h
    obtain ⟨r7, hr8, h⟩ := bd_e h
    refine r_callV0 (As := [_, _, _]) hX hM mw_A_227 (T_Ca_addMonths _ _ _ _ _ hr8) (rc_of ci_1 hk6) rfl rfl ⟨Nat.le_refl _, Nat.le_refl _⟩ rfl rfl d_A_expectedOfReading_27 ?_
    refine r_aload_n (i := 0) hX d_A_expectedOfReading_30 0 rfl rfl ?_
    obtain ⟨hk9, h⟩ := gd_e h
    refine r_getR (i := 0) (f := 6) hX ci_0 (by decide) rfl fl_A_49 hk9 d_A_expectedOfReading_31 ?_
    obtain ⟨hk10, h⟩ := gd_e h
    refine r_getR (i := 8) (f := 5) hX ci_8 (by decide) rfl fl_A_352 hk10 d_A_expectedOfReading_34 ?_
    refine r_aload_n (i := 0) hX d_A_expectedOfReading_37 0 rfl rfl ?_
    refine r_getR (i := 0) (f := 8) hX ci_0 (by decide) rfl fl_A_59 hk9 d_A_expectedOfReading_38 ?_
    obtain ⟨hk11, h⟩ := gd_e h
    obtain ⟨r12, hr13, h⟩ := bd_e h
    refine r_callV1 (As := [_]) hX hM mw_A_223 (T_Dy_sizeWith _ _ _ hr13) (rc_of ci_7 hk11) rfl rfl ⟨Nat.le_refl _, Nat.le_refl _⟩ rfl rfl d_A_expectedOfReading_41 ?_
    refine r_istore_n (i := 3) hX d_A_expectedOfReading_44 rfl (by decide) ?_
    refine r_iload_n (i := 3) hX d_A_expectedOfReading_45 0 rfl rfl ?_
    refine r_if_le hX d_A_expectedOfReading_46 rfl h (fun h => ?_) (fun h => ?_)
    · refine r_iinc (i := 2) (v := (1 : Int32)) hX d_A_expectedOfReading_87 3 rfl rfl (by decide) ?_
      refine r_goto hX d_A_expectedOfReading_90 rfl ?_
      exact rj_sub [2, 3, 0] rfl (hrec4 _ _ _ _ h)
    · refine r_iload_n (i := 1) hX d_A_expectedOfReading_49 2 rfl rfl ?_
      refine r_aload_n (i := 0) hX d_A_expectedOfReading_50 1 rfl rfl ?_
      refine r_getR (i := 0) (f := 6) hX ci_0 (by decide) rfl fl_A_49 hk9 d_A_expectedOfReading_51 ?_
      refine r_getR (i := 8) (f := 6) hX ci_8 (by decide) rfl fl_A_248 hk10 d_A_expectedOfReading_54 ?_
      refine r_aload_n (i := 0) hX d_A_expectedOfReading_57 1 rfl rfl ?_
      refine r_getR (i := 0) (f := 8) hX ci_0 (by decide) rfl fl_A_59 hk9 d_A_expectedOfReading_58 ?_
      obtain ⟨hk15, h⟩ := gd_e h
      obtain ⟨r16, hr17, h⟩ := bd_e h
      refine r_callV1 (As := [_]) hX hM mw_A_223 (T_Dy_sizeWith _ _ _ hr17) (rc_of ci_7 hk15) rfl rfl ⟨Nat.le_refl _, Nat.le_refl _⟩ rfl rfl d_A_expectedOfReading_61 ?_
      refine r_sipush (v := (1000 : Int32)) hX d_A_expectedOfReading_64 rfl ?_
      refine r_imul hX d_A_expectedOfReading_67 ?_
      refine r_aload_n (i := 0) hX d_A_expectedOfReading_68 1 rfl rfl ?_
      refine r_getR (i := 0) (f := 6) hX ci_0 (by decide) rfl fl_A_49 hk9 d_A_expectedOfReading_69 ?_
      refine r_getR (i := 8) (f := 8) hX ci_8 (by decide) rfl fl_A_355 hk10 d_A_expectedOfReading_72 ?_
      refine r_aload_n (i := 0) hX d_A_expectedOfReading_75 1 rfl rfl ?_
      refine r_getR (i := 0) (f := 8) hX ci_0 (by decide) rfl fl_A_59 hk9 d_A_expectedOfReading_76 ?_
      obtain ⟨hk18, h⟩ := gd_e h
      obtain ⟨r19, hr20, h⟩ := bd_e h
      refine r_callV1 (As := [_]) hX hM mw_A_223 (T_Dy_sizeWith _ _ _ hr20) (rc_of ci_7 hk18) rfl rfl ⟨Nat.le_refl _, Nat.le_refl _⟩ rfl rfl d_A_expectedOfReading_79 ?_
      refine r_imul hX d_A_expectedOfReading_82 ?_
      refine r_iload_n (i := 3) hX d_A_expectedOfReading_83 0 rfl rfl ?_
      obtain ⟨hg21, h⟩ := gd_e h
      refine r_idiv hX d_A_expectedOfReading_84 (of_decide_eq_true hg21) ?_
      refine r_iadd hX d_A_expectedOfReading_85 ?_
      refine r_istore_n (i := 1) hX d_A_expectedOfReading_86 rfl (by decide) ?_
      refine r_iinc (i := 2) (v := (1 : Int32)) hX d_A_expectedOfReading_87 3 rfl rfl (by decide) ?_
      refine r_goto hX d_A_expectedOfReading_90 rfl ?_
      exact rj_sub [3, 1, 0] rfl (hrec4 _ _ _ _ h)
def F_A_expectedOfReading_4 : Nat → Nat → Int32 → Int32 → AW → Option (Int32 × AW)
  | 0 => fun _ _ _ _ => none
  | n + 1 => fun a0 x1 x2 w => F_A_expectedOfReading_4_B (F_A_expectedOfReading_4 n) a0 x1 x2 w
theorem P_A_expectedOfReading_4 {X : AX} {l : Launch} {G : AG} (hX : XOK X b_A_expectedOfReading "RedSky" 4) (hM : XM X l G { frames := 4, cells := 0, slots := 0, locals := 96 }) {o : Int32 × AW} (hR : XR X (some .int) 0 0 (some (vi o.1)) o.2) (fu : Nat) : ∀ (a0 : Nat) (x1 : Int32) (x2 : Int32) (w : AW), F_A_expectedOfReading_4 fu a0 x1 x2 w = some o → RJ X 4 0 0 4 [(0, vr a0), (1, vi x1), (2, vi x2)] [] w := by
  induction fu with
  | zero => intro a0 x1 x2 w h; cases h
  | succ n9 ih => intro a0 x1 x2 w h; exact P_A_expectedOfReading_4_B hX hM hR ih _ _ _ _ h
def F_A_expectedOfReading (a0 : Nat) (w : AW) : Option (Int32 × AW) :=
  F_A_expectedOfReading_4 FUEL a0 (0 : Int32) (1 : Int32) w
theorem P_A_expectedOfReading_0 {X : AX} {l : Launch} {G : AG} (hX : XOK X b_A_expectedOfReading "RedSky" 4) (hM : XM X l G { frames := 4, cells := 0, slots := 0, locals := 96 }) {o : Int32 × AW} (hR : XR X (some .int) 0 0 (some (vi o.1)) o.2) (a0 : Nat) (w : AW) (h : F_A_expectedOfReading a0 w = some o) : RJ X 4 0 0 0 [(0, vr a0)] [] w := by
  unfold F_A_expectedOfReading at h
  refine r_iconst (v := (0 : Int32)) hX d_A_expectedOfReading_0 rfl ?_
  refine r_istore_n (i := 1) hX d_A_expectedOfReading_1 rfl (by decide) ?_
  refine r_iconst (v := (1 : Int32)) hX d_A_expectedOfReading_2 rfl ?_
  refine r_istore_n (i := 2) hX d_A_expectedOfReading_3 rfl (by decide) ?_
  exact rj_sub [2, 1, 0] rfl (P_A_expectedOfReading_4 hX hM hR FUEL _ _ _ _ h)
theorem T_A_expectedOfReading {l : Launch} {G : AG} (a0 : Nat) (w : AW) {o : Int32 × AW} (h : F_A_expectedOfReading a0 w = some o) : Mt l G y_A_expectedOfReading b_A_expectedOfReading 4 (some (.int)) 4 96 0 0 [vr a0] w (some (vi o.1)) o.2 := mt_of (by decide) (Nat.le_of_ble_eq_true rfl) (fun X hX hR hM hI => P_A_expectedOfReading_0 hX hM hR _ _ h)
/-! RedSky.expected(II)I -/
theorem d_A_expected_0 : decode b_A_expected 0 = .ok (.aload_n 0, 1) := by decide +kernel
theorem d_A_expected_1 : decode b_A_expected 1 = .ok (.iload_n 1, 1) := by decide +kernel
theorem d_A_expected_2 : decode b_A_expected 2 = .ok (.invokevirtual 200, 3) := by decide +kernel
theorem d_A_expected_5 : decode b_A_expected 5 = .ok (.astore_n 3, 1) := by decide +kernel
theorem d_A_expected_6 : decode b_A_expected 6 = .ok (.aload_n 0, 1) := by decide +kernel
theorem d_A_expected_7 : decode b_A_expected 7 = .ok (.iload_n 2, 1) := by decide +kernel
theorem d_A_expected_8 : decode b_A_expected 8 = .ok (.invokevirtual 141, 3) := by decide +kernel
theorem d_A_expected_11 : decode b_A_expected 11 = .ok (.astore 4, 2) := by decide +kernel
theorem d_A_expected_13 : decode b_A_expected 13 = .ok (.aload_n 3, 1) := by decide +kernel
theorem d_A_expected_14 : decode b_A_expected 14 = .ok (.ifnull (8), 3) := by decide +kernel
theorem d_A_expected_17 : decode b_A_expected 17 = .ok (.aload 4, 2) := by decide +kernel
theorem d_A_expected_19 : decode b_A_expected 19 = .ok (.ifnonnull (6), 3) := by decide +kernel
theorem d_A_expected_22 : decode b_A_expected 22 = .ok (.bipush (-101), 2) := by decide +kernel
theorem d_A_expected_24 : decode b_A_expected 24 = .ok (.ireturn, 1) := by decide +kernel
theorem d_A_expected_25 : decode b_A_expected 25 = .ok (.aload_n 0, 1) := by decide +kernel
theorem d_A_expected_26 : decode b_A_expected 26 = .ok (.getfield 49, 3) := by decide +kernel
theorem d_A_expected_29 : decode b_A_expected 29 = .ok (.aload_n 3, 1) := by decide +kernel
theorem d_A_expected_30 : decode b_A_expected 30 = .ok (.aload 4, 2) := by decide +kernel
theorem d_A_expected_32 : decode b_A_expected 32 = .ok (.aload_n 0, 1) := by decide +kernel
theorem d_A_expected_33 : decode b_A_expected 33 = .ok (.getfield 10, 3) := by decide +kernel
theorem d_A_expected_36 : decode b_A_expected 36 = .ok (.aload_n 0, 1) := by decide +kernel
theorem d_A_expected_37 : decode b_A_expected 37 = .ok (.getfield 42, 3) := by decide +kernel
theorem d_A_expected_40 : decode b_A_expected 40 = .ok (.invokevirtual 207, 3) := by decide +kernel
theorem d_A_expected_43 : decode b_A_expected 43 = .ok (.aload_n 0, 1) := by decide +kernel
theorem d_A_expected_44 : decode b_A_expected 44 = .ok (.invokevirtual 231, 3) := by decide +kernel
theorem d_A_expected_47 : decode b_A_expected 47 = .ok (.ireturn, 1) := by decide +kernel
def F_A_expected (a0 : Nat) (x1 : Int32) (x2 : Int32) (w : AW) : Option (Int32 × AW) :=
  gd (wk w a0 == 1) <|
  (F_A_sayingOf w a0 x1).bind fun r2 =>
  (F_A_diaryOf w a0 x2).bind fun r4 =>
  if r2 = 0 then
    some ((-101 : Int32), w)
  else
    if r4 = 0 then
      some ((-101 : Int32), w)
    else
      gd (wk w (wr w a0 6) == 9) <|
      (F_Rd_read (wr w a0 6) r2 r4 (wr w a0 0) (wr w a0 5) w).bind fun r7 =>
      gd (wk r7 a0 == 1) <|
      (F_A_expectedOfReading a0 r7).bind fun r10 =>
      some (r10.1, r10.2)
theorem P_A_expected_0 {X : AX} {l : Launch} {G : AG} (hX : XOK X b_A_expected "RedSky" 5) (hM : XM X l G { frames := 6, cells := 0, slots := 0, locals := 147 }) {o : Int32 × AW} (hR : XR X (some .int) 0 0 (some (vi o.1)) o.2) (a0 : Nat) (x1 : Int32) (x2 : Int32) (w : AW) (h : F_A_expected a0 x1 x2 w = some o) : RJ X 5 0 0 0 [(0, vr a0), (1, vi x1), (2, vi x2)] [] w := by
  unfold F_A_expected at h
  refine r_aload_n (i := 0) hX d_A_expected_0 0 rfl rfl ?_
  refine r_iload_n (i := 1) hX d_A_expected_1 1 rfl rfl ?_
  obtain ⟨hk1, h⟩ := gd_e h
  obtain ⟨r2, hr3, h⟩ := bd_e h
  refine r_callV1 (As := [_]) hX hM mw_A_200 (T_A_sayingOf _ _ _ hr3) (rc_of ci_0 hk1) rfl rfl ⟨Nat.le_refl _, Nat.le_refl _⟩ rfl rfl d_A_expected_2 ?_
  refine r_astore_n (i := 3) hX d_A_expected_5 rfl (by decide) ?_
  refine r_aload_n (i := 0) hX d_A_expected_6 1 rfl rfl ?_
  refine r_iload_n (i := 2) hX d_A_expected_7 3 rfl rfl ?_
  obtain ⟨r4, hr5, h⟩ := bd_e h
  refine r_callV1 (As := [_]) hX hM mw_A_141 (T_A_diaryOf _ _ _ hr5) (rc_of ci_0 hk1) rfl rfl ⟨Nat.le_refl _, Nat.le_refl _⟩ rfl rfl d_A_expected_8 ?_
  refine r_astore (i := 4) hX d_A_expected_11  (by decide) ?_
  refine r_aload_n (i := 3) hX d_A_expected_13 1 rfl rfl ?_
  refine r_ifnull hX d_A_expected_14 rfl h (fun h => ?_) (fun h => ?_)
  · refine r_bipush (v := (-101 : Int32)) hX d_A_expected_22 rfl ?_
    cases h; exact r_iret hX hR d_A_expected_24
  · refine r_aload (i := 4) hX d_A_expected_17 0  rfl ?_
    refine r_ifnonnull hX d_A_expected_19 rfl h (fun h => ?_) (fun h => ?_)
    · refine r_aload_n (i := 0) hX d_A_expected_25 2 rfl rfl ?_
      refine r_getR (i := 0) (f := 6) hX ci_0 (by decide) rfl fl_A_49 hk1 d_A_expected_26 ?_
      refine r_aload_n (i := 3) hX d_A_expected_29 1 rfl rfl ?_
      refine r_aload (i := 4) hX d_A_expected_30 0  rfl ?_
      refine r_aload_n (i := 0) hX d_A_expected_32 2 rfl rfl ?_
      refine r_getR (i := 0) (f := 0) hX ci_0 (by decide) rfl fl_A_10 hk1 d_A_expected_33 ?_
      refine r_aload_n (i := 0) hX d_A_expected_36 2 rfl rfl ?_
      refine r_getR (i := 0) (f := 5) hX ci_0 (by decide) rfl fl_A_42 hk1 d_A_expected_37 ?_
      obtain ⟨hk6, h⟩ := gd_e h
      obtain ⟨r7, hr8, h⟩ := bd_e h
      refine r_callV0 (As := [_, _, _, _]) hX hM mw_A_207 (T_Rd_read _ _ _ _ _ _ hr8) (rc_of ci_8 hk6) rfl rfl ⟨Nat.le_refl _, Nat.le_refl _⟩ rfl rfl d_A_expected_40 ?_
      refine r_aload_n (i := 0) hX d_A_expected_43 2 rfl rfl ?_
      obtain ⟨hk9, h⟩ := gd_e h
      obtain ⟨r10, hr11, h⟩ := bd_e h
      refine r_callV1 (As := []) hX hM mw_A_231 (T_A_expectedOfReading _ _ hr11) (rc_of ci_0 hk9) rfl rfl ⟨Nat.le_refl _, Nat.le_refl _⟩ rfl rfl d_A_expected_44 ?_
      cases h; exact r_iret hX hR d_A_expected_47
    · refine r_bipush (v := (-101 : Int32)) hX d_A_expected_22 rfl ?_
      cases h; exact r_iret hX hR d_A_expected_24
theorem T_A_expected {l : Launch} {G : AG} (a0 : Nat) (x1 : Int32) (x2 : Int32) (w : AW) {o : Int32 × AW} (h : F_A_expected a0 x1 x2 w = some o) : Mt l G y_A_expected b_A_expected 5 (some (.int)) 6 147 0 0 [vr a0, vi x1, vi x2] w (some (vi o.1)) o.2 := mt_of (by decide) (Nat.le_of_ble_eq_true rfl) (fun X hX hR hM hI => P_A_expected_0 hX hM hR _ _ _ _ h)
/-! RedSkyModel.expectedOf(II)I -/
theorem d_M_expectedOf_0 : decode b_M_expectedOf 0 = .ok (.iconst 0, 1) := by decide +kernel
theorem d_M_expectedOf_1 : decode b_M_expectedOf 1 = .ok (.istore_n 3, 1) := by decide +kernel
theorem d_M_expectedOf_2 : decode b_M_expectedOf 2 = .ok (.iconst 1, 1) := by decide +kernel
theorem d_M_expectedOf_3 : decode b_M_expectedOf 3 = .ok (.istore 4, 2) := by decide +kernel
theorem d_M_expectedOf_5 : decode b_M_expectedOf 5 = .ok (.iload 4, 2) := by decide +kernel
theorem d_M_expectedOf_7 : decode b_M_expectedOf 7 = .ok (.bipush (12), 2) := by decide +kernel
theorem d_M_expectedOf_9 : decode b_M_expectedOf 9 = .ok (.if_icmp .gt (54), 3) := by decide +kernel
theorem d_M_expectedOf_12 : decode b_M_expectedOf 12 = .ok (.aload_n 0, 1) := by decide +kernel
theorem d_M_expectedOf_13 : decode b_M_expectedOf 13 = .ok (.iload_n 1, 1) := by decide +kernel
theorem d_M_expectedOf_14 : decode b_M_expectedOf 14 = .ok (.iload_n 2, 1) := by decide +kernel
theorem d_M_expectedOf_15 : decode b_M_expectedOf 15 = .ok (.iload 4, 2) := by decide +kernel
theorem d_M_expectedOf_17 : decode b_M_expectedOf 17 = .ok (.iconst 1, 1) := by decide +kernel
theorem d_M_expectedOf_18 : decode b_M_expectedOf 18 = .ok (.invokevirtual 335, 3) := by decide +kernel
theorem d_M_expectedOf_21 : decode b_M_expectedOf 21 = .ok (.istore 5, 2) := by decide +kernel
theorem d_M_expectedOf_23 : decode b_M_expectedOf 23 = .ok (.iload 5, 2) := by decide +kernel
theorem d_M_expectedOf_25 : decode b_M_expectedOf 25 = .ok (.ifCond .le (32), 3) := by decide +kernel
theorem d_M_expectedOf_28 : decode b_M_expectedOf 28 = .ok (.iload_n 3, 1) := by decide +kernel
theorem d_M_expectedOf_29 : decode b_M_expectedOf 29 = .ok (.iload 5, 2) := by decide +kernel
theorem d_M_expectedOf_31 : decode b_M_expectedOf 31 = .ok (.sipush (1000), 3) := by decide +kernel
theorem d_M_expectedOf_34 : decode b_M_expectedOf 34 = .ok (.imul, 1) := by decide +kernel
theorem d_M_expectedOf_35 : decode b_M_expectedOf 35 = .ok (.aload_n 0, 1) := by decide +kernel
theorem d_M_expectedOf_36 : decode b_M_expectedOf 36 = .ok (.iload_n 1, 1) := by decide +kernel
theorem d_M_expectedOf_37 : decode b_M_expectedOf 37 = .ok (.iload_n 2, 1) := by decide +kernel
theorem d_M_expectedOf_38 : decode b_M_expectedOf 38 = .ok (.iload 4, 2) := by decide +kernel
theorem d_M_expectedOf_40 : decode b_M_expectedOf 40 = .ok (.iconst 3, 1) := by decide +kernel
theorem d_M_expectedOf_41 : decode b_M_expectedOf 41 = .ok (.invokevirtual 335, 3) := by decide +kernel
theorem d_M_expectedOf_44 : decode b_M_expectedOf 44 = .ok (.imul, 1) := by decide +kernel
theorem d_M_expectedOf_45 : decode b_M_expectedOf 45 = .ok (.aload_n 0, 1) := by decide +kernel
theorem d_M_expectedOf_46 : decode b_M_expectedOf 46 = .ok (.iload_n 1, 1) := by decide +kernel
theorem d_M_expectedOf_47 : decode b_M_expectedOf 47 = .ok (.iload_n 2, 1) := by decide +kernel
theorem d_M_expectedOf_48 : decode b_M_expectedOf 48 = .ok (.iload 4, 2) := by decide +kernel
theorem d_M_expectedOf_50 : decode b_M_expectedOf 50 = .ok (.iconst 0, 1) := by decide +kernel
theorem d_M_expectedOf_51 : decode b_M_expectedOf 51 = .ok (.invokevirtual 335, 3) := by decide +kernel
theorem d_M_expectedOf_54 : decode b_M_expectedOf 54 = .ok (.idiv, 1) := by decide +kernel
theorem d_M_expectedOf_55 : decode b_M_expectedOf 55 = .ok (.iadd, 1) := by decide +kernel
theorem d_M_expectedOf_56 : decode b_M_expectedOf 56 = .ok (.istore_n 3, 1) := by decide +kernel
theorem d_M_expectedOf_57 : decode b_M_expectedOf 57 = .ok (.iinc 4 (1), 3) := by decide +kernel
theorem d_M_expectedOf_60 : decode b_M_expectedOf 60 = .ok (.goto (-55), 3) := by decide +kernel
theorem d_M_expectedOf_63 : decode b_M_expectedOf 63 = .ok (.iload_n 3, 1) := by decide +kernel
theorem d_M_expectedOf_64 : decode b_M_expectedOf 64 = .ok (.ireturn, 1) := by decide +kernel
def F_M_expectedOf_5_B (rec5 : Nat → Int32 → Int32 → Int32 → Int32 → AW → Option (Int32 × AW)) (a0 : Nat) (x1 : Int32) (x2 : Int32) (x3 : Int32) (x4 : Int32) (w : AW) : Option (Int32 × AW) :=
  if (12 : Int32) < x4 then
    some (x3, w)
  else
    gd (wk w a0 == 13) <|
    (F_M_monthCount a0 x1 x2 x4 (1 : Int32) w).bind fun r2 =>
    let v4 : Int32 := r2.1
    if v4 ≤ 0 then
      let v5 : Int32 := (x4 + (1 : Int32))
      rec5 a0 x1 x2 x3 v5 r2.2
    else
      gd (wk r2.2 a0 == 13) <|
      (F_M_monthCount a0 x1 x2 x4 (3 : Int32) r2.2).bind fun r7 =>
      gd (wk r7.2 a0 == 13) <|
      (F_M_monthCount a0 x1 x2 x4 (0 : Int32) r7.2).bind fun r10 =>
      gd (decide (¬ r10.1 = 0)) <|
      let v13 : Int32 := (x3 + (((v4 * (1000 : Int32)) * r7.1) / r10.1))
      let v14 : Int32 := (x4 + (1 : Int32))
      rec5 a0 x1 x2 v13 v14 r10.2
theorem P_M_expectedOf_5_B {X : AX} {l : Launch} {G : AG} {rec5 : Nat → Int32 → Int32 → Int32 → Int32 → AW → Option (Int32 × AW)} (hX : XOK X b_M_expectedOf "RedSkyModel" 6) (hM : XM X l G { frames := 9, cells := 0, slots := 0, locals := 219 }) {o : Int32 × AW} (hR : XR X (some .int) 0 0 (some (vi o.1)) o.2) (hrec5 : ∀ (a0 : Nat) (x1 : Int32) (x2 : Int32) (x3 : Int32) (x4 : Int32) (w : AW), rec5 a0 x1 x2 x3 x4 w = some o → RJ X 6 0 0 5 [(0, vr a0), (1, vi x1), (2, vi x2), (3, vi x3), (4, vi x4)] [] w) (a0 : Nat) (x1 : Int32) (x2 : Int32) (x3 : Int32) (x4 : Int32) (w : AW) (h : F_M_expectedOf_5_B rec5 a0 x1 x2 x3 x4 w = some o) : RJ X 6 0 0 5 [(0, vr a0), (1, vi x1), (2, vi x2), (3, vi x3), (4, vi x4)] [] w := by
  unfold F_M_expectedOf_5_B at h
  refine r_iload (i := 4) hX d_M_expectedOf_5 4  rfl ?_
  refine r_bipush (v := (12 : Int32)) hX d_M_expectedOf_7 rfl ?_
  refine r_icmp_gt hX d_M_expectedOf_9 rfl h (fun h => ?_) (fun h => ?_)
  · refine r_iload_n (i := 3) hX d_M_expectedOf_63 3 rfl rfl ?_
    cases h; exact r_iret hX hR d_M_expectedOf_64
  · refine r_aload_n (i := 0) hX d_M_expectedOf_12 0 rfl rfl ?_
    refine r_iload_n (i := 1) hX d_M_expectedOf_13 1 rfl rfl ?_
    refine r_iload_n (i := 2) hX d_M_expectedOf_14 2 rfl rfl ?_
    refine r_iload (i := 4) hX d_M_expectedOf_15 4  rfl ?_
    refine r_iconst (v := (1 : Int32)) hX d_M_expectedOf_17 rfl ?_
    obtain ⟨hk1, h⟩ := gd_e h
    obtain ⟨r2, hr3, h⟩ := bd_e h
    refine r_callV1 (As := [_, _, _, _]) hX hM mw_M_335 (T_M_monthCount _ _ _ _ _ _ hr3) (rc_of ci_12 hk1) rfl rfl ⟨Nat.le_refl _, Nat.le_refl _⟩ rfl rfl d_M_expectedOf_18 ?_
    refine r_istore (i := 5) hX d_M_expectedOf_21  (by decide) ?_
    refine r_iload (i := 5) hX d_M_expectedOf_23 0  rfl ?_
    refine r_if_le hX d_M_expectedOf_25 rfl h (fun h => ?_) (fun h => ?_)
    · refine r_iinc (i := 4) (v := (1 : Int32)) hX d_M_expectedOf_57 5 rfl rfl (by decide) ?_
      refine r_goto hX d_M_expectedOf_60 rfl ?_
      exact rj_sub [2, 3, 4, 5, 0] rfl (hrec5 _ _ _ _ _ _ h)
    · refine r_iload_n (i := 3) hX d_M_expectedOf_28 4 rfl rfl ?_
      refine r_iload (i := 5) hX d_M_expectedOf_29 0  rfl ?_
      refine r_sipush (v := (1000 : Int32)) hX d_M_expectedOf_31 rfl ?_
      refine r_imul hX d_M_expectedOf_34 ?_
      refine r_aload_n (i := 0) hX d_M_expectedOf_35 1 rfl rfl ?_
      refine r_iload_n (i := 1) hX d_M_expectedOf_36 2 rfl rfl ?_
      refine r_iload_n (i := 2) hX d_M_expectedOf_37 3 rfl rfl ?_
      refine r_iload (i := 4) hX d_M_expectedOf_38 5  rfl ?_
      refine r_iconst (v := (3 : Int32)) hX d_M_expectedOf_40 rfl ?_
      obtain ⟨hk6, h⟩ := gd_e h
      obtain ⟨r7, hr8, h⟩ := bd_e h
      refine r_callV1 (As := [_, _, _, _]) hX hM mw_M_335 (T_M_monthCount _ _ _ _ _ _ hr8) (rc_of ci_12 hk6) rfl rfl ⟨Nat.le_refl _, Nat.le_refl _⟩ rfl rfl d_M_expectedOf_41 ?_
      refine r_imul hX d_M_expectedOf_44 ?_
      refine r_aload_n (i := 0) hX d_M_expectedOf_45 1 rfl rfl ?_
      refine r_iload_n (i := 1) hX d_M_expectedOf_46 2 rfl rfl ?_
      refine r_iload_n (i := 2) hX d_M_expectedOf_47 3 rfl rfl ?_
      refine r_iload (i := 4) hX d_M_expectedOf_48 5  rfl ?_
      refine r_iconst (v := (0 : Int32)) hX d_M_expectedOf_50 rfl ?_
      obtain ⟨hk9, h⟩ := gd_e h
      obtain ⟨r10, hr11, h⟩ := bd_e h
      refine r_callV1 (As := [_, _, _, _]) hX hM mw_M_335 (T_M_monthCount _ _ _ _ _ _ hr11) (rc_of ci_12 hk9) rfl rfl ⟨Nat.le_refl _, Nat.le_refl _⟩ rfl rfl d_M_expectedOf_51 ?_
      obtain ⟨hg12, h⟩ := gd_e h
      refine r_idiv hX d_M_expectedOf_54 (of_decide_eq_true hg12) ?_
      refine r_iadd hX d_M_expectedOf_55 ?_
      refine r_istore_n (i := 3) hX d_M_expectedOf_56 rfl (by decide) ?_
      refine r_iinc (i := 4) (v := (1 : Int32)) hX d_M_expectedOf_57 5 rfl rfl (by decide) ?_
      refine r_goto hX d_M_expectedOf_60 rfl ?_
      exact rj_sub [3, 4, 5, 1, 0] rfl (hrec5 _ _ _ _ _ _ h)
def F_M_expectedOf_5 : Nat → Nat → Int32 → Int32 → Int32 → Int32 → AW → Option (Int32 × AW)
  | 0 => fun _ _ _ _ _ _ => none
  | n + 1 => fun a0 x1 x2 x3 x4 w => F_M_expectedOf_5_B (F_M_expectedOf_5 n) a0 x1 x2 x3 x4 w
theorem P_M_expectedOf_5 {X : AX} {l : Launch} {G : AG} (hX : XOK X b_M_expectedOf "RedSkyModel" 6) (hM : XM X l G { frames := 9, cells := 0, slots := 0, locals := 219 }) {o : Int32 × AW} (hR : XR X (some .int) 0 0 (some (vi o.1)) o.2) (fu : Nat) : ∀ (a0 : Nat) (x1 : Int32) (x2 : Int32) (x3 : Int32) (x4 : Int32) (w : AW), F_M_expectedOf_5 fu a0 x1 x2 x3 x4 w = some o → RJ X 6 0 0 5 [(0, vr a0), (1, vi x1), (2, vi x2), (3, vi x3), (4, vi x4)] [] w := by
  induction fu with
  | zero => intro a0 x1 x2 x3 x4 w h; cases h
  | succ n9 ih => intro a0 x1 x2 x3 x4 w h; exact P_M_expectedOf_5_B hX hM hR ih _ _ _ _ _ _ h
def F_M_expectedOf (a0 : Nat) (x1 : Int32) (x2 : Int32) (w : AW) : Option (Int32 × AW) :=
  F_M_expectedOf_5 FUEL a0 x1 x2 (0 : Int32) (1 : Int32) w
theorem P_M_expectedOf_0 {X : AX} {l : Launch} {G : AG} (hX : XOK X b_M_expectedOf "RedSkyModel" 6) (hM : XM X l G { frames := 9, cells := 0, slots := 0, locals := 219 }) {o : Int32 × AW} (hR : XR X (some .int) 0 0 (some (vi o.1)) o.2) (a0 : Nat) (x1 : Int32) (x2 : Int32) (w : AW) (h : F_M_expectedOf a0 x1 x2 w = some o) : RJ X 6 0 0 0 [(0, vr a0), (1, vi x1), (2, vi x2)] [] w := by
  unfold F_M_expectedOf at h
  refine r_iconst (v := (0 : Int32)) hX d_M_expectedOf_0 rfl ?_
  refine r_istore_n (i := 3) hX d_M_expectedOf_1 rfl (by decide) ?_
  refine r_iconst (v := (1 : Int32)) hX d_M_expectedOf_2 rfl ?_
  refine r_istore (i := 4) hX d_M_expectedOf_3  (by decide) ?_
  exact rj_sub [2, 3, 4, 1, 0] rfl (P_M_expectedOf_5 hX hM hR FUEL _ _ _ _ _ _ h)
theorem T_M_expectedOf {l : Launch} {G : AG} (a0 : Nat) (x1 : Int32) (x2 : Int32) (w : AW) {o : Int32 × AW} (h : F_M_expectedOf a0 x1 x2 w = some o) : Mt l G y_M_expectedOf b_M_expectedOf 6 (some (.int)) 9 219 0 0 [vr a0, vi x1, vi x2] w (some (vi o.1)) o.2 := mt_of (by decide) (Nat.le_of_ble_eq_true rfl) (fun X hX hR hM hI => P_M_expectedOf_0 hX hM hR _ _ _ _ h)
/-! RedSkyModel.expected(II)I -/
theorem d_M_expected_0 : decode b_M_expected 0 = .ok (.aload_n 0, 1) := by decide +kernel
theorem d_M_expected_1 : decode b_M_expected 1 = .ok (.iload_n 1, 1) := by decide +kernel
theorem d_M_expected_2 : decode b_M_expected 2 = .ok (.invokevirtual 306, 3) := by decide +kernel
theorem d_M_expected_5 : decode b_M_expected 5 = .ok (.ifCond .eq (19), 3) := by decide +kernel
theorem d_M_expected_8 : decode b_M_expected 8 = .ok (.iload_n 2, 1) := by decide +kernel
theorem d_M_expected_9 : decode b_M_expected 9 = .ok (.invokestatic 155, 3) := by decide +kernel
theorem d_M_expected_12 : decode b_M_expected 12 = .ok (.ifCond .eq (12), 3) := by decide +kernel
theorem d_M_expected_15 : decode b_M_expected 15 = .ok (.aload_n 0, 1) := by decide +kernel
theorem d_M_expected_16 : decode b_M_expected 16 = .ok (.iload_n 1, 1) := by decide +kernel
theorem d_M_expected_17 : decode b_M_expected 17 = .ok (.iload_n 2, 1) := by decide +kernel
theorem d_M_expected_18 : decode b_M_expected 18 = .ok (.invokevirtual 339, 3) := by decide +kernel
theorem d_M_expected_21 : decode b_M_expected 21 = .ok (.goto (5), 3) := by decide +kernel
theorem d_M_expected_24 : decode b_M_expected 24 = .ok (.bipush (-101), 2) := by decide +kernel
theorem d_M_expected_26 : decode b_M_expected 26 = .ok (.ireturn, 1) := by decide +kernel
def F_M_expected (a0 : Nat) (x1 : Int32) (x2 : Int32) (w : AW) : Option (Int32 × AW) :=
  gd (wk w a0 == 13) <|
  (F_M_isSaying w a0 x1).bind fun r2 =>
  if r2 = 0 then
    some ((-101 : Int32), w)
  else
    if (F_M_isValley x2) = 0 then
      some ((-101 : Int32), w)
    else
      (F_M_expectedOf a0 x1 x2 w).bind fun r4 =>
      some (r4.1, r4.2)
theorem P_M_expected_0 {X : AX} {l : Launch} {G : AG} (hX : XOK X b_M_expected "RedSkyModel" 3) (hM : XM X l G { frames := 10, cells := 0, slots := 0, locals := 244 }) {o : Int32 × AW} (hR : XR X (some .int) 0 0 (some (vi o.1)) o.2) (a0 : Nat) (x1 : Int32) (x2 : Int32) (w : AW) (h : F_M_expected a0 x1 x2 w = some o) : RJ X 3 0 0 0 [(0, vr a0), (1, vi x1), (2, vi x2)] [] w := by
  unfold F_M_expected at h
  refine r_aload_n (i := 0) hX d_M_expected_0 0 rfl rfl ?_
  refine r_iload_n (i := 1) hX d_M_expected_1 1 rfl rfl ?_
  obtain ⟨hk1, h⟩ := gd_e h
  obtain ⟨r2, hr3, h⟩ := bd_e h
  refine r_callV1 (As := [_]) hX hM mw_M_306 (T_M_isSaying _ _ _ hr3) (rc_of ci_12 hk1) rfl rfl ⟨Nat.le_refl _, Nat.le_refl _⟩ rfl rfl d_M_expected_2 ?_
  refine r_if_eq hX d_M_expected_5 rfl h (fun h => ?_) (fun h => ?_)
  · refine r_bipush (v := (-101 : Int32)) hX d_M_expected_24 rfl ?_
    cases h; exact r_iret hX hR d_M_expected_26
  · refine r_iload_n (i := 2) hX d_M_expected_8 2 rfl rfl ?_
    refine r_callS1 (As := [_]) hX hM mw_M_155 (T_M_isValley _ _) rfl rfl ⟨Nat.le_refl _, Nat.le_refl _⟩ rfl rfl d_M_expected_9 ?_
    refine r_if_eq hX d_M_expected_12 rfl h (fun h => ?_) (fun h => ?_)
    · refine r_bipush (v := (-101 : Int32)) hX d_M_expected_24 rfl ?_
      cases h; exact r_iret hX hR d_M_expected_26
    · refine r_aload_n (i := 0) hX d_M_expected_15 0 rfl rfl ?_
      refine r_iload_n (i := 1) hX d_M_expected_16 1 rfl rfl ?_
      refine r_iload_n (i := 2) hX d_M_expected_17 2 rfl rfl ?_
      obtain ⟨r4, hr5, h⟩ := bd_e h
      refine r_callV1 (As := [_, _]) hX hM mw_M_339 (T_M_expectedOf _ _ _ _ hr5) (rc_of ci_12 hk1) rfl rfl ⟨Nat.le_refl _, Nat.le_refl _⟩ rfl rfl d_M_expected_18 ?_
      refine r_goto hX d_M_expected_21 rfl ?_
      cases h; exact r_iret hX hR d_M_expected_26
theorem T_M_expected {l : Launch} {G : AG} (a0 : Nat) (x1 : Int32) (x2 : Int32) (w : AW) {o : Int32 × AW} (h : F_M_expected a0 x1 x2 w = some o) : Mt l G y_M_expected b_M_expected 3 (some (.int)) 10 244 0 0 [vr a0, vi x1, vi x2] w (some (vi o.1)) o.2 := mt_of (by decide) (Nat.le_of_ble_eq_true rfl) (fun X hX hR hM hI => P_M_expected_0 hX hM hR _ _ _ _ h)
/-! RedSky$Days.size()I -/
theorem d_Dy_size_0 : decode b_Dy_size 0 = .ok (.iconst 0, 1) := by decide +kernel
theorem d_Dy_size_1 : decode b_Dy_size 1 = .ok (.istore_n 1, 1) := by decide +kernel
theorem d_Dy_size_2 : decode b_Dy_size 2 = .ok (.iconst 0, 1) := by decide +kernel
theorem d_Dy_size_3 : decode b_Dy_size 3 = .ok (.istore_n 2, 1) := by decide +kernel
theorem d_Dy_size_4 : decode b_Dy_size 4 = .ok (.iload_n 2, 1) := by decide +kernel
theorem d_Dy_size_5 : decode b_Dy_size 5 = .ok (.bipush (23), 2) := by decide +kernel
theorem d_Dy_size_7 : decode b_Dy_size 7 = .ok (.if_icmp .ge (21), 3) := by decide +kernel
theorem d_Dy_size_10 : decode b_Dy_size 10 = .ok (.iload_n 1, 1) := by decide +kernel
theorem d_Dy_size_11 : decode b_Dy_size 11 = .ok (.aload_n 0, 1) := by decide +kernel
theorem d_Dy_size_12 : decode b_Dy_size 12 = .ok (.getfield 11, 3) := by decide +kernel
theorem d_Dy_size_15 : decode b_Dy_size 15 = .ok (.iload_n 2, 1) := by decide +kernel
theorem d_Dy_size_16 : decode b_Dy_size 16 = .ok (.laload, 1) := by decide +kernel
theorem d_Dy_size_17 : decode b_Dy_size 17 = .ok (.invokestatic 45, 3) := by decide +kernel
theorem d_Dy_size_20 : decode b_Dy_size 20 = .ok (.iadd, 1) := by decide +kernel
theorem d_Dy_size_21 : decode b_Dy_size 21 = .ok (.istore_n 1, 1) := by decide +kernel
theorem d_Dy_size_22 : decode b_Dy_size 22 = .ok (.iinc 2 (1), 3) := by decide +kernel
theorem d_Dy_size_25 : decode b_Dy_size 25 = .ok (.goto (-21), 3) := by decide +kernel
theorem d_Dy_size_28 : decode b_Dy_size 28 = .ok (.iload_n 1, 1) := by decide +kernel
theorem d_Dy_size_29 : decode b_Dy_size 29 = .ok (.ireturn, 1) := by decide +kernel
def F_Dy_size_4_B (rec4 : Nat → Int32 → Int32 → Option (Int32)) (w : AW) (a0 : Nat) (x1 : Int32) (x2 : Int32) : Option (Int32) :=
  if (23 : Int32) ≤ x2 then
    some x1
  else
    gd (wk w a0 == 8) <|
    gd (wk w (wr w a0 0) == 101) <|
    gd (inb x2 (wn w (wr w a0 0))) <|
    let v4 : Int32 := (x1 + (F_Jlong_bitCount (wj w (wr w a0 0) (Int32.toNatClampNeg x2))))
    let v5 : Int32 := (x2 + (1 : Int32))
    rec4 a0 v4 v5
theorem P_Dy_size_4_B {X : AX} {l : Launch} {G : AG} {w : AW} {rec4 : Nat → Int32 → Int32 → Option (Int32)} (hX : XOK X b_Dy_size "RedSky$Days" 3) (hM : XM X l G { frames := 1, cells := 0, slots := 0, locals := 21 }) {o : Int32} (hR : XR X (some .int) 0 0 (some (vi o)) w) (hrec4 : ∀ (a0 : Nat) (x1 : Int32) (x2 : Int32), rec4 a0 x1 x2 = some o → RJ X 3 0 0 4 [(0, vr a0), (1, vi x1), (2, vi x2)] [] w) (a0 : Nat) (x1 : Int32) (x2 : Int32) (h : F_Dy_size_4_B rec4 w a0 x1 x2 = some o) : RJ X 3 0 0 4 [(0, vr a0), (1, vi x1), (2, vi x2)] [] w := by
  unfold F_Dy_size_4_B at h
  refine r_iload_n (i := 2) hX d_Dy_size_4 2 rfl rfl ?_
  refine r_bipush (v := (23 : Int32)) hX d_Dy_size_5 rfl ?_
  refine r_icmp_ge hX d_Dy_size_7 rfl h (fun h => ?_) (fun h => ?_)
  · refine r_iload_n (i := 1) hX d_Dy_size_28 1 rfl rfl ?_
    cases h; exact r_iret hX hR d_Dy_size_29
  · refine r_iload_n (i := 1) hX d_Dy_size_10 1 rfl rfl ?_
    refine r_aload_n (i := 0) hX d_Dy_size_11 0 rfl rfl ?_
    obtain ⟨hk1, h⟩ := gd_e h
    refine r_getR (i := 7) (f := 0) hX ci_7 (by decide) rfl fl_Dy_11 hk1 d_Dy_size_12 ?_
    refine r_iload_n (i := 2) hX d_Dy_size_15 2 rfl rfl ?_
    obtain ⟨hk2, h⟩ := gd_e h
    obtain ⟨hg3, h⟩ := gd_e h
    refine r_lald hX hk2 hg3 d_Dy_size_16 ?_
    refine r_callS1 (As := [_]) hX hM mw_Dy_45 (T_Jlong_bitCount _ _) rfl rfl ⟨Nat.le_refl _, Nat.le_refl _⟩ rfl rfl d_Dy_size_17 ?_
    refine r_iadd hX d_Dy_size_20 ?_
    refine r_istore_n (i := 1) hX d_Dy_size_21 rfl (by decide) ?_
    refine r_iinc (i := 2) (v := (1 : Int32)) hX d_Dy_size_22 2 rfl rfl (by decide) ?_
    refine r_goto hX d_Dy_size_25 rfl ?_
    exact rj_sub [2, 1, 0] rfl (hrec4 _ _ _ h)
def F_Dy_size_4 (w : AW) : Nat → Nat → Int32 → Int32 → Option (Int32)
  | 0 => fun _ _ _ => none
  | n + 1 => fun a0 x1 x2 => F_Dy_size_4_B (F_Dy_size_4 w n) w a0 x1 x2
theorem P_Dy_size_4 {X : AX} {l : Launch} {G : AG} {w : AW} (hX : XOK X b_Dy_size "RedSky$Days" 3) (hM : XM X l G { frames := 1, cells := 0, slots := 0, locals := 21 }) {o : Int32} (hR : XR X (some .int) 0 0 (some (vi o)) w) (fu : Nat) : ∀ (a0 : Nat) (x1 : Int32) (x2 : Int32), F_Dy_size_4 w fu a0 x1 x2 = some o → RJ X 3 0 0 4 [(0, vr a0), (1, vi x1), (2, vi x2)] [] w := by
  induction fu with
  | zero => intro a0 x1 x2 h; cases h
  | succ n9 ih => intro a0 x1 x2 h; exact P_Dy_size_4_B hX hM hR ih _ _ _ h
def F_Dy_size (w : AW) (a0 : Nat) : Option (Int32) :=
  F_Dy_size_4 w FUEL a0 (0 : Int32) (0 : Int32)
theorem P_Dy_size_0 {X : AX} {l : Launch} {G : AG} {w : AW} (hX : XOK X b_Dy_size "RedSky$Days" 3) (hM : XM X l G { frames := 1, cells := 0, slots := 0, locals := 21 }) {o : Int32} (hR : XR X (some .int) 0 0 (some (vi o)) w) (a0 : Nat) (h : F_Dy_size w a0 = some o) : RJ X 3 0 0 0 [(0, vr a0)] [] w := by
  unfold F_Dy_size at h
  refine r_iconst (v := (0 : Int32)) hX d_Dy_size_0 rfl ?_
  refine r_istore_n (i := 1) hX d_Dy_size_1 rfl (by decide) ?_
  refine r_iconst (v := (0 : Int32)) hX d_Dy_size_2 rfl ?_
  refine r_istore_n (i := 2) hX d_Dy_size_3 rfl (by decide) ?_
  exact rj_sub [2, 1, 0] rfl (P_Dy_size_4 hX hM hR FUEL _ _ _ h)
theorem T_Dy_size {l : Launch} {G : AG} (w : AW) (a0 : Nat) {o : Int32} (h : F_Dy_size w a0 = some o) : Mt l G y_Dy_size b_Dy_size 3 (some (.int)) 1 21 0 0 [vr a0] w (some (vi o)) w := mt_of (by decide) (Nat.le_of_ble_eq_true rfl) (fun X hX hR hM hI => P_Dy_size_0 hX hM hR _ h)
/-! RedSky.worthOfReading()I -/
theorem d_A_worthOfReading_0 : decode b_A_worthOfReading 0 = .ok (.sipush (1000), 3) := by decide +kernel
theorem d_A_worthOfReading_3 : decode b_A_worthOfReading 3 = .ok (.aload_n 0, 1) := by decide +kernel
theorem d_A_worthOfReading_4 : decode b_A_worthOfReading 4 = .ok (.getfield 49, 3) := by decide +kernel
theorem d_A_worthOfReading_7 : decode b_A_worthOfReading 7 = .ok (.getfield 242, 3) := by decide +kernel
theorem d_A_worthOfReading_10 : decode b_A_worthOfReading 10 = .ok (.invokevirtual 245, 3) := by decide +kernel
theorem d_A_worthOfReading_13 : decode b_A_worthOfReading 13 = .ok (.imul, 1) := by decide +kernel
theorem d_A_worthOfReading_14 : decode b_A_worthOfReading 14 = .ok (.aload_n 0, 1) := by decide +kernel
theorem d_A_worthOfReading_15 : decode b_A_worthOfReading 15 = .ok (.invokevirtual 231, 3) := by decide +kernel
theorem d_A_worthOfReading_18 : decode b_A_worthOfReading 18 = .ok (.isub, 1) := by decide +kernel
theorem d_A_worthOfReading_19 : decode b_A_worthOfReading 19 = .ok (.ireturn, 1) := by decide +kernel
def F_A_worthOfReading (a0 : Nat) (w : AW) : Option (Int32 × AW) :=
  gd (wk w a0 == 1) <|
  gd (wk w (wr w a0 6) == 9) <|
  gd (wk w (wr w (wr w a0 6) 7) == 8) <|
  (F_Dy_size w (wr w (wr w a0 6) 7)).bind fun r4 =>
  (F_A_expectedOfReading a0 w).bind fun r6 =>
  some ((((1000 : Int32) * r4) - r6.1), r6.2)
theorem P_A_worthOfReading_0 {X : AX} {l : Launch} {G : AG} (hX : XOK X b_A_worthOfReading "RedSky" 1) (hM : XM X l G { frames := 5, cells := 0, slots := 0, locals := 119 }) {o : Int32 × AW} (hR : XR X (some .int) 0 0 (some (vi o.1)) o.2) (a0 : Nat) (w : AW) (h : F_A_worthOfReading a0 w = some o) : RJ X 1 0 0 0 [(0, vr a0)] [] w := by
  unfold F_A_worthOfReading at h
  refine r_sipush (v := (1000 : Int32)) hX d_A_worthOfReading_0 rfl ?_
  refine r_aload_n (i := 0) hX d_A_worthOfReading_3 0 rfl rfl ?_
  obtain ⟨hk1, h⟩ := gd_e h
  refine r_getR (i := 0) (f := 6) hX ci_0 (by decide) rfl fl_A_49 hk1 d_A_worthOfReading_4 ?_
  obtain ⟨hk2, h⟩ := gd_e h
  refine r_getR (i := 8) (f := 7) hX ci_8 (by decide) rfl fl_A_242 hk2 d_A_worthOfReading_7 ?_
  obtain ⟨hk3, h⟩ := gd_e h
  obtain ⟨r4, hr5, h⟩ := bd_e h
  refine r_callV1 (As := []) hX hM mw_A_245 (T_Dy_size _ _ hr5) (rc_of ci_7 hk3) rfl rfl ⟨Nat.le_refl _, Nat.le_refl _⟩ rfl rfl d_A_worthOfReading_10 ?_
  refine r_imul hX d_A_worthOfReading_13 ?_
  refine r_aload_n (i := 0) hX d_A_worthOfReading_14 0 rfl rfl ?_
  obtain ⟨r6, hr7, h⟩ := bd_e h
  refine r_callV1 (As := []) hX hM mw_A_231 (T_A_expectedOfReading _ _ hr7) (rc_of ci_0 hk1) rfl rfl ⟨Nat.le_refl _, Nat.le_refl _⟩ rfl rfl d_A_worthOfReading_15 ?_
  refine r_isub hX d_A_worthOfReading_18 ?_
  cases h; exact r_iret hX hR d_A_worthOfReading_19
theorem T_A_worthOfReading {l : Launch} {G : AG} (a0 : Nat) (w : AW) {o : Int32 × AW} (h : F_A_worthOfReading a0 w = some o) : Mt l G y_A_worthOfReading b_A_worthOfReading 1 (some (.int)) 5 119 0 0 [vr a0] w (some (vi o.1)) o.2 := mt_of (by decide) (Nat.le_of_ble_eq_true rfl) (fun X hX hR hM hI => P_A_worthOfReading_0 hX hM hR _ _ h)
/-! RedSky.worth(II)I -/
theorem d_A_worth_0 : decode b_A_worth 0 = .ok (.aload_n 0, 1) := by decide +kernel
theorem d_A_worth_1 : decode b_A_worth 1 = .ok (.iload_n 1, 1) := by decide +kernel
theorem d_A_worth_2 : decode b_A_worth 2 = .ok (.invokevirtual 200, 3) := by decide +kernel
theorem d_A_worth_5 : decode b_A_worth 5 = .ok (.astore_n 3, 1) := by decide +kernel
theorem d_A_worth_6 : decode b_A_worth 6 = .ok (.aload_n 0, 1) := by decide +kernel
theorem d_A_worth_7 : decode b_A_worth 7 = .ok (.iload_n 2, 1) := by decide +kernel
theorem d_A_worth_8 : decode b_A_worth 8 = .ok (.invokevirtual 141, 3) := by decide +kernel
theorem d_A_worth_11 : decode b_A_worth 11 = .ok (.astore 4, 2) := by decide +kernel
theorem d_A_worth_13 : decode b_A_worth 13 = .ok (.aload_n 3, 1) := by decide +kernel
theorem d_A_worth_14 : decode b_A_worth 14 = .ok (.ifnull (8), 3) := by decide +kernel
theorem d_A_worth_17 : decode b_A_worth 17 = .ok (.aload 4, 2) := by decide +kernel
theorem d_A_worth_19 : decode b_A_worth 19 = .ok (.ifnonnull (6), 3) := by decide +kernel
theorem d_A_worth_22 : decode b_A_worth 22 = .ok (.ldc 234, 2) := by decide +kernel
theorem d_A_worth_24 : decode b_A_worth 24 = .ok (.ireturn, 1) := by decide +kernel
theorem d_A_worth_25 : decode b_A_worth 25 = .ok (.aload_n 0, 1) := by decide +kernel
theorem d_A_worth_26 : decode b_A_worth 26 = .ok (.getfield 49, 3) := by decide +kernel
theorem d_A_worth_29 : decode b_A_worth 29 = .ok (.aload_n 3, 1) := by decide +kernel
theorem d_A_worth_30 : decode b_A_worth 30 = .ok (.aload 4, 2) := by decide +kernel
theorem d_A_worth_32 : decode b_A_worth 32 = .ok (.aload_n 0, 1) := by decide +kernel
theorem d_A_worth_33 : decode b_A_worth 33 = .ok (.getfield 10, 3) := by decide +kernel
theorem d_A_worth_36 : decode b_A_worth 36 = .ok (.aload_n 0, 1) := by decide +kernel
theorem d_A_worth_37 : decode b_A_worth 37 = .ok (.getfield 42, 3) := by decide +kernel
theorem d_A_worth_40 : decode b_A_worth 40 = .ok (.invokevirtual 207, 3) := by decide +kernel
theorem d_A_worth_43 : decode b_A_worth 43 = .ok (.aload_n 0, 1) := by decide +kernel
theorem d_A_worth_44 : decode b_A_worth 44 = .ok (.invokevirtual 235, 3) := by decide +kernel
theorem d_A_worth_47 : decode b_A_worth 47 = .ok (.ireturn, 1) := by decide +kernel
def F_A_worth (a0 : Nat) (x1 : Int32) (x2 : Int32) (w : AW) : Option (Int32 × AW) :=
  gd (wk w a0 == 1) <|
  (F_A_sayingOf w a0 x1).bind fun r2 =>
  (F_A_diaryOf w a0 x2).bind fun r4 =>
  if r2 = 0 then
    some ((-100000001 : Int32), w)
  else
    if r4 = 0 then
      some ((-100000001 : Int32), w)
    else
      gd (wk w (wr w a0 6) == 9) <|
      (F_Rd_read (wr w a0 6) r2 r4 (wr w a0 0) (wr w a0 5) w).bind fun r7 =>
      gd (wk r7 a0 == 1) <|
      (F_A_worthOfReading a0 r7).bind fun r10 =>
      some (r10.1, r10.2)
theorem P_A_worth_0 {X : AX} {l : Launch} {G : AG} (hX : XOK X b_A_worth "RedSky" 5) (hM : XM X l G { frames := 6, cells := 0, slots := 0, locals := 147 }) {o : Int32 × AW} (hR : XR X (some .int) 0 0 (some (vi o.1)) o.2) (a0 : Nat) (x1 : Int32) (x2 : Int32) (w : AW) (h : F_A_worth a0 x1 x2 w = some o) : RJ X 5 0 0 0 [(0, vr a0), (1, vi x1), (2, vi x2)] [] w := by
  unfold F_A_worth at h
  refine r_aload_n (i := 0) hX d_A_worth_0 0 rfl rfl ?_
  refine r_iload_n (i := 1) hX d_A_worth_1 1 rfl rfl ?_
  obtain ⟨hk1, h⟩ := gd_e h
  obtain ⟨r2, hr3, h⟩ := bd_e h
  refine r_callV1 (As := [_]) hX hM mw_A_200 (T_A_sayingOf _ _ _ hr3) (rc_of ci_0 hk1) rfl rfl ⟨Nat.le_refl _, Nat.le_refl _⟩ rfl rfl d_A_worth_2 ?_
  refine r_astore_n (i := 3) hX d_A_worth_5 rfl (by decide) ?_
  refine r_aload_n (i := 0) hX d_A_worth_6 1 rfl rfl ?_
  refine r_iload_n (i := 2) hX d_A_worth_7 3 rfl rfl ?_
  obtain ⟨r4, hr5, h⟩ := bd_e h
  refine r_callV1 (As := [_]) hX hM mw_A_141 (T_A_diaryOf _ _ _ hr5) (rc_of ci_0 hk1) rfl rfl ⟨Nat.le_refl _, Nat.le_refl _⟩ rfl rfl d_A_worth_8 ?_
  refine r_astore (i := 4) hX d_A_worth_11  (by decide) ?_
  refine r_aload_n (i := 3) hX d_A_worth_13 1 rfl rfl ?_
  refine r_ifnull hX d_A_worth_14 rfl h (fun h => ?_) (fun h => ?_)
  · refine r_ldc hX d_A_worth_22 cw_A_234 ?_
    cases h; exact r_iret hX hR d_A_worth_24
  · refine r_aload (i := 4) hX d_A_worth_17 0  rfl ?_
    refine r_ifnonnull hX d_A_worth_19 rfl h (fun h => ?_) (fun h => ?_)
    · refine r_aload_n (i := 0) hX d_A_worth_25 2 rfl rfl ?_
      refine r_getR (i := 0) (f := 6) hX ci_0 (by decide) rfl fl_A_49 hk1 d_A_worth_26 ?_
      refine r_aload_n (i := 3) hX d_A_worth_29 1 rfl rfl ?_
      refine r_aload (i := 4) hX d_A_worth_30 0  rfl ?_
      refine r_aload_n (i := 0) hX d_A_worth_32 2 rfl rfl ?_
      refine r_getR (i := 0) (f := 0) hX ci_0 (by decide) rfl fl_A_10 hk1 d_A_worth_33 ?_
      refine r_aload_n (i := 0) hX d_A_worth_36 2 rfl rfl ?_
      refine r_getR (i := 0) (f := 5) hX ci_0 (by decide) rfl fl_A_42 hk1 d_A_worth_37 ?_
      obtain ⟨hk6, h⟩ := gd_e h
      obtain ⟨r7, hr8, h⟩ := bd_e h
      refine r_callV0 (As := [_, _, _, _]) hX hM mw_A_207 (T_Rd_read _ _ _ _ _ _ hr8) (rc_of ci_8 hk6) rfl rfl ⟨Nat.le_refl _, Nat.le_refl _⟩ rfl rfl d_A_worth_40 ?_
      refine r_aload_n (i := 0) hX d_A_worth_43 2 rfl rfl ?_
      obtain ⟨hk9, h⟩ := gd_e h
      obtain ⟨r10, hr11, h⟩ := bd_e h
      refine r_callV1 (As := []) hX hM mw_A_235 (T_A_worthOfReading _ _ hr11) (rc_of ci_0 hk9) rfl rfl ⟨Nat.le_refl _, Nat.le_refl _⟩ rfl rfl d_A_worth_44 ?_
      cases h; exact r_iret hX hR d_A_worth_47
    · refine r_ldc hX d_A_worth_22 cw_A_234 ?_
      cases h; exact r_iret hX hR d_A_worth_24
theorem T_A_worth {l : Launch} {G : AG} (a0 : Nat) (x1 : Int32) (x2 : Int32) (w : AW) {o : Int32 × AW} (h : F_A_worth a0 x1 x2 w = some o) : Mt l G y_A_worth b_A_worth 5 (some (.int)) 6 147 0 0 [vr a0, vi x1, vi x2] w (some (vi o.1)) o.2 := mt_of (by decide) (Nat.le_of_ble_eq_true rfl) (fun X hX hR hM hI => P_A_worth_0 hX hM hR _ _ _ _ h)
/-! RedSkyModel.worthOf(II)I -/
theorem d_M_worthOf_0 : decode b_M_worthOf 0 = .ok (.sipush (1000), 3) := by decide +kernel
theorem d_M_worthOf_3 : decode b_M_worthOf 3 = .ok (.aload_n 0, 1) := by decide +kernel
theorem d_M_worthOf_4 : decode b_M_worthOf 4 = .ok (.iload_n 1, 1) := by decide +kernel
theorem d_M_worthOf_5 : decode b_M_worthOf 5 = .ok (.iload_n 2, 1) := by decide +kernel
theorem d_M_worthOf_6 : decode b_M_worthOf 6 = .ok (.iconst 0, 1) := by decide +kernel
theorem d_M_worthOf_7 : decode b_M_worthOf 7 = .ok (.sipush (1461), 3) := by decide +kernel
theorem d_M_worthOf_10 : decode b_M_worthOf 10 = .ok (.iconst 2, 1) := by decide +kernel
theorem d_M_worthOf_11 : decode b_M_worthOf 11 = .ok (.invokevirtual 331, 3) := by decide +kernel
theorem d_M_worthOf_14 : decode b_M_worthOf 14 = .ok (.imul, 1) := by decide +kernel
theorem d_M_worthOf_15 : decode b_M_worthOf 15 = .ok (.aload_n 0, 1) := by decide +kernel
theorem d_M_worthOf_16 : decode b_M_worthOf 16 = .ok (.iload_n 1, 1) := by decide +kernel
theorem d_M_worthOf_17 : decode b_M_worthOf 17 = .ok (.iload_n 2, 1) := by decide +kernel
theorem d_M_worthOf_18 : decode b_M_worthOf 18 = .ok (.invokevirtual 339, 3) := by decide +kernel
theorem d_M_worthOf_21 : decode b_M_worthOf 21 = .ok (.isub, 1) := by decide +kernel
theorem d_M_worthOf_22 : decode b_M_worthOf 22 = .ok (.ireturn, 1) := by decide +kernel
def F_M_worthOf (a0 : Nat) (x1 : Int32) (x2 : Int32) (w : AW) : Option (Int32 × AW) :=
  gd (wk w a0 == 13) <|
  (F_M_countOf a0 x1 x2 (0 : Int32) (1461 : Int32) (2 : Int32) w).bind fun r2 =>
  gd (wk r2.2 a0 == 13) <|
  (F_M_expectedOf a0 x1 x2 r2.2).bind fun r5 =>
  some ((((1000 : Int32) * r2.1) - r5.1), r5.2)
theorem P_M_worthOf_0 {X : AX} {l : Launch} {G : AG} (hX : XOK X b_M_worthOf "RedSkyModel" 3) (hM : XM X l G { frames := 10, cells := 0, slots := 0, locals := 244 }) {o : Int32 × AW} (hR : XR X (some .int) 0 0 (some (vi o.1)) o.2) (a0 : Nat) (x1 : Int32) (x2 : Int32) (w : AW) (h : F_M_worthOf a0 x1 x2 w = some o) : RJ X 3 0 0 0 [(0, vr a0), (1, vi x1), (2, vi x2)] [] w := by
  unfold F_M_worthOf at h
  refine r_sipush (v := (1000 : Int32)) hX d_M_worthOf_0 rfl ?_
  refine r_aload_n (i := 0) hX d_M_worthOf_3 0 rfl rfl ?_
  refine r_iload_n (i := 1) hX d_M_worthOf_4 1 rfl rfl ?_
  refine r_iload_n (i := 2) hX d_M_worthOf_5 2 rfl rfl ?_
  refine r_iconst (v := (0 : Int32)) hX d_M_worthOf_6 rfl ?_
  refine r_sipush (v := (1461 : Int32)) hX d_M_worthOf_7 rfl ?_
  refine r_iconst (v := (2 : Int32)) hX d_M_worthOf_10 rfl ?_
  obtain ⟨hk1, h⟩ := gd_e h
  obtain ⟨r2, hr3, h⟩ := bd_e h
  refine r_callV1 (As := [_, _, _, _, _]) hX hM mw_M_331 (T_M_countOf _ _ _ _ _ _ _ hr3) (rc_of ci_12 hk1) rfl rfl ⟨Nat.le_refl _, Nat.le_refl _⟩ rfl rfl d_M_worthOf_11 ?_
  refine r_imul hX d_M_worthOf_14 ?_
  refine r_aload_n (i := 0) hX d_M_worthOf_15 0 rfl rfl ?_
  refine r_iload_n (i := 1) hX d_M_worthOf_16 1 rfl rfl ?_
  refine r_iload_n (i := 2) hX d_M_worthOf_17 2 rfl rfl ?_
  obtain ⟨hk4, h⟩ := gd_e h
  obtain ⟨r5, hr6, h⟩ := bd_e h
  refine r_callV1 (As := [_, _]) hX hM mw_M_339 (T_M_expectedOf _ _ _ _ hr6) (rc_of ci_12 hk4) rfl rfl ⟨Nat.le_refl _, Nat.le_refl _⟩ rfl rfl d_M_worthOf_18 ?_
  refine r_isub hX d_M_worthOf_21 ?_
  cases h; exact r_iret hX hR d_M_worthOf_22
theorem T_M_worthOf {l : Launch} {G : AG} (a0 : Nat) (x1 : Int32) (x2 : Int32) (w : AW) {o : Int32 × AW} (h : F_M_worthOf a0 x1 x2 w = some o) : Mt l G y_M_worthOf b_M_worthOf 3 (some (.int)) 10 244 0 0 [vr a0, vi x1, vi x2] w (some (vi o.1)) o.2 := mt_of (by decide) (Nat.le_of_ble_eq_true rfl) (fun X hX hR hM hI => P_M_worthOf_0 hX hM hR _ _ _ _ h)
/-! RedSkyModel.worth(II)I -/
theorem d_M_worth_0 : decode b_M_worth 0 = .ok (.aload_n 0, 1) := by decide +kernel
theorem d_M_worth_1 : decode b_M_worth 1 = .ok (.iload_n 1, 1) := by decide +kernel
theorem d_M_worth_2 : decode b_M_worth 2 = .ok (.invokevirtual 306, 3) := by decide +kernel
theorem d_M_worth_5 : decode b_M_worth 5 = .ok (.ifCond .eq (19), 3) := by decide +kernel
theorem d_M_worth_8 : decode b_M_worth 8 = .ok (.iload_n 2, 1) := by decide +kernel
theorem d_M_worth_9 : decode b_M_worth 9 = .ok (.invokestatic 155, 3) := by decide +kernel
theorem d_M_worth_12 : decode b_M_worth 12 = .ok (.ifCond .eq (12), 3) := by decide +kernel
theorem d_M_worth_15 : decode b_M_worth 15 = .ok (.aload_n 0, 1) := by decide +kernel
theorem d_M_worth_16 : decode b_M_worth 16 = .ok (.iload_n 1, 1) := by decide +kernel
theorem d_M_worth_17 : decode b_M_worth 17 = .ok (.iload_n 2, 1) := by decide +kernel
theorem d_M_worth_18 : decode b_M_worth 18 = .ok (.invokevirtual 342, 3) := by decide +kernel
theorem d_M_worth_21 : decode b_M_worth 21 = .ok (.goto (6), 3) := by decide +kernel
theorem d_M_worth_24 : decode b_M_worth 24 = .ok (.ldc_w 345, 3) := by decide +kernel
theorem d_M_worth_27 : decode b_M_worth 27 = .ok (.ireturn, 1) := by decide +kernel
def F_M_worth (a0 : Nat) (x1 : Int32) (x2 : Int32) (w : AW) : Option (Int32 × AW) :=
  gd (wk w a0 == 13) <|
  (F_M_isSaying w a0 x1).bind fun r2 =>
  if r2 = 0 then
    some ((-100000001 : Int32), w)
  else
    if (F_M_isValley x2) = 0 then
      some ((-100000001 : Int32), w)
    else
      (F_M_worthOf a0 x1 x2 w).bind fun r4 =>
      some (r4.1, r4.2)
theorem P_M_worth_0 {X : AX} {l : Launch} {G : AG} (hX : XOK X b_M_worth "RedSkyModel" 3) (hM : XM X l G { frames := 11, cells := 0, slots := 0, locals := 266 }) {o : Int32 × AW} (hR : XR X (some .int) 0 0 (some (vi o.1)) o.2) (a0 : Nat) (x1 : Int32) (x2 : Int32) (w : AW) (h : F_M_worth a0 x1 x2 w = some o) : RJ X 3 0 0 0 [(0, vr a0), (1, vi x1), (2, vi x2)] [] w := by
  unfold F_M_worth at h
  refine r_aload_n (i := 0) hX d_M_worth_0 0 rfl rfl ?_
  refine r_iload_n (i := 1) hX d_M_worth_1 1 rfl rfl ?_
  obtain ⟨hk1, h⟩ := gd_e h
  obtain ⟨r2, hr3, h⟩ := bd_e h
  refine r_callV1 (As := [_]) hX hM mw_M_306 (T_M_isSaying _ _ _ hr3) (rc_of ci_12 hk1) rfl rfl ⟨Nat.le_refl _, Nat.le_refl _⟩ rfl rfl d_M_worth_2 ?_
  refine r_if_eq hX d_M_worth_5 rfl h (fun h => ?_) (fun h => ?_)
  · refine r_ldcw hX d_M_worth_24 cw_M_345 ?_
    cases h; exact r_iret hX hR d_M_worth_27
  · refine r_iload_n (i := 2) hX d_M_worth_8 2 rfl rfl ?_
    refine r_callS1 (As := [_]) hX hM mw_M_155 (T_M_isValley _ _) rfl rfl ⟨Nat.le_refl _, Nat.le_refl _⟩ rfl rfl d_M_worth_9 ?_
    refine r_if_eq hX d_M_worth_12 rfl h (fun h => ?_) (fun h => ?_)
    · refine r_ldcw hX d_M_worth_24 cw_M_345 ?_
      cases h; exact r_iret hX hR d_M_worth_27
    · refine r_aload_n (i := 0) hX d_M_worth_15 0 rfl rfl ?_
      refine r_iload_n (i := 1) hX d_M_worth_16 1 rfl rfl ?_
      refine r_iload_n (i := 2) hX d_M_worth_17 2 rfl rfl ?_
      obtain ⟨r4, hr5, h⟩ := bd_e h
      refine r_callV1 (As := [_, _]) hX hM mw_M_342 (T_M_worthOf _ _ _ _ hr5) (rc_of ci_12 hk1) rfl rfl ⟨Nat.le_refl _, Nat.le_refl _⟩ rfl rfl d_M_worth_18 ?_
      refine r_goto hX d_M_worth_21 rfl ?_
      cases h; exact r_iret hX hR d_M_worth_27
theorem T_M_worth {l : Launch} {G : AG} (a0 : Nat) (x1 : Int32) (x2 : Int32) (w : AW) {o : Int32 × AW} (h : F_M_worth a0 x1 x2 w = some o) : Mt l G y_M_worth b_M_worth 3 (some (.int)) 11 266 0 0 [vr a0, vi x1, vi x2] w (some (vi o.1)) o.2 := mt_of (by decide) (Nat.le_of_ble_eq_true rfl) (fun X hX hR hM hI => P_M_worth_0 hX hM hR _ _ _ _ h)
/-! RedSky$Reading.turnMonth(IIILRedSky$Calendar;)V -/
theorem d_Rd_turnMonth_0 : decode b_Rd_turnMonth 0 = .ok (.aload 4, 2) := by decide +kernel
theorem d_Rd_turnMonth_2 : decode b_Rd_turnMonth 2 = .ok (.iload_n 1, 1) := by decide +kernel
theorem d_Rd_turnMonth_3 : decode b_Rd_turnMonth 3 = .ok (.iload_n 3, 1) := by decide +kernel
theorem d_Rd_turnMonth_4 : decode b_Rd_turnMonth 4 = .ok (.iconst 1, 1) := by decide +kernel
theorem d_Rd_turnMonth_5 : decode b_Rd_turnMonth 5 = .ok (.invokevirtual 112, 3) := by decide +kernel
theorem d_Rd_turnMonth_8 : decode b_Rd_turnMonth 8 = .ok (.istore 5, 2) := by decide +kernel
theorem d_Rd_turnMonth_10 : decode b_Rd_turnMonth 10 = .ok (.aload 4, 2) := by decide +kernel
theorem d_Rd_turnMonth_12 : decode b_Rd_turnMonth 12 = .ok (.iload_n 2, 1) := by decide +kernel
theorem d_Rd_turnMonth_13 : decode b_Rd_turnMonth 13 = .ok (.iload_n 3, 1) := by decide +kernel
theorem d_Rd_turnMonth_14 : decode b_Rd_turnMonth 14 = .ok (.iconst 1, 1) := by decide +kernel
theorem d_Rd_turnMonth_15 : decode b_Rd_turnMonth 15 = .ok (.invokevirtual 112, 3) := by decide +kernel
theorem d_Rd_turnMonth_18 : decode b_Rd_turnMonth 18 = .ok (.istore 6, 2) := by decide +kernel
theorem d_Rd_turnMonth_20 : decode b_Rd_turnMonth 20 = .ok (.aload 4, 2) := by decide +kernel
theorem d_Rd_turnMonth_22 : decode b_Rd_turnMonth 22 = .ok (.iload_n 1, 1) := by decide +kernel
theorem d_Rd_turnMonth_23 : decode b_Rd_turnMonth 23 = .ok (.iload_n 3, 1) := by decide +kernel
theorem d_Rd_turnMonth_24 : decode b_Rd_turnMonth 24 = .ok (.invokevirtual 116, 3) := by decide +kernel
theorem d_Rd_turnMonth_27 : decode b_Rd_turnMonth 27 = .ok (.aload 4, 2) := by decide +kernel
theorem d_Rd_turnMonth_29 : decode b_Rd_turnMonth 29 = .ok (.iload_n 2, 1) := by decide +kernel
theorem d_Rd_turnMonth_30 : decode b_Rd_turnMonth 30 = .ok (.iload_n 3, 1) := by decide +kernel
theorem d_Rd_turnMonth_31 : decode b_Rd_turnMonth 31 = .ok (.invokevirtual 116, 3) := by decide +kernel
theorem d_Rd_turnMonth_34 : decode b_Rd_turnMonth 34 = .ok (.invokestatic 120, 3) := by decide +kernel
theorem d_Rd_turnMonth_37 : decode b_Rd_turnMonth 37 = .ok (.istore 7, 2) := by decide +kernel
theorem d_Rd_turnMonth_39 : decode b_Rd_turnMonth 39 = .ok (.iconst 0, 1) := by decide +kernel
theorem d_Rd_turnMonth_40 : decode b_Rd_turnMonth 40 = .ok (.istore 8, 2) := by decide +kernel
theorem d_Rd_turnMonth_42 : decode b_Rd_turnMonth 42 = .ok (.iload 8, 2) := by decide +kernel
theorem d_Rd_turnMonth_44 : decode b_Rd_turnMonth 44 = .ok (.iload 7, 2) := by decide +kernel
theorem d_Rd_turnMonth_46 : decode b_Rd_turnMonth 46 = .ok (.if_icmp .ge (63), 3) := by decide +kernel
theorem d_Rd_turnMonth_49 : decode b_Rd_turnMonth 49 = .ok (.aload_n 0, 1) := by decide +kernel
theorem d_Rd_turnMonth_50 : decode b_Rd_turnMonth 50 = .ok (.getfield 24, 3) := by decide +kernel
theorem d_Rd_turnMonth_53 : decode b_Rd_turnMonth 53 = .ok (.iload 6, 2) := by decide +kernel
theorem d_Rd_turnMonth_55 : decode b_Rd_turnMonth 55 = .ok (.iload 8, 2) := by decide +kernel
theorem d_Rd_turnMonth_57 : decode b_Rd_turnMonth 57 = .ok (.iadd, 1) := by decide +kernel
theorem d_Rd_turnMonth_58 : decode b_Rd_turnMonth 58 = .ok (.invokevirtual 125, 3) := by decide +kernel
theorem d_Rd_turnMonth_61 : decode b_Rd_turnMonth 61 = .ok (.ifCond .eq (15), 3) := by decide +kernel
theorem d_Rd_turnMonth_64 : decode b_Rd_turnMonth 64 = .ok (.aload_n 0, 1) := by decide +kernel
theorem d_Rd_turnMonth_65 : decode b_Rd_turnMonth 65 = .ok (.getfield 42, 3) := by decide +kernel
theorem d_Rd_turnMonth_68 : decode b_Rd_turnMonth 68 = .ok (.iload 5, 2) := by decide +kernel
theorem d_Rd_turnMonth_70 : decode b_Rd_turnMonth 70 = .ok (.iload 8, 2) := by decide +kernel
theorem d_Rd_turnMonth_72 : decode b_Rd_turnMonth 72 = .ok (.iadd, 1) := by decide +kernel
theorem d_Rd_turnMonth_73 : decode b_Rd_turnMonth 73 = .ok (.invokevirtual 129, 3) := by decide +kernel
theorem d_Rd_turnMonth_76 : decode b_Rd_turnMonth 76 = .ok (.aload_n 0, 1) := by decide +kernel
theorem d_Rd_turnMonth_77 : decode b_Rd_turnMonth 77 = .ok (.getfield 27, 3) := by decide +kernel
theorem d_Rd_turnMonth_80 : decode b_Rd_turnMonth 80 = .ok (.iload 6, 2) := by decide +kernel
theorem d_Rd_turnMonth_82 : decode b_Rd_turnMonth 82 = .ok (.iload 8, 2) := by decide +kernel
theorem d_Rd_turnMonth_84 : decode b_Rd_turnMonth 84 = .ok (.iadd, 1) := by decide +kernel
theorem d_Rd_turnMonth_85 : decode b_Rd_turnMonth 85 = .ok (.invokevirtual 125, 3) := by decide +kernel
theorem d_Rd_turnMonth_88 : decode b_Rd_turnMonth 88 = .ok (.ifCond .eq (15), 3) := by decide +kernel
theorem d_Rd_turnMonth_91 : decode b_Rd_turnMonth 91 = .ok (.aload_n 0, 1) := by decide +kernel
theorem d_Rd_turnMonth_92 : decode b_Rd_turnMonth 92 = .ok (.getfield 45, 3) := by decide +kernel
theorem d_Rd_turnMonth_95 : decode b_Rd_turnMonth 95 = .ok (.iload 5, 2) := by decide +kernel
theorem d_Rd_turnMonth_97 : decode b_Rd_turnMonth 97 = .ok (.iload 8, 2) := by decide +kernel
theorem d_Rd_turnMonth_99 : decode b_Rd_turnMonth 99 = .ok (.iadd, 1) := by decide +kernel
theorem d_Rd_turnMonth_100 : decode b_Rd_turnMonth 100 = .ok (.invokevirtual 129, 3) := by decide +kernel
theorem d_Rd_turnMonth_103 : decode b_Rd_turnMonth 103 = .ok (.iinc 8 (1), 3) := by decide +kernel
theorem d_Rd_turnMonth_106 : decode b_Rd_turnMonth 106 = .ok (.goto (-64), 3) := by decide +kernel
theorem d_Rd_turnMonth_109 : decode b_Rd_turnMonth 109 = .ok (.return_, 1) := by decide +kernel
def F_Rd_turnMonth_76 (rec42 : Nat → Int32 → Int32 → Int32 → Int32 → AW → Option (AW)) (a0 : Nat) (x5 : Int32) (x6 : Int32) (x7 : Int32) (x8 : Int32) (w : AW) : Option (AW) :=
  gd (wk w a0 == 9) <|
  gd (wk w (wr w a0 4) == 8) <|
  (F_Dy_has w (wr w a0 4) (x6 + x8)).bind fun r3 =>
  if r3 = 0 then
    let v5 : Int32 := (x8 + (1 : Int32))
    rec42 a0 x5 x6 x7 v5 w
  else
    gd (wk w (wr w a0 10) == 8) <|
    (F_Dy_add (wr w a0 10) (x5 + x8) w).bind fun r7 =>
    let v9 : Int32 := (x8 + (1 : Int32))
    rec42 a0 x5 x6 x7 v9 r7
theorem P_Rd_turnMonth_76 {X : AX} {l : Launch} {G : AG} {rec42 : Nat → Int32 → Int32 → Int32 → Int32 → AW → Option (AW)} (hX : XOK X b_Rd_turnMonth "RedSky$Reading" 9) (hM : XM X l G { frames := 3, cells := 0, slots := 0, locals := 69 }) {o : AW} (hR : XR X none 0 0 none o) (hrec42 : ∀ (a0 : Nat) (x5 : Int32) (x6 : Int32) (x7 : Int32) (x8 : Int32) (w : AW), rec42 a0 x5 x6 x7 x8 w = some o → RJ X 9 0 0 42 [(0, vr a0), (5, vi x5), (6, vi x6), (7, vi x7), (8, vi x8)] [] w) (a0 : Nat) (x5 : Int32) (x6 : Int32) (x7 : Int32) (x8 : Int32) (w : AW) (h : F_Rd_turnMonth_76 rec42 a0 x5 x6 x7 x8 w = some o) : RJ X 9 0 0 76 [(0, vr a0), (5, vi x5), (6, vi x6), (7, vi x7), (8, vi x8)] [] w := by
  unfold F_Rd_turnMonth_76 at h
  refine r_aload_n (i := 0) hX d_Rd_turnMonth_76 0 rfl rfl ?_
  obtain ⟨hk1, h⟩ := gd_e h
  refine r_getR (i := 8) (f := 4) hX ci_8 (by decide) rfl fl_Rd_27 hk1 d_Rd_turnMonth_77 ?_
  refine r_iload (i := 6) hX d_Rd_turnMonth_80 2  rfl ?_
  refine r_iload (i := 8) hX d_Rd_turnMonth_82 4  rfl ?_
  refine r_iadd hX d_Rd_turnMonth_84 ?_
  obtain ⟨hk2, h⟩ := gd_e h
  obtain ⟨r3, hr4, h⟩ := bd_e h
  refine r_callV1 (As := [_]) hX hM mw_Rd_125 (T_Dy_has _ _ _ hr4) (rc_of ci_7 hk2) rfl rfl ⟨Nat.le_refl _, Nat.le_refl _⟩ rfl rfl d_Rd_turnMonth_85 ?_
  refine r_if_eq hX d_Rd_turnMonth_88 rfl h (fun h => ?_) (fun h => ?_)
  · refine r_iinc (i := 8) (v := (1 : Int32)) hX d_Rd_turnMonth_103 4 rfl rfl (by decide) ?_
    refine r_goto hX d_Rd_turnMonth_106 rfl ?_
    exact rj_sub [1, 2, 3, 4, 0] rfl (hrec42 _ _ _ _ _ _ h)
  · refine r_aload_n (i := 0) hX d_Rd_turnMonth_91 0 rfl rfl ?_
    refine r_getR (i := 8) (f := 10) hX ci_8 (by decide) rfl fl_Rd_45 hk1 d_Rd_turnMonth_92 ?_
    refine r_iload (i := 5) hX d_Rd_turnMonth_95 1  rfl ?_
    refine r_iload (i := 8) hX d_Rd_turnMonth_97 4  rfl ?_
    refine r_iadd hX d_Rd_turnMonth_99 ?_
    obtain ⟨hk6, h⟩ := gd_e h
    obtain ⟨r7, hr8, h⟩ := bd_e h
    refine r_callV0 (As := [_]) hX hM mw_Rd_129 (T_Dy_add _ _ _ hr8) (rc_of ci_7 hk6) rfl rfl ⟨Nat.le_refl _, Nat.le_refl _⟩ rfl rfl d_Rd_turnMonth_100 ?_
    refine r_iinc (i := 8) (v := (1 : Int32)) hX d_Rd_turnMonth_103 4 rfl rfl (by decide) ?_
    refine r_goto hX d_Rd_turnMonth_106 rfl ?_
    exact rj_sub [1, 2, 3, 4, 0] rfl (hrec42 _ _ _ _ _ _ h)
def F_Rd_turnMonth_42_B (rec42 : Nat → Int32 → Int32 → Int32 → Int32 → AW → Option (AW)) (a0 : Nat) (x5 : Int32) (x6 : Int32) (x7 : Int32) (x8 : Int32) (w : AW) : Option (AW) :=
  if x7 ≤ x8 then
    some w
  else
    gd (wk w a0 == 9) <|
    gd (wk w (wr w a0 3) == 8) <|
    (F_Dy_has w (wr w a0 3) (x6 + x8)).bind fun r3 =>
    if r3 = 0 then
      F_Rd_turnMonth_76 rec42 a0 x5 x6 x7 x8 w
    else
      gd (wk w (wr w a0 9) == 8) <|
      (F_Dy_add (wr w a0 9) (x5 + x8) w).bind fun r6 =>
      F_Rd_turnMonth_76 rec42 a0 x5 x6 x7 x8 r6
theorem P_Rd_turnMonth_42_B {X : AX} {l : Launch} {G : AG} {rec42 : Nat → Int32 → Int32 → Int32 → Int32 → AW → Option (AW)} (hX : XOK X b_Rd_turnMonth "RedSky$Reading" 9) (hM : XM X l G { frames := 3, cells := 0, slots := 0, locals := 69 }) {o : AW} (hR : XR X none 0 0 none o) (hrec42 : ∀ (a0 : Nat) (x5 : Int32) (x6 : Int32) (x7 : Int32) (x8 : Int32) (w : AW), rec42 a0 x5 x6 x7 x8 w = some o → RJ X 9 0 0 42 [(0, vr a0), (5, vi x5), (6, vi x6), (7, vi x7), (8, vi x8)] [] w) (a0 : Nat) (x5 : Int32) (x6 : Int32) (x7 : Int32) (x8 : Int32) (w : AW) (h : F_Rd_turnMonth_42_B rec42 a0 x5 x6 x7 x8 w = some o) : RJ X 9 0 0 42 [(0, vr a0), (5, vi x5), (6, vi x6), (7, vi x7), (8, vi x8)] [] w := by
  unfold F_Rd_turnMonth_42_B at h
  refine r_iload (i := 8) hX d_Rd_turnMonth_42 4  rfl ?_
  refine r_iload (i := 7) hX d_Rd_turnMonth_44 3  rfl ?_
  refine r_icmp_ge hX d_Rd_turnMonth_46 rfl h (fun h => ?_) (fun h => ?_)
  · cases h; exact r_vret hX hR d_Rd_turnMonth_109
  · refine r_aload_n (i := 0) hX d_Rd_turnMonth_49 0 rfl rfl ?_
    obtain ⟨hk1, h⟩ := gd_e h
    refine r_getR (i := 8) (f := 3) hX ci_8 (by decide) rfl fl_Rd_24 hk1 d_Rd_turnMonth_50 ?_
    refine r_iload (i := 6) hX d_Rd_turnMonth_53 2  rfl ?_
    refine r_iload (i := 8) hX d_Rd_turnMonth_55 4  rfl ?_
    refine r_iadd hX d_Rd_turnMonth_57 ?_
    obtain ⟨hk2, h⟩ := gd_e h
    obtain ⟨r3, hr4, h⟩ := bd_e h
    refine r_callV1 (As := [_]) hX hM mw_Rd_125 (T_Dy_has _ _ _ hr4) (rc_of ci_7 hk2) rfl rfl ⟨Nat.le_refl _, Nat.le_refl _⟩ rfl rfl d_Rd_turnMonth_58 ?_
    refine r_if_eq hX d_Rd_turnMonth_61 rfl h (fun h => ?_) (fun h => ?_)
    · exact rj_sub [0, 1, 2, 3, 4] rfl (P_Rd_turnMonth_76 hX hM hR hrec42 _ _ _ _ _ _ h)
    · refine r_aload_n (i := 0) hX d_Rd_turnMonth_64 0 rfl rfl ?_
      refine r_getR (i := 8) (f := 9) hX ci_8 (by decide) rfl fl_Rd_42 hk1 d_Rd_turnMonth_65 ?_
      refine r_iload (i := 5) hX d_Rd_turnMonth_68 1  rfl ?_
      refine r_iload (i := 8) hX d_Rd_turnMonth_70 4  rfl ?_
      refine r_iadd hX d_Rd_turnMonth_72 ?_
      obtain ⟨hk5, h⟩ := gd_e h
      obtain ⟨r6, hr7, h⟩ := bd_e h
      refine r_callV0 (As := [_]) hX hM mw_Rd_129 (T_Dy_add _ _ _ hr7) (rc_of ci_7 hk5) rfl rfl ⟨Nat.le_refl _, Nat.le_refl _⟩ rfl rfl d_Rd_turnMonth_73 ?_
      exact rj_sub [0, 1, 2, 3, 4] rfl (P_Rd_turnMonth_76 hX hM hR hrec42 _ _ _ _ _ _ h)
def F_Rd_turnMonth_42 : Nat → Nat → Int32 → Int32 → Int32 → Int32 → AW → Option (AW)
  | 0 => fun _ _ _ _ _ _ => none
  | n + 1 => fun a0 x5 x6 x7 x8 w => F_Rd_turnMonth_42_B (F_Rd_turnMonth_42 n) a0 x5 x6 x7 x8 w
theorem P_Rd_turnMonth_42 {X : AX} {l : Launch} {G : AG} (hX : XOK X b_Rd_turnMonth "RedSky$Reading" 9) (hM : XM X l G { frames := 3, cells := 0, slots := 0, locals := 69 }) {o : AW} (hR : XR X none 0 0 none o) (fu : Nat) : ∀ (a0 : Nat) (x5 : Int32) (x6 : Int32) (x7 : Int32) (x8 : Int32) (w : AW), F_Rd_turnMonth_42 fu a0 x5 x6 x7 x8 w = some o → RJ X 9 0 0 42 [(0, vr a0), (5, vi x5), (6, vi x6), (7, vi x7), (8, vi x8)] [] w := by
  induction fu with
  | zero => intro a0 x5 x6 x7 x8 w h; cases h
  | succ n9 ih => intro a0 x5 x6 x7 x8 w h; exact P_Rd_turnMonth_42_B hX hM hR ih _ _ _ _ _ _ h
def F_Rd_turnMonth (a0 : Nat) (x1 : Int32) (x2 : Int32) (x3 : Int32) (a4 : Nat) (w : AW) : Option (AW) :=
  gd (wk w a4 == 2) <|
  (F_Ca_dayOf w a4 x1 x3 (1 : Int32)).bind fun r2 =>
  (F_Ca_dayOf w a4 x2 x3 (1 : Int32)).bind fun r4 =>
  (F_Ca_monthLength w a4 x1 x3).bind fun r6 =>
  (F_Ca_monthLength w a4 x2 x3).bind fun r8 =>
  let v10 : Int32 := (F_Jmath_min r6 r8)
  F_Rd_turnMonth_42 FUEL a0 r2 r4 v10 (0 : Int32) w
theorem P_Rd_turnMonth_0 {X : AX} {l : Launch} {G : AG} (hX : XOK X b_Rd_turnMonth "RedSky$Reading" 9) (hM : XM X l G { frames := 3, cells := 0, slots := 0, locals := 69 }) {o : AW} (hR : XR X none 0 0 none o) (a0 : Nat) (x1 : Int32) (x2 : Int32) (x3 : Int32) (a4 : Nat) (w : AW) (h : F_Rd_turnMonth a0 x1 x2 x3 a4 w = some o) : RJ X 9 0 0 0 [(0, vr a0), (1, vi x1), (2, vi x2), (3, vi x3), (4, vr a4)] [] w := by
  unfold F_Rd_turnMonth at h
  refine r_aload (i := 4) hX d_Rd_turnMonth_0 4  rfl ?_
  refine r_iload_n (i := 1) hX d_Rd_turnMonth_2 1 rfl rfl ?_
  refine r_iload_n (i := 3) hX d_Rd_turnMonth_3 3 rfl rfl ?_
  refine r_iconst (v := (1 : Int32)) hX d_Rd_turnMonth_4 rfl ?_
  obtain ⟨hk1, h⟩ := gd_e h
  obtain ⟨r2, hr3, h⟩ := bd_e h
  refine r_callV1 (As := [_, _, _]) hX hM mw_Rd_112 (T_Ca_dayOf _ _ _ _ _ hr3) (rc_of ci_1 hk1) rfl rfl ⟨Nat.le_refl _, Nat.le_refl _⟩ rfl rfl d_Rd_turnMonth_5 ?_
  refine r_istore (i := 5) hX d_Rd_turnMonth_8  (by decide) ?_
  refine r_aload (i := 4) hX d_Rd_turnMonth_10 5  rfl ?_
  refine r_iload_n (i := 2) hX d_Rd_turnMonth_12 3 rfl rfl ?_
  refine r_iload_n (i := 3) hX d_Rd_turnMonth_13 4 rfl rfl ?_
  refine r_iconst (v := (1 : Int32)) hX d_Rd_turnMonth_14 rfl ?_
  obtain ⟨r4, hr5, h⟩ := bd_e h
  refine r_callV1 (As := [_, _, _]) hX hM mw_Rd_112 (T_Ca_dayOf _ _ _ _ _ hr5) (rc_of ci_1 hk1) rfl rfl ⟨Nat.le_refl _, Nat.le_refl _⟩ rfl rfl d_Rd_turnMonth_15 ?_
  refine r_istore (i := 6) hX d_Rd_turnMonth_18  (by decide) ?_
  refine r_aload (i := 4) hX d_Rd_turnMonth_20 6  rfl ?_
  refine r_iload_n (i := 1) hX d_Rd_turnMonth_22 3 rfl rfl ?_
  refine r_iload_n (i := 3) hX d_Rd_turnMonth_23 5 rfl rfl ?_
  obtain ⟨r6, hr7, h⟩ := bd_e h
  refine r_callV1 (As := [_, _]) hX hM mw_Rd_116 (T_Ca_monthLength _ _ _ _ hr7) (rc_of ci_1 hk1) rfl rfl ⟨Nat.le_refl _, Nat.le_refl _⟩ rfl rfl d_Rd_turnMonth_24 ?_
  refine r_aload (i := 4) hX d_Rd_turnMonth_27 6  rfl ?_
  refine r_iload_n (i := 2) hX d_Rd_turnMonth_29 4 rfl rfl ?_
  refine r_iload_n (i := 3) hX d_Rd_turnMonth_30 5 rfl rfl ?_
  obtain ⟨r8, hr9, h⟩ := bd_e h
  refine r_callV1 (As := [_, _]) hX hM mw_Rd_116 (T_Ca_monthLength _ _ _ _ hr9) (rc_of ci_1 hk1) rfl rfl ⟨Nat.le_refl _, Nat.le_refl _⟩ rfl rfl d_Rd_turnMonth_31 ?_
  refine r_min hX hM mx_Rd_120 rfl rfl ⟨Nat.le_refl _, Nat.le_refl _⟩ d_Rd_turnMonth_34 ?_
  refine r_istore (i := 7) hX d_Rd_turnMonth_37  (by decide) ?_
  refine r_iconst (v := (0 : Int32)) hX d_Rd_turnMonth_39 rfl ?_
  refine r_istore (i := 8) hX d_Rd_turnMonth_40  (by decide) ?_
  exact rj_sub [4, 3, 2, 1, 0] rfl (P_Rd_turnMonth_42 hX hM hR FUEL _ _ _ _ _ _ h)
theorem T_Rd_turnMonth {l : Launch} {G : AG} (a0 : Nat) (x1 : Int32) (x2 : Int32) (x3 : Int32) (a4 : Nat) (w : AW) {o : AW} (h : F_Rd_turnMonth a0 x1 x2 x3 a4 w = some o) : Mt l G y_Rd_turnMonth b_Rd_turnMonth 9 none 3 69 0 0 [vr a0, vi x1, vi x2, vi x3, vr a4] w none o := mt_of (by decide) (Nat.le_of_ble_eq_true rfl) (fun X hX hR hM hI => P_Rd_turnMonth_0 hX hM hR _ _ _ _ _ _ h)
/-! RedSky$Reading.turn(ILRedSky$Calendar;)V -/
theorem d_Rd_turn_0 : decode b_Rd_turn 0 = .ok (.aload_n 0, 1) := by decide +kernel
theorem d_Rd_turn_1 : decode b_Rd_turn 1 = .ok (.getfield 42, 3) := by decide +kernel
theorem d_Rd_turn_4 : decode b_Rd_turn 4 = .ok (.invokevirtual 80, 3) := by decide +kernel
theorem d_Rd_turn_7 : decode b_Rd_turn 7 = .ok (.aload_n 0, 1) := by decide +kernel
theorem d_Rd_turn_8 : decode b_Rd_turn 8 = .ok (.getfield 45, 3) := by decide +kernel
theorem d_Rd_turn_11 : decode b_Rd_turn 11 = .ok (.invokevirtual 80, 3) := by decide +kernel
theorem d_Rd_turn_14 : decode b_Rd_turn 14 = .ok (.iconst 0, 1) := by decide +kernel
theorem d_Rd_turn_15 : decode b_Rd_turn 15 = .ok (.istore_n 3, 1) := by decide +kernel
theorem d_Rd_turn_16 : decode b_Rd_turn 16 = .ok (.iload_n 3, 1) := by decide +kernel
theorem d_Rd_turn_17 : decode b_Rd_turn 17 = .ok (.iconst 4, 1) := by decide +kernel
theorem d_Rd_turn_18 : decode b_Rd_turn 18 = .ok (.if_icmp .ge (38), 3) := by decide +kernel
theorem d_Rd_turn_21 : decode b_Rd_turn 21 = .ok (.iconst 1, 1) := by decide +kernel
theorem d_Rd_turn_22 : decode b_Rd_turn 22 = .ok (.istore 4, 2) := by decide +kernel
theorem d_Rd_turn_24 : decode b_Rd_turn 24 = .ok (.iload 4, 2) := by decide +kernel
theorem d_Rd_turn_26 : decode b_Rd_turn 26 = .ok (.bipush (12), 2) := by decide +kernel
theorem d_Rd_turn_28 : decode b_Rd_turn 28 = .ok (.if_icmp .gt (22), 3) := by decide +kernel
theorem d_Rd_turn_31 : decode b_Rd_turn 31 = .ok (.aload_n 0, 1) := by decide +kernel
theorem d_Rd_turn_32 : decode b_Rd_turn 32 = .ok (.iload_n 3, 1) := by decide +kernel
theorem d_Rd_turn_33 : decode b_Rd_turn 33 = .ok (.iload_n 3, 1) := by decide +kernel
theorem d_Rd_turn_34 : decode b_Rd_turn 34 = .ok (.iload_n 1, 1) := by decide +kernel
theorem d_Rd_turn_35 : decode b_Rd_turn 35 = .ok (.iadd, 1) := by decide +kernel
theorem d_Rd_turn_36 : decode b_Rd_turn 36 = .ok (.iconst 4, 1) := by decide +kernel
theorem d_Rd_turn_37 : decode b_Rd_turn 37 = .ok (.irem, 1) := by decide +kernel
theorem d_Rd_turn_38 : decode b_Rd_turn 38 = .ok (.iload 4, 2) := by decide +kernel
theorem d_Rd_turn_40 : decode b_Rd_turn 40 = .ok (.aload_n 2, 1) := by decide +kernel
theorem d_Rd_turn_41 : decode b_Rd_turn 41 = .ok (.invokevirtual 108, 3) := by decide +kernel
theorem d_Rd_turn_44 : decode b_Rd_turn 44 = .ok (.iinc 4 (1), 3) := by decide +kernel
theorem d_Rd_turn_47 : decode b_Rd_turn 47 = .ok (.goto (-23), 3) := by decide +kernel
theorem d_Rd_turn_50 : decode b_Rd_turn 50 = .ok (.iinc 3 (1), 3) := by decide +kernel
theorem d_Rd_turn_53 : decode b_Rd_turn 53 = .ok (.goto (-37), 3) := by decide +kernel
theorem d_Rd_turn_56 : decode b_Rd_turn 56 = .ok (.aload_n 0, 1) := by decide +kernel
theorem d_Rd_turn_57 : decode b_Rd_turn 57 = .ok (.aload_n 0, 1) := by decide +kernel
theorem d_Rd_turn_58 : decode b_Rd_turn 58 = .ok (.getfield 42, 3) := by decide +kernel
theorem d_Rd_turn_61 : decode b_Rd_turn 61 = .ok (.aload_n 0, 1) := by decide +kernel
theorem d_Rd_turn_62 : decode b_Rd_turn 62 = .ok (.getfield 45, 3) := by decide +kernel
theorem d_Rd_turn_65 : decode b_Rd_turn 65 = .ok (.invokevirtual 73, 3) := by decide +kernel
theorem d_Rd_turn_68 : decode b_Rd_turn 68 = .ok (.return_, 1) := by decide +kernel
def F_Rd_turn_24_B (rec16 : Nat → Int32 → Nat → Int32 → AW → Option (AW)) (rec24 : Nat → Int32 → Nat → Int32 → Int32 → AW → Option (AW)) (a0 : Nat) (x1 : Int32) (a2 : Nat) (x3 : Int32) (x4 : Int32) (w : AW) : Option (AW) :=
  if (12 : Int32) < x4 then
    let v1 : Int32 := (x3 + (1 : Int32))
    rec16 a0 x1 a2 v1 w
  else
    gd (wk w a0 == 9) <|
    (F_Rd_turnMonth a0 x3 (irem (x3 + x1) (4 : Int32)) x4 a2 w).bind fun r3 =>
    let v5 : Int32 := (x4 + (1 : Int32))
    rec24 a0 x1 a2 x3 v5 r3
theorem P_Rd_turn_24_B {X : AX} {l : Launch} {G : AG} {rec16 : Nat → Int32 → Nat → Int32 → AW → Option (AW)} {rec24 : Nat → Int32 → Nat → Int32 → Int32 → AW → Option (AW)} (hX : XOK X b_Rd_turn "RedSky$Reading" 5) (hM : XM X l G { frames := 4, cells := 0, slots := 0, locals := 97 }) {o : AW} (hR : XR X none 0 0 none o) (hrec16 : ∀ (a0 : Nat) (x1 : Int32) (a2 : Nat) (x3 : Int32) (w : AW), rec16 a0 x1 a2 x3 w = some o → RJ X 5 0 0 16 [(0, vr a0), (1, vi x1), (2, vr a2), (3, vi x3)] [] w) (hrec24 : ∀ (a0 : Nat) (x1 : Int32) (a2 : Nat) (x3 : Int32) (x4 : Int32) (w : AW), rec24 a0 x1 a2 x3 x4 w = some o → RJ X 5 0 0 24 [(0, vr a0), (1, vi x1), (2, vr a2), (3, vi x3), (4, vi x4)] [] w) (a0 : Nat) (x1 : Int32) (a2 : Nat) (x3 : Int32) (x4 : Int32) (w : AW) (h : F_Rd_turn_24_B rec16 rec24 a0 x1 a2 x3 x4 w = some o) : RJ X 5 0 0 24 [(0, vr a0), (1, vi x1), (2, vr a2), (3, vi x3), (4, vi x4)] [] w := by
  unfold F_Rd_turn_24_B at h
  refine r_iload (i := 4) hX d_Rd_turn_24 4  rfl ?_
  refine r_bipush (v := (12 : Int32)) hX d_Rd_turn_26 rfl ?_
  refine r_icmp_gt hX d_Rd_turn_28 rfl h (fun h => ?_) (fun h => ?_)
  · refine r_iinc (i := 3) (v := (1 : Int32)) hX d_Rd_turn_50 3 rfl rfl (by decide) ?_
    refine r_goto hX d_Rd_turn_53 rfl ?_
    exact rj_sub [1, 2, 3, 0] rfl (hrec16 _ _ _ _ _ h)
  · refine r_aload_n (i := 0) hX d_Rd_turn_31 0 rfl rfl ?_
    refine r_iload_n (i := 3) hX d_Rd_turn_32 3 rfl rfl ?_
    refine r_iload_n (i := 3) hX d_Rd_turn_33 3 rfl rfl ?_
    refine r_iload_n (i := 1) hX d_Rd_turn_34 1 rfl rfl ?_
    refine r_iadd hX d_Rd_turn_35 ?_
    refine r_iconst (v := (4 : Int32)) hX d_Rd_turn_36 rfl ?_
    refine r_irem hX d_Rd_turn_37 (by decide) ?_
    refine r_iload (i := 4) hX d_Rd_turn_38 4  rfl ?_
    refine r_aload_n (i := 2) hX d_Rd_turn_40 2 rfl rfl ?_
    obtain ⟨hk2, h⟩ := gd_e h
    obtain ⟨r3, hr4, h⟩ := bd_e h
    refine r_callV0 (As := [_, _, _, _]) hX hM mw_Rd_108 (T_Rd_turnMonth _ _ _ _ _ _ hr4) (rc_of ci_8 hk2) rfl rfl ⟨Nat.le_refl _, Nat.le_refl _⟩ rfl rfl d_Rd_turn_41 ?_
    refine r_iinc (i := 4) (v := (1 : Int32)) hX d_Rd_turn_44 4 rfl rfl (by decide) ?_
    refine r_goto hX d_Rd_turn_47 rfl ?_
    exact rj_sub [1, 2, 3, 4, 0] rfl (hrec24 _ _ _ _ _ _ h)
def F_Rd_turn_24 (rec16 : Nat → Int32 → Nat → Int32 → AW → Option (AW)) : Nat → Nat → Int32 → Nat → Int32 → Int32 → AW → Option (AW)
  | 0 => fun _ _ _ _ _ _ => none
  | n + 1 => fun a0 x1 a2 x3 x4 w => F_Rd_turn_24_B rec16 (F_Rd_turn_24 rec16 n) a0 x1 a2 x3 x4 w
theorem P_Rd_turn_24 {X : AX} {l : Launch} {G : AG} {rec16 : Nat → Int32 → Nat → Int32 → AW → Option (AW)} (hX : XOK X b_Rd_turn "RedSky$Reading" 5) (hM : XM X l G { frames := 4, cells := 0, slots := 0, locals := 97 }) {o : AW} (hR : XR X none 0 0 none o) (hrec16 : ∀ (a0 : Nat) (x1 : Int32) (a2 : Nat) (x3 : Int32) (w : AW), rec16 a0 x1 a2 x3 w = some o → RJ X 5 0 0 16 [(0, vr a0), (1, vi x1), (2, vr a2), (3, vi x3)] [] w) (fu : Nat) : ∀ (a0 : Nat) (x1 : Int32) (a2 : Nat) (x3 : Int32) (x4 : Int32) (w : AW), F_Rd_turn_24 rec16 fu a0 x1 a2 x3 x4 w = some o → RJ X 5 0 0 24 [(0, vr a0), (1, vi x1), (2, vr a2), (3, vi x3), (4, vi x4)] [] w := by
  induction fu with
  | zero => intro a0 x1 a2 x3 x4 w h; cases h
  | succ n9 ih => intro a0 x1 a2 x3 x4 w h; exact P_Rd_turn_24_B hX hM hR hrec16 ih _ _ _ _ _ _ h
def F_Rd_turn_16_B (rec16 : Nat → Int32 → Nat → Int32 → AW → Option (AW)) (a0 : Nat) (x1 : Int32) (a2 : Nat) (x3 : Int32) (w : AW) : Option (AW) :=
  if (4 : Int32) ≤ x3 then
    gd (wk w a0 == 9) <|
    (F_Rd_tally a0 (wr w a0 9) (wr w a0 10) w).bind fun r2 =>
    some r2
  else
    F_Rd_turn_24 rec16 FUEL a0 x1 a2 x3 (1 : Int32) w
theorem P_Rd_turn_16_B {X : AX} {l : Launch} {G : AG} {rec16 : Nat → Int32 → Nat → Int32 → AW → Option (AW)} (hX : XOK X b_Rd_turn "RedSky$Reading" 5) (hM : XM X l G { frames := 4, cells := 0, slots := 0, locals := 97 }) {o : AW} (hR : XR X none 0 0 none o) (hrec16 : ∀ (a0 : Nat) (x1 : Int32) (a2 : Nat) (x3 : Int32) (w : AW), rec16 a0 x1 a2 x3 w = some o → RJ X 5 0 0 16 [(0, vr a0), (1, vi x1), (2, vr a2), (3, vi x3)] [] w) (a0 : Nat) (x1 : Int32) (a2 : Nat) (x3 : Int32) (w : AW) (h : F_Rd_turn_16_B rec16 a0 x1 a2 x3 w = some o) : RJ X 5 0 0 16 [(0, vr a0), (1, vi x1), (2, vr a2), (3, vi x3)] [] w := by
  unfold F_Rd_turn_16_B at h
  refine r_iload_n (i := 3) hX d_Rd_turn_16 3 rfl rfl ?_
  refine r_iconst (v := (4 : Int32)) hX d_Rd_turn_17 rfl ?_
  refine r_icmp_ge hX d_Rd_turn_18 rfl h (fun h => ?_) (fun h => ?_)
  · refine r_aload_n (i := 0) hX d_Rd_turn_56 0 rfl rfl ?_
    refine r_aload_n (i := 0) hX d_Rd_turn_57 0 rfl rfl ?_
    obtain ⟨hk1, h⟩ := gd_e h
    refine r_getR (i := 8) (f := 9) hX ci_8 (by decide) rfl fl_Rd_42 hk1 d_Rd_turn_58 ?_
    refine r_aload_n (i := 0) hX d_Rd_turn_61 0 rfl rfl ?_
    refine r_getR (i := 8) (f := 10) hX ci_8 (by decide) rfl fl_Rd_45 hk1 d_Rd_turn_62 ?_
    obtain ⟨r2, hr3, h⟩ := bd_e h
    refine r_callV0 (As := [_, _]) hX hM mw_Rd_73 (T_Rd_tally _ _ _ _ hr3) (rc_of ci_8 hk1) rfl rfl ⟨Nat.le_refl _, Nat.le_refl _⟩ rfl rfl d_Rd_turn_65 ?_
    cases h; exact r_vret hX hR d_Rd_turn_68
  · refine r_iconst (v := (1 : Int32)) hX d_Rd_turn_21 rfl ?_
    refine r_istore (i := 4) hX d_Rd_turn_22  (by decide) ?_
    exact rj_sub [1, 2, 3, 4, 0] rfl (P_Rd_turn_24 hX hM hR hrec16 FUEL _ _ _ _ _ _ h)
def F_Rd_turn_16 : Nat → Nat → Int32 → Nat → Int32 → AW → Option (AW)
  | 0 => fun _ _ _ _ _ => none
  | n + 1 => fun a0 x1 a2 x3 w => F_Rd_turn_16_B (F_Rd_turn_16 n) a0 x1 a2 x3 w
theorem P_Rd_turn_16 {X : AX} {l : Launch} {G : AG} (hX : XOK X b_Rd_turn "RedSky$Reading" 5) (hM : XM X l G { frames := 4, cells := 0, slots := 0, locals := 97 }) {o : AW} (hR : XR X none 0 0 none o) (fu : Nat) : ∀ (a0 : Nat) (x1 : Int32) (a2 : Nat) (x3 : Int32) (w : AW), F_Rd_turn_16 fu a0 x1 a2 x3 w = some o → RJ X 5 0 0 16 [(0, vr a0), (1, vi x1), (2, vr a2), (3, vi x3)] [] w := by
  induction fu with
  | zero => intro a0 x1 a2 x3 w h; cases h
  | succ n9 ih => intro a0 x1 a2 x3 w h; exact P_Rd_turn_16_B hX hM hR ih _ _ _ _ _ h
def F_Rd_turn (a0 : Nat) (x1 : Int32) (a2 : Nat) (w : AW) : Option (AW) :=
  gd (wk w a0 == 9) <|
  gd (wk w (wr w a0 9) == 8) <|
  (F_Dy_clear (wr w a0 9) w).bind fun r3 =>
  gd (wk r3 a0 == 9) <|
  gd (wk r3 (wr r3 a0 10) == 8) <|
  (F_Dy_clear (wr r3 a0 10) r3).bind fun r7 =>
  F_Rd_turn_16 FUEL a0 x1 a2 (0 : Int32) r7
theorem P_Rd_turn_0 {X : AX} {l : Launch} {G : AG} (hX : XOK X b_Rd_turn "RedSky$Reading" 5) (hM : XM X l G { frames := 4, cells := 0, slots := 0, locals := 97 }) {o : AW} (hR : XR X none 0 0 none o) (a0 : Nat) (x1 : Int32) (a2 : Nat) (w : AW) (h : F_Rd_turn a0 x1 a2 w = some o) : RJ X 5 0 0 0 [(0, vr a0), (1, vi x1), (2, vr a2)] [] w := by
  unfold F_Rd_turn at h
  refine r_aload_n (i := 0) hX d_Rd_turn_0 0 rfl rfl ?_
  obtain ⟨hk1, h⟩ := gd_e h
  refine r_getR (i := 8) (f := 9) hX ci_8 (by decide) rfl fl_Rd_42 hk1 d_Rd_turn_1 ?_
  obtain ⟨hk2, h⟩ := gd_e h
  obtain ⟨r3, hr4, h⟩ := bd_e h
  refine r_callV0 (As := []) hX hM mw_Rd_80 (T_Dy_clear _ _ hr4) (rc_of ci_7 hk2) rfl rfl ⟨Nat.le_refl _, Nat.le_refl _⟩ rfl rfl d_Rd_turn_4 ?_
  refine r_aload_n (i := 0) hX d_Rd_turn_7 0 rfl rfl ?_
  obtain ⟨hk5, h⟩ := gd_e h
  refine r_getR (i := 8) (f := 10) hX ci_8 (by decide) rfl fl_Rd_45 hk5 d_Rd_turn_8 ?_
  obtain ⟨hk6, h⟩ := gd_e h
  obtain ⟨r7, hr8, h⟩ := bd_e h
  refine r_callV0 (As := []) hX hM mw_Rd_80 (T_Dy_clear _ _ hr8) (rc_of ci_7 hk6) rfl rfl ⟨Nat.le_refl _, Nat.le_refl _⟩ rfl rfl d_Rd_turn_11 ?_
  refine r_iconst (v := (0 : Int32)) hX d_Rd_turn_14 rfl ?_
  refine r_istore_n (i := 3) hX d_Rd_turn_15 rfl (by decide) ?_
  exact rj_sub [1, 2, 3, 0] rfl (P_Rd_turn_16 hX hM hR FUEL _ _ _ _ _ h)
theorem T_Rd_turn {l : Launch} {G : AG} (a0 : Nat) (x1 : Int32) (a2 : Nat) (w : AW) {o : AW} (h : F_Rd_turn a0 x1 a2 w = some o) : Mt l G y_Rd_turn b_Rd_turn 5 none 4 97 0 0 [vr a0, vi x1, vr a2] w none o := mt_of (by decide) (Nat.le_of_ble_eq_true rfl) (fun X hX hR hM hI => P_Rd_turn_0 hX hM hR _ _ _ _ h)
/-! RedSky.turned(IIII)I -/
theorem d_A_turned_0 : decode b_A_turned 0 = .ok (.aload_n 0, 1) := by decide +kernel
theorem d_A_turned_1 : decode b_A_turned 1 = .ok (.iload_n 1, 1) := by decide +kernel
theorem d_A_turned_2 : decode b_A_turned 2 = .ok (.invokevirtual 200, 3) := by decide +kernel
theorem d_A_turned_5 : decode b_A_turned 5 = .ok (.astore 5, 2) := by decide +kernel
theorem d_A_turned_7 : decode b_A_turned 7 = .ok (.aload_n 0, 1) := by decide +kernel
theorem d_A_turned_8 : decode b_A_turned 8 = .ok (.iload_n 2, 1) := by decide +kernel
theorem d_A_turned_9 : decode b_A_turned 9 = .ok (.invokevirtual 141, 3) := by decide +kernel
theorem d_A_turned_12 : decode b_A_turned 12 = .ok (.astore 6, 2) := by decide +kernel
theorem d_A_turned_14 : decode b_A_turned 14 = .ok (.aload 5, 2) := by decide +kernel
theorem d_A_turned_16 : decode b_A_turned 16 = .ok (.ifnull (8), 3) := by decide +kernel
theorem d_A_turned_19 : decode b_A_turned 19 = .ok (.aload 6, 2) := by decide +kernel
theorem d_A_turned_21 : decode b_A_turned 21 = .ok (.ifnonnull (6), 3) := by decide +kernel
theorem d_A_turned_24 : decode b_A_turned 24 = .ok (.bipush (-101), 2) := by decide +kernel
theorem d_A_turned_26 : decode b_A_turned 26 = .ok (.ireturn, 1) := by decide +kernel
theorem d_A_turned_27 : decode b_A_turned 27 = .ok (.iload_n 3, 1) := by decide +kernel
theorem d_A_turned_28 : decode b_A_turned 28 = .ok (.iconst 1, 1) := by decide +kernel
theorem d_A_turned_29 : decode b_A_turned 29 = .ok (.iconst 3, 1) := by decide +kernel
theorem d_A_turned_30 : decode b_A_turned 30 = .ok (.invokestatic 86, 3) := by decide +kernel
theorem d_A_turned_33 : decode b_A_turned 33 = .ok (.ifCond .eq (13), 3) := by decide +kernel
theorem d_A_turned_36 : decode b_A_turned 36 = .ok (.iload 4, 2) := by decide +kernel
theorem d_A_turned_38 : decode b_A_turned 38 = .ok (.iconst 0, 1) := by decide +kernel
theorem d_A_turned_39 : decode b_A_turned 39 = .ok (.iconst 1, 1) := by decide +kernel
theorem d_A_turned_40 : decode b_A_turned 40 = .ok (.invokestatic 86, 3) := by decide +kernel
theorem d_A_turned_43 : decode b_A_turned 43 = .ok (.ifCond .ne (6), 3) := by decide +kernel
theorem d_A_turned_46 : decode b_A_turned 46 = .ok (.bipush (-102), 2) := by decide +kernel
theorem d_A_turned_48 : decode b_A_turned 48 = .ok (.ireturn, 1) := by decide +kernel
theorem d_A_turned_49 : decode b_A_turned 49 = .ok (.aload_n 0, 1) := by decide +kernel
theorem d_A_turned_50 : decode b_A_turned 50 = .ok (.getfield 49, 3) := by decide +kernel
theorem d_A_turned_53 : decode b_A_turned 53 = .ok (.aload 5, 2) := by decide +kernel
theorem d_A_turned_55 : decode b_A_turned 55 = .ok (.aload 6, 2) := by decide +kernel
theorem d_A_turned_57 : decode b_A_turned 57 = .ok (.aload_n 0, 1) := by decide +kernel
theorem d_A_turned_58 : decode b_A_turned 58 = .ok (.getfield 10, 3) := by decide +kernel
theorem d_A_turned_61 : decode b_A_turned 61 = .ok (.aload_n 0, 1) := by decide +kernel
theorem d_A_turned_62 : decode b_A_turned 62 = .ok (.getfield 42, 3) := by decide +kernel
theorem d_A_turned_65 : decode b_A_turned 65 = .ok (.invokevirtual 207, 3) := by decide +kernel
theorem d_A_turned_68 : decode b_A_turned 68 = .ok (.aload_n 0, 1) := by decide +kernel
theorem d_A_turned_69 : decode b_A_turned 69 = .ok (.getfield 49, 3) := by decide +kernel
theorem d_A_turned_72 : decode b_A_turned 72 = .ok (.iload_n 3, 1) := by decide +kernel
theorem d_A_turned_73 : decode b_A_turned 73 = .ok (.aload_n 0, 1) := by decide +kernel
theorem d_A_turned_74 : decode b_A_turned 74 = .ok (.getfield 10, 3) := by decide +kernel
theorem d_A_turned_77 : decode b_A_turned 77 = .ok (.invokevirtual 238, 3) := by decide +kernel
theorem d_A_turned_80 : decode b_A_turned 80 = .ok (.iload 4, 2) := by decide +kernel
theorem d_A_turned_82 : decode b_A_turned 82 = .ok (.ifCond .ne (16), 3) := by decide +kernel
theorem d_A_turned_85 : decode b_A_turned 85 = .ok (.aload_n 0, 1) := by decide +kernel
theorem d_A_turned_86 : decode b_A_turned 86 = .ok (.getfield 49, 3) := by decide +kernel
theorem d_A_turned_89 : decode b_A_turned 89 = .ok (.getfield 242, 3) := by decide +kernel
theorem d_A_turned_92 : decode b_A_turned 92 = .ok (.invokevirtual 245, 3) := by decide +kernel
theorem d_A_turned_95 : decode b_A_turned 95 = .ok (.goto (13), 3) := by decide +kernel
theorem d_A_turned_98 : decode b_A_turned 98 = .ok (.aload_n 0, 1) := by decide +kernel
theorem d_A_turned_99 : decode b_A_turned 99 = .ok (.getfield 49, 3) := by decide +kernel
theorem d_A_turned_102 : decode b_A_turned 102 = .ok (.getfield 248, 3) := by decide +kernel
theorem d_A_turned_105 : decode b_A_turned 105 = .ok (.invokevirtual 245, 3) := by decide +kernel
theorem d_A_turned_108 : decode b_A_turned 108 = .ok (.ireturn, 1) := by decide +kernel
def F_A_turned (a0 : Nat) (x1 : Int32) (x2 : Int32) (x3 : Int32) (x4 : Int32) (w : AW) : Option (Int32 × AW) :=
  gd (wk w a0 == 1) <|
  (F_A_sayingOf w a0 x1).bind fun r2 =>
  (F_A_diaryOf w a0 x2).bind fun r4 =>
  if r2 = 0 then
    some ((-101 : Int32), w)
  else
    if r4 = 0 then
      some ((-101 : Int32), w)
    else
      if (F_A_within x3 (1 : Int32) (3 : Int32)) = 0 then
        some ((-102 : Int32), w)
      else
        if (F_A_within x4 (0 : Int32) (1 : Int32)) = 0 then
          some ((-102 : Int32), w)
        else
          gd (wk w (wr w a0 6) == 9) <|
          (F_Rd_read (wr w a0 6) r2 r4 (wr w a0 0) (wr w a0 5) w).bind fun r7 =>
          gd (wk r7 a0 == 1) <|
          gd (wk r7 (wr r7 a0 6) == 9) <|
          (F_Rd_turn (wr r7 a0 6) x3 (wr r7 a0 0) r7).bind fun r11 =>
          if x4 = 0 then
            gd (wk r11 a0 == 1) <|
            gd (wk r11 (wr r11 a0 6) == 9) <|
            gd (wk r11 (wr r11 (wr r11 a0 6) 7) == 8) <|
            (F_Dy_size r11 (wr r11 (wr r11 a0 6) 7)).bind fun r21 =>
            some (r21, r11)
          else
            gd (wk r11 a0 == 1) <|
            gd (wk r11 (wr r11 a0 6) == 9) <|
            gd (wk r11 (wr r11 (wr r11 a0 6) 6) == 8) <|
            (F_Dy_size r11 (wr r11 (wr r11 a0 6) 6)).bind fun r16 =>
            some (r16, r11)
theorem P_A_turned_0 {X : AX} {l : Launch} {G : AG} (hX : XOK X b_A_turned "RedSky" 7) (hM : XM X l G { frames := 6, cells := 0, slots := 0, locals := 147 }) {o : Int32 × AW} (hR : XR X (some .int) 0 0 (some (vi o.1)) o.2) (a0 : Nat) (x1 : Int32) (x2 : Int32) (x3 : Int32) (x4 : Int32) (w : AW) (h : F_A_turned a0 x1 x2 x3 x4 w = some o) : RJ X 7 0 0 0 [(0, vr a0), (1, vi x1), (2, vi x2), (3, vi x3), (4, vi x4)] [] w := by
  unfold F_A_turned at h
  refine r_aload_n (i := 0) hX d_A_turned_0 0 rfl rfl ?_
  refine r_iload_n (i := 1) hX d_A_turned_1 1 rfl rfl ?_
  obtain ⟨hk1, h⟩ := gd_e h
  obtain ⟨r2, hr3, h⟩ := bd_e h
  refine r_callV1 (As := [_]) hX hM mw_A_200 (T_A_sayingOf _ _ _ hr3) (rc_of ci_0 hk1) rfl rfl ⟨Nat.le_refl _, Nat.le_refl _⟩ rfl rfl d_A_turned_2 ?_
  refine r_astore (i := 5) hX d_A_turned_5  (by decide) ?_
  refine r_aload_n (i := 0) hX d_A_turned_7 1 rfl rfl ?_
  refine r_iload_n (i := 2) hX d_A_turned_8 3 rfl rfl ?_
  obtain ⟨r4, hr5, h⟩ := bd_e h
  refine r_callV1 (As := [_]) hX hM mw_A_141 (T_A_diaryOf _ _ _ hr5) (rc_of ci_0 hk1) rfl rfl ⟨Nat.le_refl _, Nat.le_refl _⟩ rfl rfl d_A_turned_9 ?_
  refine r_astore (i := 6) hX d_A_turned_12  (by decide) ?_
  refine r_aload (i := 5) hX d_A_turned_14 1  rfl ?_
  refine r_ifnull hX d_A_turned_16 rfl h (fun h => ?_) (fun h => ?_)
  · refine r_bipush (v := (-101 : Int32)) hX d_A_turned_24 rfl ?_
    cases h; exact r_iret hX hR d_A_turned_26
  · refine r_aload (i := 6) hX d_A_turned_19 0  rfl ?_
    refine r_ifnonnull hX d_A_turned_21 rfl h (fun h => ?_) (fun h => ?_)
    · refine r_iload_n (i := 3) hX d_A_turned_27 5 rfl rfl ?_
      refine r_iconst (v := (1 : Int32)) hX d_A_turned_28 rfl ?_
      refine r_iconst (v := (3 : Int32)) hX d_A_turned_29 rfl ?_
      refine r_callS1 (As := [_, _, _]) hX hM mw_A_86 (T_A_within _ _ _ _) rfl rfl ⟨Nat.le_refl _, Nat.le_refl _⟩ rfl rfl d_A_turned_30 ?_
      refine r_if_eq hX d_A_turned_33 rfl h (fun h => ?_) (fun h => ?_)
      · refine r_bipush (v := (-102 : Int32)) hX d_A_turned_46 rfl ?_
        cases h; exact r_iret hX hR d_A_turned_48
      · refine r_iload (i := 4) hX d_A_turned_36 6  rfl ?_
        refine r_iconst (v := (0 : Int32)) hX d_A_turned_38 rfl ?_
        refine r_iconst (v := (1 : Int32)) hX d_A_turned_39 rfl ?_
        refine r_callS1 (As := [_, _, _]) hX hM mw_A_86 (T_A_within _ _ _ _) rfl rfl ⟨Nat.le_refl _, Nat.le_refl _⟩ rfl rfl d_A_turned_40 ?_
        refine r_if_ne hX d_A_turned_43 rfl h (fun h => ?_) (fun h => ?_)
        · refine r_aload_n (i := 0) hX d_A_turned_49 2 rfl rfl ?_
          refine r_getR (i := 0) (f := 6) hX ci_0 (by decide) rfl fl_A_49 hk1 d_A_turned_50 ?_
          refine r_aload (i := 5) hX d_A_turned_53 1  rfl ?_
          refine r_aload (i := 6) hX d_A_turned_55 0  rfl ?_
          refine r_aload_n (i := 0) hX d_A_turned_57 2 rfl rfl ?_
          refine r_getR (i := 0) (f := 0) hX ci_0 (by decide) rfl fl_A_10 hk1 d_A_turned_58 ?_
          refine r_aload_n (i := 0) hX d_A_turned_61 2 rfl rfl ?_
          refine r_getR (i := 0) (f := 5) hX ci_0 (by decide) rfl fl_A_42 hk1 d_A_turned_62 ?_
          obtain ⟨hk6, h⟩ := gd_e h
          obtain ⟨r7, hr8, h⟩ := bd_e h
          refine r_callV0 (As := [_, _, _, _]) hX hM mw_A_207 (T_Rd_read _ _ _ _ _ _ hr8) (rc_of ci_8 hk6) rfl rfl ⟨Nat.le_refl _, Nat.le_refl _⟩ rfl rfl d_A_turned_65 ?_
          refine r_aload_n (i := 0) hX d_A_turned_68 2 rfl rfl ?_
          obtain ⟨hk9, h⟩ := gd_e h
          refine r_getR (i := 0) (f := 6) hX ci_0 (by decide) rfl fl_A_49 hk9 d_A_turned_69 ?_
          refine r_iload_n (i := 3) hX d_A_turned_72 5 rfl rfl ?_
          refine r_aload_n (i := 0) hX d_A_turned_73 2 rfl rfl ?_
          refine r_getR (i := 0) (f := 0) hX ci_0 (by decide) rfl fl_A_10 hk9 d_A_turned_74 ?_
          obtain ⟨hk10, h⟩ := gd_e h
          obtain ⟨r11, hr12, h⟩ := bd_e h
          refine r_callV0 (As := [_, _]) hX hM mw_A_238 (T_Rd_turn _ _ _ _ hr12) (rc_of ci_8 hk10) rfl rfl ⟨Nat.le_refl _, Nat.le_refl _⟩ rfl rfl d_A_turned_77 ?_
          refine r_iload (i := 4) hX d_A_turned_80 6  rfl ?_
          refine r_if_ne hX d_A_turned_82 rfl h (fun h => ?_) (fun h => ?_)
          · refine r_aload_n (i := 0) hX d_A_turned_98 2 rfl rfl ?_
            obtain ⟨hk13, h⟩ := gd_e h
            refine r_getR (i := 0) (f := 6) hX ci_0 (by decide) rfl fl_A_49 hk13 d_A_turned_99 ?_
            obtain ⟨hk14, h⟩ := gd_e h
            refine r_getR (i := 8) (f := 6) hX ci_8 (by decide) rfl fl_A_248 hk14 d_A_turned_102 ?_
            obtain ⟨hk15, h⟩ := gd_e h
            obtain ⟨r16, hr17, h⟩ := bd_e h
            refine r_callV1 (As := []) hX hM mw_A_245 (T_Dy_size _ _ hr17) (rc_of ci_7 hk15) rfl rfl ⟨Nat.le_refl _, Nat.le_refl _⟩ rfl rfl d_A_turned_105 ?_
            cases h; exact r_iret hX hR d_A_turned_108
          · refine r_aload_n (i := 0) hX d_A_turned_85 2 rfl rfl ?_
            obtain ⟨hk18, h⟩ := gd_e h
            refine r_getR (i := 0) (f := 6) hX ci_0 (by decide) rfl fl_A_49 hk18 d_A_turned_86 ?_
            obtain ⟨hk19, h⟩ := gd_e h
            refine r_getR (i := 8) (f := 7) hX ci_8 (by decide) rfl fl_A_242 hk19 d_A_turned_89 ?_
            obtain ⟨hk20, h⟩ := gd_e h
            obtain ⟨r21, hr22, h⟩ := bd_e h
            refine r_callV1 (As := []) hX hM mw_A_245 (T_Dy_size _ _ hr22) (rc_of ci_7 hk20) rfl rfl ⟨Nat.le_refl _, Nat.le_refl _⟩ rfl rfl d_A_turned_92 ?_
            refine r_goto hX d_A_turned_95 rfl ?_
            cases h; exact r_iret hX hR d_A_turned_108
        · refine r_bipush (v := (-102 : Int32)) hX d_A_turned_46 rfl ?_
          cases h; exact r_iret hX hR d_A_turned_48
    · refine r_bipush (v := (-101 : Int32)) hX d_A_turned_24 rfl ?_
      cases h; exact r_iret hX hR d_A_turned_26
theorem T_A_turned {l : Launch} {G : AG} (a0 : Nat) (x1 : Int32) (x2 : Int32) (x3 : Int32) (x4 : Int32) (w : AW) {o : Int32 × AW} (h : F_A_turned a0 x1 x2 x3 x4 w = some o) : Mt l G y_A_turned b_A_turned 7 (some (.int)) 6 147 0 0 [vr a0, vi x1, vi x2, vi x3, vi x4] w (some (vi o.1)) o.2 := mt_of (by decide) (Nat.le_of_ble_eq_true rfl) (fun X hX hR hM hI => P_A_turned_0 hX hM hR _ _ _ _ _ _ h)
/-! RedSkyModel.turnedCount(IIII)I -/
theorem d_M_turnedCount_0 : decode b_M_turnedCount 0 = .ok (.iconst 0, 1) := by decide +kernel
theorem d_M_turnedCount_1 : decode b_M_turnedCount 1 = .ok (.istore 5, 2) := by decide +kernel
theorem d_M_turnedCount_3 : decode b_M_turnedCount 3 = .ok (.iconst 0, 1) := by decide +kernel
theorem d_M_turnedCount_4 : decode b_M_turnedCount 4 = .ok (.istore 6, 2) := by decide +kernel
theorem d_M_turnedCount_6 : decode b_M_turnedCount 6 = .ok (.iload 6, 2) := by decide +kernel
theorem d_M_turnedCount_8 : decode b_M_turnedCount 8 = .ok (.iconst 4, 1) := by decide +kernel
theorem d_M_turnedCount_9 : decode b_M_turnedCount 9 = .ok (.if_icmp .ge (141), 3) := by decide +kernel
theorem d_M_turnedCount_12 : decode b_M_turnedCount 12 = .ok (.iconst 1, 1) := by decide +kernel
theorem d_M_turnedCount_13 : decode b_M_turnedCount 13 = .ok (.istore 7, 2) := by decide +kernel
theorem d_M_turnedCount_15 : decode b_M_turnedCount 15 = .ok (.iload 7, 2) := by decide +kernel
theorem d_M_turnedCount_17 : decode b_M_turnedCount 17 = .ok (.bipush (12), 2) := by decide +kernel
theorem d_M_turnedCount_19 : decode b_M_turnedCount 19 = .ok (.if_icmp .gt (125), 3) := by decide +kernel
theorem d_M_turnedCount_22 : decode b_M_turnedCount 22 = .ok (.iconst 1, 1) := by decide +kernel
theorem d_M_turnedCount_23 : decode b_M_turnedCount 23 = .ok (.istore 8, 2) := by decide +kernel
theorem d_M_turnedCount_25 : decode b_M_turnedCount 25 = .ok (.iload 8, 2) := by decide +kernel
theorem d_M_turnedCount_27 : decode b_M_turnedCount 27 = .ok (.aload_n 0, 1) := by decide +kernel
theorem d_M_turnedCount_28 : decode b_M_turnedCount 28 = .ok (.iload 6, 2) := by decide +kernel
theorem d_M_turnedCount_30 : decode b_M_turnedCount 30 = .ok (.iload 7, 2) := by decide +kernel
theorem d_M_turnedCount_32 : decode b_M_turnedCount 32 = .ok (.invokevirtual 106, 3) := by decide +kernel
theorem d_M_turnedCount_35 : decode b_M_turnedCount 35 = .ok (.if_icmp .gt (103), 3) := by decide +kernel
theorem d_M_turnedCount_38 : decode b_M_turnedCount 38 = .ok (.aload_n 0, 1) := by decide +kernel
theorem d_M_turnedCount_39 : decode b_M_turnedCount 39 = .ok (.iload 6, 2) := by decide +kernel
theorem d_M_turnedCount_41 : decode b_M_turnedCount 41 = .ok (.iload 7, 2) := by decide +kernel
theorem d_M_turnedCount_43 : decode b_M_turnedCount 43 = .ok (.iload 8, 2) := by decide +kernel
theorem d_M_turnedCount_45 : decode b_M_turnedCount 45 = .ok (.invokevirtual 132, 3) := by decide +kernel
theorem d_M_turnedCount_48 : decode b_M_turnedCount 48 = .ok (.istore 9, 2) := by decide +kernel
theorem d_M_turnedCount_50 : decode b_M_turnedCount 50 = .ok (.aload_n 0, 1) := by decide +kernel
theorem d_M_turnedCount_51 : decode b_M_turnedCount 51 = .ok (.iload 6, 2) := by decide +kernel
theorem d_M_turnedCount_53 : decode b_M_turnedCount 53 = .ok (.iload_n 3, 1) := by decide +kernel
theorem d_M_turnedCount_54 : decode b_M_turnedCount 54 = .ok (.iadd, 1) := by decide +kernel
theorem d_M_turnedCount_55 : decode b_M_turnedCount 55 = .ok (.iconst 4, 1) := by decide +kernel
theorem d_M_turnedCount_56 : decode b_M_turnedCount 56 = .ok (.irem, 1) := by decide +kernel
theorem d_M_turnedCount_57 : decode b_M_turnedCount 57 = .ok (.iload 7, 2) := by decide +kernel
theorem d_M_turnedCount_59 : decode b_M_turnedCount 59 = .ok (.iload 8, 2) := by decide +kernel
theorem d_M_turnedCount_61 : decode b_M_turnedCount 61 = .ok (.invokevirtual 132, 3) := by decide +kernel
theorem d_M_turnedCount_64 : decode b_M_turnedCount 64 = .ok (.istore 10, 2) := by decide +kernel
theorem d_M_turnedCount_66 : decode b_M_turnedCount 66 = .ok (.iload 10, 2) := by decide +kernel
theorem d_M_turnedCount_68 : decode b_M_turnedCount 68 = .ok (.iconst (-1), 1) := by decide +kernel
theorem d_M_turnedCount_69 : decode b_M_turnedCount 69 = .ok (.if_icmp .eq (63), 3) := by decide +kernel
theorem d_M_turnedCount_72 : decode b_M_turnedCount 72 = .ok (.aload_n 0, 1) := by decide +kernel
theorem d_M_turnedCount_73 : decode b_M_turnedCount 73 = .ok (.iload_n 1, 1) := by decide +kernel
theorem d_M_turnedCount_74 : decode b_M_turnedCount 74 = .ok (.iload 9, 2) := by decide +kernel
theorem d_M_turnedCount_76 : decode b_M_turnedCount 76 = .ok (.invokevirtual 324, 3) := by decide +kernel
theorem d_M_turnedCount_79 : decode b_M_turnedCount 79 = .ok (.ifCond .eq (53), 3) := by decide +kernel
theorem d_M_turnedCount_82 : decode b_M_turnedCount 82 = .ok (.aload_n 0, 1) := by decide +kernel
theorem d_M_turnedCount_83 : decode b_M_turnedCount 83 = .ok (.iload_n 1, 1) := by decide +kernel
theorem d_M_turnedCount_84 : decode b_M_turnedCount 84 = .ok (.iload_n 2, 1) := by decide +kernel
theorem d_M_turnedCount_85 : decode b_M_turnedCount 85 = .ok (.iload 9, 2) := by decide +kernel
theorem d_M_turnedCount_87 : decode b_M_turnedCount 87 = .ok (.invokevirtual 318, 3) := by decide +kernel
theorem d_M_turnedCount_90 : decode b_M_turnedCount 90 = .ok (.iconst 1, 1) := by decide +kernel
theorem d_M_turnedCount_91 : decode b_M_turnedCount 91 = .ok (.if_icmp .ne (41), 3) := by decide +kernel
theorem d_M_turnedCount_94 : decode b_M_turnedCount 94 = .ok (.aload_n 0, 1) := by decide +kernel
theorem d_M_turnedCount_95 : decode b_M_turnedCount 95 = .ok (.iload_n 1, 1) := by decide +kernel
theorem d_M_turnedCount_96 : decode b_M_turnedCount 96 = .ok (.iload_n 2, 1) := by decide +kernel
theorem d_M_turnedCount_97 : decode b_M_turnedCount 97 = .ok (.iload 10, 2) := by decide +kernel
theorem d_M_turnedCount_99 : decode b_M_turnedCount 99 = .ok (.invokevirtual 321, 3) := by decide +kernel
theorem d_M_turnedCount_102 : decode b_M_turnedCount 102 = .ok (.istore 11, 2) := by decide +kernel
theorem d_M_turnedCount_104 : decode b_M_turnedCount 104 = .ok (.iload 5, 2) := by decide +kernel
theorem d_M_turnedCount_106 : decode b_M_turnedCount 106 = .ok (.iload 11, 2) := by decide +kernel
theorem d_M_turnedCount_108 : decode b_M_turnedCount 108 = .ok (.iconst (-1), 1) := by decide +kernel
theorem d_M_turnedCount_109 : decode b_M_turnedCount 109 = .ok (.if_icmp .eq (19), 3) := by decide +kernel
theorem d_M_turnedCount_112 : decode b_M_turnedCount 112 = .ok (.iload 4, 2) := by decide +kernel
theorem d_M_turnedCount_114 : decode b_M_turnedCount 114 = .ok (.iconst 1, 1) := by decide +kernel
theorem d_M_turnedCount_115 : decode b_M_turnedCount 115 = .ok (.if_icmp .eq (9), 3) := by decide +kernel
theorem d_M_turnedCount_118 : decode b_M_turnedCount 118 = .ok (.iload 11, 2) := by decide +kernel
theorem d_M_turnedCount_120 : decode b_M_turnedCount 120 = .ok (.iconst 1, 1) := by decide +kernel
theorem d_M_turnedCount_121 : decode b_M_turnedCount 121 = .ok (.if_icmp .ne (7), 3) := by decide +kernel
theorem d_M_turnedCount_124 : decode b_M_turnedCount 124 = .ok (.iconst 1, 1) := by decide +kernel
theorem d_M_turnedCount_125 : decode b_M_turnedCount 125 = .ok (.goto (4), 3) := by decide +kernel
theorem d_M_turnedCount_128 : decode b_M_turnedCount 128 = .ok (.iconst 0, 1) := by decide +kernel
theorem d_M_turnedCount_129 : decode b_M_turnedCount 129 = .ok (.iadd, 1) := by decide +kernel
theorem d_M_turnedCount_130 : decode b_M_turnedCount 130 = .ok (.istore 5, 2) := by decide +kernel
theorem d_M_turnedCount_132 : decode b_M_turnedCount 132 = .ok (.iinc 8 (1), 3) := by decide +kernel
theorem d_M_turnedCount_135 : decode b_M_turnedCount 135 = .ok (.goto (-110), 3) := by decide +kernel
theorem d_M_turnedCount_138 : decode b_M_turnedCount 138 = .ok (.iinc 7 (1), 3) := by decide +kernel
theorem d_M_turnedCount_141 : decode b_M_turnedCount 141 = .ok (.goto (-126), 3) := by decide +kernel
theorem d_M_turnedCount_144 : decode b_M_turnedCount 144 = .ok (.iinc 6 (1), 3) := by decide +kernel
theorem d_M_turnedCount_147 : decode b_M_turnedCount 147 = .ok (.goto (-141), 3) := by decide +kernel
theorem d_M_turnedCount_150 : decode b_M_turnedCount 150 = .ok (.iload 5, 2) := by decide +kernel
theorem d_M_turnedCount_152 : decode b_M_turnedCount 152 = .ok (.ireturn, 1) := by decide +kernel
def F_M_turnedCount_128 (rec6 : Nat → Int32 → Int32 → Int32 → Int32 → Int32 → Int32 → AW → Option (Int32 × AW)) (rec15 : Nat → Int32 → Int32 → Int32 → Int32 → Int32 → Int32 → Int32 → AW → Option (Int32 × AW)) (rec25 : Nat → Int32 → Int32 → Int32 → Int32 → Int32 → Int32 → Int32 → Int32 → AW → Option (Int32 × AW)) (a0 : Nat) (x1 : Int32) (x2 : Int32) (x3 : Int32) (x4 : Int32) (x6 : Int32) (x7 : Int32) (x8 : Int32) (s0 : Int32) (w : AW) : Option (Int32 × AW) :=
  let v1 : Int32 := (s0 + (0 : Int32))
  let v2 : Int32 := (x8 + (1 : Int32))
  rec25 a0 x1 x2 x3 x4 v1 x6 x7 v2 w
theorem P_M_turnedCount_128 {X : AX} {l : Launch} {G : AG} {rec6 : Nat → Int32 → Int32 → Int32 → Int32 → Int32 → Int32 → AW → Option (Int32 × AW)} {rec15 : Nat → Int32 → Int32 → Int32 → Int32 → Int32 → Int32 → Int32 → AW → Option (Int32 × AW)} {rec25 : Nat → Int32 → Int32 → Int32 → Int32 → Int32 → Int32 → Int32 → Int32 → AW → Option (Int32 × AW)} (hX : XOK X b_M_turnedCount "RedSkyModel" 12) (hM : XM X l G { frames := 6, cells := 0, slots := 0, locals := 140 }) {o : Int32 × AW} (hR : XR X (some .int) 0 0 (some (vi o.1)) o.2) (hrec6 : ∀ (a0 : Nat) (x1 : Int32) (x2 : Int32) (x3 : Int32) (x4 : Int32) (x5 : Int32) (x6 : Int32) (w : AW), rec6 a0 x1 x2 x3 x4 x5 x6 w = some o → RJ X 12 0 0 6 [(0, vr a0), (1, vi x1), (2, vi x2), (3, vi x3), (4, vi x4), (5, vi x5), (6, vi x6)] [] w) (hrec15 : ∀ (a0 : Nat) (x1 : Int32) (x2 : Int32) (x3 : Int32) (x4 : Int32) (x5 : Int32) (x6 : Int32) (x7 : Int32) (w : AW), rec15 a0 x1 x2 x3 x4 x5 x6 x7 w = some o → RJ X 12 0 0 15 [(0, vr a0), (1, vi x1), (2, vi x2), (3, vi x3), (4, vi x4), (5, vi x5), (6, vi x6), (7, vi x7)] [] w) (hrec25 : ∀ (a0 : Nat) (x1 : Int32) (x2 : Int32) (x3 : Int32) (x4 : Int32) (x5 : Int32) (x6 : Int32) (x7 : Int32) (x8 : Int32) (w : AW), rec25 a0 x1 x2 x3 x4 x5 x6 x7 x8 w = some o → RJ X 12 0 0 25 [(0, vr a0), (1, vi x1), (2, vi x2), (3, vi x3), (4, vi x4), (5, vi x5), (6, vi x6), (7, vi x7), (8, vi x8)] [] w) (a0 : Nat) (x1 : Int32) (x2 : Int32) (x3 : Int32) (x4 : Int32) (x6 : Int32) (x7 : Int32) (x8 : Int32) (s0 : Int32) (w : AW) (h : F_M_turnedCount_128 rec6 rec15 rec25 a0 x1 x2 x3 x4 x6 x7 x8 s0 w = some o) : RJ X 12 0 0 128 [(0, vr a0), (1, vi x1), (2, vi x2), (3, vi x3), (4, vi x4), (6, vi x6), (7, vi x7), (8, vi x8)] [vi s0] w := by
  unfold F_M_turnedCount_128 at h
  refine r_iconst (v := (0 : Int32)) hX d_M_turnedCount_128 rfl ?_
  refine r_iadd hX d_M_turnedCount_129 ?_
  refine r_istore (i := 5) hX d_M_turnedCount_130  (by decide) ?_
  refine r_iinc (i := 8) (v := (1 : Int32)) hX d_M_turnedCount_132 8 rfl rfl (by decide) ?_
  refine r_goto hX d_M_turnedCount_135 rfl ?_
  exact rj_sub [2, 3, 4, 5, 6, 1, 7, 8, 0] rfl (hrec25 _ _ _ _ _ _ _ _ _ _ h)
def F_M_turnedCount_124 (rec6 : Nat → Int32 → Int32 → Int32 → Int32 → Int32 → Int32 → AW → Option (Int32 × AW)) (rec15 : Nat → Int32 → Int32 → Int32 → Int32 → Int32 → Int32 → Int32 → AW → Option (Int32 × AW)) (rec25 : Nat → Int32 → Int32 → Int32 → Int32 → Int32 → Int32 → Int32 → Int32 → AW → Option (Int32 × AW)) (a0 : Nat) (x1 : Int32) (x2 : Int32) (x3 : Int32) (x4 : Int32) (x6 : Int32) (x7 : Int32) (x8 : Int32) (s0 : Int32) (w : AW) : Option (Int32 × AW) :=
  let v1 : Int32 := (s0 + (1 : Int32))
  let v2 : Int32 := (x8 + (1 : Int32))
  rec25 a0 x1 x2 x3 x4 v1 x6 x7 v2 w
theorem P_M_turnedCount_124 {X : AX} {l : Launch} {G : AG} {rec6 : Nat → Int32 → Int32 → Int32 → Int32 → Int32 → Int32 → AW → Option (Int32 × AW)} {rec15 : Nat → Int32 → Int32 → Int32 → Int32 → Int32 → Int32 → Int32 → AW → Option (Int32 × AW)} {rec25 : Nat → Int32 → Int32 → Int32 → Int32 → Int32 → Int32 → Int32 → Int32 → AW → Option (Int32 × AW)} (hX : XOK X b_M_turnedCount "RedSkyModel" 12) (hM : XM X l G { frames := 6, cells := 0, slots := 0, locals := 140 }) {o : Int32 × AW} (hR : XR X (some .int) 0 0 (some (vi o.1)) o.2) (hrec6 : ∀ (a0 : Nat) (x1 : Int32) (x2 : Int32) (x3 : Int32) (x4 : Int32) (x5 : Int32) (x6 : Int32) (w : AW), rec6 a0 x1 x2 x3 x4 x5 x6 w = some o → RJ X 12 0 0 6 [(0, vr a0), (1, vi x1), (2, vi x2), (3, vi x3), (4, vi x4), (5, vi x5), (6, vi x6)] [] w) (hrec15 : ∀ (a0 : Nat) (x1 : Int32) (x2 : Int32) (x3 : Int32) (x4 : Int32) (x5 : Int32) (x6 : Int32) (x7 : Int32) (w : AW), rec15 a0 x1 x2 x3 x4 x5 x6 x7 w = some o → RJ X 12 0 0 15 [(0, vr a0), (1, vi x1), (2, vi x2), (3, vi x3), (4, vi x4), (5, vi x5), (6, vi x6), (7, vi x7)] [] w) (hrec25 : ∀ (a0 : Nat) (x1 : Int32) (x2 : Int32) (x3 : Int32) (x4 : Int32) (x5 : Int32) (x6 : Int32) (x7 : Int32) (x8 : Int32) (w : AW), rec25 a0 x1 x2 x3 x4 x5 x6 x7 x8 w = some o → RJ X 12 0 0 25 [(0, vr a0), (1, vi x1), (2, vi x2), (3, vi x3), (4, vi x4), (5, vi x5), (6, vi x6), (7, vi x7), (8, vi x8)] [] w) (a0 : Nat) (x1 : Int32) (x2 : Int32) (x3 : Int32) (x4 : Int32) (x6 : Int32) (x7 : Int32) (x8 : Int32) (s0 : Int32) (w : AW) (h : F_M_turnedCount_124 rec6 rec15 rec25 a0 x1 x2 x3 x4 x6 x7 x8 s0 w = some o) : RJ X 12 0 0 124 [(0, vr a0), (1, vi x1), (2, vi x2), (3, vi x3), (4, vi x4), (6, vi x6), (7, vi x7), (8, vi x8)] [vi s0] w := by
  unfold F_M_turnedCount_124 at h
  refine r_iconst (v := (1 : Int32)) hX d_M_turnedCount_124 rfl ?_
  refine r_goto hX d_M_turnedCount_125 rfl ?_
  refine r_iadd hX d_M_turnedCount_129 ?_
  refine r_istore (i := 5) hX d_M_turnedCount_130  (by decide) ?_
  refine r_iinc (i := 8) (v := (1 : Int32)) hX d_M_turnedCount_132 8 rfl rfl (by decide) ?_
  refine r_goto hX d_M_turnedCount_135 rfl ?_
  exact rj_sub [2, 3, 4, 5, 6, 1, 7, 8, 0] rfl (hrec25 _ _ _ _ _ _ _ _ _ _ h)
def F_M_turnedCount_25_B (rec6 : Nat → Int32 → Int32 → Int32 → Int32 → Int32 → Int32 → AW → Option (Int32 × AW)) (rec15 : Nat → Int32 → Int32 → Int32 → Int32 → Int32 → Int32 → Int32 → AW → Option (Int32 × AW)) (rec25 : Nat → Int32 → Int32 → Int32 → Int32 → Int32 → Int32 → Int32 → Int32 → AW → Option (Int32 × AW)) (a0 : Nat) (x1 : Int32) (x2 : Int32) (x3 : Int32) (x4 : Int32) (x5 : Int32) (x6 : Int32) (x7 : Int32) (x8 : Int32) (w : AW) : Option (Int32 × AW) :=
  gd (wk w a0 == 13) <|
  (F_M_length w a0 x6 x7).bind fun r2 =>
  if r2 < x8 then
    let v4 : Int32 := (x7 + (1 : Int32))
    rec15 a0 x1 x2 x3 x4 x5 x6 v4 w
  else
    (F_M_dayOf w a0 x6 x7 x8).bind fun r5 =>
    (F_M_dayOf w a0 (irem (x6 + x3) (4 : Int32)) x7 x8).bind fun r7 =>
    if r7 = (-1 : Int32) then
      let v9 : Int32 := (x8 + (1 : Int32))
      rec25 a0 x1 x2 x3 x4 x5 x6 x7 v9 w
    else
      (F_M_isInSeason w a0 x1 r5).bind fun r10 =>
      if r10 = 0 then
        let v12 : Int32 := (x8 + (1 : Int32))
        rec25 a0 x1 x2 x3 x4 x5 x6 x7 v12 w
      else
        (F_M_firstOf a0 x1 x2 r5 w).bind fun r13 =>
        if r13.1 = (1 : Int32) then
          gd (wk r13.2 a0 == 13) <|
          (F_M_secondOf a0 x1 x2 r7 r13.2).bind fun r17 =>
          let v19 : Int32 := r17.1
          if v19 = (-1 : Int32) then
            F_M_turnedCount_128 rec6 rec15 rec25 a0 x1 x2 x3 x4 x6 x7 x8 x5 r17.2
          else
            if x4 = (1 : Int32) then
              F_M_turnedCount_124 rec6 rec15 rec25 a0 x1 x2 x3 x4 x6 x7 x8 x5 r17.2
            else
              if v19 = (1 : Int32) then
                F_M_turnedCount_124 rec6 rec15 rec25 a0 x1 x2 x3 x4 x6 x7 x8 x5 r17.2
              else
                F_M_turnedCount_128 rec6 rec15 rec25 a0 x1 x2 x3 x4 x6 x7 x8 x5 r17.2
        else
          let v15 : Int32 := (x8 + (1 : Int32))
          rec25 a0 x1 x2 x3 x4 x5 x6 x7 v15 r13.2
theorem P_M_turnedCount_25_B {X : AX} {l : Launch} {G : AG} {rec6 : Nat → Int32 → Int32 → Int32 → Int32 → Int32 → Int32 → AW → Option (Int32 × AW)} {rec15 : Nat → Int32 → Int32 → Int32 → Int32 → Int32 → Int32 → Int32 → AW → Option (Int32 × AW)} {rec25 : Nat → Int32 → Int32 → Int32 → Int32 → Int32 → Int32 → Int32 → Int32 → AW → Option (Int32 × AW)} (hX : XOK X b_M_turnedCount "RedSkyModel" 12) (hM : XM X l G { frames := 6, cells := 0, slots := 0, locals := 140 }) {o : Int32 × AW} (hR : XR X (some .int) 0 0 (some (vi o.1)) o.2) (hrec6 : ∀ (a0 : Nat) (x1 : Int32) (x2 : Int32) (x3 : Int32) (x4 : Int32) (x5 : Int32) (x6 : Int32) (w : AW), rec6 a0 x1 x2 x3 x4 x5 x6 w = some o → RJ X 12 0 0 6 [(0, vr a0), (1, vi x1), (2, vi x2), (3, vi x3), (4, vi x4), (5, vi x5), (6, vi x6)] [] w) (hrec15 : ∀ (a0 : Nat) (x1 : Int32) (x2 : Int32) (x3 : Int32) (x4 : Int32) (x5 : Int32) (x6 : Int32) (x7 : Int32) (w : AW), rec15 a0 x1 x2 x3 x4 x5 x6 x7 w = some o → RJ X 12 0 0 15 [(0, vr a0), (1, vi x1), (2, vi x2), (3, vi x3), (4, vi x4), (5, vi x5), (6, vi x6), (7, vi x7)] [] w) (hrec25 : ∀ (a0 : Nat) (x1 : Int32) (x2 : Int32) (x3 : Int32) (x4 : Int32) (x5 : Int32) (x6 : Int32) (x7 : Int32) (x8 : Int32) (w : AW), rec25 a0 x1 x2 x3 x4 x5 x6 x7 x8 w = some o → RJ X 12 0 0 25 [(0, vr a0), (1, vi x1), (2, vi x2), (3, vi x3), (4, vi x4), (5, vi x5), (6, vi x6), (7, vi x7), (8, vi x8)] [] w) (a0 : Nat) (x1 : Int32) (x2 : Int32) (x3 : Int32) (x4 : Int32) (x5 : Int32) (x6 : Int32) (x7 : Int32) (x8 : Int32) (w : AW) (h : F_M_turnedCount_25_B rec6 rec15 rec25 a0 x1 x2 x3 x4 x5 x6 x7 x8 w = some o) : RJ X 12 0 0 25 [(0, vr a0), (1, vi x1), (2, vi x2), (3, vi x3), (4, vi x4), (5, vi x5), (6, vi x6), (7, vi x7), (8, vi x8)] [] w := by
  unfold F_M_turnedCount_25_B at h
  refine r_iload (i := 8) hX d_M_turnedCount_25 8  rfl ?_
  refine r_aload_n (i := 0) hX d_M_turnedCount_27 0 rfl rfl ?_
  refine r_iload (i := 6) hX d_M_turnedCount_28 6  rfl ?_
  refine r_iload (i := 7) hX d_M_turnedCount_30 7  rfl ?_
  obtain ⟨hk1, h⟩ := gd_e h
  obtain ⟨r2, hr3, h⟩ := bd_e h
  refine r_callV1 (As := [_, _]) hX hM mw_M_106 (T_M_length _ _ _ _ hr3) (rc_of ci_12 hk1) rfl rfl ⟨Nat.le_refl _, Nat.le_refl _⟩ rfl rfl d_M_turnedCount_32 ?_
  refine r_icmp_gt hX d_M_turnedCount_35 rfl h (fun h => ?_) (fun h => ?_)
  · refine r_iinc (i := 7) (v := (1 : Int32)) hX d_M_turnedCount_138 7 rfl rfl (by decide) ?_
    refine r_goto hX d_M_turnedCount_141 rfl ?_
    exact rj_sub [1, 2, 3, 4, 5, 6, 7, 0] rfl (hrec15 _ _ _ _ _ _ _ _ _ h)
  · refine r_aload_n (i := 0) hX d_M_turnedCount_38 0 rfl rfl ?_
    refine r_iload (i := 6) hX d_M_turnedCount_39 6  rfl ?_
    refine r_iload (i := 7) hX d_M_turnedCount_41 7  rfl ?_
    refine r_iload (i := 8) hX d_M_turnedCount_43 8  rfl ?_
    obtain ⟨r5, hr6, h⟩ := bd_e h
    refine r_callV1 (As := [_, _, _]) hX hM mw_M_132 (T_M_dayOf _ _ _ _ _ hr6) (rc_of ci_12 hk1) rfl rfl ⟨Nat.le_refl _, Nat.le_refl _⟩ rfl rfl d_M_turnedCount_45 ?_
    refine r_istore (i := 9) hX d_M_turnedCount_48  (by decide) ?_
    refine r_aload_n (i := 0) hX d_M_turnedCount_50 1 rfl rfl ?_
    refine r_iload (i := 6) hX d_M_turnedCount_51 7  rfl ?_
    refine r_iload_n (i := 3) hX d_M_turnedCount_53 4 rfl rfl ?_
    refine r_iadd hX d_M_turnedCount_54 ?_
    refine r_iconst (v := (4 : Int32)) hX d_M_turnedCount_55 rfl ?_
    refine r_irem hX d_M_turnedCount_56 (by decide) ?_
    refine r_iload (i := 7) hX d_M_turnedCount_57 8  rfl ?_
    refine r_iload (i := 8) hX d_M_turnedCount_59 9  rfl ?_
    obtain ⟨r7, hr8, h⟩ := bd_e h
    refine r_callV1 (As := [_, _, _]) hX hM mw_M_132 (T_M_dayOf _ _ _ _ _ hr8) (rc_of ci_12 hk1) rfl rfl ⟨Nat.le_refl _, Nat.le_refl _⟩ rfl rfl d_M_turnedCount_61 ?_
    refine r_istore (i := 10) hX d_M_turnedCount_64  (by decide) ?_
    refine r_iload (i := 10) hX d_M_turnedCount_66 0  rfl ?_
    refine r_iconst (v := (-1 : Int32)) hX d_M_turnedCount_68 rfl ?_
    refine r_icmp_eq hX d_M_turnedCount_69 rfl h (fun h => ?_) (fun h => ?_)
    · refine r_iinc (i := 8) (v := (1 : Int32)) hX d_M_turnedCount_132 10 rfl rfl (by decide) ?_
      refine r_goto hX d_M_turnedCount_135 rfl ?_
      exact rj_sub [3, 4, 5, 6, 7, 8, 9, 10, 0] rfl (hrec25 _ _ _ _ _ _ _ _ _ _ h)
    · refine r_aload_n (i := 0) hX d_M_turnedCount_72 2 rfl rfl ?_
      refine r_iload_n (i := 1) hX d_M_turnedCount_73 3 rfl rfl ?_
      refine r_iload (i := 9) hX d_M_turnedCount_74 1  rfl ?_
      obtain ⟨r10, hr11, h⟩ := bd_e h
      refine r_callV1 (As := [_, _]) hX hM mw_M_324 (T_M_isInSeason _ _ _ _ hr11) (rc_of ci_12 hk1) rfl rfl ⟨Nat.le_refl _, Nat.le_refl _⟩ rfl rfl d_M_turnedCount_76 ?_
      refine r_if_eq hX d_M_turnedCount_79 rfl h (fun h => ?_) (fun h => ?_)
      · refine r_iinc (i := 8) (v := (1 : Int32)) hX d_M_turnedCount_132 10 rfl rfl (by decide) ?_
        refine r_goto hX d_M_turnedCount_135 rfl ?_
        exact rj_sub [3, 4, 5, 6, 7, 8, 9, 10, 0] rfl (hrec25 _ _ _ _ _ _ _ _ _ _ h)
      · refine r_aload_n (i := 0) hX d_M_turnedCount_82 2 rfl rfl ?_
        refine r_iload_n (i := 1) hX d_M_turnedCount_83 3 rfl rfl ?_
        refine r_iload_n (i := 2) hX d_M_turnedCount_84 4 rfl rfl ?_
        refine r_iload (i := 9) hX d_M_turnedCount_85 1  rfl ?_
        obtain ⟨r13, hr14, h⟩ := bd_e h
        refine r_callV1 (As := [_, _, _]) hX hM mw_M_318 (T_M_firstOf _ _ _ _ _ hr14) (rc_of ci_12 hk1) rfl rfl ⟨Nat.le_refl _, Nat.le_refl _⟩ rfl rfl d_M_turnedCount_87 ?_
        refine r_iconst (v := (1 : Int32)) hX d_M_turnedCount_90 rfl ?_
        refine r_icmp_ne hX d_M_turnedCount_91 rfl h (fun h => ?_) (fun h => ?_)
        · refine r_iinc (i := 8) (v := (1 : Int32)) hX d_M_turnedCount_132 10 rfl rfl (by decide) ?_
          refine r_goto hX d_M_turnedCount_135 rfl ?_
          exact rj_sub [3, 4, 5, 6, 7, 8, 9, 10, 0] rfl (hrec25 _ _ _ _ _ _ _ _ _ _ h)
        · refine r_aload_n (i := 0) hX d_M_turnedCount_94 2 rfl rfl ?_
          refine r_iload_n (i := 1) hX d_M_turnedCount_95 3 rfl rfl ?_
          refine r_iload_n (i := 2) hX d_M_turnedCount_96 4 rfl rfl ?_
          refine r_iload (i := 10) hX d_M_turnedCount_97 0  rfl ?_
          obtain ⟨hk16, h⟩ := gd_e h
          obtain ⟨r17, hr18, h⟩ := bd_e h
          refine r_callV1 (As := [_, _, _]) hX hM mw_M_321 (T_M_secondOf _ _ _ _ _ hr18) (rc_of ci_12 hk16) rfl rfl ⟨Nat.le_refl _, Nat.le_refl _⟩ rfl rfl d_M_turnedCount_99 ?_
          refine r_istore (i := 11) hX d_M_turnedCount_102  (by decide) ?_
          refine r_iload (i := 5) hX d_M_turnedCount_104 8  rfl ?_
          refine r_iload (i := 11) hX d_M_turnedCount_106 0  rfl ?_
          refine r_iconst (v := (-1 : Int32)) hX d_M_turnedCount_108 rfl ?_
          refine r_icmp_eq hX d_M_turnedCount_109 rfl h (fun h => ?_) (fun h => ?_)
          · exact rj_sub [3, 4, 5, 6, 7, 9, 10, 11] rfl (P_M_turnedCount_128 hX hM hR hrec6 hrec15 hrec25 _ _ _ _ _ _ _ _ _ _ h)
          · refine r_iload (i := 4) hX d_M_turnedCount_112 7  rfl ?_
            refine r_iconst (v := (1 : Int32)) hX d_M_turnedCount_114 rfl ?_
            refine r_icmp_eq hX d_M_turnedCount_115 rfl h (fun h => ?_) (fun h => ?_)
            · exact rj_sub [3, 4, 5, 6, 7, 9, 10, 11] rfl (P_M_turnedCount_124 hX hM hR hrec6 hrec15 hrec25 _ _ _ _ _ _ _ _ _ _ h)
            · refine r_iload (i := 11) hX d_M_turnedCount_118 0  rfl ?_
              refine r_iconst (v := (1 : Int32)) hX d_M_turnedCount_120 rfl ?_
              refine r_icmp_ne hX d_M_turnedCount_121 rfl h (fun h => ?_) (fun h => ?_)
              · exact rj_sub [3, 4, 5, 6, 7, 9, 10, 11] rfl (P_M_turnedCount_128 hX hM hR hrec6 hrec15 hrec25 _ _ _ _ _ _ _ _ _ _ h)
              · exact rj_sub [3, 4, 5, 6, 7, 9, 10, 11] rfl (P_M_turnedCount_124 hX hM hR hrec6 hrec15 hrec25 _ _ _ _ _ _ _ _ _ _ h)
def F_M_turnedCount_25 (rec6 : Nat → Int32 → Int32 → Int32 → Int32 → Int32 → Int32 → AW → Option (Int32 × AW)) (rec15 : Nat → Int32 → Int32 → Int32 → Int32 → Int32 → Int32 → Int32 → AW → Option (Int32 × AW)) : Nat → Nat → Int32 → Int32 → Int32 → Int32 → Int32 → Int32 → Int32 → Int32 → AW → Option (Int32 × AW)
  | 0 => fun _ _ _ _ _ _ _ _ _ _ => none
  | n + 1 => fun a0 x1 x2 x3 x4 x5 x6 x7 x8 w => F_M_turnedCount_25_B rec6 rec15 (F_M_turnedCount_25 rec6 rec15 n) a0 x1 x2 x3 x4 x5 x6 x7 x8 w
theorem P_M_turnedCount_25 {X : AX} {l : Launch} {G : AG} {rec6 : Nat → Int32 → Int32 → Int32 → Int32 → Int32 → Int32 → AW → Option (Int32 × AW)} {rec15 : Nat → Int32 → Int32 → Int32 → Int32 → Int32 → Int32 → Int32 → AW → Option (Int32 × AW)} (hX : XOK X b_M_turnedCount "RedSkyModel" 12) (hM : XM X l G { frames := 6, cells := 0, slots := 0, locals := 140 }) {o : Int32 × AW} (hR : XR X (some .int) 0 0 (some (vi o.1)) o.2) (hrec6 : ∀ (a0 : Nat) (x1 : Int32) (x2 : Int32) (x3 : Int32) (x4 : Int32) (x5 : Int32) (x6 : Int32) (w : AW), rec6 a0 x1 x2 x3 x4 x5 x6 w = some o → RJ X 12 0 0 6 [(0, vr a0), (1, vi x1), (2, vi x2), (3, vi x3), (4, vi x4), (5, vi x5), (6, vi x6)] [] w) (hrec15 : ∀ (a0 : Nat) (x1 : Int32) (x2 : Int32) (x3 : Int32) (x4 : Int32) (x5 : Int32) (x6 : Int32) (x7 : Int32) (w : AW), rec15 a0 x1 x2 x3 x4 x5 x6 x7 w = some o → RJ X 12 0 0 15 [(0, vr a0), (1, vi x1), (2, vi x2), (3, vi x3), (4, vi x4), (5, vi x5), (6, vi x6), (7, vi x7)] [] w) (fu : Nat) : ∀ (a0 : Nat) (x1 : Int32) (x2 : Int32) (x3 : Int32) (x4 : Int32) (x5 : Int32) (x6 : Int32) (x7 : Int32) (x8 : Int32) (w : AW), F_M_turnedCount_25 rec6 rec15 fu a0 x1 x2 x3 x4 x5 x6 x7 x8 w = some o → RJ X 12 0 0 25 [(0, vr a0), (1, vi x1), (2, vi x2), (3, vi x3), (4, vi x4), (5, vi x5), (6, vi x6), (7, vi x7), (8, vi x8)] [] w := by
  induction fu with
  | zero => intro a0 x1 x2 x3 x4 x5 x6 x7 x8 w h; cases h
  | succ n9 ih => intro a0 x1 x2 x3 x4 x5 x6 x7 x8 w h; exact P_M_turnedCount_25_B hX hM hR hrec6 hrec15 ih _ _ _ _ _ _ _ _ _ _ h
def F_M_turnedCount_15_B (rec6 : Nat → Int32 → Int32 → Int32 → Int32 → Int32 → Int32 → AW → Option (Int32 × AW)) (rec15 : Nat → Int32 → Int32 → Int32 → Int32 → Int32 → Int32 → Int32 → AW → Option (Int32 × AW)) (a0 : Nat) (x1 : Int32) (x2 : Int32) (x3 : Int32) (x4 : Int32) (x5 : Int32) (x6 : Int32) (x7 : Int32) (w : AW) : Option (Int32 × AW) :=
  if (12 : Int32) < x7 then
    let v1 : Int32 := (x6 + (1 : Int32))
    rec6 a0 x1 x2 x3 x4 x5 v1 w
  else
    F_M_turnedCount_25 rec6 rec15 FUEL a0 x1 x2 x3 x4 x5 x6 x7 (1 : Int32) w
theorem P_M_turnedCount_15_B {X : AX} {l : Launch} {G : AG} {rec6 : Nat → Int32 → Int32 → Int32 → Int32 → Int32 → Int32 → AW → Option (Int32 × AW)} {rec15 : Nat → Int32 → Int32 → Int32 → Int32 → Int32 → Int32 → Int32 → AW → Option (Int32 × AW)} (hX : XOK X b_M_turnedCount "RedSkyModel" 12) (hM : XM X l G { frames := 6, cells := 0, slots := 0, locals := 140 }) {o : Int32 × AW} (hR : XR X (some .int) 0 0 (some (vi o.1)) o.2) (hrec6 : ∀ (a0 : Nat) (x1 : Int32) (x2 : Int32) (x3 : Int32) (x4 : Int32) (x5 : Int32) (x6 : Int32) (w : AW), rec6 a0 x1 x2 x3 x4 x5 x6 w = some o → RJ X 12 0 0 6 [(0, vr a0), (1, vi x1), (2, vi x2), (3, vi x3), (4, vi x4), (5, vi x5), (6, vi x6)] [] w) (hrec15 : ∀ (a0 : Nat) (x1 : Int32) (x2 : Int32) (x3 : Int32) (x4 : Int32) (x5 : Int32) (x6 : Int32) (x7 : Int32) (w : AW), rec15 a0 x1 x2 x3 x4 x5 x6 x7 w = some o → RJ X 12 0 0 15 [(0, vr a0), (1, vi x1), (2, vi x2), (3, vi x3), (4, vi x4), (5, vi x5), (6, vi x6), (7, vi x7)] [] w) (a0 : Nat) (x1 : Int32) (x2 : Int32) (x3 : Int32) (x4 : Int32) (x5 : Int32) (x6 : Int32) (x7 : Int32) (w : AW) (h : F_M_turnedCount_15_B rec6 rec15 a0 x1 x2 x3 x4 x5 x6 x7 w = some o) : RJ X 12 0 0 15 [(0, vr a0), (1, vi x1), (2, vi x2), (3, vi x3), (4, vi x4), (5, vi x5), (6, vi x6), (7, vi x7)] [] w := by
  unfold F_M_turnedCount_15_B at h
  refine r_iload (i := 7) hX d_M_turnedCount_15 7  rfl ?_
  refine r_bipush (v := (12 : Int32)) hX d_M_turnedCount_17 rfl ?_
  refine r_icmp_gt hX d_M_turnedCount_19 rfl h (fun h => ?_) (fun h => ?_)
  · refine r_iinc (i := 6) (v := (1 : Int32)) hX d_M_turnedCount_144 6 rfl rfl (by decide) ?_
    refine r_goto hX d_M_turnedCount_147 rfl ?_
    exact rj_sub [1, 2, 3, 4, 5, 6, 0] rfl (hrec6 _ _ _ _ _ _ _ _ h)
  · refine r_iconst (v := (1 : Int32)) hX d_M_turnedCount_22 rfl ?_
    refine r_istore (i := 8) hX d_M_turnedCount_23  (by decide) ?_
    exact rj_sub [1, 2, 3, 4, 5, 6, 7, 8, 0] rfl (P_M_turnedCount_25 hX hM hR hrec6 hrec15 FUEL _ _ _ _ _ _ _ _ _ _ h)
def F_M_turnedCount_15 (rec6 : Nat → Int32 → Int32 → Int32 → Int32 → Int32 → Int32 → AW → Option (Int32 × AW)) : Nat → Nat → Int32 → Int32 → Int32 → Int32 → Int32 → Int32 → Int32 → AW → Option (Int32 × AW)
  | 0 => fun _ _ _ _ _ _ _ _ _ => none
  | n + 1 => fun a0 x1 x2 x3 x4 x5 x6 x7 w => F_M_turnedCount_15_B rec6 (F_M_turnedCount_15 rec6 n) a0 x1 x2 x3 x4 x5 x6 x7 w
theorem P_M_turnedCount_15 {X : AX} {l : Launch} {G : AG} {rec6 : Nat → Int32 → Int32 → Int32 → Int32 → Int32 → Int32 → AW → Option (Int32 × AW)} (hX : XOK X b_M_turnedCount "RedSkyModel" 12) (hM : XM X l G { frames := 6, cells := 0, slots := 0, locals := 140 }) {o : Int32 × AW} (hR : XR X (some .int) 0 0 (some (vi o.1)) o.2) (hrec6 : ∀ (a0 : Nat) (x1 : Int32) (x2 : Int32) (x3 : Int32) (x4 : Int32) (x5 : Int32) (x6 : Int32) (w : AW), rec6 a0 x1 x2 x3 x4 x5 x6 w = some o → RJ X 12 0 0 6 [(0, vr a0), (1, vi x1), (2, vi x2), (3, vi x3), (4, vi x4), (5, vi x5), (6, vi x6)] [] w) (fu : Nat) : ∀ (a0 : Nat) (x1 : Int32) (x2 : Int32) (x3 : Int32) (x4 : Int32) (x5 : Int32) (x6 : Int32) (x7 : Int32) (w : AW), F_M_turnedCount_15 rec6 fu a0 x1 x2 x3 x4 x5 x6 x7 w = some o → RJ X 12 0 0 15 [(0, vr a0), (1, vi x1), (2, vi x2), (3, vi x3), (4, vi x4), (5, vi x5), (6, vi x6), (7, vi x7)] [] w := by
  induction fu with
  | zero => intro a0 x1 x2 x3 x4 x5 x6 x7 w h; cases h
  | succ n9 ih => intro a0 x1 x2 x3 x4 x5 x6 x7 w h; exact P_M_turnedCount_15_B hX hM hR hrec6 ih _ _ _ _ _ _ _ _ _ h
def F_M_turnedCount_6_B (rec6 : Nat → Int32 → Int32 → Int32 → Int32 → Int32 → Int32 → AW → Option (Int32 × AW)) (a0 : Nat) (x1 : Int32) (x2 : Int32) (x3 : Int32) (x4 : Int32) (x5 : Int32) (x6 : Int32) (w : AW) : Option (Int32 × AW) :=
  if (4 : Int32) ≤ x6 then
    some (x5, w)
  else
    F_M_turnedCount_15 rec6 FUEL a0 x1 x2 x3 x4 x5 x6 (1 : Int32) w
theorem P_M_turnedCount_6_B {X : AX} {l : Launch} {G : AG} {rec6 : Nat → Int32 → Int32 → Int32 → Int32 → Int32 → Int32 → AW → Option (Int32 × AW)} (hX : XOK X b_M_turnedCount "RedSkyModel" 12) (hM : XM X l G { frames := 6, cells := 0, slots := 0, locals := 140 }) {o : Int32 × AW} (hR : XR X (some .int) 0 0 (some (vi o.1)) o.2) (hrec6 : ∀ (a0 : Nat) (x1 : Int32) (x2 : Int32) (x3 : Int32) (x4 : Int32) (x5 : Int32) (x6 : Int32) (w : AW), rec6 a0 x1 x2 x3 x4 x5 x6 w = some o → RJ X 12 0 0 6 [(0, vr a0), (1, vi x1), (2, vi x2), (3, vi x3), (4, vi x4), (5, vi x5), (6, vi x6)] [] w) (a0 : Nat) (x1 : Int32) (x2 : Int32) (x3 : Int32) (x4 : Int32) (x5 : Int32) (x6 : Int32) (w : AW) (h : F_M_turnedCount_6_B rec6 a0 x1 x2 x3 x4 x5 x6 w = some o) : RJ X 12 0 0 6 [(0, vr a0), (1, vi x1), (2, vi x2), (3, vi x3), (4, vi x4), (5, vi x5), (6, vi x6)] [] w := by
  unfold F_M_turnedCount_6_B at h
  refine r_iload (i := 6) hX d_M_turnedCount_6 6  rfl ?_
  refine r_iconst (v := (4 : Int32)) hX d_M_turnedCount_8 rfl ?_
  refine r_icmp_ge hX d_M_turnedCount_9 rfl h (fun h => ?_) (fun h => ?_)
  · refine r_iload (i := 5) hX d_M_turnedCount_150 5  rfl ?_
    cases h; exact r_iret hX hR d_M_turnedCount_152
  · refine r_iconst (v := (1 : Int32)) hX d_M_turnedCount_12 rfl ?_
    refine r_istore (i := 7) hX d_M_turnedCount_13  (by decide) ?_
    exact rj_sub [1, 2, 3, 4, 5, 6, 7, 0] rfl (P_M_turnedCount_15 hX hM hR hrec6 FUEL _ _ _ _ _ _ _ _ _ h)
def F_M_turnedCount_6 : Nat → Nat → Int32 → Int32 → Int32 → Int32 → Int32 → Int32 → AW → Option (Int32 × AW)
  | 0 => fun _ _ _ _ _ _ _ _ => none
  | n + 1 => fun a0 x1 x2 x3 x4 x5 x6 w => F_M_turnedCount_6_B (F_M_turnedCount_6 n) a0 x1 x2 x3 x4 x5 x6 w
theorem P_M_turnedCount_6 {X : AX} {l : Launch} {G : AG} (hX : XOK X b_M_turnedCount "RedSkyModel" 12) (hM : XM X l G { frames := 6, cells := 0, slots := 0, locals := 140 }) {o : Int32 × AW} (hR : XR X (some .int) 0 0 (some (vi o.1)) o.2) (fu : Nat) : ∀ (a0 : Nat) (x1 : Int32) (x2 : Int32) (x3 : Int32) (x4 : Int32) (x5 : Int32) (x6 : Int32) (w : AW), F_M_turnedCount_6 fu a0 x1 x2 x3 x4 x5 x6 w = some o → RJ X 12 0 0 6 [(0, vr a0), (1, vi x1), (2, vi x2), (3, vi x3), (4, vi x4), (5, vi x5), (6, vi x6)] [] w := by
  induction fu with
  | zero => intro a0 x1 x2 x3 x4 x5 x6 w h; cases h
  | succ n9 ih => intro a0 x1 x2 x3 x4 x5 x6 w h; exact P_M_turnedCount_6_B hX hM hR ih _ _ _ _ _ _ _ _ h
def F_M_turnedCount (a0 : Nat) (x1 : Int32) (x2 : Int32) (x3 : Int32) (x4 : Int32) (w : AW) : Option (Int32 × AW) :=
  F_M_turnedCount_6 FUEL a0 x1 x2 x3 x4 (0 : Int32) (0 : Int32) w
theorem P_M_turnedCount_0 {X : AX} {l : Launch} {G : AG} (hX : XOK X b_M_turnedCount "RedSkyModel" 12) (hM : XM X l G { frames := 6, cells := 0, slots := 0, locals := 140 }) {o : Int32 × AW} (hR : XR X (some .int) 0 0 (some (vi o.1)) o.2) (a0 : Nat) (x1 : Int32) (x2 : Int32) (x3 : Int32) (x4 : Int32) (w : AW) (h : F_M_turnedCount a0 x1 x2 x3 x4 w = some o) : RJ X 12 0 0 0 [(0, vr a0), (1, vi x1), (2, vi x2), (3, vi x3), (4, vi x4)] [] w := by
  unfold F_M_turnedCount at h
  refine r_iconst (v := (0 : Int32)) hX d_M_turnedCount_0 rfl ?_
  refine r_istore (i := 5) hX d_M_turnedCount_1  (by decide) ?_
  refine r_iconst (v := (0 : Int32)) hX d_M_turnedCount_3 rfl ?_
  refine r_istore (i := 6) hX d_M_turnedCount_4  (by decide) ?_
  exact rj_sub [2, 3, 4, 5, 6, 1, 0] rfl (P_M_turnedCount_6 hX hM hR FUEL _ _ _ _ _ _ _ _ h)
theorem T_M_turnedCount {l : Launch} {G : AG} (a0 : Nat) (x1 : Int32) (x2 : Int32) (x3 : Int32) (x4 : Int32) (w : AW) {o : Int32 × AW} (h : F_M_turnedCount a0 x1 x2 x3 x4 w = some o) : Mt l G y_M_turnedCount b_M_turnedCount 12 (some (.int)) 6 140 0 0 [vr a0, vi x1, vi x2, vi x3, vi x4] w (some (vi o.1)) o.2 := mt_of (by decide) (Nat.le_of_ble_eq_true rfl) (fun X hX hR hM hI => P_M_turnedCount_0 hX hM hR _ _ _ _ _ _ h)
/-! RedSkyModel.turned(IIII)I -/
theorem d_M_turned_0 : decode b_M_turned 0 = .ok (.aload_n 0, 1) := by decide +kernel
theorem d_M_turned_1 : decode b_M_turned 1 = .ok (.iload_n 1, 1) := by decide +kernel
theorem d_M_turned_2 : decode b_M_turned 2 = .ok (.invokevirtual 306, 3) := by decide +kernel
theorem d_M_turned_5 : decode b_M_turned 5 = .ok (.ifCond .eq (10), 3) := by decide +kernel
theorem d_M_turned_8 : decode b_M_turned 8 = .ok (.iload_n 2, 1) := by decide +kernel
theorem d_M_turned_9 : decode b_M_turned 9 = .ok (.invokestatic 155, 3) := by decide +kernel
theorem d_M_turned_12 : decode b_M_turned 12 = .ok (.ifCond .ne (6), 3) := by decide +kernel
theorem d_M_turned_15 : decode b_M_turned 15 = .ok (.bipush (-101), 2) := by decide +kernel
theorem d_M_turned_17 : decode b_M_turned 17 = .ok (.ireturn, 1) := by decide +kernel
theorem d_M_turned_18 : decode b_M_turned 18 = .ok (.iload_n 3, 1) := by decide +kernel
theorem d_M_turned_19 : decode b_M_turned 19 = .ok (.i2l, 1) := by decide +kernel
theorem d_M_turned_20 : decode b_M_turned 20 = .ok (.lconst 1, 1) := by decide +kernel
theorem d_M_turned_21 : decode b_M_turned 21 = .ok (.ldc2_w 126, 3) := by decide +kernel
theorem d_M_turned_24 : decode b_M_turned 24 = .ok (.invokestatic 122, 3) := by decide +kernel
theorem d_M_turned_27 : decode b_M_turned 27 = .ok (.ifCond .eq (26), 3) := by decide +kernel
theorem d_M_turned_30 : decode b_M_turned 30 = .ok (.iload 4, 2) := by decide +kernel
theorem d_M_turned_32 : decode b_M_turned 32 = .ok (.i2l, 1) := by decide +kernel
theorem d_M_turned_33 : decode b_M_turned 33 = .ok (.lconst 0, 1) := by decide +kernel
theorem d_M_turned_34 : decode b_M_turned 34 = .ok (.lconst 1, 1) := by decide +kernel
theorem d_M_turned_35 : decode b_M_turned 35 = .ok (.invokestatic 122, 3) := by decide +kernel
theorem d_M_turned_38 : decode b_M_turned 38 = .ok (.ifCond .eq (15), 3) := by decide +kernel
theorem d_M_turned_41 : decode b_M_turned 41 = .ok (.aload_n 0, 1) := by decide +kernel
theorem d_M_turned_42 : decode b_M_turned 42 = .ok (.iload_n 1, 1) := by decide +kernel
theorem d_M_turned_43 : decode b_M_turned 43 = .ok (.iload_n 2, 1) := by decide +kernel
theorem d_M_turned_44 : decode b_M_turned 44 = .ok (.iload_n 3, 1) := by decide +kernel
theorem d_M_turned_45 : decode b_M_turned 45 = .ok (.iload 4, 2) := by decide +kernel
theorem d_M_turned_47 : decode b_M_turned 47 = .ok (.invokevirtual 346, 3) := by decide +kernel
theorem d_M_turned_50 : decode b_M_turned 50 = .ok (.goto (5), 3) := by decide +kernel
theorem d_M_turned_53 : decode b_M_turned 53 = .ok (.bipush (-102), 2) := by decide +kernel
theorem d_M_turned_55 : decode b_M_turned 55 = .ok (.ireturn, 1) := by decide +kernel
def F_M_turned (a0 : Nat) (x1 : Int32) (x2 : Int32) (x3 : Int32) (x4 : Int32) (w : AW) : Option (Int32 × AW) :=
  gd (wk w a0 == 13) <|
  (F_M_isSaying w a0 x1).bind fun r2 =>
  if r2 = 0 then
    some ((-101 : Int32), w)
  else
    if (F_M_isValley x2) = 0 then
      some ((-101 : Int32), w)
    else
      if (F_M_in (Int32.toInt64 x3) (1 : Int64) (3 : Int64)) = 0 then
        some ((-102 : Int32), w)
      else
        if (F_M_in (Int32.toInt64 x4) (0 : Int64) (1 : Int64)) = 0 then
          some ((-102 : Int32), w)
        else
          (F_M_turnedCount a0 x1 x2 x3 x4 w).bind fun r4 =>
          some (r4.1, r4.2)
theorem P_M_turned_0 {X : AX} {l : Launch} {G : AG} (hX : XOK X b_M_turned "RedSkyModel" 5) (hM : XM X l G { frames := 7, cells := 0, slots := 0, locals := 171 }) {o : Int32 × AW} (hR : XR X (some .int) 0 0 (some (vi o.1)) o.2) (a0 : Nat) (x1 : Int32) (x2 : Int32) (x3 : Int32) (x4 : Int32) (w : AW) (h : F_M_turned a0 x1 x2 x3 x4 w = some o) : RJ X 5 0 0 0 [(0, vr a0), (1, vi x1), (2, vi x2), (3, vi x3), (4, vi x4)] [] w := by
  unfold F_M_turned at h
  refine r_aload_n (i := 0) hX d_M_turned_0 0 rfl rfl ?_
  refine r_iload_n (i := 1) hX d_M_turned_1 1 rfl rfl ?_
  obtain ⟨hk1, h⟩ := gd_e h
  obtain ⟨r2, hr3, h⟩ := bd_e h
  refine r_callV1 (As := [_]) hX hM mw_M_306 (T_M_isSaying _ _ _ hr3) (rc_of ci_12 hk1) rfl rfl ⟨Nat.le_refl _, Nat.le_refl _⟩ rfl rfl d_M_turned_2 ?_
  refine r_if_eq hX d_M_turned_5 rfl h (fun h => ?_) (fun h => ?_)
  · refine r_bipush (v := (-101 : Int32)) hX d_M_turned_15 rfl ?_
    cases h; exact r_iret hX hR d_M_turned_17
  · refine r_iload_n (i := 2) hX d_M_turned_8 2 rfl rfl ?_
    refine r_callS1 (As := [_]) hX hM mw_M_155 (T_M_isValley _ _) rfl rfl ⟨Nat.le_refl _, Nat.le_refl _⟩ rfl rfl d_M_turned_9 ?_
    refine r_if_ne hX d_M_turned_12 rfl h (fun h => ?_) (fun h => ?_)
    · refine r_iload_n (i := 3) hX d_M_turned_18 3 rfl rfl ?_
      refine r_i2l hX d_M_turned_19 ?_
      refine r_lconst (v := (1 : Int64)) hX d_M_turned_20 rfl ?_
      refine r_ldc2 hX d_M_turned_21 cw_M_126 ?_
      refine r_callS1 (As := [_, _, _]) hX hM mw_M_122 (T_M_in _ _ _ _) rfl rfl ⟨Nat.le_refl _, Nat.le_refl _⟩ rfl rfl d_M_turned_24 ?_
      refine r_if_eq hX d_M_turned_27 rfl h (fun h => ?_) (fun h => ?_)
      · refine r_bipush (v := (-102 : Int32)) hX d_M_turned_53 rfl ?_
        cases h; exact r_iret hX hR d_M_turned_55
      · refine r_iload (i := 4) hX d_M_turned_30 4  rfl ?_
        refine r_i2l hX d_M_turned_32 ?_
        refine r_lconst (v := (0 : Int64)) hX d_M_turned_33 rfl ?_
        refine r_lconst (v := (1 : Int64)) hX d_M_turned_34 rfl ?_
        refine r_callS1 (As := [_, _, _]) hX hM mw_M_122 (T_M_in _ _ _ _) rfl rfl ⟨Nat.le_refl _, Nat.le_refl _⟩ rfl rfl d_M_turned_35 ?_
        refine r_if_eq hX d_M_turned_38 rfl h (fun h => ?_) (fun h => ?_)
        · refine r_bipush (v := (-102 : Int32)) hX d_M_turned_53 rfl ?_
          cases h; exact r_iret hX hR d_M_turned_55
        · refine r_aload_n (i := 0) hX d_M_turned_41 0 rfl rfl ?_
          refine r_iload_n (i := 1) hX d_M_turned_42 1 rfl rfl ?_
          refine r_iload_n (i := 2) hX d_M_turned_43 2 rfl rfl ?_
          refine r_iload_n (i := 3) hX d_M_turned_44 3 rfl rfl ?_
          refine r_iload (i := 4) hX d_M_turned_45 4  rfl ?_
          obtain ⟨r4, hr5, h⟩ := bd_e h
          refine r_callV1 (As := [_, _, _, _]) hX hM mw_M_346 (T_M_turnedCount _ _ _ _ _ _ hr5) (rc_of ci_12 hk1) rfl rfl ⟨Nat.le_refl _, Nat.le_refl _⟩ rfl rfl d_M_turned_47 ?_
          refine r_goto hX d_M_turned_50 rfl ?_
          cases h; exact r_iret hX hR d_M_turned_55
    · refine r_bipush (v := (-101 : Int32)) hX d_M_turned_15 rfl ?_
      cases h; exact r_iret hX hR d_M_turned_17
theorem T_M_turned {l : Launch} {G : AG} (a0 : Nat) (x1 : Int32) (x2 : Int32) (x3 : Int32) (x4 : Int32) (w : AW) {o : Int32 × AW} (h : F_M_turned a0 x1 x2 x3 x4 w = some o) : Mt l G y_M_turned b_M_turned 5 (some (.int)) 7 171 0 0 [vr a0, vi x1, vi x2, vi x3, vi x4] w (some (vi o.1)) o.2 := mt_of (by decide) (Nat.le_of_ble_eq_true rfl) (fun X hX hR hM hI => P_M_turned_0 hX hM hR _ _ _ _ _ _ h)
/-! RedSky.chance(II)I -/
theorem d_A_chance_0 : decode b_A_chance 0 = .ok (.aload_n 0, 1) := by decide +kernel
theorem d_A_chance_1 : decode b_A_chance 1 = .ok (.iload_n 1, 1) := by decide +kernel
theorem d_A_chance_2 : decode b_A_chance 2 = .ok (.invokevirtual 200, 3) := by decide +kernel
theorem d_A_chance_5 : decode b_A_chance 5 = .ok (.astore_n 3, 1) := by decide +kernel
theorem d_A_chance_6 : decode b_A_chance 6 = .ok (.aload_n 0, 1) := by decide +kernel
theorem d_A_chance_7 : decode b_A_chance 7 = .ok (.iload_n 2, 1) := by decide +kernel
theorem d_A_chance_8 : decode b_A_chance 8 = .ok (.invokevirtual 141, 3) := by decide +kernel
theorem d_A_chance_11 : decode b_A_chance 11 = .ok (.astore 4, 2) := by decide +kernel
theorem d_A_chance_13 : decode b_A_chance 13 = .ok (.aload_n 3, 1) := by decide +kernel
theorem d_A_chance_14 : decode b_A_chance 14 = .ok (.ifnull (8), 3) := by decide +kernel
theorem d_A_chance_17 : decode b_A_chance 17 = .ok (.aload 4, 2) := by decide +kernel
theorem d_A_chance_19 : decode b_A_chance 19 = .ok (.ifnonnull (6), 3) := by decide +kernel
theorem d_A_chance_22 : decode b_A_chance 22 = .ok (.bipush (-101), 2) := by decide +kernel
theorem d_A_chance_24 : decode b_A_chance 24 = .ok (.ireturn, 1) := by decide +kernel
theorem d_A_chance_25 : decode b_A_chance 25 = .ok (.aload_n 0, 1) := by decide +kernel
theorem d_A_chance_26 : decode b_A_chance 26 = .ok (.getfield 49, 3) := by decide +kernel
theorem d_A_chance_29 : decode b_A_chance 29 = .ok (.aload_n 3, 1) := by decide +kernel
theorem d_A_chance_30 : decode b_A_chance 30 = .ok (.aload 4, 2) := by decide +kernel
theorem d_A_chance_32 : decode b_A_chance 32 = .ok (.aload_n 0, 1) := by decide +kernel
theorem d_A_chance_33 : decode b_A_chance 33 = .ok (.getfield 10, 3) := by decide +kernel
theorem d_A_chance_36 : decode b_A_chance 36 = .ok (.aload_n 0, 1) := by decide +kernel
theorem d_A_chance_37 : decode b_A_chance 37 = .ok (.getfield 42, 3) := by decide +kernel
theorem d_A_chance_40 : decode b_A_chance 40 = .ok (.invokevirtual 207, 3) := by decide +kernel
theorem d_A_chance_43 : decode b_A_chance 43 = .ok (.aload_n 0, 1) := by decide +kernel
theorem d_A_chance_44 : decode b_A_chance 44 = .ok (.getfield 49, 3) := by decide +kernel
theorem d_A_chance_47 : decode b_A_chance 47 = .ok (.getfield 242, 3) := by decide +kernel
theorem d_A_chance_50 : decode b_A_chance 50 = .ok (.invokevirtual 245, 3) := by decide +kernel
theorem d_A_chance_53 : decode b_A_chance 53 = .ok (.istore 5, 2) := by decide +kernel
theorem d_A_chance_55 : decode b_A_chance 55 = .ok (.aload_n 0, 1) := by decide +kernel
theorem d_A_chance_56 : decode b_A_chance 56 = .ok (.getfield 49, 3) := by decide +kernel
theorem d_A_chance_59 : decode b_A_chance 59 = .ok (.getfield 248, 3) := by decide +kernel
theorem d_A_chance_62 : decode b_A_chance 62 = .ok (.invokevirtual 245, 3) := by decide +kernel
theorem d_A_chance_65 : decode b_A_chance 65 = .ok (.istore 6, 2) := by decide +kernel
theorem d_A_chance_67 : decode b_A_chance 67 = .ok (.iconst 0, 1) := by decide +kernel
theorem d_A_chance_68 : decode b_A_chance 68 = .ok (.istore 7, 2) := by decide +kernel
theorem d_A_chance_70 : decode b_A_chance 70 = .ok (.iconst 1, 1) := by decide +kernel
theorem d_A_chance_71 : decode b_A_chance 71 = .ok (.istore 8, 2) := by decide +kernel
theorem d_A_chance_73 : decode b_A_chance 73 = .ok (.iload 8, 2) := by decide +kernel
theorem d_A_chance_75 : decode b_A_chance 75 = .ok (.iconst 4, 1) := by decide +kernel
theorem d_A_chance_76 : decode b_A_chance 76 = .ok (.if_icmp .ge (54), 3) := by decide +kernel
theorem d_A_chance_79 : decode b_A_chance 79 = .ok (.aload_n 0, 1) := by decide +kernel
theorem d_A_chance_80 : decode b_A_chance 80 = .ok (.getfield 49, 3) := by decide +kernel
theorem d_A_chance_83 : decode b_A_chance 83 = .ok (.iload 8, 2) := by decide +kernel
theorem d_A_chance_85 : decode b_A_chance 85 = .ok (.aload_n 0, 1) := by decide +kernel
theorem d_A_chance_86 : decode b_A_chance 86 = .ok (.getfield 10, 3) := by decide +kernel
theorem d_A_chance_89 : decode b_A_chance 89 = .ok (.invokevirtual 238, 3) := by decide +kernel
theorem d_A_chance_92 : decode b_A_chance 92 = .ok (.aload_n 0, 1) := by decide +kernel
theorem d_A_chance_93 : decode b_A_chance 93 = .ok (.getfield 49, 3) := by decide +kernel
theorem d_A_chance_96 : decode b_A_chance 96 = .ok (.getfield 242, 3) := by decide +kernel
theorem d_A_chance_99 : decode b_A_chance 99 = .ok (.invokevirtual 245, 3) := by decide +kernel
theorem d_A_chance_102 : decode b_A_chance 102 = .ok (.iload 6, 2) := by decide +kernel
theorem d_A_chance_104 : decode b_A_chance 104 = .ok (.imul, 1) := by decide +kernel
theorem d_A_chance_105 : decode b_A_chance 105 = .ok (.iload 5, 2) := by decide +kernel
theorem d_A_chance_107 : decode b_A_chance 107 = .ok (.aload_n 0, 1) := by decide +kernel
theorem d_A_chance_108 : decode b_A_chance 108 = .ok (.getfield 49, 3) := by decide +kernel
theorem d_A_chance_111 : decode b_A_chance 111 = .ok (.getfield 248, 3) := by decide +kernel
theorem d_A_chance_114 : decode b_A_chance 114 = .ok (.invokevirtual 245, 3) := by decide +kernel
theorem d_A_chance_117 : decode b_A_chance 117 = .ok (.imul, 1) := by decide +kernel
theorem d_A_chance_118 : decode b_A_chance 118 = .ok (.if_icmp .lt (6), 3) := by decide +kernel
theorem d_A_chance_121 : decode b_A_chance 121 = .ok (.iinc 7 (1), 3) := by decide +kernel
theorem d_A_chance_124 : decode b_A_chance 124 = .ok (.iinc 8 (1), 3) := by decide +kernel
theorem d_A_chance_127 : decode b_A_chance 127 = .ok (.goto (-54), 3) := by decide +kernel
theorem d_A_chance_130 : decode b_A_chance 130 = .ok (.iload 7, 2) := by decide +kernel
theorem d_A_chance_132 : decode b_A_chance 132 = .ok (.ireturn, 1) := by decide +kernel
def F_A_chance_73_B (rec73 : Nat → Int32 → Int32 → Int32 → Int32 → AW → Option (Int32 × AW)) (a0 : Nat) (x5 : Int32) (x6 : Int32) (x7 : Int32) (x8 : Int32) (w : AW) : Option (Int32 × AW) :=
  if (4 : Int32) ≤ x8 then
    some (x7, w)
  else
    gd (wk w a0 == 1) <|
    gd (wk w (wr w a0 6) == 9) <|
    (F_Rd_turn (wr w a0 6) x8 (wr w a0 0) w).bind fun r3 =>
    gd (wk r3 a0 == 1) <|
    gd (wk r3 (wr r3 a0 6) == 9) <|
    gd (wk r3 (wr r3 (wr r3 a0 6) 7) == 8) <|
    (F_Dy_size r3 (wr r3 (wr r3 a0 6) 7)).bind fun r8 =>
    gd (wk r3 (wr r3 (wr r3 a0 6) 6) == 8) <|
    (F_Dy_size r3 (wr r3 (wr r3 a0 6) 6)).bind fun r11 =>
    if (r8 * x6) < (x5 * r11) then
      let v13 : Int32 := (x8 + (1 : Int32))
      rec73 a0 x5 x6 x7 v13 r3
    else
      let v14 : Int32 := (x7 + (1 : Int32))
      let v15 : Int32 := (x8 + (1 : Int32))
      rec73 a0 x5 x6 v14 v15 r3
theorem P_A_chance_73_B {X : AX} {l : Launch} {G : AG} {rec73 : Nat → Int32 → Int32 → Int32 → Int32 → AW → Option (Int32 × AW)} (hX : XOK X b_A_chance "RedSky" 9) (hM : XM X l G { frames := 6, cells := 0, slots := 0, locals := 147 }) {o : Int32 × AW} (hR : XR X (some .int) 0 0 (some (vi o.1)) o.2) (hrec73 : ∀ (a0 : Nat) (x5 : Int32) (x6 : Int32) (x7 : Int32) (x8 : Int32) (w : AW), rec73 a0 x5 x6 x7 x8 w = some o → RJ X 9 0 0 73 [(0, vr a0), (5, vi x5), (6, vi x6), (7, vi x7), (8, vi x8)] [] w) (a0 : Nat) (x5 : Int32) (x6 : Int32) (x7 : Int32) (x8 : Int32) (w : AW) (h : F_A_chance_73_B rec73 a0 x5 x6 x7 x8 w = some o) : RJ X 9 0 0 73 [(0, vr a0), (5, vi x5), (6, vi x6), (7, vi x7), (8, vi x8)] [] w := by
  unfold F_A_chance_73_B at h
  refine r_iload (i := 8) hX d_A_chance_73 4  rfl ?_
  refine r_iconst (v := (4 : Int32)) hX d_A_chance_75 rfl ?_
  refine r_icmp_ge hX d_A_chance_76 rfl h (fun h => ?_) (fun h => ?_)
  · refine r_iload (i := 7) hX d_A_chance_130 3  rfl ?_
    cases h; exact r_iret hX hR d_A_chance_132
  · refine r_aload_n (i := 0) hX d_A_chance_79 0 rfl rfl ?_
    obtain ⟨hk1, h⟩ := gd_e h
    refine r_getR (i := 0) (f := 6) hX ci_0 (by decide) rfl fl_A_49 hk1 d_A_chance_80 ?_
    refine r_iload (i := 8) hX d_A_chance_83 4  rfl ?_
    refine r_aload_n (i := 0) hX d_A_chance_85 0 rfl rfl ?_
    refine r_getR (i := 0) (f := 0) hX ci_0 (by decide) rfl fl_A_10 hk1 d_A_chance_86 ?_
    obtain ⟨hk2, h⟩ := gd_e h
    obtain ⟨r3, hr4, h⟩ := bd_e h
    refine r_callV0 (As := [_, _]) hX hM mw_A_238 (T_Rd_turn _ _ _ _ hr4) (rc_of ci_8 hk2) rfl rfl ⟨Nat.le_refl _, Nat.le_refl _⟩ rfl rfl d_A_chance_89 ?_
    refine r_aload_n (i := 0) hX d_A_chance_92 0 rfl rfl ?_
    obtain ⟨hk5, h⟩ := gd_e h
    refine r_getR (i := 0) (f := 6) hX ci_0 (by decide) rfl fl_A_49 hk5 d_A_chance_93 ?_
    obtain ⟨hk6, h⟩ := gd_e h
    refine r_getR (i := 8) (f := 7) hX ci_8 (by decide) rfl fl_A_242 hk6 d_A_chance_96 ?_
    obtain ⟨hk7, h⟩ := gd_e h
    obtain ⟨r8, hr9, h⟩ := bd_e h
    refine r_callV1 (As := []) hX hM mw_A_245 (T_Dy_size _ _ hr9) (rc_of ci_7 hk7) rfl rfl ⟨Nat.le_refl _, Nat.le_refl _⟩ rfl rfl d_A_chance_99 ?_
    refine r_iload (i := 6) hX d_A_chance_102 2  rfl ?_
    refine r_imul hX d_A_chance_104 ?_
    refine r_iload (i := 5) hX d_A_chance_105 1  rfl ?_
    refine r_aload_n (i := 0) hX d_A_chance_107 0 rfl rfl ?_
    refine r_getR (i := 0) (f := 6) hX ci_0 (by decide) rfl fl_A_49 hk5 d_A_chance_108 ?_
    refine r_getR (i := 8) (f := 6) hX ci_8 (by decide) rfl fl_A_248 hk6 d_A_chance_111 ?_
    obtain ⟨hk10, h⟩ := gd_e h
    obtain ⟨r11, hr12, h⟩ := bd_e h
    refine r_callV1 (As := []) hX hM mw_A_245 (T_Dy_size _ _ hr12) (rc_of ci_7 hk10) rfl rfl ⟨Nat.le_refl _, Nat.le_refl _⟩ rfl rfl d_A_chance_114 ?_
    refine r_imul hX d_A_chance_117 ?_
    refine r_icmp_lt hX d_A_chance_118 rfl h (fun h => ?_) (fun h => ?_)
    · refine r_iinc (i := 8) (v := (1 : Int32)) hX d_A_chance_124 4 rfl rfl (by decide) ?_
      refine r_goto hX d_A_chance_127 rfl ?_
      exact rj_sub [1, 2, 3, 4, 0] rfl (hrec73 _ _ _ _ _ _ h)
    · refine r_iinc (i := 7) (v := (1 : Int32)) hX d_A_chance_121 3 rfl rfl (by decide) ?_
      refine r_iinc (i := 8) (v := (1 : Int32)) hX d_A_chance_124 4 rfl rfl (by decide) ?_
      refine r_goto hX d_A_chance_127 rfl ?_
      exact rj_sub [2, 3, 4, 1, 0] rfl (hrec73 _ _ _ _ _ _ h)
def F_A_chance_73 : Nat → Nat → Int32 → Int32 → Int32 → Int32 → AW → Option (Int32 × AW)
  | 0 => fun _ _ _ _ _ _ => none
  | n + 1 => fun a0 x5 x6 x7 x8 w => F_A_chance_73_B (F_A_chance_73 n) a0 x5 x6 x7 x8 w
theorem P_A_chance_73 {X : AX} {l : Launch} {G : AG} (hX : XOK X b_A_chance "RedSky" 9) (hM : XM X l G { frames := 6, cells := 0, slots := 0, locals := 147 }) {o : Int32 × AW} (hR : XR X (some .int) 0 0 (some (vi o.1)) o.2) (fu : Nat) : ∀ (a0 : Nat) (x5 : Int32) (x6 : Int32) (x7 : Int32) (x8 : Int32) (w : AW), F_A_chance_73 fu a0 x5 x6 x7 x8 w = some o → RJ X 9 0 0 73 [(0, vr a0), (5, vi x5), (6, vi x6), (7, vi x7), (8, vi x8)] [] w := by
  induction fu with
  | zero => intro a0 x5 x6 x7 x8 w h; cases h
  | succ n9 ih => intro a0 x5 x6 x7 x8 w h; exact P_A_chance_73_B hX hM hR ih _ _ _ _ _ _ h
def F_A_chance (a0 : Nat) (x1 : Int32) (x2 : Int32) (w : AW) : Option (Int32 × AW) :=
  gd (wk w a0 == 1) <|
  (F_A_sayingOf w a0 x1).bind fun r2 =>
  (F_A_diaryOf w a0 x2).bind fun r4 =>
  if r2 = 0 then
    some ((-101 : Int32), w)
  else
    if r4 = 0 then
      some ((-101 : Int32), w)
    else
      gd (wk w (wr w a0 6) == 9) <|
      (F_Rd_read (wr w a0 6) r2 r4 (wr w a0 0) (wr w a0 5) w).bind fun r7 =>
      gd (wk r7 a0 == 1) <|
      gd (wk r7 (wr r7 a0 6) == 9) <|
      gd (wk r7 (wr r7 (wr r7 a0 6) 7) == 8) <|
      (F_Dy_size r7 (wr r7 (wr r7 a0 6) 7)).bind fun r12 =>
      gd (wk r7 (wr r7 (wr r7 a0 6) 6) == 8) <|
      (F_Dy_size r7 (wr r7 (wr r7 a0 6) 6)).bind fun r15 =>
      F_A_chance_73 FUEL a0 r12 r15 (0 : Int32) (1 : Int32) r7
theorem P_A_chance_0 {X : AX} {l : Launch} {G : AG} (hX : XOK X b_A_chance "RedSky" 9) (hM : XM X l G { frames := 6, cells := 0, slots := 0, locals := 147 }) {o : Int32 × AW} (hR : XR X (some .int) 0 0 (some (vi o.1)) o.2) (a0 : Nat) (x1 : Int32) (x2 : Int32) (w : AW) (h : F_A_chance a0 x1 x2 w = some o) : RJ X 9 0 0 0 [(0, vr a0), (1, vi x1), (2, vi x2)] [] w := by
  unfold F_A_chance at h
  refine r_aload_n (i := 0) hX d_A_chance_0 0 rfl rfl ?_
  refine r_iload_n (i := 1) hX d_A_chance_1 1 rfl rfl ?_
  obtain ⟨hk1, h⟩ := gd_e h
  obtain ⟨r2, hr3, h⟩ := bd_e h
  refine r_callV1 (As := [_]) hX hM mw_A_200 (T_A_sayingOf _ _ _ hr3) (rc_of ci_0 hk1) rfl rfl ⟨Nat.le_refl _, Nat.le_refl _⟩ rfl rfl d_A_chance_2 ?_
  refine r_astore_n (i := 3) hX d_A_chance_5 rfl (by decide) ?_
  refine r_aload_n (i := 0) hX d_A_chance_6 1 rfl rfl ?_
  refine r_iload_n (i := 2) hX d_A_chance_7 3 rfl rfl ?_
  obtain ⟨r4, hr5, h⟩ := bd_e h
  refine r_callV1 (As := [_]) hX hM mw_A_141 (T_A_diaryOf _ _ _ hr5) (rc_of ci_0 hk1) rfl rfl ⟨Nat.le_refl _, Nat.le_refl _⟩ rfl rfl d_A_chance_8 ?_
  refine r_astore (i := 4) hX d_A_chance_11  (by decide) ?_
  refine r_aload_n (i := 3) hX d_A_chance_13 1 rfl rfl ?_
  refine r_ifnull hX d_A_chance_14 rfl h (fun h => ?_) (fun h => ?_)
  · refine r_bipush (v := (-101 : Int32)) hX d_A_chance_22 rfl ?_
    cases h; exact r_iret hX hR d_A_chance_24
  · refine r_aload (i := 4) hX d_A_chance_17 0  rfl ?_
    refine r_ifnonnull hX d_A_chance_19 rfl h (fun h => ?_) (fun h => ?_)
    · refine r_aload_n (i := 0) hX d_A_chance_25 2 rfl rfl ?_
      refine r_getR (i := 0) (f := 6) hX ci_0 (by decide) rfl fl_A_49 hk1 d_A_chance_26 ?_
      refine r_aload_n (i := 3) hX d_A_chance_29 1 rfl rfl ?_
      refine r_aload (i := 4) hX d_A_chance_30 0  rfl ?_
      refine r_aload_n (i := 0) hX d_A_chance_32 2 rfl rfl ?_
      refine r_getR (i := 0) (f := 0) hX ci_0 (by decide) rfl fl_A_10 hk1 d_A_chance_33 ?_
      refine r_aload_n (i := 0) hX d_A_chance_36 2 rfl rfl ?_
      refine r_getR (i := 0) (f := 5) hX ci_0 (by decide) rfl fl_A_42 hk1 d_A_chance_37 ?_
      obtain ⟨hk6, h⟩ := gd_e h
      obtain ⟨r7, hr8, h⟩ := bd_e h
      refine r_callV0 (As := [_, _, _, _]) hX hM mw_A_207 (T_Rd_read _ _ _ _ _ _ hr8) (rc_of ci_8 hk6) rfl rfl ⟨Nat.le_refl _, Nat.le_refl _⟩ rfl rfl d_A_chance_40 ?_
      refine r_aload_n (i := 0) hX d_A_chance_43 2 rfl rfl ?_
      obtain ⟨hk9, h⟩ := gd_e h
      refine r_getR (i := 0) (f := 6) hX ci_0 (by decide) rfl fl_A_49 hk9 d_A_chance_44 ?_
      obtain ⟨hk10, h⟩ := gd_e h
      refine r_getR (i := 8) (f := 7) hX ci_8 (by decide) rfl fl_A_242 hk10 d_A_chance_47 ?_
      obtain ⟨hk11, h⟩ := gd_e h
      obtain ⟨r12, hr13, h⟩ := bd_e h
      refine r_callV1 (As := []) hX hM mw_A_245 (T_Dy_size _ _ hr13) (rc_of ci_7 hk11) rfl rfl ⟨Nat.le_refl _, Nat.le_refl _⟩ rfl rfl d_A_chance_50 ?_
      refine r_istore (i := 5) hX d_A_chance_53  (by decide) ?_
      refine r_aload_n (i := 0) hX d_A_chance_55 3 rfl rfl ?_
      refine r_getR (i := 0) (f := 6) hX ci_0 (by decide) rfl fl_A_49 hk9 d_A_chance_56 ?_
      refine r_getR (i := 8) (f := 6) hX ci_8 (by decide) rfl fl_A_248 hk10 d_A_chance_59 ?_
      obtain ⟨hk14, h⟩ := gd_e h
      obtain ⟨r15, hr16, h⟩ := bd_e h
      refine r_callV1 (As := []) hX hM mw_A_245 (T_Dy_size _ _ hr16) (rc_of ci_7 hk14) rfl rfl ⟨Nat.le_refl _, Nat.le_refl _⟩ rfl rfl d_A_chance_62 ?_
      refine r_istore (i := 6) hX d_A_chance_65  (by decide) ?_
      refine r_iconst (v := (0 : Int32)) hX d_A_chance_67 rfl ?_
      refine r_istore (i := 7) hX d_A_chance_68  (by decide) ?_
      refine r_iconst (v := (1 : Int32)) hX d_A_chance_70 rfl ?_
      refine r_istore (i := 8) hX d_A_chance_71  (by decide) ?_
      exact rj_sub [6, 3, 2, 1, 0] rfl (P_A_chance_73 hX hM hR FUEL _ _ _ _ _ _ h)
    · refine r_bipush (v := (-101 : Int32)) hX d_A_chance_22 rfl ?_
      cases h; exact r_iret hX hR d_A_chance_24
theorem T_A_chance {l : Launch} {G : AG} (a0 : Nat) (x1 : Int32) (x2 : Int32) (w : AW) {o : Int32 × AW} (h : F_A_chance a0 x1 x2 w = some o) : Mt l G y_A_chance b_A_chance 9 (some (.int)) 6 147 0 0 [vr a0, vi x1, vi x2] w (some (vi o.1)) o.2 := mt_of (by decide) (Nat.le_of_ble_eq_true rfl) (fun X hX hR hM hI => P_A_chance_0 hX hM hR _ _ _ _ h)
