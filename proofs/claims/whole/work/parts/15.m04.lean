/-! RedSky$Page.append(JI)V -/
theorem d_Pg_append_0 : decode b_Pg_append 0 = .ok (.iconst 0, 1) := by decide +kernel
theorem d_Pg_append_1 : decode b_Pg_append 1 = .ok (.istore 4, 2) := by decide +kernel
theorem d_Pg_append_3 : decode b_Pg_append 3 = .ok (.iload 4, 2) := by decide +kernel
theorem d_Pg_append_5 : decode b_Pg_append 5 = .ok (.iload_n 3, 1) := by decide +kernel
theorem d_Pg_append_6 : decode b_Pg_append 6 = .ok (.if_icmp .ge (48), 3) := by decide +kernel
theorem d_Pg_append_9 : decode b_Pg_append 9 = .ok (.aload_n 0, 1) := by decide +kernel
theorem d_Pg_append_10 : decode b_Pg_append 10 = .ok (.getfield 9, 3) := by decide +kernel
theorem d_Pg_append_13 : decode b_Pg_append 13 = .ok (.iconst 0, 1) := by decide +kernel
theorem d_Pg_append_14 : decode b_Pg_append 14 = .ok (.bipush (79), 2) := by decide +kernel
theorem d_Pg_append_16 : decode b_Pg_append 16 = .ok (.invokestatic 80, 3) := by decide +kernel
theorem d_Pg_append_19 : decode b_Pg_append 19 = .ok (.ifCond .eq (35), 3) := by decide +kernel
theorem d_Pg_append_22 : decode b_Pg_append 22 = .ok (.aload_n 0, 1) := by decide +kernel
theorem d_Pg_append_23 : decode b_Pg_append 23 = .ok (.getfield 15, 3) := by decide +kernel
theorem d_Pg_append_26 : decode b_Pg_append 26 = .ok (.aload_n 0, 1) := by decide +kernel
theorem d_Pg_append_27 : decode b_Pg_append 27 = .ok (.getfield 9, 3) := by decide +kernel
theorem d_Pg_append_30 : decode b_Pg_append 30 = .ok (.lload_n 1, 1) := by decide +kernel
theorem d_Pg_append_31 : decode b_Pg_append 31 = .ok (.iload 4, 2) := by decide +kernel
theorem d_Pg_append_33 : decode b_Pg_append 33 = .ok (.invokestatic 74, 3) := by decide +kernel
theorem d_Pg_append_36 : decode b_Pg_append 36 = .ok (.i2b, 1) := by decide +kernel
theorem d_Pg_append_37 : decode b_Pg_append 37 = .ok (.bastore, 1) := by decide +kernel
theorem d_Pg_append_38 : decode b_Pg_append 38 = .ok (.aload_n 0, 1) := by decide +kernel
theorem d_Pg_append_39 : decode b_Pg_append 39 = .ok (.dup, 1) := by decide +kernel
theorem d_Pg_append_40 : decode b_Pg_append 40 = .ok (.getfield 9, 3) := by decide +kernel
theorem d_Pg_append_43 : decode b_Pg_append 43 = .ok (.iconst 1, 1) := by decide +kernel
theorem d_Pg_append_44 : decode b_Pg_append 44 = .ok (.iadd, 1) := by decide +kernel
theorem d_Pg_append_45 : decode b_Pg_append 45 = .ok (.putfield 9, 3) := by decide +kernel
theorem d_Pg_append_48 : decode b_Pg_append 48 = .ok (.iinc 4 (1), 3) := by decide +kernel
theorem d_Pg_append_51 : decode b_Pg_append 51 = .ok (.goto (-48), 3) := by decide +kernel
theorem d_Pg_append_54 : decode b_Pg_append 54 = .ok (.return_, 1) := by decide +kernel
def F_Pg_append_3_B (rec3 : Nat → Int64 → Int32 → Int32 → AW → Option (AW)) (a0 : Nat) (x1 : Int64) (x3 : Int32) (x4 : Int32) (w : AW) : Option (AW) :=
  if x3 ≤ x4 then
    some w
  else
    gd (wk w a0 == 4) <|
    if (F_A_within (wi w a0 0) (0 : Int32) (79 : Int32)) = 0 then
      some w
    else
      gd (wk w (wr w a0 1) == 102) <|
      gd (inb (wi w a0 0) (wn w (wr w a0 1))) <|
      let w4 : AW := upI w (wr w a0 1) (Int32.toNatClampNeg (wi w a0 0)) (Int8.toInt32 (Int32.toInt8 (Int8.toInt32 (Int32.toInt8 (F_Pg_letterIn x1 x4)))))
      let w5 : AW := upI w4 a0 0 ((wi w4 a0 0) + (1 : Int32))
      let v6 : Int32 := (x4 + (1 : Int32))
      rec3 a0 x1 x3 v6 w5
theorem P_Pg_append_3_B {X : AX} {l : Launch} {G : AG} {rec3 : Nat → Int64 → Int32 → Int32 → AW → Option (AW)} (hX : XOK X b_Pg_append "RedSky$Page" 5) (hM : XM X l G { frames := 1, cells := 0, slots := 0, locals := 22 }) {o : AW} (hR : XR X none 0 0 none o) (hrec3 : ∀ (a0 : Nat) (x1 : Int64) (x3 : Int32) (x4 : Int32) (w : AW), rec3 a0 x1 x3 x4 w = some o → RJ X 5 0 0 3 [(0, vr a0), (1, vl x1), (3, vi x3), (4, vi x4)] [] w) (a0 : Nat) (x1 : Int64) (x3 : Int32) (x4 : Int32) (w : AW) (h : F_Pg_append_3_B rec3 a0 x1 x3 x4 w = some o) : RJ X 5 0 0 3 [(0, vr a0), (1, vl x1), (3, vi x3), (4, vi x4)] [] w := by
  unfold F_Pg_append_3_B at h
  refine r_iload (i := 4) hX d_Pg_append_3 3  rfl ?_
  refine r_iload_n (i := 3) hX d_Pg_append_5 2 rfl rfl ?_
  refine r_icmp_ge hX d_Pg_append_6 rfl h (fun h => ?_) (fun h => ?_)
  · cases h; exact r_vret hX hR d_Pg_append_54
  · refine r_aload_n (i := 0) hX d_Pg_append_9 0 rfl rfl ?_
    obtain ⟨hk1, h⟩ := gd_e h
    refine r_getI (i := 3) (f := 0) hX ci_3 (by decide) rfl fl_Pg_9 hk1 d_Pg_append_10 ?_
    refine r_iconst (v := (0 : Int32)) hX d_Pg_append_13 rfl ?_
    refine r_bipush (v := (79 : Int32)) hX d_Pg_append_14 rfl ?_
    refine r_callSN1 (As := [_, _, _]) hX hM mw_Pg_80 (T_A_within _ _ _ _) rfl rfl ⟨Nat.le_refl _, Nat.le_refl _⟩ rfl rfl d_Pg_append_16 ?_
    refine r_if_eq hX d_Pg_append_19 rfl h (fun h => ?_) (fun h => ?_)
    · cases h; exact r_vret hX hR d_Pg_append_54
    · refine r_aload_n (i := 0) hX d_Pg_append_22 0 rfl rfl ?_
      refine r_getR (i := 3) (f := 1) hX ci_3 (by decide) rfl fl_Pg_15 hk1 d_Pg_append_23 ?_
      refine r_aload_n (i := 0) hX d_Pg_append_26 0 rfl rfl ?_
      refine r_getI (i := 3) (f := 0) hX ci_3 (by decide) rfl fl_Pg_9 hk1 d_Pg_append_27 ?_
      refine r_lload_n (i := 1) hX d_Pg_append_30 1 rfl rfl ?_
      refine r_iload (i := 4) hX d_Pg_append_31 3  rfl ?_
      refine r_callS1 (As := [_, _]) hX hM mw_Pg_74 (T_Pg_letterIn _ _ _) rfl rfl ⟨Nat.le_refl _, Nat.le_refl _⟩ rfl rfl d_Pg_append_33 ?_
      refine r_i2b hX d_Pg_append_36 ?_
      obtain ⟨hk2, h⟩ := gd_e h
      obtain ⟨hg3, h⟩ := gd_e h
      refine r_bast hX hk2 hg3 d_Pg_append_37 ?_
      refine r_aload_n (i := 0) hX d_Pg_append_38 0 rfl rfl ?_
      refine r_dup hX d_Pg_append_39 rfl ?_
      refine r_getI (i := 3) (f := 0) hX ci_3 (by decide) rfl fl_Pg_9 (kI hk1) d_Pg_append_40 ?_
      refine r_iconst (v := (1 : Int32)) hX d_Pg_append_43 rfl ?_
      refine r_iadd hX d_Pg_append_44 ?_
      refine r_putI (i := 3) (f := 0) hX ci_3 (by decide) rfl rfl (fun G => rfl) (fun G => rfl) fl_Pg_9 (kI hk1) d_Pg_append_45 ?_
      refine r_iinc (i := 4) (v := (1 : Int32)) hX d_Pg_append_48 3 rfl rfl (by decide) ?_
      refine r_goto hX d_Pg_append_51 rfl ?_
      exact rj_sub [1, 2, 3, 0] rfl (hrec3 _ _ _ _ _ h)
def F_Pg_append_3 : Nat → Nat → Int64 → Int32 → Int32 → AW → Option (AW)
  | 0 => fun _ _ _ _ _ => none
  | n + 1 => fun a0 x1 x3 x4 w => F_Pg_append_3_B (F_Pg_append_3 n) a0 x1 x3 x4 w
theorem P_Pg_append_3 {X : AX} {l : Launch} {G : AG} (hX : XOK X b_Pg_append "RedSky$Page" 5) (hM : XM X l G { frames := 1, cells := 0, slots := 0, locals := 22 }) {o : AW} (hR : XR X none 0 0 none o) (fu : Nat) : ∀ (a0 : Nat) (x1 : Int64) (x3 : Int32) (x4 : Int32) (w : AW), F_Pg_append_3 fu a0 x1 x3 x4 w = some o → RJ X 5 0 0 3 [(0, vr a0), (1, vl x1), (3, vi x3), (4, vi x4)] [] w := by
  induction fu with
  | zero => intro a0 x1 x3 x4 w h; cases h
  | succ n9 ih => intro a0 x1 x3 x4 w h; exact P_Pg_append_3_B hX hM hR ih _ _ _ _ _ h
def F_Pg_append (a0 : Nat) (x1 : Int64) (x3 : Int32) (w : AW) : Option (AW) :=
  F_Pg_append_3 FUEL a0 x1 x3 (0 : Int32) w
theorem P_Pg_append_0 {X : AX} {l : Launch} {G : AG} (hX : XOK X b_Pg_append "RedSky$Page" 5) (hM : XM X l G { frames := 1, cells := 0, slots := 0, locals := 22 }) {o : AW} (hR : XR X none 0 0 none o) (a0 : Nat) (x1 : Int64) (x3 : Int32) (w : AW) (h : F_Pg_append a0 x1 x3 w = some o) : RJ X 5 0 0 0 [(0, vr a0), (1, vl x1), (3, vi x3)] [] w := by
  unfold F_Pg_append at h
  refine r_iconst (v := (0 : Int32)) hX d_Pg_append_0 rfl ?_
  refine r_istore (i := 4) hX d_Pg_append_1  (by decide) ?_
  exact rj_sub [1, 2, 3, 0] rfl (P_Pg_append_3 hX hM hR FUEL _ _ _ _ _ h)
theorem T_Pg_append {l : Launch} {G : AG} (a0 : Nat) (x1 : Int64) (x3 : Int32) (w : AW) {o : AW} (h : F_Pg_append a0 x1 x3 w = some o) : Mt l G y_Pg_append b_Pg_append 5 none 1 22 0 0 [vr a0, vl x1, vi x3] w none o := mt_of (by decide) (Nat.le_of_ble_eq_true rfl) (fun X hX hR hM hI => P_Pg_append_0 hX hM hR _ _ _ _ h)
/-! RedSky.letters(J)I -/
theorem d_A_letters_0 : decode b_A_letters 0 = .ok (.lload_n 1, 1) := by decide +kernel
theorem d_A_letters_1 : decode b_A_letters 1 = .ok (.invokestatic 174, 3) := by decide +kernel
theorem d_A_letters_4 : decode b_A_letters 4 = .ok (.istore_n 3, 1) := by decide +kernel
theorem d_A_letters_5 : decode b_A_letters 5 = .ok (.iload_n 3, 1) := by decide +kernel
theorem d_A_letters_6 : decode b_A_letters 6 = .ok (.iconst (-1), 1) := by decide +kernel
theorem d_A_letters_7 : decode b_A_letters 7 = .ok (.if_icmp .ne (6), 3) := by decide +kernel
theorem d_A_letters_10 : decode b_A_letters 10 = .ok (.bipush (-102), 2) := by decide +kernel
theorem d_A_letters_12 : decode b_A_letters 12 = .ok (.ireturn, 1) := by decide +kernel
theorem d_A_letters_13 : decode b_A_letters 13 = .ok (.aload_n 0, 1) := by decide +kernel
theorem d_A_letters_14 : decode b_A_letters 14 = .ok (.getfield 25, 3) := by decide +kernel
theorem d_A_letters_17 : decode b_A_letters 17 = .ok (.getfield 178, 3) := by decide +kernel
theorem d_A_letters_20 : decode b_A_letters 20 = .ok (.iload_n 3, 1) := by decide +kernel
theorem d_A_letters_21 : decode b_A_letters 21 = .ok (.iadd, 1) := by decide +kernel
theorem d_A_letters_22 : decode b_A_letters 22 = .ok (.bipush (80), 2) := by decide +kernel
theorem d_A_letters_24 : decode b_A_letters 24 = .ok (.if_icmp .le (6), 3) := by decide +kernel
theorem d_A_letters_27 : decode b_A_letters 27 = .ok (.bipush (-104), 2) := by decide +kernel
theorem d_A_letters_29 : decode b_A_letters 29 = .ok (.ireturn, 1) := by decide +kernel
theorem d_A_letters_30 : decode b_A_letters 30 = .ok (.aload_n 0, 1) := by decide +kernel
theorem d_A_letters_31 : decode b_A_letters 31 = .ok (.getfield 25, 3) := by decide +kernel
theorem d_A_letters_34 : decode b_A_letters 34 = .ok (.lload_n 1, 1) := by decide +kernel
theorem d_A_letters_35 : decode b_A_letters 35 = .ok (.iload_n 3, 1) := by decide +kernel
theorem d_A_letters_36 : decode b_A_letters 36 = .ok (.invokevirtual 181, 3) := by decide +kernel
theorem d_A_letters_39 : decode b_A_letters 39 = .ok (.aload_n 0, 1) := by decide +kernel
theorem d_A_letters_40 : decode b_A_letters 40 = .ok (.getfield 25, 3) := by decide +kernel
theorem d_A_letters_43 : decode b_A_letters 43 = .ok (.getfield 178, 3) := by decide +kernel
theorem d_A_letters_46 : decode b_A_letters 46 = .ok (.ireturn, 1) := by decide +kernel
def F_A_letters (a0 : Nat) (x1 : Int64) (w : AW) : Option (Int32 × AW) :=
  (F_Pg_lettersIn w x1).bind fun r1 =>
  if r1 = (-1 : Int32) then
    some ((-102 : Int32), w)
  else
    gd (wk w a0 == 1) <|
    gd (wk w (wr w a0 2) == 4) <|
    if ((wi w (wr w a0 2) 0) + r1) ≤ (80 : Int32) then
      (F_Pg_append (wr w a0 2) x1 r1 w).bind fun r5 =>
      gd (wk r5 a0 == 1) <|
      gd (wk r5 (wr r5 a0 2) == 4) <|
      some ((wi r5 (wr r5 a0 2) 0), r5)
    else
      some ((-104 : Int32), w)
theorem P_A_letters_0 {X : AX} {l : Launch} {G : AG} (hX : XOK X b_A_letters "RedSky" 4) (hM : XM X l G { frames := 2, cells := 0, slots := 0, locals := 47 }) {o : Int32 × AW} (hR : XR X (some .int) 0 0 (some (vi o.1)) o.2) (a0 : Nat) (x1 : Int64) (w : AW) (h : F_A_letters a0 x1 w = some o) : RJ X 4 0 0 0 [(0, vr a0), (1, vl x1)] [] w := by
  unfold F_A_letters at h
  refine r_lload_n (i := 1) hX d_A_letters_0 1 rfl rfl ?_
  obtain ⟨r1, hr2, h⟩ := bd_e h
  refine r_callS1 (As := [_]) hX hM mw_A_174 (T_Pg_lettersIn _ _ hr2) rfl rfl ⟨Nat.le_refl _, Nat.le_refl _⟩ rfl rfl d_A_letters_1 ?_
  refine r_istore_n (i := 3) hX d_A_letters_4 rfl (by decide) ?_
  refine r_iload_n (i := 3) hX d_A_letters_5 0 rfl rfl ?_
  refine r_iconst (v := (-1 : Int32)) hX d_A_letters_6 rfl ?_
  refine r_icmp_ne hX d_A_letters_7 rfl h (fun h => ?_) (fun h => ?_)
  · refine r_aload_n (i := 0) hX d_A_letters_13 1 rfl rfl ?_
    obtain ⟨hk3, h⟩ := gd_e h
    refine r_getR (i := 0) (f := 2) hX ci_0 (by decide) rfl fl_A_25 hk3 d_A_letters_14 ?_
    obtain ⟨hk4, h⟩ := gd_e h
    refine r_getI (i := 3) (f := 0) hX ci_3 (by decide) rfl fl_A_178 hk4 d_A_letters_17 ?_
    refine r_iload_n (i := 3) hX d_A_letters_20 0 rfl rfl ?_
    refine r_iadd hX d_A_letters_21 ?_
    refine r_bipush (v := (80 : Int32)) hX d_A_letters_22 rfl ?_
    refine r_icmp_le hX d_A_letters_24 rfl h (fun h => ?_) (fun h => ?_)
    · refine r_aload_n (i := 0) hX d_A_letters_30 1 rfl rfl ?_
      refine r_getR (i := 0) (f := 2) hX ci_0 (by decide) rfl fl_A_25 hk3 d_A_letters_31 ?_
      refine r_lload_n (i := 1) hX d_A_letters_34 2 rfl rfl ?_
      refine r_iload_n (i := 3) hX d_A_letters_35 0 rfl rfl ?_
      obtain ⟨r5, hr6, h⟩ := bd_e h
      refine r_callV0 (As := [_, _]) hX hM mw_A_181 (T_Pg_append _ _ _ _ hr6) (rc_of ci_3 hk4) rfl rfl ⟨Nat.le_refl _, Nat.le_refl _⟩ rfl rfl d_A_letters_36 ?_
      refine r_aload_n (i := 0) hX d_A_letters_39 1 rfl rfl ?_
      obtain ⟨hk7, h⟩ := gd_e h
      refine r_getR (i := 0) (f := 2) hX ci_0 (by decide) rfl fl_A_25 hk7 d_A_letters_40 ?_
      obtain ⟨hk8, h⟩ := gd_e h
      refine r_getI (i := 3) (f := 0) hX ci_3 (by decide) rfl fl_A_178 hk8 d_A_letters_43 ?_
      cases h; exact r_iret hX hR d_A_letters_46
    · refine r_bipush (v := (-104 : Int32)) hX d_A_letters_27 rfl ?_
      cases h; exact r_iret hX hR d_A_letters_29
  · refine r_bipush (v := (-102 : Int32)) hX d_A_letters_10 rfl ?_
    cases h; exact r_iret hX hR d_A_letters_12
theorem T_A_letters {l : Launch} {G : AG} (a0 : Nat) (x1 : Int64) (w : AW) {o : Int32 × AW} (h : F_A_letters a0 x1 w = some o) : Mt l G y_A_letters b_A_letters 4 (some (.int)) 2 47 0 0 [vr a0, vl x1] w (some (vi o.1)) o.2 := mt_of (by decide) (Nat.le_of_ble_eq_true rfl) (fun X hX hR hM hI => P_A_letters_0 hX hM hR _ _ _ h)
/-! RedSkyModel.letters(J)I -/
theorem d_M_letters_0 : decode b_M_letters 0 = .ok (.iconst 0, 1) := by decide +kernel
theorem d_M_letters_1 : decode b_M_letters 1 = .ok (.istore_n 3, 1) := by decide +kernel
theorem d_M_letters_2 : decode b_M_letters 2 = .ok (.lload_n 1, 1) := by decide +kernel
theorem d_M_letters_3 : decode b_M_letters 3 = .ok (.lstore 4, 2) := by decide +kernel
theorem d_M_letters_5 : decode b_M_letters 5 = .ok (.iconst 1, 1) := by decide +kernel
theorem d_M_letters_6 : decode b_M_letters 6 = .ok (.istore 6, 2) := by decide +kernel
theorem d_M_letters_8 : decode b_M_letters 8 = .ok (.iconst 0, 1) := by decide +kernel
theorem d_M_letters_9 : decode b_M_letters 9 = .ok (.istore 7, 2) := by decide +kernel
theorem d_M_letters_11 : decode b_M_letters 11 = .ok (.iload 7, 2) := by decide +kernel
theorem d_M_letters_13 : decode b_M_letters 13 = .ok (.bipush (8), 2) := by decide +kernel
theorem d_M_letters_15 : decode b_M_letters 15 = .ok (.if_icmp .ge (68), 3) := by decide +kernel
theorem d_M_letters_18 : decode b_M_letters 18 = .ok (.lload 4, 2) := by decide +kernel
theorem d_M_letters_20 : decode b_M_letters 20 = .ok (.ldc2_w 176, 3) := by decide +kernel
theorem d_M_letters_23 : decode b_M_letters 23 = .ok (.land, 1) := by decide +kernel
theorem d_M_letters_24 : decode b_M_letters 24 = .ok (.l2i, 1) := by decide +kernel
theorem d_M_letters_25 : decode b_M_letters 25 = .ok (.istore 8, 2) := by decide +kernel
theorem d_M_letters_27 : decode b_M_letters 27 = .ok (.lload 4, 2) := by decide +kernel
theorem d_M_letters_29 : decode b_M_letters 29 = .ok (.bipush (8), 2) := by decide +kernel
theorem d_M_letters_31 : decode b_M_letters 31 = .ok (.lushr, 1) := by decide +kernel
theorem d_M_letters_32 : decode b_M_letters 32 = .ok (.lstore 4, 2) := by decide +kernel
theorem d_M_letters_34 : decode b_M_letters 34 = .ok (.iload 6, 2) := by decide +kernel
theorem d_M_letters_36 : decode b_M_letters 36 = .ok (.ifCond .eq (25), 3) := by decide +kernel
theorem d_M_letters_39 : decode b_M_letters 39 = .ok (.iload 8, 2) := by decide +kernel
theorem d_M_letters_41 : decode b_M_letters 41 = .ok (.bipush (126), 2) := by decide +kernel
theorem d_M_letters_43 : decode b_M_letters 43 = .ok (.if_icmp .gt (18), 3) := by decide +kernel
theorem d_M_letters_46 : decode b_M_letters 46 = .ok (.iload 8, 2) := by decide +kernel
theorem d_M_letters_48 : decode b_M_letters 48 = .ok (.ifCond .eq (9), 3) := by decide +kernel
theorem d_M_letters_51 : decode b_M_letters 51 = .ok (.iload_n 3, 1) := by decide +kernel
theorem d_M_letters_52 : decode b_M_letters 52 = .ok (.iload 7, 2) := by decide +kernel
theorem d_M_letters_54 : decode b_M_letters 54 = .ok (.if_icmp .ne (7), 3) := by decide +kernel
theorem d_M_letters_57 : decode b_M_letters 57 = .ok (.iconst 1, 1) := by decide +kernel
theorem d_M_letters_58 : decode b_M_letters 58 = .ok (.goto (4), 3) := by decide +kernel
theorem d_M_letters_61 : decode b_M_letters 61 = .ok (.iconst 0, 1) := by decide +kernel
theorem d_M_letters_62 : decode b_M_letters 62 = .ok (.istore 6, 2) := by decide +kernel
theorem d_M_letters_64 : decode b_M_letters 64 = .ok (.iload_n 3, 1) := by decide +kernel
theorem d_M_letters_65 : decode b_M_letters 65 = .ok (.iload 8, 2) := by decide +kernel
theorem d_M_letters_67 : decode b_M_letters 67 = .ok (.ifCond .le (7), 3) := by decide +kernel
theorem d_M_letters_70 : decode b_M_letters 70 = .ok (.iconst 1, 1) := by decide +kernel
theorem d_M_letters_71 : decode b_M_letters 71 = .ok (.goto (4), 3) := by decide +kernel
theorem d_M_letters_74 : decode b_M_letters 74 = .ok (.iconst 0, 1) := by decide +kernel
theorem d_M_letters_75 : decode b_M_letters 75 = .ok (.iadd, 1) := by decide +kernel
theorem d_M_letters_76 : decode b_M_letters 76 = .ok (.istore_n 3, 1) := by decide +kernel
theorem d_M_letters_77 : decode b_M_letters 77 = .ok (.iinc 7 (1), 3) := by decide +kernel
theorem d_M_letters_80 : decode b_M_letters 80 = .ok (.goto (-69), 3) := by decide +kernel
theorem d_M_letters_83 : decode b_M_letters 83 = .ok (.iload 6, 2) := by decide +kernel
theorem d_M_letters_85 : decode b_M_letters 85 = .ok (.ifCond .ne (6), 3) := by decide +kernel
theorem d_M_letters_88 : decode b_M_letters 88 = .ok (.bipush (-102), 2) := by decide +kernel
theorem d_M_letters_90 : decode b_M_letters 90 = .ok (.ireturn, 1) := by decide +kernel
theorem d_M_letters_91 : decode b_M_letters 91 = .ok (.aload_n 0, 1) := by decide +kernel
theorem d_M_letters_92 : decode b_M_letters 92 = .ok (.getfield 178, 3) := by decide +kernel
theorem d_M_letters_95 : decode b_M_letters 95 = .ok (.iload_n 3, 1) := by decide +kernel
theorem d_M_letters_96 : decode b_M_letters 96 = .ok (.iadd, 1) := by decide +kernel
theorem d_M_letters_97 : decode b_M_letters 97 = .ok (.bipush (80), 2) := by decide +kernel
theorem d_M_letters_99 : decode b_M_letters 99 = .ok (.if_icmp .le (6), 3) := by decide +kernel
theorem d_M_letters_102 : decode b_M_letters 102 = .ok (.bipush (-104), 2) := by decide +kernel
theorem d_M_letters_104 : decode b_M_letters 104 = .ok (.ireturn, 1) := by decide +kernel
theorem d_M_letters_105 : decode b_M_letters 105 = .ok (.iconst 0, 1) := by decide +kernel
theorem d_M_letters_106 : decode b_M_letters 106 = .ok (.istore 7, 2) := by decide +kernel
theorem d_M_letters_108 : decode b_M_letters 108 = .ok (.iload 7, 2) := by decide +kernel
theorem d_M_letters_110 : decode b_M_letters 110 = .ok (.iload_n 3, 1) := by decide +kernel
theorem d_M_letters_111 : decode b_M_letters 111 = .ok (.if_icmp .ge (40), 3) := by decide +kernel
theorem d_M_letters_114 : decode b_M_letters 114 = .ok (.aload_n 0, 1) := by decide +kernel
theorem d_M_letters_115 : decode b_M_letters 115 = .ok (.getfield 31, 3) := by decide +kernel
theorem d_M_letters_118 : decode b_M_letters 118 = .ok (.aload_n 0, 1) := by decide +kernel
theorem d_M_letters_119 : decode b_M_letters 119 = .ok (.getfield 178, 3) := by decide +kernel
theorem d_M_letters_122 : decode b_M_letters 122 = .ok (.lload_n 1, 1) := by decide +kernel
theorem d_M_letters_123 : decode b_M_letters 123 = .ok (.bipush (8), 2) := by decide +kernel
theorem d_M_letters_125 : decode b_M_letters 125 = .ok (.iload 7, 2) := by decide +kernel
theorem d_M_letters_127 : decode b_M_letters 127 = .ok (.imul, 1) := by decide +kernel
theorem d_M_letters_128 : decode b_M_letters 128 = .ok (.lushr, 1) := by decide +kernel
theorem d_M_letters_129 : decode b_M_letters 129 = .ok (.ldc2_w 176, 3) := by decide +kernel
theorem d_M_letters_132 : decode b_M_letters 132 = .ok (.land, 1) := by decide +kernel
theorem d_M_letters_133 : decode b_M_letters 133 = .ok (.l2i, 1) := by decide +kernel
theorem d_M_letters_134 : decode b_M_letters 134 = .ok (.iastore, 1) := by decide +kernel
theorem d_M_letters_135 : decode b_M_letters 135 = .ok (.aload_n 0, 1) := by decide +kernel
theorem d_M_letters_136 : decode b_M_letters 136 = .ok (.dup, 1) := by decide +kernel
theorem d_M_letters_137 : decode b_M_letters 137 = .ok (.getfield 178, 3) := by decide +kernel
theorem d_M_letters_140 : decode b_M_letters 140 = .ok (.iconst 1, 1) := by decide +kernel
theorem d_M_letters_141 : decode b_M_letters 141 = .ok (.iadd, 1) := by decide +kernel
theorem d_M_letters_142 : decode b_M_letters 142 = .ok (.putfield 178, 3) := by decide +kernel
theorem d_M_letters_145 : decode b_M_letters 145 = .ok (.iinc 7 (1), 3) := by decide +kernel
theorem d_M_letters_148 : decode b_M_letters 148 = .ok (.goto (-40), 3) := by decide +kernel
theorem d_M_letters_151 : decode b_M_letters 151 = .ok (.aload_n 0, 1) := by decide +kernel
theorem d_M_letters_152 : decode b_M_letters 152 = .ok (.getfield 178, 3) := by decide +kernel
theorem d_M_letters_155 : decode b_M_letters 155 = .ok (.ireturn, 1) := by decide +kernel
def F_M_letters_108_B (rec108 : Nat → Int64 → Int32 → Int32 → AW → Option (Int32 × AW)) (a0 : Nat) (x1 : Int64) (x3 : Int32) (x7 : Int32) (w : AW) : Option (Int32 × AW) :=
  if x3 ≤ x7 then
    gd (wk w a0 == 13) <|
    some ((wi w a0 9), w)
  else
    gd (wk w a0 == 13) <|
    gd (wk w (wr w a0 8) == 100) <|
    gd (inb (wi w a0 9) (wn w (wr w a0 8))) <|
    let w5 : AW := upI w (wr w a0 8) (Int32.toNatClampNeg (wi w a0 9)) (Int64.toInt32 ((lshr6 x1 ((8 : Int32) * x7)) &&& (255 : Int64)))
    let w6 : AW := upI w5 a0 9 ((wi w5 a0 9) + (1 : Int32))
    let v7 : Int32 := (x7 + (1 : Int32))
    rec108 a0 x1 x3 v7 w6
theorem P_M_letters_108_B {X : AX} {l : Launch} {G : AG} {rec108 : Nat → Int64 → Int32 → Int32 → AW → Option (Int32 × AW)} (hX : XOK X b_M_letters "RedSkyModel" 9) (hM : XM X l G { frames := 0, cells := 0, slots := 0, locals := 0 }) {o : Int32 × AW} (hR : XR X (some .int) 0 0 (some (vi o.1)) o.2) (hrec108 : ∀ (a0 : Nat) (x1 : Int64) (x3 : Int32) (x7 : Int32) (w : AW), rec108 a0 x1 x3 x7 w = some o → RJ X 9 0 0 108 [(0, vr a0), (1, vl x1), (3, vi x3), (7, vi x7)] [] w) (a0 : Nat) (x1 : Int64) (x3 : Int32) (x7 : Int32) (w : AW) (h : F_M_letters_108_B rec108 a0 x1 x3 x7 w = some o) : RJ X 9 0 0 108 [(0, vr a0), (1, vl x1), (3, vi x3), (7, vi x7)] [] w := by
  unfold F_M_letters_108_B at h
  refine r_iload (i := 7) hX d_M_letters_108 3  rfl ?_
  refine r_iload_n (i := 3) hX d_M_letters_110 2 rfl rfl ?_
  refine r_icmp_ge hX d_M_letters_111 rfl h (fun h => ?_) (fun h => ?_)
  · refine r_aload_n (i := 0) hX d_M_letters_151 0 rfl rfl ?_
    obtain ⟨hk1, h⟩ := gd_e h
    refine r_getI (i := 12) (f := 9) hX ci_12 (by decide) rfl fl_M_178 hk1 d_M_letters_152 ?_
    cases h; exact r_iret hX hR d_M_letters_155
  · refine r_aload_n (i := 0) hX d_M_letters_114 0 rfl rfl ?_
    obtain ⟨hk2, h⟩ := gd_e h
    refine r_getR (i := 12) (f := 8) hX ci_12 (by decide) rfl fl_M_31 hk2 d_M_letters_115 ?_
    refine r_aload_n (i := 0) hX d_M_letters_118 0 rfl rfl ?_
    refine r_getI (i := 12) (f := 9) hX ci_12 (by decide) rfl fl_M_178 hk2 d_M_letters_119 ?_
    refine r_lload_n (i := 1) hX d_M_letters_122 1 rfl rfl ?_
    refine r_bipush (v := (8 : Int32)) hX d_M_letters_123 rfl ?_
    refine r_iload (i := 7) hX d_M_letters_125 3  rfl ?_
    refine r_imul hX d_M_letters_127 ?_
    refine r_lushr hX d_M_letters_128 ?_
    refine r_ldc2 hX d_M_letters_129 cw_M_176 ?_
    refine r_land hX d_M_letters_132 ?_
    refine r_l2i hX d_M_letters_133 ?_
    obtain ⟨hk3, h⟩ := gd_e h
    obtain ⟨hg4, h⟩ := gd_e h
    refine r_iast hX hk3 hg4 d_M_letters_134 ?_
    refine r_aload_n (i := 0) hX d_M_letters_135 0 rfl rfl ?_
    refine r_dup hX d_M_letters_136 rfl ?_
    refine r_getI (i := 12) (f := 9) hX ci_12 (by decide) rfl fl_M_178 (kI hk2) d_M_letters_137 ?_
    refine r_iconst (v := (1 : Int32)) hX d_M_letters_140 rfl ?_
    refine r_iadd hX d_M_letters_141 ?_
    refine r_putI (i := 12) (f := 9) hX ci_12 (by decide) rfl rfl (fun G => rfl) (fun G => rfl) fl_M_178 (kI hk2) d_M_letters_142 ?_
    refine r_iinc (i := 7) (v := (1 : Int32)) hX d_M_letters_145 3 rfl rfl (by decide) ?_
    refine r_goto hX d_M_letters_148 rfl ?_
    exact rj_sub [1, 2, 3, 0] rfl (hrec108 _ _ _ _ _ h)
def F_M_letters_108 : Nat → Nat → Int64 → Int32 → Int32 → AW → Option (Int32 × AW)
  | 0 => fun _ _ _ _ _ => none
  | n + 1 => fun a0 x1 x3 x7 w => F_M_letters_108_B (F_M_letters_108 n) a0 x1 x3 x7 w
theorem P_M_letters_108 {X : AX} {l : Launch} {G : AG} (hX : XOK X b_M_letters "RedSkyModel" 9) (hM : XM X l G { frames := 0, cells := 0, slots := 0, locals := 0 }) {o : Int32 × AW} (hR : XR X (some .int) 0 0 (some (vi o.1)) o.2) (fu : Nat) : ∀ (a0 : Nat) (x1 : Int64) (x3 : Int32) (x7 : Int32) (w : AW), F_M_letters_108 fu a0 x1 x3 x7 w = some o → RJ X 9 0 0 108 [(0, vr a0), (1, vl x1), (3, vi x3), (7, vi x7)] [] w := by
  induction fu with
  | zero => intro a0 x1 x3 x7 w h; cases h
  | succ n9 ih => intro a0 x1 x3 x7 w h; exact P_M_letters_108_B hX hM hR ih _ _ _ _ _ h
def F_M_letters_62 (rec11 : Nat → Int64 → Int32 → Int64 → Int32 → Int32 → AW → Option (Int32 × AW)) (a0 : Nat) (x1 : Int64) (x3 : Int32) (x4 : Int64) (x7 : Int32) (x8 : Int32) (s0 : Int32) (w : AW) : Option (Int32 × AW) :=
  if x8 ≤ 0 then
    let v1 : Int32 := (x3 + (0 : Int32))
    let v2 : Int32 := (x7 + (1 : Int32))
    rec11 a0 x1 v1 x4 s0 v2 w
  else
    let v3 : Int32 := (x3 + (1 : Int32))
    let v4 : Int32 := (x7 + (1 : Int32))
    rec11 a0 x1 v3 x4 s0 v4 w
theorem P_M_letters_62 {X : AX} {l : Launch} {G : AG} {rec11 : Nat → Int64 → Int32 → Int64 → Int32 → Int32 → AW → Option (Int32 × AW)} (hX : XOK X b_M_letters "RedSkyModel" 9) (hM : XM X l G { frames := 0, cells := 0, slots := 0, locals := 0 }) {o : Int32 × AW} (hR : XR X (some .int) 0 0 (some (vi o.1)) o.2) (hrec11 : ∀ (a0 : Nat) (x1 : Int64) (x3 : Int32) (x4 : Int64) (x6 : Int32) (x7 : Int32) (w : AW), rec11 a0 x1 x3 x4 x6 x7 w = some o → RJ X 9 0 0 11 [(0, vr a0), (1, vl x1), (3, vi x3), (4, vl x4), (6, vi x6), (7, vi x7)] [] w) (a0 : Nat) (x1 : Int64) (x3 : Int32) (x4 : Int64) (x7 : Int32) (x8 : Int32) (s0 : Int32) (w : AW) (h : F_M_letters_62 rec11 a0 x1 x3 x4 x7 x8 s0 w = some o) : RJ X 9 0 0 62 [(0, vr a0), (1, vl x1), (3, vi x3), (4, vl x4), (7, vi x7), (8, vi x8)] [vi s0] w := by
  unfold F_M_letters_62 at h
  refine r_istore (i := 6) hX d_M_letters_62  (by decide) ?_
  refine r_iload_n (i := 3) hX d_M_letters_64 3 rfl rfl ?_
  refine r_iload (i := 8) hX d_M_letters_65 6  rfl ?_
  refine r_if_le hX d_M_letters_67 rfl h (fun h => ?_) (fun h => ?_)
  · refine r_iconst (v := (0 : Int32)) hX d_M_letters_74 rfl ?_
    refine r_iadd hX d_M_letters_75 ?_
    refine r_istore_n (i := 3) hX d_M_letters_76 rfl (by decide) ?_
    refine r_iinc (i := 7) (v := (1 : Int32)) hX d_M_letters_77 5 rfl rfl (by decide) ?_
    refine r_goto hX d_M_letters_80 rfl ?_
    exact rj_sub [3, 4, 1, 5, 2, 0] rfl (hrec11 _ _ _ _ _ _ _ h)
  · refine r_iconst (v := (1 : Int32)) hX d_M_letters_70 rfl ?_
    refine r_goto hX d_M_letters_71 rfl ?_
    refine r_iadd hX d_M_letters_75 ?_
    refine r_istore_n (i := 3) hX d_M_letters_76 rfl (by decide) ?_
    refine r_iinc (i := 7) (v := (1 : Int32)) hX d_M_letters_77 5 rfl rfl (by decide) ?_
    refine r_goto hX d_M_letters_80 rfl ?_
    exact rj_sub [3, 4, 1, 5, 2, 0] rfl (hrec11 _ _ _ _ _ _ _ h)
def F_M_letters_11_B (rec11 : Nat → Int64 → Int32 → Int64 → Int32 → Int32 → AW → Option (Int32 × AW)) (a0 : Nat) (x1 : Int64) (x3 : Int32) (x4 : Int64) (x6 : Int32) (x7 : Int32) (w : AW) : Option (Int32 × AW) :=
  if (8 : Int32) ≤ x7 then
    if x6 = 0 then
      some ((-102 : Int32), w)
    else
      gd (wk w a0 == 13) <|
      if ((wi w a0 9) + x3) ≤ (80 : Int32) then
        F_M_letters_108 FUEL a0 x1 x3 (0 : Int32) w
      else
        some ((-104 : Int32), w)
  else
    let v2 : Int32 := (Int64.toInt32 (x4 &&& (255 : Int64)))
    let v3 : Int64 := (lshr6 x4 (8 : Int32))
    if x6 = 0 then
      F_M_letters_62 rec11 a0 x1 x3 v3 x7 v2 (0 : Int32) w
    else
      if (126 : Int32) < v2 then
        F_M_letters_62 rec11 a0 x1 x3 v3 x7 v2 (0 : Int32) w
      else
        if v2 = 0 then
          F_M_letters_62 rec11 a0 x1 x3 v3 x7 v2 (1 : Int32) w
        else
          if x3 = x7 then
            F_M_letters_62 rec11 a0 x1 x3 v3 x7 v2 (1 : Int32) w
          else
            F_M_letters_62 rec11 a0 x1 x3 v3 x7 v2 (0 : Int32) w
theorem P_M_letters_11_B {X : AX} {l : Launch} {G : AG} {rec11 : Nat → Int64 → Int32 → Int64 → Int32 → Int32 → AW → Option (Int32 × AW)} (hX : XOK X b_M_letters "RedSkyModel" 9) (hM : XM X l G { frames := 0, cells := 0, slots := 0, locals := 0 }) {o : Int32 × AW} (hR : XR X (some .int) 0 0 (some (vi o.1)) o.2) (hrec11 : ∀ (a0 : Nat) (x1 : Int64) (x3 : Int32) (x4 : Int64) (x6 : Int32) (x7 : Int32) (w : AW), rec11 a0 x1 x3 x4 x6 x7 w = some o → RJ X 9 0 0 11 [(0, vr a0), (1, vl x1), (3, vi x3), (4, vl x4), (6, vi x6), (7, vi x7)] [] w) (a0 : Nat) (x1 : Int64) (x3 : Int32) (x4 : Int64) (x6 : Int32) (x7 : Int32) (w : AW) (h : F_M_letters_11_B rec11 a0 x1 x3 x4 x6 x7 w = some o) : RJ X 9 0 0 11 [(0, vr a0), (1, vl x1), (3, vi x3), (4, vl x4), (6, vi x6), (7, vi x7)] [] w := by
  unfold F_M_letters_11_B at h
  refine r_iload (i := 7) hX d_M_letters_11 5  rfl ?_
  refine r_bipush (v := (8 : Int32)) hX d_M_letters_13 rfl ?_
  refine r_icmp_ge hX d_M_letters_15 rfl h (fun h => ?_) (fun h => ?_)
  · refine r_iload (i := 6) hX d_M_letters_83 4  rfl ?_
    refine r_if_ne hX d_M_letters_85 rfl h (fun h => ?_) (fun h => ?_)
    · refine r_aload_n (i := 0) hX d_M_letters_91 0 rfl rfl ?_
      obtain ⟨hk1, h⟩ := gd_e h
      refine r_getI (i := 12) (f := 9) hX ci_12 (by decide) rfl fl_M_178 hk1 d_M_letters_92 ?_
      refine r_iload_n (i := 3) hX d_M_letters_95 2 rfl rfl ?_
      refine r_iadd hX d_M_letters_96 ?_
      refine r_bipush (v := (80 : Int32)) hX d_M_letters_97 rfl ?_
      refine r_icmp_le hX d_M_letters_99 rfl h (fun h => ?_) (fun h => ?_)
      · refine r_iconst (v := (0 : Int32)) hX d_M_letters_105 rfl ?_
        refine r_istore (i := 7) hX d_M_letters_106  (by decide) ?_
        exact rj_sub [1, 2, 3, 0] rfl (P_M_letters_108 hX hM hR FUEL _ _ _ _ _ h)
      · refine r_bipush (v := (-104 : Int32)) hX d_M_letters_102 rfl ?_
        cases h; exact r_iret hX hR d_M_letters_104
    · refine r_bipush (v := (-102 : Int32)) hX d_M_letters_88 rfl ?_
      cases h; exact r_iret hX hR d_M_letters_90
  · refine r_lload (i := 4) hX d_M_letters_18 3  rfl ?_
    refine r_ldc2 hX d_M_letters_20 cw_M_176 ?_
    refine r_land hX d_M_letters_23 ?_
    refine r_l2i hX d_M_letters_24 ?_
    refine r_istore (i := 8) hX d_M_letters_25  (by decide) ?_
    refine r_lload (i := 4) hX d_M_letters_27 4  rfl ?_
    refine r_bipush (v := (8 : Int32)) hX d_M_letters_29 rfl ?_
    refine r_lushr hX d_M_letters_31 ?_
    refine r_lstore (i := 4) hX d_M_letters_32  (by decide) ?_
    refine r_iload (i := 6) hX d_M_letters_34 5  rfl ?_
    refine r_if_eq hX d_M_letters_36 rfl h (fun h => ?_) (fun h => ?_)
    · refine r_iconst (v := (0 : Int32)) hX d_M_letters_61 rfl ?_
      exact rj_sub [2, 3, 4, 0, 6, 1] rfl (P_M_letters_62 hX hM hR hrec11 _ _ _ _ _ _ _ _ h)
    · refine r_iload (i := 8) hX d_M_letters_39 1  rfl ?_
      refine r_bipush (v := (126 : Int32)) hX d_M_letters_41 rfl ?_
      refine r_icmp_gt hX d_M_letters_43 rfl h (fun h => ?_) (fun h => ?_)
      · refine r_iconst (v := (0 : Int32)) hX d_M_letters_61 rfl ?_
        exact rj_sub [2, 3, 4, 0, 6, 1] rfl (P_M_letters_62 hX hM hR hrec11 _ _ _ _ _ _ _ _ h)
      · refine r_iload (i := 8) hX d_M_letters_46 1  rfl ?_
        refine r_if_eq hX d_M_letters_48 rfl h (fun h => ?_) (fun h => ?_)
        · refine r_iconst (v := (1 : Int32)) hX d_M_letters_57 rfl ?_
          refine r_goto hX d_M_letters_58 rfl ?_
          exact rj_sub [2, 3, 4, 0, 6, 1] rfl (P_M_letters_62 hX hM hR hrec11 _ _ _ _ _ _ _ _ h)
        · refine r_iload_n (i := 3) hX d_M_letters_51 4 rfl rfl ?_
          refine r_iload (i := 7) hX d_M_letters_52 6  rfl ?_
          refine r_icmp_ne hX d_M_letters_54 rfl h (fun h => ?_) (fun h => ?_)
          · refine r_iconst (v := (0 : Int32)) hX d_M_letters_61 rfl ?_
            exact rj_sub [2, 3, 4, 0, 6, 1] rfl (P_M_letters_62 hX hM hR hrec11 _ _ _ _ _ _ _ _ h)
          · refine r_iconst (v := (1 : Int32)) hX d_M_letters_57 rfl ?_
            refine r_goto hX d_M_letters_58 rfl ?_
            exact rj_sub [2, 3, 4, 0, 6, 1] rfl (P_M_letters_62 hX hM hR hrec11 _ _ _ _ _ _ _ _ h)
def F_M_letters_11 : Nat → Nat → Int64 → Int32 → Int64 → Int32 → Int32 → AW → Option (Int32 × AW)
  | 0 => fun _ _ _ _ _ _ _ => none
  | n + 1 => fun a0 x1 x3 x4 x6 x7 w => F_M_letters_11_B (F_M_letters_11 n) a0 x1 x3 x4 x6 x7 w
theorem P_M_letters_11 {X : AX} {l : Launch} {G : AG} (hX : XOK X b_M_letters "RedSkyModel" 9) (hM : XM X l G { frames := 0, cells := 0, slots := 0, locals := 0 }) {o : Int32 × AW} (hR : XR X (some .int) 0 0 (some (vi o.1)) o.2) (fu : Nat) : ∀ (a0 : Nat) (x1 : Int64) (x3 : Int32) (x4 : Int64) (x6 : Int32) (x7 : Int32) (w : AW), F_M_letters_11 fu a0 x1 x3 x4 x6 x7 w = some o → RJ X 9 0 0 11 [(0, vr a0), (1, vl x1), (3, vi x3), (4, vl x4), (6, vi x6), (7, vi x7)] [] w := by
  induction fu with
  | zero => intro a0 x1 x3 x4 x6 x7 w h; cases h
  | succ n9 ih => intro a0 x1 x3 x4 x6 x7 w h; exact P_M_letters_11_B hX hM hR ih _ _ _ _ _ _ _ h
def F_M_letters (a0 : Nat) (x1 : Int64) (w : AW) : Option (Int32 × AW) :=
  F_M_letters_11 FUEL a0 x1 (0 : Int32) x1 (1 : Int32) (0 : Int32) w
theorem P_M_letters_0 {X : AX} {l : Launch} {G : AG} (hX : XOK X b_M_letters "RedSkyModel" 9) (hM : XM X l G { frames := 0, cells := 0, slots := 0, locals := 0 }) {o : Int32 × AW} (hR : XR X (some .int) 0 0 (some (vi o.1)) o.2) (a0 : Nat) (x1 : Int64) (w : AW) (h : F_M_letters a0 x1 w = some o) : RJ X 9 0 0 0 [(0, vr a0), (1, vl x1)] [] w := by
  unfold F_M_letters at h
  refine r_iconst (v := (0 : Int32)) hX d_M_letters_0 rfl ?_
  refine r_istore_n (i := 3) hX d_M_letters_1 rfl (by decide) ?_
  refine r_lload_n (i := 1) hX d_M_letters_2 2 rfl rfl ?_
  refine r_lstore (i := 4) hX d_M_letters_3  (by decide) ?_
  refine r_iconst (v := (1 : Int32)) hX d_M_letters_5 rfl ?_
  refine r_istore (i := 6) hX d_M_letters_6  (by decide) ?_
  refine r_iconst (v := (0 : Int32)) hX d_M_letters_8 rfl ?_
  refine r_istore (i := 7) hX d_M_letters_9  (by decide) ?_
  exact rj_sub [4, 5, 3, 2, 1, 0] rfl (P_M_letters_11 hX hM hR FUEL _ _ _ _ _ _ _ h)
theorem T_M_letters {l : Launch} {G : AG} (a0 : Nat) (x1 : Int64) (w : AW) {o : Int32 × AW} (h : F_M_letters a0 x1 w = some o) : Mt l G y_M_letters b_M_letters 9 (some (.int)) 0 0 0 0 [vr a0, vl x1] w (some (vi o.1)) o.2 := mt_of (by decide) (Nat.le_of_ble_eq_true rfl) (fun X hX hR hM hI => P_M_letters_0 hX hM hR _ _ _ h)
/-! RedSky.blank()I -/
theorem d_A_blank_0 : decode b_A_blank 0 = .ok (.aload_n 0, 1) := by decide +kernel
theorem d_A_blank_1 : decode b_A_blank 1 = .ok (.getfield 25, 3) := by decide +kernel
theorem d_A_blank_4 : decode b_A_blank 4 = .ok (.getfield 178, 3) := by decide +kernel
theorem d_A_blank_7 : decode b_A_blank 7 = .ok (.istore_n 1, 1) := by decide +kernel
theorem d_A_blank_8 : decode b_A_blank 8 = .ok (.aload_n 0, 1) := by decide +kernel
theorem d_A_blank_9 : decode b_A_blank 9 = .ok (.getfield 25, 3) := by decide +kernel
theorem d_A_blank_12 : decode b_A_blank 12 = .ok (.iconst 0, 1) := by decide +kernel
theorem d_A_blank_13 : decode b_A_blank 13 = .ok (.putfield 178, 3) := by decide +kernel
theorem d_A_blank_16 : decode b_A_blank 16 = .ok (.iload_n 1, 1) := by decide +kernel
theorem d_A_blank_17 : decode b_A_blank 17 = .ok (.ireturn, 1) := by decide +kernel
def F_A_blank (a0 : Nat) (w : AW) : Option (Int32 × AW) :=
  gd (wk w a0 == 1) <|
  gd (wk w (wr w a0 2) == 4) <|
  let v3 : Int32 := (wi w (wr w a0 2) 0)
  let w4 : AW := upI w (wr w a0 2) 0 (0 : Int32)
  some (v3, w4)
theorem P_A_blank_0 {X : AX} {l : Launch} {G : AG} (hX : XOK X b_A_blank "RedSky" 2) (hM : XM X l G { frames := 0, cells := 0, slots := 0, locals := 0 }) {o : Int32 × AW} (hR : XR X (some .int) 0 0 (some (vi o.1)) o.2) (a0 : Nat) (w : AW) (h : F_A_blank a0 w = some o) : RJ X 2 0 0 0 [(0, vr a0)] [] w := by
  unfold F_A_blank at h
  refine r_aload_n (i := 0) hX d_A_blank_0 0 rfl rfl ?_
  obtain ⟨hk1, h⟩ := gd_e h
  refine r_getR (i := 0) (f := 2) hX ci_0 (by decide) rfl fl_A_25 hk1 d_A_blank_1 ?_
  obtain ⟨hk2, h⟩ := gd_e h
  refine r_getI (i := 3) (f := 0) hX ci_3 (by decide) rfl fl_A_178 hk2 d_A_blank_4 ?_
  refine r_istore_n (i := 1) hX d_A_blank_7 rfl (by decide) ?_
  refine r_aload_n (i := 0) hX d_A_blank_8 1 rfl rfl ?_
  refine r_getR (i := 0) (f := 2) hX ci_0 (by decide) rfl fl_A_25 hk1 d_A_blank_9 ?_
  refine r_iconst (v := (0 : Int32)) hX d_A_blank_12 rfl ?_
  refine r_putI (i := 3) (f := 0) hX ci_3 (by decide) rfl rfl (fun G => rfl) (fun G => rfl) fl_A_178 hk2 d_A_blank_13 ?_
  refine r_iload_n (i := 1) hX d_A_blank_16 0 rfl rfl ?_
  cases h; exact r_iret hX hR d_A_blank_17
theorem T_A_blank {l : Launch} {G : AG} (a0 : Nat) (w : AW) {o : Int32 × AW} (h : F_A_blank a0 w = some o) : Mt l G y_A_blank b_A_blank 2 (some (.int)) 0 0 0 0 [vr a0] w (some (vi o.1)) o.2 := mt_of (by decide) (Nat.le_of_ble_eq_true rfl) (fun X hX hR hM hI => P_A_blank_0 hX hM hR _ _ h)
/-! RedSkyModel.blank()I -/
theorem d_M_blank_0 : decode b_M_blank 0 = .ok (.aload_n 0, 1) := by decide +kernel
theorem d_M_blank_1 : decode b_M_blank 1 = .ok (.getfield 178, 3) := by decide +kernel
theorem d_M_blank_4 : decode b_M_blank 4 = .ok (.istore_n 1, 1) := by decide +kernel
theorem d_M_blank_5 : decode b_M_blank 5 = .ok (.aload_n 0, 1) := by decide +kernel
theorem d_M_blank_6 : decode b_M_blank 6 = .ok (.iconst 0, 1) := by decide +kernel
theorem d_M_blank_7 : decode b_M_blank 7 = .ok (.putfield 178, 3) := by decide +kernel
theorem d_M_blank_10 : decode b_M_blank 10 = .ok (.iload_n 1, 1) := by decide +kernel
theorem d_M_blank_11 : decode b_M_blank 11 = .ok (.ireturn, 1) := by decide +kernel
def F_M_blank (a0 : Nat) (w : AW) : Option (Int32 × AW) :=
  gd (wk w a0 == 13) <|
  let v2 : Int32 := (wi w a0 9)
  let w3 : AW := upI w a0 9 (0 : Int32)
  some (v2, w3)
theorem P_M_blank_0 {X : AX} {l : Launch} {G : AG} (hX : XOK X b_M_blank "RedSkyModel" 2) (hM : XM X l G { frames := 0, cells := 0, slots := 0, locals := 0 }) {o : Int32 × AW} (hR : XR X (some .int) 0 0 (some (vi o.1)) o.2) (a0 : Nat) (w : AW) (h : F_M_blank a0 w = some o) : RJ X 2 0 0 0 [(0, vr a0)] [] w := by
  unfold F_M_blank at h
  refine r_aload_n (i := 0) hX d_M_blank_0 0 rfl rfl ?_
  obtain ⟨hk1, h⟩ := gd_e h
  refine r_getI (i := 12) (f := 9) hX ci_12 (by decide) rfl fl_M_178 hk1 d_M_blank_1 ?_
  refine r_istore_n (i := 1) hX d_M_blank_4 rfl (by decide) ?_
  refine r_aload_n (i := 0) hX d_M_blank_5 1 rfl rfl ?_
  refine r_iconst (v := (0 : Int32)) hX d_M_blank_6 rfl ?_
  refine r_putI (i := 12) (f := 9) hX ci_12 (by decide) rfl rfl (fun G => rfl) (fun G => rfl) fl_M_178 hk1 d_M_blank_7 ?_
  refine r_iload_n (i := 1) hX d_M_blank_10 0 rfl rfl ?_
  cases h; exact r_iret hX hR d_M_blank_11
theorem T_M_blank {l : Launch} {G : AG} (a0 : Nat) (w : AW) {o : Int32 × AW} (h : F_M_blank a0 w = some o) : Mt l G y_M_blank b_M_blank 2 (some (.int)) 0 0 0 0 [vr a0] w (some (vi o.1)) o.2 := mt_of (by decide) (Nat.le_of_ble_eq_true rfl) (fun X hX hR hM hI => P_M_blank_0 hX hM hR _ _ h)
/-! RedSky$Condition.clear()V -/
theorem d_Co_clear_0 : decode b_Co_clear 0 = .ok (.aload_n 0, 1) := by decide +kernel
theorem d_Co_clear_1 : decode b_Co_clear 1 = .ok (.iconst 0, 1) := by decide +kernel
theorem d_Co_clear_2 : decode b_Co_clear 2 = .ok (.putfield 19, 3) := by decide +kernel
theorem d_Co_clear_5 : decode b_Co_clear 5 = .ok (.aload_n 0, 1) := by decide +kernel
theorem d_Co_clear_6 : decode b_Co_clear 6 = .ok (.iconst 0, 1) := by decide +kernel
theorem d_Co_clear_7 : decode b_Co_clear 7 = .ok (.putfield 23, 3) := by decide +kernel
theorem d_Co_clear_10 : decode b_Co_clear 10 = .ok (.aload_n 0, 1) := by decide +kernel
theorem d_Co_clear_11 : decode b_Co_clear 11 = .ok (.iconst 0, 1) := by decide +kernel
theorem d_Co_clear_12 : decode b_Co_clear 12 = .ok (.putfield 26, 3) := by decide +kernel
theorem d_Co_clear_15 : decode b_Co_clear 15 = .ok (.aload_n 0, 1) := by decide +kernel
theorem d_Co_clear_16 : decode b_Co_clear 16 = .ok (.iconst 0, 1) := by decide +kernel
theorem d_Co_clear_17 : decode b_Co_clear 17 = .ok (.putfield 29, 3) := by decide +kernel
theorem d_Co_clear_20 : decode b_Co_clear 20 = .ok (.return_, 1) := by decide +kernel
def F_Co_clear (a0 : Nat) (w : AW) : Option (AW) :=
  gd (wk w a0 == 6) <|
  let w2 : AW := upI w a0 2 (0 : Int32)
  let w3 : AW := upI w2 a0 3 (0 : Int32)
  let w4 : AW := upI w3 a0 4 (0 : Int32)
  let w5 : AW := upI w4 a0 5 (0 : Int32)
  some w5
theorem P_Co_clear_0 {X : AX} {l : Launch} {G : AG} (hX : XOK X b_Co_clear "RedSky$Condition" 1) (hM : XM X l G { frames := 0, cells := 0, slots := 0, locals := 0 }) {o : AW} (hR : XR X none 0 0 none o) (a0 : Nat) (w : AW) (h : F_Co_clear a0 w = some o) : RJ X 1 0 0 0 [(0, vr a0)] [] w := by
  unfold F_Co_clear at h
  refine r_aload_n (i := 0) hX d_Co_clear_0 0 rfl rfl ?_
  refine r_iconst (v := (0 : Int32)) hX d_Co_clear_1 rfl ?_
  obtain ⟨hk1, h⟩ := gd_e h
  refine r_putI (i := 5) (f := 2) hX ci_5 (by decide) rfl rfl (fun G => rfl) (fun G => rfl) fl_Co_19 hk1 d_Co_clear_2 ?_
  refine r_aload_n (i := 0) hX d_Co_clear_5 0 rfl rfl ?_
  refine r_iconst (v := (0 : Int32)) hX d_Co_clear_6 rfl ?_
  refine r_putI (i := 5) (f := 3) hX ci_5 (by decide) rfl rfl (fun G => rfl) (fun G => rfl) fl_Co_23 (kI hk1) d_Co_clear_7 ?_
  refine r_aload_n (i := 0) hX d_Co_clear_10 0 rfl rfl ?_
  refine r_iconst (v := (0 : Int32)) hX d_Co_clear_11 rfl ?_
  refine r_putI (i := 5) (f := 4) hX ci_5 (by decide) rfl rfl (fun G => rfl) (fun G => rfl) fl_Co_26 (kI (kI hk1)) d_Co_clear_12 ?_
  refine r_aload_n (i := 0) hX d_Co_clear_15 0 rfl rfl ?_
  refine r_iconst (v := (0 : Int32)) hX d_Co_clear_16 rfl ?_
  refine r_putI (i := 5) (f := 5) hX ci_5 (by decide) rfl rfl (fun G => rfl) (fun G => rfl) fl_Co_29 (kI (kI (kI hk1))) d_Co_clear_17 ?_
  cases h; exact r_vret hX hR d_Co_clear_20
theorem T_Co_clear {l : Launch} {G : AG} (a0 : Nat) (w : AW) {o : AW} (h : F_Co_clear a0 w = some o) : Mt l G y_Co_clear b_Co_clear 1 none 0 0 0 0 [vr a0] w none o := mt_of (by decide) (Nat.le_of_ble_eq_true rfl) (fun X hX hR hM hI => P_Co_clear_0 hX hM hR _ _ h)
/-! RedSky$Saying.clear()V -/
theorem d_Sa_clear_0 : decode b_Sa_clear 0 = .ok (.aload_n 0, 1) := by decide +kernel
theorem d_Sa_clear_1 : decode b_Sa_clear 1 = .ok (.getfield 12, 3) := by decide +kernel
theorem d_Sa_clear_4 : decode b_Sa_clear 4 = .ok (.invokevirtual 21, 3) := by decide +kernel
theorem d_Sa_clear_7 : decode b_Sa_clear 7 = .ok (.aload_n 0, 1) := by decide +kernel
theorem d_Sa_clear_8 : decode b_Sa_clear 8 = .ok (.getfield 18, 3) := by decide +kernel
theorem d_Sa_clear_11 : decode b_Sa_clear 11 = .ok (.invokevirtual 21, 3) := by decide +kernel
theorem d_Sa_clear_14 : decode b_Sa_clear 14 = .ok (.aload_n 0, 1) := by decide +kernel
theorem d_Sa_clear_15 : decode b_Sa_clear 15 = .ok (.iconst 0, 1) := by decide +kernel
theorem d_Sa_clear_16 : decode b_Sa_clear 16 = .ok (.putfield 24, 3) := by decide +kernel
theorem d_Sa_clear_19 : decode b_Sa_clear 19 = .ok (.aload_n 0, 1) := by decide +kernel
theorem d_Sa_clear_20 : decode b_Sa_clear 20 = .ok (.iconst 0, 1) := by decide +kernel
theorem d_Sa_clear_21 : decode b_Sa_clear 21 = .ok (.putfield 28, 3) := by decide +kernel
theorem d_Sa_clear_24 : decode b_Sa_clear 24 = .ok (.aload_n 0, 1) := by decide +kernel
theorem d_Sa_clear_25 : decode b_Sa_clear 25 = .ok (.iconst 0, 1) := by decide +kernel
theorem d_Sa_clear_26 : decode b_Sa_clear 26 = .ok (.putfield 31, 3) := by decide +kernel
theorem d_Sa_clear_29 : decode b_Sa_clear 29 = .ok (.aload_n 0, 1) := by decide +kernel
theorem d_Sa_clear_30 : decode b_Sa_clear 30 = .ok (.iconst (-1), 1) := by decide +kernel
theorem d_Sa_clear_31 : decode b_Sa_clear 31 = .ok (.putfield 35, 3) := by decide +kernel
theorem d_Sa_clear_34 : decode b_Sa_clear 34 = .ok (.aload_n 0, 1) := by decide +kernel
theorem d_Sa_clear_35 : decode b_Sa_clear 35 = .ok (.iconst (-1), 1) := by decide +kernel
theorem d_Sa_clear_36 : decode b_Sa_clear 36 = .ok (.putfield 38, 3) := by decide +kernel
theorem d_Sa_clear_39 : decode b_Sa_clear 39 = .ok (.aload_n 0, 1) := by decide +kernel
theorem d_Sa_clear_40 : decode b_Sa_clear 40 = .ok (.iconst (-1), 1) := by decide +kernel
theorem d_Sa_clear_41 : decode b_Sa_clear 41 = .ok (.putfield 41, 3) := by decide +kernel
theorem d_Sa_clear_44 : decode b_Sa_clear 44 = .ok (.return_, 1) := by decide +kernel
def F_Sa_clear (a0 : Nat) (w : AW) : Option (AW) :=
  gd (wk w a0 == 5) <|
  gd (wk w (wr w a0 0) == 6) <|
  (F_Co_clear (wr w a0 0) w).bind fun r3 =>
  gd (wk r3 a0 == 5) <|
  gd (wk r3 (wr r3 a0 1) == 6) <|
  (F_Co_clear (wr r3 a0 1) r3).bind fun r7 =>
  gd (wk r7 a0 == 5) <|
  let w10 : AW := upI r7 a0 2 (0 : Int32)
  let w11 : AW := upI w10 a0 3 (0 : Int32)
  let w12 : AW := upI w11 a0 4 (0 : Int32)
  let w13 : AW := upI w12 a0 5 (-1 : Int32)
  let w14 : AW := upI w13 a0 6 (-1 : Int32)
  let w15 : AW := upI w14 a0 7 (-1 : Int32)
  some w15
theorem P_Sa_clear_0 {X : AX} {l : Launch} {G : AG} (hX : XOK X b_Sa_clear "RedSky$Saying" 1) (hM : XM X l G { frames := 1, cells := 0, slots := 0, locals := 20 }) {o : AW} (hR : XR X none 0 0 none o) (a0 : Nat) (w : AW) (h : F_Sa_clear a0 w = some o) : RJ X 1 0 0 0 [(0, vr a0)] [] w := by
  unfold F_Sa_clear at h
  refine r_aload_n (i := 0) hX d_Sa_clear_0 0 rfl rfl ?_
  obtain ⟨hk1, h⟩ := gd_e h
  refine r_getR (i := 4) (f := 0) hX ci_4 (by decide) rfl fl_Sa_12 hk1 d_Sa_clear_1 ?_
  obtain ⟨hk2, h⟩ := gd_e h
  obtain ⟨r3, hr4, h⟩ := bd_e h
  refine r_callV0 (As := []) hX hM mw_Sa_21 (T_Co_clear _ _ hr4) (rc_of ci_5 hk2) rfl rfl ⟨Nat.le_refl _, Nat.le_refl _⟩ rfl rfl d_Sa_clear_4 ?_
  refine r_aload_n (i := 0) hX d_Sa_clear_7 0 rfl rfl ?_
  obtain ⟨hk5, h⟩ := gd_e h
  refine r_getR (i := 4) (f := 1) hX ci_4 (by decide) rfl fl_Sa_18 hk5 d_Sa_clear_8 ?_
  obtain ⟨hk6, h⟩ := gd_e h
  obtain ⟨r7, hr8, h⟩ := bd_e h
  refine r_callV0 (As := []) hX hM mw_Sa_21 (T_Co_clear _ _ hr8) (rc_of ci_5 hk6) rfl rfl ⟨Nat.le_refl _, Nat.le_refl _⟩ rfl rfl d_Sa_clear_11 ?_
  refine r_aload_n (i := 0) hX d_Sa_clear_14 0 rfl rfl ?_
  refine r_iconst (v := (0 : Int32)) hX d_Sa_clear_15 rfl ?_
  obtain ⟨hk9, h⟩ := gd_e h
  refine r_putI (i := 4) (f := 2) hX ci_4 (by decide) rfl rfl (fun G => rfl) (fun G => rfl) fl_Sa_24 hk9 d_Sa_clear_16 ?_
  refine r_aload_n (i := 0) hX d_Sa_clear_19 0 rfl rfl ?_
  refine r_iconst (v := (0 : Int32)) hX d_Sa_clear_20 rfl ?_
  refine r_putI (i := 4) (f := 3) hX ci_4 (by decide) rfl rfl (fun G => rfl) (fun G => rfl) fl_Sa_28 (kI hk9) d_Sa_clear_21 ?_
  refine r_aload_n (i := 0) hX d_Sa_clear_24 0 rfl rfl ?_
  refine r_iconst (v := (0 : Int32)) hX d_Sa_clear_25 rfl ?_
  refine r_putI (i := 4) (f := 4) hX ci_4 (by decide) rfl rfl (fun G => rfl) (fun G => rfl) fl_Sa_31 (kI (kI hk9)) d_Sa_clear_26 ?_
  refine r_aload_n (i := 0) hX d_Sa_clear_29 0 rfl rfl ?_
  refine r_iconst (v := (-1 : Int32)) hX d_Sa_clear_30 rfl ?_
  refine r_putI (i := 4) (f := 5) hX ci_4 (by decide) rfl rfl (fun G => rfl) (fun G => rfl) fl_Sa_35 (kI (kI (kI hk9))) d_Sa_clear_31 ?_
  refine r_aload_n (i := 0) hX d_Sa_clear_34 0 rfl rfl ?_
  refine r_iconst (v := (-1 : Int32)) hX d_Sa_clear_35 rfl ?_
  refine r_putI (i := 4) (f := 6) hX ci_4 (by decide) rfl rfl (fun G => rfl) (fun G => rfl) fl_Sa_38 (kI (kI (kI (kI hk9)))) d_Sa_clear_36 ?_
  refine r_aload_n (i := 0) hX d_Sa_clear_39 0 rfl rfl ?_
  refine r_iconst (v := (-1 : Int32)) hX d_Sa_clear_40 rfl ?_
  refine r_putI (i := 4) (f := 7) hX ci_4 (by decide) rfl rfl (fun G => rfl) (fun G => rfl) fl_Sa_41 (kI (kI (kI (kI (kI hk9))))) d_Sa_clear_41 ?_
  cases h; exact r_vret hX hR d_Sa_clear_44
theorem T_Sa_clear {l : Launch} {G : AG} (a0 : Nat) (w : AW) {o : AW} (h : F_Sa_clear a0 w = some o) : Mt l G y_Sa_clear b_Sa_clear 1 none 1 20 0 0 [vr a0] w none o := mt_of (by decide) (Nat.le_of_ble_eq_true rfl) (fun X hX hR hM hI => P_Sa_clear_0 hX hM hR _ _ h)
/-! RedSky$Page.openLevel(I)Z -/
theorem d_Pg_openLevel_0 : decode b_Pg_openLevel 0 = .ok (.iload_n 1, 1) := by decide +kernel
theorem d_Pg_openLevel_1 : decode b_Pg_openLevel 1 = .ok (.ifCond .lt (9), 3) := by decide +kernel
theorem d_Pg_openLevel_4 : decode b_Pg_openLevel 4 = .ok (.iload_n 1, 1) := by decide +kernel
theorem d_Pg_openLevel_5 : decode b_Pg_openLevel 5 = .ok (.bipush (80), 2) := by decide +kernel
theorem d_Pg_openLevel_7 : decode b_Pg_openLevel 7 = .ok (.if_icmp .le (5), 3) := by decide +kernel
theorem d_Pg_openLevel_10 : decode b_Pg_openLevel 10 = .ok (.iconst 0, 1) := by decide +kernel
theorem d_Pg_openLevel_11 : decode b_Pg_openLevel 11 = .ok (.ireturn, 1) := by decide +kernel
theorem d_Pg_openLevel_12 : decode b_Pg_openLevel 12 = .ok (.aload_n 0, 1) := by decide +kernel
theorem d_Pg_openLevel_13 : decode b_Pg_openLevel 13 = .ok (.iload_n 1, 1) := by decide +kernel
theorem d_Pg_openLevel_14 : decode b_Pg_openLevel 14 = .ok (.putfield 55, 3) := by decide +kernel
theorem d_Pg_openLevel_17 : decode b_Pg_openLevel 17 = .ok (.aload_n 0, 1) := by decide +kernel
theorem d_Pg_openLevel_18 : decode b_Pg_openLevel 18 = .ok (.getfield 58, 3) := by decide +kernel
theorem d_Pg_openLevel_21 : decode b_Pg_openLevel 21 = .ok (.iload_n 1, 1) := by decide +kernel
theorem d_Pg_openLevel_22 : decode b_Pg_openLevel 22 = .ok (.iconst 0, 1) := by decide +kernel
theorem d_Pg_openLevel_23 : decode b_Pg_openLevel 23 = .ok (.iastore, 1) := by decide +kernel
theorem d_Pg_openLevel_24 : decode b_Pg_openLevel 24 = .ok (.aload_n 0, 1) := by decide +kernel
theorem d_Pg_openLevel_25 : decode b_Pg_openLevel 25 = .ok (.getfield 62, 3) := by decide +kernel
theorem d_Pg_openLevel_28 : decode b_Pg_openLevel 28 = .ok (.iload_n 1, 1) := by decide +kernel
theorem d_Pg_openLevel_29 : decode b_Pg_openLevel 29 = .ok (.iconst 0, 1) := by decide +kernel
theorem d_Pg_openLevel_30 : decode b_Pg_openLevel 30 = .ok (.iastore, 1) := by decide +kernel
theorem d_Pg_openLevel_31 : decode b_Pg_openLevel 31 = .ok (.aload_n 0, 1) := by decide +kernel
theorem d_Pg_openLevel_32 : decode b_Pg_openLevel 32 = .ok (.getfield 65, 3) := by decide +kernel
theorem d_Pg_openLevel_35 : decode b_Pg_openLevel 35 = .ok (.iload_n 1, 1) := by decide +kernel
theorem d_Pg_openLevel_36 : decode b_Pg_openLevel 36 = .ok (.iconst 0, 1) := by decide +kernel
theorem d_Pg_openLevel_37 : decode b_Pg_openLevel 37 = .ok (.iastore, 1) := by decide +kernel
theorem d_Pg_openLevel_38 : decode b_Pg_openLevel 38 = .ok (.aload_n 0, 1) := by decide +kernel
theorem d_Pg_openLevel_39 : decode b_Pg_openLevel 39 = .ok (.getfield 68, 3) := by decide +kernel
theorem d_Pg_openLevel_42 : decode b_Pg_openLevel 42 = .ok (.iload_n 1, 1) := by decide +kernel
theorem d_Pg_openLevel_43 : decode b_Pg_openLevel 43 = .ok (.iconst 0, 1) := by decide +kernel
theorem d_Pg_openLevel_44 : decode b_Pg_openLevel 44 = .ok (.iastore, 1) := by decide +kernel
theorem d_Pg_openLevel_45 : decode b_Pg_openLevel 45 = .ok (.aload_n 0, 1) := by decide +kernel
theorem d_Pg_openLevel_46 : decode b_Pg_openLevel 46 = .ok (.getfield 71, 3) := by decide +kernel
theorem d_Pg_openLevel_49 : decode b_Pg_openLevel 49 = .ok (.iload_n 1, 1) := by decide +kernel
theorem d_Pg_openLevel_50 : decode b_Pg_openLevel 50 = .ok (.iconst 0, 1) := by decide +kernel
theorem d_Pg_openLevel_51 : decode b_Pg_openLevel 51 = .ok (.iastore, 1) := by decide +kernel
theorem d_Pg_openLevel_52 : decode b_Pg_openLevel 52 = .ok (.iconst 1, 1) := by decide +kernel
theorem d_Pg_openLevel_53 : decode b_Pg_openLevel 53 = .ok (.ireturn, 1) := by decide +kernel
def F_Pg_openLevel (a0 : Nat) (x1 : Int32) (w : AW) : Option (Int32 × AW) :=
  if x1 < 0 then
    some ((0 : Int32), w)
  else
    if x1 ≤ (80 : Int32) then
      gd (wk w a0 == 4) <|
      let w2 : AW := upI w a0 11 x1
      gd (wk w2 (wr w2 a0 12) == 100) <|
      gd (inb x1 (wn w2 (wr w2 a0 12))) <|
      let w5 : AW := upI w2 (wr w2 a0 12) (Int32.toNatClampNeg x1) (0 : Int32)
      gd (wk w5 (wr w5 a0 13) == 100) <|
      gd (inb x1 (wn w5 (wr w5 a0 13))) <|
      let w8 : AW := upI w5 (wr w5 a0 13) (Int32.toNatClampNeg x1) (0 : Int32)
      gd (wk w8 (wr w8 a0 14) == 100) <|
      gd (inb x1 (wn w8 (wr w8 a0 14))) <|
      let w11 : AW := upI w8 (wr w8 a0 14) (Int32.toNatClampNeg x1) (0 : Int32)
      gd (wk w11 (wr w11 a0 15) == 100) <|
      gd (inb x1 (wn w11 (wr w11 a0 15))) <|
      let w14 : AW := upI w11 (wr w11 a0 15) (Int32.toNatClampNeg x1) (0 : Int32)
      gd (wk w14 (wr w14 a0 16) == 100) <|
      gd (inb x1 (wn w14 (wr w14 a0 16))) <|
      let w17 : AW := upI w14 (wr w14 a0 16) (Int32.toNatClampNeg x1) (0 : Int32)
      some ((1 : Int32), w17)
    else
      some ((0 : Int32), w)
theorem P_Pg_openLevel_0 {X : AX} {l : Launch} {G : AG} (hX : XOK X b_Pg_openLevel "RedSky$Page" 2) (hM : XM X l G { frames := 0, cells := 0, slots := 0, locals := 0 }) {o : Int32 × AW} (hR : XR X (some .boolean) 0 0 (some (vi o.1)) o.2) (a0 : Nat) (x1 : Int32) (w : AW) (h : F_Pg_openLevel a0 x1 w = some o) : RJ X 2 0 0 0 [(0, vr a0), (1, vi x1)] [] w := by
  unfold F_Pg_openLevel at h
  refine r_iload_n (i := 1) hX d_Pg_openLevel_0 1 rfl rfl ?_
  refine r_if_lt hX d_Pg_openLevel_1 rfl h (fun h => ?_) (fun h => ?_)
  · refine r_iconst (v := (0 : Int32)) hX d_Pg_openLevel_10 rfl ?_
    cases h; exact r_zret hX hR rfl d_Pg_openLevel_11
  · refine r_iload_n (i := 1) hX d_Pg_openLevel_4 1 rfl rfl ?_
    refine r_bipush (v := (80 : Int32)) hX d_Pg_openLevel_5 rfl ?_
    refine r_icmp_le hX d_Pg_openLevel_7 rfl h (fun h => ?_) (fun h => ?_)
    · refine r_aload_n (i := 0) hX d_Pg_openLevel_12 0 rfl rfl ?_
      refine r_iload_n (i := 1) hX d_Pg_openLevel_13 1 rfl rfl ?_
      obtain ⟨hk1, h⟩ := gd_e h
      refine r_putI (i := 3) (f := 11) hX ci_3 (by decide) rfl rfl (fun G => rfl) (fun G => rfl) fl_Pg_55 hk1 d_Pg_openLevel_14 ?_
      refine r_aload_n (i := 0) hX d_Pg_openLevel_17 0 rfl rfl ?_
      refine r_getR (i := 3) (f := 12) hX ci_3 (by decide) rfl fl_Pg_58 (kI hk1) d_Pg_openLevel_18 ?_
      refine r_iload_n (i := 1) hX d_Pg_openLevel_21 1 rfl rfl ?_
      refine r_iconst (v := (0 : Int32)) hX d_Pg_openLevel_22 rfl ?_
      obtain ⟨hk3, h⟩ := gd_e h
      obtain ⟨hg4, h⟩ := gd_e h
      refine r_iast hX hk3 hg4 d_Pg_openLevel_23 ?_
      refine r_aload_n (i := 0) hX d_Pg_openLevel_24 0 rfl rfl ?_
      refine r_getR (i := 3) (f := 13) hX ci_3 (by decide) rfl fl_Pg_62 (kI (kI hk1)) d_Pg_openLevel_25 ?_
      refine r_iload_n (i := 1) hX d_Pg_openLevel_28 1 rfl rfl ?_
      refine r_iconst (v := (0 : Int32)) hX d_Pg_openLevel_29 rfl ?_
      obtain ⟨hk6, h⟩ := gd_e h
      obtain ⟨hg7, h⟩ := gd_e h
      refine r_iast hX hk6 hg7 d_Pg_openLevel_30 ?_
      refine r_aload_n (i := 0) hX d_Pg_openLevel_31 0 rfl rfl ?_
      refine r_getR (i := 3) (f := 14) hX ci_3 (by decide) rfl fl_Pg_65 (kI (kI (kI hk1))) d_Pg_openLevel_32 ?_
      refine r_iload_n (i := 1) hX d_Pg_openLevel_35 1 rfl rfl ?_
      refine r_iconst (v := (0 : Int32)) hX d_Pg_openLevel_36 rfl ?_
      obtain ⟨hk9, h⟩ := gd_e h
      obtain ⟨hg10, h⟩ := gd_e h
      refine r_iast hX hk9 hg10 d_Pg_openLevel_37 ?_
      refine r_aload_n (i := 0) hX d_Pg_openLevel_38 0 rfl rfl ?_
      refine r_getR (i := 3) (f := 15) hX ci_3 (by decide) rfl fl_Pg_68 (kI (kI (kI (kI hk1)))) d_Pg_openLevel_39 ?_
      refine r_iload_n (i := 1) hX d_Pg_openLevel_42 1 rfl rfl ?_
      refine r_iconst (v := (0 : Int32)) hX d_Pg_openLevel_43 rfl ?_
      obtain ⟨hk12, h⟩ := gd_e h
      obtain ⟨hg13, h⟩ := gd_e h
      refine r_iast hX hk12 hg13 d_Pg_openLevel_44 ?_
      refine r_aload_n (i := 0) hX d_Pg_openLevel_45 0 rfl rfl ?_
      refine r_getR (i := 3) (f := 16) hX ci_3 (by decide) rfl fl_Pg_71 (kI (kI (kI (kI (kI hk1))))) d_Pg_openLevel_46 ?_
      refine r_iload_n (i := 1) hX d_Pg_openLevel_49 1 rfl rfl ?_
      refine r_iconst (v := (0 : Int32)) hX d_Pg_openLevel_50 rfl ?_
      obtain ⟨hk15, h⟩ := gd_e h
      obtain ⟨hg16, h⟩ := gd_e h
      refine r_iast hX hk15 hg16 d_Pg_openLevel_51 ?_
      refine r_iconst (v := (1 : Int32)) hX d_Pg_openLevel_52 rfl ?_
      cases h; exact r_zret hX hR rfl d_Pg_openLevel_53
    · refine r_iconst (v := (0 : Int32)) hX d_Pg_openLevel_10 rfl ?_
      cases h; exact r_zret hX hR rfl d_Pg_openLevel_11
theorem T_Pg_openLevel {l : Launch} {G : AG} (a0 : Nat) (x1 : Int32) (w : AW) {o : Int32 × AW} (h : F_Pg_openLevel a0 x1 w = some o) : Mt l G y_Pg_openLevel b_Pg_openLevel 2 (some (.boolean)) 0 0 0 0 [vr a0, vi x1] w (some (vi o.1)) o.2 := mt_of (by decide) (Nat.le_of_ble_eq_true rfl) (fun X hX hR hM hI => P_Pg_openLevel_0 hX hM hR _ _ _ h)
/-! RedSky$Page.startCondition(LRedSky$Condition;)V -/
theorem d_Pg_startCondition_0 : decode b_Pg_startCondition 0 = .ok (.aload_n 0, 1) := by decide +kernel
theorem d_Pg_startCondition_1 : decode b_Pg_startCondition 1 = .ok (.aload_n 1, 1) := by decide +kernel
theorem d_Pg_startCondition_2 : decode b_Pg_startCondition 2 = .ok (.putfield 30, 3) := by decide +kernel
theorem d_Pg_startCondition_5 : decode b_Pg_startCondition 5 = .ok (.aload_n 0, 1) := by decide +kernel
theorem d_Pg_startCondition_6 : decode b_Pg_startCondition 6 = .ok (.iconst 0, 1) := by decide +kernel
theorem d_Pg_startCondition_7 : decode b_Pg_startCondition 7 = .ok (.invokevirtual 146, 3) := by decide +kernel
theorem d_Pg_startCondition_10 : decode b_Pg_startCondition 10 = .ok (.pop, 1) := by decide +kernel
theorem d_Pg_startCondition_11 : decode b_Pg_startCondition 11 = .ok (.aload_n 0, 1) := by decide +kernel
theorem d_Pg_startCondition_12 : decode b_Pg_startCondition 12 = .ok (.iconst 0, 1) := by decide +kernel
theorem d_Pg_startCondition_13 : decode b_Pg_startCondition 13 = .ok (.putfield 37, 3) := by decide +kernel
theorem d_Pg_startCondition_16 : decode b_Pg_startCondition 16 = .ok (.return_, 1) := by decide +kernel
def F_Pg_startCondition (a0 : Nat) (a1 : Nat) (w : AW) : Option (AW) :=
  gd (wk w a0 == 4) <|
  let w2 : AW := upR w a0 3 a1
  (F_Pg_openLevel a0 (0 : Int32) w2).bind fun r3 =>
  gd (wk r3.2 a0 == 4) <|
  let w6 : AW := upI r3.2 a0 5 (0 : Int32)
  some w6
theorem P_Pg_startCondition_0 {X : AX} {l : Launch} {G : AG} (hX : XOK X b_Pg_startCondition "RedSky$Page" 2) (hM : XM X l G { frames := 1, cells := 0, slots := 0, locals := 21 }) {o : AW} (hR : XR X none 0 0 none o) (a0 : Nat) (a1 : Nat) (w : AW) (h : F_Pg_startCondition a0 a1 w = some o) : RJ X 2 0 0 0 [(0, vr a0), (1, vr a1)] [] w := by
  unfold F_Pg_startCondition at h
  refine r_aload_n (i := 0) hX d_Pg_startCondition_0 0 rfl rfl ?_
  refine r_aload_n (i := 1) hX d_Pg_startCondition_1 1 rfl rfl ?_
  obtain ⟨hk1, h⟩ := gd_e h
  refine r_putR (i := 3) (f := 3) hX ci_3 (by decide) rfl rfl (fun G => nw_o _ _) (fun G => ft_o _ _) fl_Pg_30 hk1 d_Pg_startCondition_2 ?_
  refine r_aload_n (i := 0) hX d_Pg_startCondition_5 0 rfl rfl ?_
  refine r_iconst (v := (0 : Int32)) hX d_Pg_startCondition_6 rfl ?_
  obtain ⟨r3, hr4, h⟩ := bd_e h
  refine r_callV1 (As := [_]) hX hM mw_Pg_146 (T_Pg_openLevel _ _ _ hr4) (rc_of ci_3 (kR hk1)) rfl rfl ⟨Nat.le_refl _, Nat.le_refl _⟩ rfl rfl d_Pg_startCondition_7 ?_
  refine r_pop hX d_Pg_startCondition_10 rfl ?_
  refine r_aload_n (i := 0) hX d_Pg_startCondition_11 0 rfl rfl ?_
  refine r_iconst (v := (0 : Int32)) hX d_Pg_startCondition_12 rfl ?_
  obtain ⟨hk5, h⟩ := gd_e h
  refine r_putI (i := 3) (f := 5) hX ci_3 (by decide) rfl rfl (fun G => rfl) (fun G => rfl) fl_Pg_37 hk5 d_Pg_startCondition_13 ?_
  cases h; exact r_vret hX hR d_Pg_startCondition_16
theorem T_Pg_startCondition {l : Launch} {G : AG} (a0 : Nat) (a1 : Nat) (w : AW) {o : AW} (h : F_Pg_startCondition a0 a1 w = some o) : Mt l G y_Pg_startCondition b_Pg_startCondition 2 none 1 21 0 0 [vr a0, vr a1] w none o := mt_of (by decide) (Nat.le_of_ble_eq_true rfl) (fun X hX hR hM hI => P_Pg_startCondition_0 hX hM hR _ _ _ h)
/-! RedSky$Page.letterAt(I)I -/
theorem d_Pg_letterAt_0 : decode b_Pg_letterAt 0 = .ok (.iload_n 1, 1) := by decide +kernel
theorem d_Pg_letterAt_1 : decode b_Pg_letterAt 1 = .ok (.ifCond .lt (26), 3) := by decide +kernel
theorem d_Pg_letterAt_4 : decode b_Pg_letterAt 4 = .ok (.iload_n 1, 1) := by decide +kernel
theorem d_Pg_letterAt_5 : decode b_Pg_letterAt 5 = .ok (.aload_n 0, 1) := by decide +kernel
theorem d_Pg_letterAt_6 : decode b_Pg_letterAt 6 = .ok (.getfield 9, 3) := by decide +kernel
theorem d_Pg_letterAt_9 : decode b_Pg_letterAt 9 = .ok (.if_icmp .ge (18), 3) := by decide +kernel
theorem d_Pg_letterAt_12 : decode b_Pg_letterAt 12 = .ok (.iload_n 1, 1) := by decide +kernel
theorem d_Pg_letterAt_13 : decode b_Pg_letterAt 13 = .ok (.bipush (80), 2) := by decide +kernel
theorem d_Pg_letterAt_15 : decode b_Pg_letterAt 15 = .ok (.if_icmp .ge (12), 3) := by decide +kernel
theorem d_Pg_letterAt_18 : decode b_Pg_letterAt 18 = .ok (.aload_n 0, 1) := by decide +kernel
theorem d_Pg_letterAt_19 : decode b_Pg_letterAt 19 = .ok (.getfield 15, 3) := by decide +kernel
theorem d_Pg_letterAt_22 : decode b_Pg_letterAt 22 = .ok (.iload_n 1, 1) := by decide +kernel
theorem d_Pg_letterAt_23 : decode b_Pg_letterAt 23 = .ok (.baload, 1) := by decide +kernel
theorem d_Pg_letterAt_24 : decode b_Pg_letterAt 24 = .ok (.goto (4), 3) := by decide +kernel
theorem d_Pg_letterAt_27 : decode b_Pg_letterAt 27 = .ok (.iconst 0, 1) := by decide +kernel
theorem d_Pg_letterAt_28 : decode b_Pg_letterAt 28 = .ok (.ireturn, 1) := by decide +kernel
def F_Pg_letterAt (w : AW) (a0 : Nat) (x1 : Int32) : Option (Int32) :=
  if x1 < 0 then
    some (0 : Int32)
  else
    gd (wk w a0 == 4) <|
    if (wi w a0 0) ≤ x1 then
      some (0 : Int32)
    else
      if (80 : Int32) ≤ x1 then
        some (0 : Int32)
      else
        gd (wk w (wr w a0 1) == 102) <|
        gd (inb x1 (wn w (wr w a0 1))) <|
        some (wi w (wr w a0 1) (Int32.toNatClampNeg x1))
theorem P_Pg_letterAt_0 {X : AX} {l : Launch} {G : AG} {w : AW} (hX : XOK X b_Pg_letterAt "RedSky$Page" 2) (hM : XM X l G { frames := 0, cells := 0, slots := 0, locals := 0 }) {o : Int32} (hR : XR X (some .int) 0 0 (some (vi o)) w) (a0 : Nat) (x1 : Int32) (h : F_Pg_letterAt w a0 x1 = some o) : RJ X 2 0 0 0 [(0, vr a0), (1, vi x1)] [] w := by
  unfold F_Pg_letterAt at h
  refine r_iload_n (i := 1) hX d_Pg_letterAt_0 1 rfl rfl ?_
  refine r_if_lt hX d_Pg_letterAt_1 rfl h (fun h => ?_) (fun h => ?_)
  · refine r_iconst (v := (0 : Int32)) hX d_Pg_letterAt_27 rfl ?_
    cases h; exact r_iret hX hR d_Pg_letterAt_28
  · refine r_iload_n (i := 1) hX d_Pg_letterAt_4 1 rfl rfl ?_
    refine r_aload_n (i := 0) hX d_Pg_letterAt_5 0 rfl rfl ?_
    obtain ⟨hk1, h⟩ := gd_e h
    refine r_getI (i := 3) (f := 0) hX ci_3 (by decide) rfl fl_Pg_9 hk1 d_Pg_letterAt_6 ?_
    refine r_icmp_ge hX d_Pg_letterAt_9 rfl h (fun h => ?_) (fun h => ?_)
    · refine r_iconst (v := (0 : Int32)) hX d_Pg_letterAt_27 rfl ?_
      cases h; exact r_iret hX hR d_Pg_letterAt_28
    · refine r_iload_n (i := 1) hX d_Pg_letterAt_12 1 rfl rfl ?_
      refine r_bipush (v := (80 : Int32)) hX d_Pg_letterAt_13 rfl ?_
      refine r_icmp_ge hX d_Pg_letterAt_15 rfl h (fun h => ?_) (fun h => ?_)
      · refine r_iconst (v := (0 : Int32)) hX d_Pg_letterAt_27 rfl ?_
        cases h; exact r_iret hX hR d_Pg_letterAt_28
      · refine r_aload_n (i := 0) hX d_Pg_letterAt_18 0 rfl rfl ?_
        refine r_getR (i := 3) (f := 1) hX ci_3 (by decide) rfl fl_Pg_15 hk1 d_Pg_letterAt_19 ?_
        refine r_iload_n (i := 1) hX d_Pg_letterAt_22 1 rfl rfl ?_
        obtain ⟨hk2, h⟩ := gd_e h
        obtain ⟨hg3, h⟩ := gd_e h
        refine r_bald hX hk2 hg3 d_Pg_letterAt_23 ?_
        refine r_goto hX d_Pg_letterAt_24 rfl ?_
        cases h; exact r_iret hX hR d_Pg_letterAt_28
theorem T_Pg_letterAt {l : Launch} {G : AG} (w : AW) (a0 : Nat) (x1 : Int32) {o : Int32} (h : F_Pg_letterAt w a0 x1 = some o) : Mt l G y_Pg_letterAt b_Pg_letterAt 2 (some (.int)) 0 0 0 0 [vr a0, vi x1] w (some (vi o)) w := mt_of (by decide) (Nat.le_of_ble_eq_true rfl) (fun X hX hR hM hI => P_Pg_letterAt_0 hX hM hR _ _ h)
/-! RedSky$Page.level()I -/
theorem d_Pg_level_0 : decode b_Pg_level 0 = .ok (.aload_n 0, 1) := by decide +kernel
theorem d_Pg_level_1 : decode b_Pg_level 1 = .ok (.getfield 55, 3) := by decide +kernel
theorem d_Pg_level_4 : decode b_Pg_level 4 = .ok (.ifCond .lt (19), 3) := by decide +kernel
theorem d_Pg_level_7 : decode b_Pg_level 7 = .ok (.aload_n 0, 1) := by decide +kernel
theorem d_Pg_level_8 : decode b_Pg_level 8 = .ok (.getfield 55, 3) := by decide +kernel
theorem d_Pg_level_11 : decode b_Pg_level 11 = .ok (.bipush (80), 2) := by decide +kernel
theorem d_Pg_level_13 : decode b_Pg_level 13 = .ok (.if_icmp .gt (10), 3) := by decide +kernel
theorem d_Pg_level_16 : decode b_Pg_level 16 = .ok (.aload_n 0, 1) := by decide +kernel
theorem d_Pg_level_17 : decode b_Pg_level 17 = .ok (.getfield 55, 3) := by decide +kernel
theorem d_Pg_level_20 : decode b_Pg_level 20 = .ok (.goto (4), 3) := by decide +kernel
theorem d_Pg_level_23 : decode b_Pg_level 23 = .ok (.iconst 0, 1) := by decide +kernel
theorem d_Pg_level_24 : decode b_Pg_level 24 = .ok (.ireturn, 1) := by decide +kernel
def F_Pg_level (w : AW) (a0 : Nat) : Option (Int32) :=
  gd (wk w a0 == 4) <|
  if (wi w a0 11) < 0 then
    some (0 : Int32)
  else
    if (80 : Int32) < (wi w a0 11) then
      some (0 : Int32)
    else
      some (wi w a0 11)
theorem P_Pg_level_0 {X : AX} {l : Launch} {G : AG} {w : AW} (hX : XOK X b_Pg_level "RedSky$Page" 1) (hM : XM X l G { frames := 0, cells := 0, slots := 0, locals := 0 }) {o : Int32} (hR : XR X (some .int) 0 0 (some (vi o)) w) (a0 : Nat) (h : F_Pg_level w a0 = some o) : RJ X 1 0 0 0 [(0, vr a0)] [] w := by
  unfold F_Pg_level at h
  refine r_aload_n (i := 0) hX d_Pg_level_0 0 rfl rfl ?_
  obtain ⟨hk1, h⟩ := gd_e h
  refine r_getI (i := 3) (f := 11) hX ci_3 (by decide) rfl fl_Pg_55 hk1 d_Pg_level_1 ?_
  refine r_if_lt hX d_Pg_level_4 rfl h (fun h => ?_) (fun h => ?_)
  · refine r_iconst (v := (0 : Int32)) hX d_Pg_level_23 rfl ?_
    cases h; exact r_iret hX hR d_Pg_level_24
  · refine r_aload_n (i := 0) hX d_Pg_level_7 0 rfl rfl ?_
    refine r_getI (i := 3) (f := 11) hX ci_3 (by decide) rfl fl_Pg_55 hk1 d_Pg_level_8 ?_
    refine r_bipush (v := (80 : Int32)) hX d_Pg_level_11 rfl ?_
    refine r_icmp_gt hX d_Pg_level_13 rfl h (fun h => ?_) (fun h => ?_)
    · refine r_iconst (v := (0 : Int32)) hX d_Pg_level_23 rfl ?_
      cases h; exact r_iret hX hR d_Pg_level_24
    · refine r_aload_n (i := 0) hX d_Pg_level_16 0 rfl rfl ?_
      refine r_getI (i := 3) (f := 11) hX ci_3 (by decide) rfl fl_Pg_55 hk1 d_Pg_level_17 ?_
      refine r_goto hX d_Pg_level_20 rfl ?_
      cases h; exact r_iret hX hR d_Pg_level_24
theorem T_Pg_level {l : Launch} {G : AG} (w : AW) (a0 : Nat) {o : Int32} (h : F_Pg_level w a0 = some o) : Mt l G y_Pg_level b_Pg_level 1 (some (.int)) 0 0 0 0 [vr a0] w (some (vi o)) w := mt_of (by decide) (Nat.le_of_ble_eq_true rfl) (fun X hX hR hM hI => P_Pg_level_0 hX hM hR _ h)
/-! java/lang/String.isLatin1()Z -/
theorem d_Jstr_isLatin1_0 : decode b_Jstr_isLatin1 0 = .ok (.getstatic 38, 3) := by decide +kernel
theorem d_Jstr_isLatin1_3 : decode b_Jstr_isLatin1 3 = .ok (.ifCond .eq (14), 3) := by decide +kernel
theorem d_Jstr_isLatin1_6 : decode b_Jstr_isLatin1 6 = .ok (.aload_n 0, 1) := by decide +kernel
theorem d_Jstr_isLatin1_7 : decode b_Jstr_isLatin1 7 = .ok (.getfield 15, 3) := by decide +kernel
theorem d_Jstr_isLatin1_10 : decode b_Jstr_isLatin1 10 = .ok (.ifCond .ne (7), 3) := by decide +kernel
theorem d_Jstr_isLatin1_13 : decode b_Jstr_isLatin1 13 = .ok (.iconst 1, 1) := by decide +kernel
theorem d_Jstr_isLatin1_14 : decode b_Jstr_isLatin1 14 = .ok (.goto (4), 3) := by decide +kernel
theorem d_Jstr_isLatin1_17 : decode b_Jstr_isLatin1 17 = .ok (.iconst 0, 1) := by decide +kernel
theorem d_Jstr_isLatin1_18 : decode b_Jstr_isLatin1 18 = .ok (.ireturn, 1) := by decide +kernel
def F_Jstr_isLatin1 (w : AW) (a0 : Nat) : Option (Int32) :=
  if (1 : Int32) = 0 then
    some (0 : Int32)
  else
    gd (wk w a0 == 112) <|
    if (0 : Int32) = 0 then
      some (1 : Int32)
    else
      some (0 : Int32)
theorem P_Jstr_isLatin1_0 {X : AX} {l : Launch} {G : AG} {w : AW} (hX : XOK X b_Jstr_isLatin1 "java/lang/String" 1) (hM : XM X l G { frames := 0, cells := 0, slots := 0, locals := 0 }) {o : Int32} (hR : XR X (some .boolean) 0 0 (some (vi o)) w) (a0 : Nat) (h : F_Jstr_isLatin1 w a0 = some o) : RJ X 1 0 0 0 [(0, vr a0)] [] w := by
  unfold F_Jstr_isLatin1 at h
  refine r_gets (v := vi (1 : Int32)) hX (List.mem_of_getElem? (i := 5) rfl) fl_Jstr_38 d_Jstr_isLatin1_0 ?_
  refine r_if_eq hX d_Jstr_isLatin1_3 rfl h (fun h => ?_) (fun h => ?_)
  · refine r_iconst (v := (0 : Int32)) hX d_Jstr_isLatin1_17 rfl ?_
    cases h; exact r_zret hX hR rfl d_Jstr_isLatin1_18
  · refine r_aload_n (i := 0) hX d_Jstr_isLatin1_6 0 rfl rfl ?_
    obtain ⟨hk1, h⟩ := gd_e h
    refine r_getScoder hX fl_Jstr_15 hk1 d_Jstr_isLatin1_7 ?_
    refine r_if_ne hX d_Jstr_isLatin1_10 rfl h (fun h => ?_) (fun h => ?_)
    · refine r_iconst (v := (0 : Int32)) hX d_Jstr_isLatin1_17 rfl ?_
      cases h; exact r_zret hX hR rfl d_Jstr_isLatin1_18
    · refine r_iconst (v := (1 : Int32)) hX d_Jstr_isLatin1_13 rfl ?_
      refine r_goto hX d_Jstr_isLatin1_14 rfl ?_
      cases h; exact r_zret hX hR rfl d_Jstr_isLatin1_18
theorem T_Jstr_isLatin1 {l : Launch} {G : AG} (w : AW) (a0 : Nat) {o : Int32} (h : F_Jstr_isLatin1 w a0 = some o) : Mt l G y_Jstr_isLatin1 b_Jstr_isLatin1 1 (some (.boolean)) 0 0 0 0 [vr a0] w (some (vi o)) w := mt_of (by decide) (Nat.le_of_ble_eq_true rfl) (fun X hX hR hM hI => P_Jstr_isLatin1_0 hX hM hR _ h)
/-! java/lang/String.coder()B -/
theorem d_Jstr_coder_0 : decode b_Jstr_coder 0 = .ok (.getstatic 38, 3) := by decide +kernel
theorem d_Jstr_coder_3 : decode b_Jstr_coder 3 = .ok (.ifCond .eq (10), 3) := by decide +kernel
theorem d_Jstr_coder_6 : decode b_Jstr_coder 6 = .ok (.aload_n 0, 1) := by decide +kernel
theorem d_Jstr_coder_7 : decode b_Jstr_coder 7 = .ok (.getfield 15, 3) := by decide +kernel
theorem d_Jstr_coder_10 : decode b_Jstr_coder 10 = .ok (.goto (4), 3) := by decide +kernel
theorem d_Jstr_coder_13 : decode b_Jstr_coder 13 = .ok (.iconst 1, 1) := by decide +kernel
theorem d_Jstr_coder_14 : decode b_Jstr_coder 14 = .ok (.ireturn, 1) := by decide +kernel
def F_Jstr_coder (w : AW) (a0 : Nat) : Option (Int32) :=
  if (1 : Int32) = 0 then
    some (1 : Int32)
  else
    gd (wk w a0 == 112) <|
    some (0 : Int32)
theorem P_Jstr_coder_0 {X : AX} {l : Launch} {G : AG} {w : AW} (hX : XOK X b_Jstr_coder "java/lang/String" 1) (hM : XM X l G { frames := 0, cells := 0, slots := 0, locals := 0 }) {o : Int32} (hR : XR X (some .byte) 0 0 (some (vi o)) w) (a0 : Nat) (h : F_Jstr_coder w a0 = some o) : RJ X 1 0 0 0 [(0, vr a0)] [] w := by
  unfold F_Jstr_coder at h
  refine r_gets (v := vi (1 : Int32)) hX (List.mem_of_getElem? (i := 5) rfl) fl_Jstr_38 d_Jstr_coder_0 ?_
  refine r_if_eq hX d_Jstr_coder_3 rfl h (fun h => ?_) (fun h => ?_)
  · refine r_iconst (v := (1 : Int32)) hX d_Jstr_coder_13 rfl ?_
    cases h; exact r_zret hX hR rfl d_Jstr_coder_14
  · refine r_aload_n (i := 0) hX d_Jstr_coder_6 0 rfl rfl ?_
    obtain ⟨hk1, h⟩ := gd_e h
    refine r_getScoder hX fl_Jstr_15 hk1 d_Jstr_coder_7 ?_
    refine r_goto hX d_Jstr_coder_10 rfl ?_
    cases h; exact r_zret hX hR rfl d_Jstr_coder_14
theorem T_Jstr_coder {l : Launch} {G : AG} (w : AW) (a0 : Nat) {o : Int32} (h : F_Jstr_coder w a0 = some o) : Mt l G y_Jstr_coder b_Jstr_coder 1 (some (.byte)) 0 0 0 0 [vr a0] w (some (vi o)) w := mt_of (by decide) (Nat.le_of_ble_eq_true rfl) (fun X hX hR hM hI => P_Jstr_coder_0 hX hM hR _ h)
/-! java/lang/String.length()I -/
theorem d_Jstr_length_0 : decode b_Jstr_length 0 = .ok (.aload_n 0, 1) := by decide +kernel
theorem d_Jstr_length_1 : decode b_Jstr_length 1 = .ok (.getfield 9, 3) := by decide +kernel
theorem d_Jstr_length_4 : decode b_Jstr_length 4 = .ok (.arraylength, 1) := by decide +kernel
theorem d_Jstr_length_5 : decode b_Jstr_length 5 = .ok (.aload_n 0, 1) := by decide +kernel
theorem d_Jstr_length_6 : decode b_Jstr_length 6 = .ok (.invokevirtual 335, 3) := by decide +kernel
theorem d_Jstr_length_9 : decode b_Jstr_length 9 = .ok (.ishr, 1) := by decide +kernel
theorem d_Jstr_length_10 : decode b_Jstr_length 10 = .ok (.ireturn, 1) := by decide +kernel
def F_Jstr_length (w : AW) (a0 : Nat) : Option (Int32) :=
  gd (wk w a0 == 112) <|
  gd (wk w (wr w a0 0) == 111) <|
  (F_Jstr_coder w a0).bind fun r3 =>
  some ((Int32.ofNat (wn w (wr w a0 0))) >>> (r3 &&& 31))
theorem P_Jstr_length_0 {X : AX} {l : Launch} {G : AG} {w : AW} (hX : XOK X b_Jstr_length "java/lang/String" 1) (hM : XM X l G { frames := 1, cells := 0, slots := 0, locals := 20 }) {o : Int32} (hR : XR X (some .int) 0 0 (some (vi o)) w) (a0 : Nat) (h : F_Jstr_length w a0 = some o) : RJ X 1 0 0 0 [(0, vr a0)] [] w := by
  unfold F_Jstr_length at h
  refine r_aload_n (i := 0) hX d_Jstr_length_0 0 rfl rfl ?_
  obtain ⟨hk1, h⟩ := gd_e h
  refine r_getSvalue hX fl_Jstr_9 hk1 d_Jstr_length_1 ?_
  obtain ⟨hk2, h⟩ := gd_e h
  refine r_ylen hX hk2 d_Jstr_length_4 ?_
  refine r_aload_n (i := 0) hX d_Jstr_length_5 0 rfl rfl ?_
  obtain ⟨r3, hr4, h⟩ := bd_e h
  refine r_callV1 (As := []) hX hM mw_Jstr_335 (T_Jstr_coder _ _ hr4) (rc_S hk1) rfl rfl ⟨Nat.le_refl _, Nat.le_refl _⟩ rfl rfl d_Jstr_length_6 ?_
  refine r_ishr hX d_Jstr_length_9 ?_
  cases h; exact r_iret hX hR d_Jstr_length_10
theorem T_Jstr_length {l : Launch} {G : AG} (w : AW) (a0 : Nat) {o : Int32} (h : F_Jstr_length w a0 = some o) : Mt l G y_Jstr_length b_Jstr_length 1 (some (.int)) 1 20 0 0 [vr a0] w (some (vi o)) w := mt_of (by decide) (Nat.le_of_ble_eq_true rfl) (fun X hX hR hM hI => P_Jstr_length_0 hX hM hR _ h)
/-! java/lang/StringLatin1.canEncode(I)Z -/
theorem d_Jlat_canEncode_0 : decode b_Jlat_canEncode 0 = .ok (.iload_n 0, 1) := by decide +kernel
theorem d_Jlat_canEncode_1 : decode b_Jlat_canEncode 1 = .ok (.ifCond .lt (14), 3) := by decide +kernel
theorem d_Jlat_canEncode_4 : decode b_Jlat_canEncode 4 = .ok (.iload_n 0, 1) := by decide +kernel
theorem d_Jlat_canEncode_5 : decode b_Jlat_canEncode 5 = .ok (.sipush (255), 3) := by decide +kernel
theorem d_Jlat_canEncode_8 : decode b_Jlat_canEncode 8 = .ok (.if_icmp .gt (7), 3) := by decide +kernel
theorem d_Jlat_canEncode_11 : decode b_Jlat_canEncode 11 = .ok (.iconst 1, 1) := by decide +kernel
theorem d_Jlat_canEncode_12 : decode b_Jlat_canEncode 12 = .ok (.goto (4), 3) := by decide +kernel
theorem d_Jlat_canEncode_15 : decode b_Jlat_canEncode 15 = .ok (.iconst 0, 1) := by decide +kernel
theorem d_Jlat_canEncode_16 : decode b_Jlat_canEncode 16 = .ok (.ireturn, 1) := by decide +kernel
def Fo_Jlat_canEncode (w : AW) (x0 : Int32) : Option (Int32) :=
  if x0 < 0 then
    some (0 : Int32)
  else
    if (255 : Int32) < x0 then
      some (0 : Int32)
    else
      some (1 : Int32)
theorem P_Jlat_canEncode_0 {X : AX} {l : Launch} {G : AG} {w : AW} (hX : XOK X b_Jlat_canEncode "java/lang/StringLatin1" 1) (hM : XM X l G { frames := 0, cells := 0, slots := 0, locals := 0 }) {o : Int32} (hR : XR X (some .boolean) 0 0 (some (vi o)) w) (x0 : Int32) (h : Fo_Jlat_canEncode w x0 = some o) : RJ X 1 0 0 0 [(0, vi x0)] [] w := by
  unfold Fo_Jlat_canEncode at h
  refine r_iload_n (i := 0) hX d_Jlat_canEncode_0 0 rfl rfl ?_
  refine r_if_lt hX d_Jlat_canEncode_1 rfl h (fun h => ?_) (fun h => ?_)
  · refine r_iconst (v := (0 : Int32)) hX d_Jlat_canEncode_15 rfl ?_
    cases h; exact r_zret hX hR rfl d_Jlat_canEncode_16
  · refine r_iload_n (i := 0) hX d_Jlat_canEncode_4 0 rfl rfl ?_
    refine r_sipush (v := (255 : Int32)) hX d_Jlat_canEncode_5 rfl ?_
    refine r_icmp_gt hX d_Jlat_canEncode_8 rfl h (fun h => ?_) (fun h => ?_)
    · refine r_iconst (v := (0 : Int32)) hX d_Jlat_canEncode_15 rfl ?_
      cases h; exact r_zret hX hR rfl d_Jlat_canEncode_16
    · refine r_iconst (v := (1 : Int32)) hX d_Jlat_canEncode_11 rfl ?_
      refine r_goto hX d_Jlat_canEncode_12 rfl ?_
      cases h; exact r_zret hX hR rfl d_Jlat_canEncode_16
def F_Jlat_canEncode (x0 : Int32) : Int32 :=
  if x0 < 0 then
    (0 : Int32)
  else
    if (255 : Int32) < x0 then
      (0 : Int32)
    else
      (1 : Int32)
theorem E_Jlat_canEncode (w : AW) (x0 : Int32) : Fo_Jlat_canEncode w x0 = some (F_Jlat_canEncode x0) := by
  simp only [Fo_Jlat_canEncode, F_Jlat_canEncode, apply_ite (some : Int32 → Option Int32)]
theorem z_Jlat_canEncode (x0 : Int32) : (F_Jlat_canEncode x0 == 0 || F_Jlat_canEncode x0 == 1) = true := by
  unfold F_Jlat_canEncode; (repeat' split) <;> decide
theorem T_Jlat_canEncode {l : Launch} {G : AG} (x0 : Int32) (w : AW)  : Mt l G y_Jlat_canEncode b_Jlat_canEncode 1 (some (.boolean)) 0 0 0 0 [vi x0] w (some (vi (F_Jlat_canEncode x0))) w := mt_of (by decide) (Nat.le_of_ble_eq_true rfl) (fun X hX hR hM hI => P_Jlat_canEncode_0 hX hM hR _ (E_Jlat_canEncode _ _))
/-! java/lang/Math.max(II)I -/
theorem d_Jmath_max_0 : decode b_Jmath_max 0 = .ok (.iload_n 0, 1) := by decide +kernel
theorem d_Jmath_max_1 : decode b_Jmath_max 1 = .ok (.iload_n 1, 1) := by decide +kernel
theorem d_Jmath_max_2 : decode b_Jmath_max 2 = .ok (.if_icmp .lt (7), 3) := by decide +kernel
theorem d_Jmath_max_5 : decode b_Jmath_max 5 = .ok (.iload_n 0, 1) := by decide +kernel
theorem d_Jmath_max_6 : decode b_Jmath_max 6 = .ok (.goto (4), 3) := by decide +kernel
theorem d_Jmath_max_9 : decode b_Jmath_max 9 = .ok (.iload_n 1, 1) := by decide +kernel
theorem d_Jmath_max_10 : decode b_Jmath_max 10 = .ok (.ireturn, 1) := by decide +kernel
def Fo_Jmath_max (w : AW) (x0 : Int32) (x1 : Int32) : Option (Int32) :=
  if x0 < x1 then
    some x1
  else
    some x0
theorem P_Jmath_max_0 {X : AX} {l : Launch} {G : AG} {w : AW} (hX : XOK X b_Jmath_max "java/lang/Math" 2) (hM : XM X l G { frames := 0, cells := 0, slots := 0, locals := 0 }) {o : Int32} (hR : XR X (some .int) 0 0 (some (vi o)) w) (x0 : Int32) (x1 : Int32) (h : Fo_Jmath_max w x0 x1 = some o) : RJ X 2 0 0 0 [(0, vi x0), (1, vi x1)] [] w := by
  unfold Fo_Jmath_max at h
  refine r_iload_n (i := 0) hX d_Jmath_max_0 0 rfl rfl ?_
  refine r_iload_n (i := 1) hX d_Jmath_max_1 1 rfl rfl ?_
  refine r_icmp_lt hX d_Jmath_max_2 rfl h (fun h => ?_) (fun h => ?_)
  · refine r_iload_n (i := 1) hX d_Jmath_max_9 1 rfl rfl ?_
    cases h; exact r_iret hX hR d_Jmath_max_10
  · refine r_iload_n (i := 0) hX d_Jmath_max_5 0 rfl rfl ?_
    refine r_goto hX d_Jmath_max_6 rfl ?_
    cases h; exact r_iret hX hR d_Jmath_max_10
def F_Jmath_max (x0 : Int32) (x1 : Int32) : Int32 :=
  if x0 < x1 then
    x1
  else
    x0
theorem E_Jmath_max (w : AW) (x0 : Int32) (x1 : Int32) : Fo_Jmath_max w x0 x1 = some (F_Jmath_max x0 x1) := by
  simp only [Fo_Jmath_max, F_Jmath_max, apply_ite (some : Int32 → Option Int32)]
/-! java/lang/Math.min(II)I -/
theorem d_Jmath_min_0 : decode b_Jmath_min 0 = .ok (.iload_n 0, 1) := by decide +kernel
theorem d_Jmath_min_1 : decode b_Jmath_min 1 = .ok (.iload_n 1, 1) := by decide +kernel
theorem d_Jmath_min_2 : decode b_Jmath_min 2 = .ok (.if_icmp .gt (7), 3) := by decide +kernel
theorem d_Jmath_min_5 : decode b_Jmath_min 5 = .ok (.iload_n 0, 1) := by decide +kernel
theorem d_Jmath_min_6 : decode b_Jmath_min 6 = .ok (.goto (4), 3) := by decide +kernel
theorem d_Jmath_min_9 : decode b_Jmath_min 9 = .ok (.iload_n 1, 1) := by decide +kernel
theorem d_Jmath_min_10 : decode b_Jmath_min 10 = .ok (.ireturn, 1) := by decide +kernel
def Fo_Jmath_min (w : AW) (x0 : Int32) (x1 : Int32) : Option (Int32) :=
  if x1 < x0 then
    some x1
  else
    some x0
theorem P_Jmath_min_0 {X : AX} {l : Launch} {G : AG} {w : AW} (hX : XOK X b_Jmath_min "java/lang/Math" 2) (hM : XM X l G { frames := 0, cells := 0, slots := 0, locals := 0 }) {o : Int32} (hR : XR X (some .int) 0 0 (some (vi o)) w) (x0 : Int32) (x1 : Int32) (h : Fo_Jmath_min w x0 x1 = some o) : RJ X 2 0 0 0 [(0, vi x0), (1, vi x1)] [] w := by
  unfold Fo_Jmath_min at h
  refine r_iload_n (i := 0) hX d_Jmath_min_0 0 rfl rfl ?_
  refine r_iload_n (i := 1) hX d_Jmath_min_1 1 rfl rfl ?_
  refine r_icmp_gt hX d_Jmath_min_2 rfl h (fun h => ?_) (fun h => ?_)
  · refine r_iload_n (i := 1) hX d_Jmath_min_9 1 rfl rfl ?_
    cases h; exact r_iret hX hR d_Jmath_min_10
  · refine r_iload_n (i := 0) hX d_Jmath_min_5 0 rfl rfl ?_
    refine r_goto hX d_Jmath_min_6 rfl ?_
    cases h; exact r_iret hX hR d_Jmath_min_10
def F_Jmath_min (x0 : Int32) (x1 : Int32) : Int32 :=
  if x1 < x0 then
    x1
  else
    x0
theorem E_Jmath_min (w : AW) (x0 : Int32) (x1 : Int32) : Fo_Jmath_min w x0 x1 = some (F_Jmath_min x0 x1) := by
  simp only [Fo_Jmath_min, F_Jmath_min, apply_ite (some : Int32 → Option Int32)]
/-! java/lang/StringLatin1.indexOfChar([BIII)I -/
theorem d_Jlat_indexOfChar_0 : decode b_Jlat_indexOfChar 0 = .ok (.iload_n 1, 1) := by decide +kernel
theorem d_Jlat_indexOfChar_1 : decode b_Jlat_indexOfChar 1 = .ok (.i2b, 1) := by decide +kernel
theorem d_Jlat_indexOfChar_2 : decode b_Jlat_indexOfChar 2 = .ok (.istore 4, 2) := by decide +kernel
theorem d_Jlat_indexOfChar_4 : decode b_Jlat_indexOfChar 4 = .ok (.iload_n 2, 1) := by decide +kernel
theorem d_Jlat_indexOfChar_5 : decode b_Jlat_indexOfChar 5 = .ok (.istore 5, 2) := by decide +kernel
theorem d_Jlat_indexOfChar_7 : decode b_Jlat_indexOfChar 7 = .ok (.iload 5, 2) := by decide +kernel
theorem d_Jlat_indexOfChar_9 : decode b_Jlat_indexOfChar 9 = .ok (.iload_n 3, 1) := by decide +kernel
theorem d_Jlat_indexOfChar_10 : decode b_Jlat_indexOfChar 10 = .ok (.if_icmp .ge (21), 3) := by decide +kernel
theorem d_Jlat_indexOfChar_13 : decode b_Jlat_indexOfChar 13 = .ok (.aload_n 0, 1) := by decide +kernel
theorem d_Jlat_indexOfChar_14 : decode b_Jlat_indexOfChar 14 = .ok (.iload 5, 2) := by decide +kernel
theorem d_Jlat_indexOfChar_16 : decode b_Jlat_indexOfChar 16 = .ok (.baload, 1) := by decide +kernel
theorem d_Jlat_indexOfChar_17 : decode b_Jlat_indexOfChar 17 = .ok (.iload 4, 2) := by decide +kernel
theorem d_Jlat_indexOfChar_19 : decode b_Jlat_indexOfChar 19 = .ok (.if_icmp .ne (6), 3) := by decide +kernel
theorem d_Jlat_indexOfChar_22 : decode b_Jlat_indexOfChar 22 = .ok (.iload 5, 2) := by decide +kernel
theorem d_Jlat_indexOfChar_24 : decode b_Jlat_indexOfChar 24 = .ok (.ireturn, 1) := by decide +kernel
theorem d_Jlat_indexOfChar_25 : decode b_Jlat_indexOfChar 25 = .ok (.iinc 5 (1), 3) := by decide +kernel
theorem d_Jlat_indexOfChar_28 : decode b_Jlat_indexOfChar 28 = .ok (.goto (-21), 3) := by decide +kernel
theorem d_Jlat_indexOfChar_31 : decode b_Jlat_indexOfChar 31 = .ok (.iconst (-1), 1) := by decide +kernel
theorem d_Jlat_indexOfChar_32 : decode b_Jlat_indexOfChar 32 = .ok (.ireturn, 1) := by decide +kernel
def F_Jlat_indexOfChar_7_B (rec7 : Nat → Int32 → Int32 → Int32 → Option (Int32)) (w : AW) (a0 : Nat) (x3 : Int32) (x4 : Int32) (x5 : Int32) : Option (Int32) :=
  if x3 ≤ x5 then
    some (-1 : Int32)
  else
    gd (wk w a0 == 111) <|
    gd (inb x5 (wn w a0)) <|
    if (wi w a0 (Int32.toNatClampNeg x5)) = x4 then
      some x5
    else
      let v3 : Int32 := (x5 + (1 : Int32))
      rec7 a0 x3 x4 v3
theorem P_Jlat_indexOfChar_7_B {X : AX} {l : Launch} {G : AG} {w : AW} {rec7 : Nat → Int32 → Int32 → Int32 → Option (Int32)} (hX : XOK X b_Jlat_indexOfChar "java/lang/StringLatin1" 6) (hM : XM X l G { frames := 0, cells := 0, slots := 0, locals := 0 }) {o : Int32} (hR : XR X (some .int) 0 0 (some (vi o)) w) (hrec7 : ∀ (a0 : Nat) (x3 : Int32) (x4 : Int32) (x5 : Int32), rec7 a0 x3 x4 x5 = some o → RJ X 6 0 0 7 [(0, vr a0), (3, vi x3), (4, vi x4), (5, vi x5)] [] w) (a0 : Nat) (x3 : Int32) (x4 : Int32) (x5 : Int32) (h : F_Jlat_indexOfChar_7_B rec7 w a0 x3 x4 x5 = some o) : RJ X 6 0 0 7 [(0, vr a0), (3, vi x3), (4, vi x4), (5, vi x5)] [] w := by
  unfold F_Jlat_indexOfChar_7_B at h
  refine r_iload (i := 5) hX d_Jlat_indexOfChar_7 3  rfl ?_
  refine r_iload_n (i := 3) hX d_Jlat_indexOfChar_9 1 rfl rfl ?_
  refine r_icmp_ge hX d_Jlat_indexOfChar_10 rfl h (fun h => ?_) (fun h => ?_)
  · refine r_iconst (v := (-1 : Int32)) hX d_Jlat_indexOfChar_31 rfl ?_
    cases h; exact r_iret hX hR d_Jlat_indexOfChar_32
  · refine r_aload_n (i := 0) hX d_Jlat_indexOfChar_13 0 rfl rfl ?_
    refine r_iload (i := 5) hX d_Jlat_indexOfChar_14 3  rfl ?_
    obtain ⟨hk1, h⟩ := gd_e h
    obtain ⟨hg2, h⟩ := gd_e h
    refine r_yald hX hk1 hg2 d_Jlat_indexOfChar_16 ?_
    refine r_iload (i := 4) hX d_Jlat_indexOfChar_17 2  rfl ?_
    refine r_icmp_ne hX d_Jlat_indexOfChar_19 rfl h (fun h => ?_) (fun h => ?_)
    · refine r_iinc (i := 5) (v := (1 : Int32)) hX d_Jlat_indexOfChar_25 3 rfl rfl (by decide) ?_
      refine r_goto hX d_Jlat_indexOfChar_28 rfl ?_
      exact rj_sub [1, 2, 3, 0] rfl (hrec7 _ _ _ _ h)
    · refine r_iload (i := 5) hX d_Jlat_indexOfChar_22 3  rfl ?_
      cases h; exact r_iret hX hR d_Jlat_indexOfChar_24
def F_Jlat_indexOfChar_7 (w : AW) : Nat → Nat → Int32 → Int32 → Int32 → Option (Int32)
  | 0 => fun _ _ _ _ => none
  | n + 1 => fun a0 x3 x4 x5 => F_Jlat_indexOfChar_7_B (F_Jlat_indexOfChar_7 w n) w a0 x3 x4 x5
theorem P_Jlat_indexOfChar_7 {X : AX} {l : Launch} {G : AG} {w : AW} (hX : XOK X b_Jlat_indexOfChar "java/lang/StringLatin1" 6) (hM : XM X l G { frames := 0, cells := 0, slots := 0, locals := 0 }) {o : Int32} (hR : XR X (some .int) 0 0 (some (vi o)) w) (fu : Nat) : ∀ (a0 : Nat) (x3 : Int32) (x4 : Int32) (x5 : Int32), F_Jlat_indexOfChar_7 w fu a0 x3 x4 x5 = some o → RJ X 6 0 0 7 [(0, vr a0), (3, vi x3), (4, vi x4), (5, vi x5)] [] w := by
  induction fu with
  | zero => intro a0 x3 x4 x5 h; cases h
  | succ n9 ih => intro a0 x3 x4 x5 h; exact P_Jlat_indexOfChar_7_B hX hM hR ih _ _ _ _ h
def F_Jlat_indexOfChar (w : AW) (a0 : Nat) (x1 : Int32) (x2 : Int32) (x3 : Int32) : Option (Int32) :=
  let v1 : Int32 := (Int8.toInt32 (Int32.toInt8 x1))
  F_Jlat_indexOfChar_7 w FUEL a0 x3 v1 x2
theorem P_Jlat_indexOfChar_0 {X : AX} {l : Launch} {G : AG} {w : AW} (hX : XOK X b_Jlat_indexOfChar "java/lang/StringLatin1" 6) (hM : XM X l G { frames := 0, cells := 0, slots := 0, locals := 0 }) {o : Int32} (hR : XR X (some .int) 0 0 (some (vi o)) w) (a0 : Nat) (x1 : Int32) (x2 : Int32) (x3 : Int32) (h : F_Jlat_indexOfChar w a0 x1 x2 x3 = some o) : RJ X 6 0 0 0 [(0, vr a0), (1, vi x1), (2, vi x2), (3, vi x3)] [] w := by
  unfold F_Jlat_indexOfChar at h
  refine r_iload_n (i := 1) hX d_Jlat_indexOfChar_0 1 rfl rfl ?_
  refine r_i2b hX d_Jlat_indexOfChar_1 ?_
  refine r_istore (i := 4) hX d_Jlat_indexOfChar_2  (by decide) ?_
  refine r_iload_n (i := 2) hX d_Jlat_indexOfChar_4 3 rfl rfl ?_
  refine r_istore (i := 5) hX d_Jlat_indexOfChar_5  (by decide) ?_
  exact rj_sub [2, 5, 1, 0] rfl (P_Jlat_indexOfChar_7 hX hM hR FUEL _ _ _ _ h)
theorem T_Jlat_indexOfChar {l : Launch} {G : AG} (w : AW) (a0 : Nat) (x1 : Int32) (x2 : Int32) (x3 : Int32) {o : Int32} (h : F_Jlat_indexOfChar w a0 x1 x2 x3 = some o) : Mt l G y_Jlat_indexOfChar b_Jlat_indexOfChar 6 (some (.int)) 0 0 0 0 [vr a0, vi x1, vi x2, vi x3] w (some (vi o)) w := mt_of (by decide) (Nat.le_of_ble_eq_true rfl) (fun X hX hR hM hI => P_Jlat_indexOfChar_0 hX hM hR _ _ _ _ h)
/-! java/lang/StringLatin1.indexOf([BIII)I -/
theorem d_Jlat_indexOf_0 : decode b_Jlat_indexOf 0 = .ok (.iload_n 1, 1) := by decide +kernel
theorem d_Jlat_indexOf_1 : decode b_Jlat_indexOf 1 = .ok (.invokestatic 88, 3) := by decide +kernel
theorem d_Jlat_indexOf_4 : decode b_Jlat_indexOf 4 = .ok (.ifCond .ne (5), 3) := by decide +kernel
theorem d_Jlat_indexOf_7 : decode b_Jlat_indexOf 7 = .ok (.iconst (-1), 1) := by decide +kernel
theorem d_Jlat_indexOf_8 : decode b_Jlat_indexOf 8 = .ok (.ireturn, 1) := by decide +kernel
theorem d_Jlat_indexOf_9 : decode b_Jlat_indexOf 9 = .ok (.iload_n 2, 1) := by decide +kernel
theorem d_Jlat_indexOf_10 : decode b_Jlat_indexOf 10 = .ok (.iconst 0, 1) := by decide +kernel
theorem d_Jlat_indexOf_11 : decode b_Jlat_indexOf 11 = .ok (.invokestatic 92, 3) := by decide +kernel
theorem d_Jlat_indexOf_14 : decode b_Jlat_indexOf 14 = .ok (.istore_n 2, 1) := by decide +kernel
theorem d_Jlat_indexOf_15 : decode b_Jlat_indexOf 15 = .ok (.iload_n 3, 1) := by decide +kernel
theorem d_Jlat_indexOf_16 : decode b_Jlat_indexOf 16 = .ok (.aload_n 0, 1) := by decide +kernel
theorem d_Jlat_indexOf_17 : decode b_Jlat_indexOf 17 = .ok (.arraylength, 1) := by decide +kernel
theorem d_Jlat_indexOf_18 : decode b_Jlat_indexOf 18 = .ok (.invokestatic 38, 3) := by decide +kernel
theorem d_Jlat_indexOf_21 : decode b_Jlat_indexOf 21 = .ok (.istore_n 3, 1) := by decide +kernel
theorem d_Jlat_indexOf_22 : decode b_Jlat_indexOf 22 = .ok (.iload_n 2, 1) := by decide +kernel
theorem d_Jlat_indexOf_23 : decode b_Jlat_indexOf 23 = .ok (.iload_n 3, 1) := by decide +kernel
theorem d_Jlat_indexOf_24 : decode b_Jlat_indexOf 24 = .ok (.if_icmp .lt (5), 3) := by decide +kernel
theorem d_Jlat_indexOf_27 : decode b_Jlat_indexOf 27 = .ok (.iconst (-1), 1) := by decide +kernel
theorem d_Jlat_indexOf_28 : decode b_Jlat_indexOf 28 = .ok (.ireturn, 1) := by decide +kernel
theorem d_Jlat_indexOf_29 : decode b_Jlat_indexOf 29 = .ok (.aload_n 0, 1) := by decide +kernel
theorem d_Jlat_indexOf_30 : decode b_Jlat_indexOf 30 = .ok (.iload_n 1, 1) := by decide +kernel
theorem d_Jlat_indexOf_31 : decode b_Jlat_indexOf 31 = .ok (.iload_n 2, 1) := by decide +kernel
theorem d_Jlat_indexOf_32 : decode b_Jlat_indexOf 32 = .ok (.iload_n 3, 1) := by decide +kernel
theorem d_Jlat_indexOf_33 : decode b_Jlat_indexOf 33 = .ok (.invokestatic 95, 3) := by decide +kernel
theorem d_Jlat_indexOf_36 : decode b_Jlat_indexOf 36 = .ok (.ireturn, 1) := by decide +kernel
def F_Jlat_indexOf (w : AW) (a0 : Nat) (x1 : Int32) (x2 : Int32) (x3 : Int32) : Option (Int32) :=
  if (F_Jlat_canEncode x1) = 0 then
    some (-1 : Int32)
  else
    let v1 : Int32 := (F_Jmath_max x2 (0 : Int32))
    gd (wk w a0 == 111) <|
    let v3 : Int32 := (F_Jmath_min x3 (Int32.ofNat (wn w a0)))
    if v1 < v3 then
      (F_Jlat_indexOfChar w a0 x1 v1 v3).bind fun r4 =>
      some r4
    else
      some (-1 : Int32)
theorem P_Jlat_indexOf_0 {X : AX} {l : Launch} {G : AG} {w : AW} (hX : XOK X b_Jlat_indexOf "java/lang/StringLatin1" 4) (hM : XM X l G { frames := 1, cells := 0, slots := 0, locals := 25 }) {o : Int32} (hR : XR X (some .int) 0 0 (some (vi o)) w) (a0 : Nat) (x1 : Int32) (x2 : Int32) (x3 : Int32) (h : F_Jlat_indexOf w a0 x1 x2 x3 = some o) : RJ X 4 0 0 0 [(0, vr a0), (1, vi x1), (2, vi x2), (3, vi x3)] [] w := by
  unfold F_Jlat_indexOf at h
  refine r_iload_n (i := 1) hX d_Jlat_indexOf_0 1 rfl rfl ?_
  refine r_callS1 (As := [_]) hX hM mw_Jlat_88 (T_Jlat_canEncode _ _) rfl rfl ⟨Nat.le_refl _, Nat.le_refl _⟩ rfl rfl d_Jlat_indexOf_1 ?_
  refine r_if_ne hX d_Jlat_indexOf_4 rfl h (fun h => ?_) (fun h => ?_)
  · refine r_iload_n (i := 2) hX d_Jlat_indexOf_9 2 rfl rfl ?_
    refine r_iconst (v := (0 : Int32)) hX d_Jlat_indexOf_10 rfl ?_
    refine r_max hX hM mx_Jlat_92 rfl rfl ⟨Nat.le_refl _, Nat.le_refl _⟩ d_Jlat_indexOf_11 ?_
    refine r_istore_n (i := 2) hX d_Jlat_indexOf_14 rfl (by decide) ?_
    refine r_iload_n (i := 3) hX d_Jlat_indexOf_15 3 rfl rfl ?_
    refine r_aload_n (i := 0) hX d_Jlat_indexOf_16 1 rfl rfl ?_
    obtain ⟨hk2, h⟩ := gd_e h
    refine r_ylen hX hk2 d_Jlat_indexOf_17 ?_
    refine r_min hX hM mx_Jlat_38 rfl rfl ⟨Nat.le_refl _, Nat.le_refl _⟩ d_Jlat_indexOf_18 ?_
    refine r_istore_n (i := 3) hX d_Jlat_indexOf_21 rfl (by decide) ?_
    refine r_iload_n (i := 2) hX d_Jlat_indexOf_22 1 rfl rfl ?_
    refine r_iload_n (i := 3) hX d_Jlat_indexOf_23 0 rfl rfl ?_
    refine r_icmp_lt hX d_Jlat_indexOf_24 rfl h (fun h => ?_) (fun h => ?_)
    · refine r_aload_n (i := 0) hX d_Jlat_indexOf_29 2 rfl rfl ?_
      refine r_iload_n (i := 1) hX d_Jlat_indexOf_30 3 rfl rfl ?_
      refine r_iload_n (i := 2) hX d_Jlat_indexOf_31 1 rfl rfl ?_
      refine r_iload_n (i := 3) hX d_Jlat_indexOf_32 0 rfl rfl ?_
      obtain ⟨r4, hr5, h⟩ := bd_e h
      refine r_callS1 (As := [_, _, _, _]) hX hM mw_Jlat_95 (T_Jlat_indexOfChar _ _ _ _ _ hr5) rfl rfl ⟨Nat.le_refl _, Nat.le_refl _⟩ rfl rfl d_Jlat_indexOf_33 ?_
      cases h; exact r_iret hX hR d_Jlat_indexOf_36
    · refine r_iconst (v := (-1 : Int32)) hX d_Jlat_indexOf_27 rfl ?_
      cases h; exact r_iret hX hR d_Jlat_indexOf_28
  · refine r_iconst (v := (-1 : Int32)) hX d_Jlat_indexOf_7 rfl ?_
    cases h; exact r_iret hX hR d_Jlat_indexOf_8
theorem T_Jlat_indexOf {l : Launch} {G : AG} (w : AW) (a0 : Nat) (x1 : Int32) (x2 : Int32) (x3 : Int32) {o : Int32} (h : F_Jlat_indexOf w a0 x1 x2 x3 = some o) : Mt l G y_Jlat_indexOf b_Jlat_indexOf 4 (some (.int)) 1 25 0 0 [vr a0, vi x1, vi x2, vi x3] w (some (vi o)) w := mt_of (by decide) (Nat.le_of_ble_eq_true rfl) (fun X hX hR hM hI => P_Jlat_indexOf_0 hX hM hR _ _ _ _ h)
/-! java/lang/String.indexOf(II)I -/
theorem d_Jstr_indexOf_II_0 : decode b_Jstr_indexOf_II 0 = .ok (.aload_n 0, 1) := by decide +kernel
theorem d_Jstr_indexOf_II_1 : decode b_Jstr_indexOf_II 1 = .ok (.invokevirtual 492, 3) := by decide +kernel
theorem d_Jstr_indexOf_II_4 : decode b_Jstr_indexOf_II 4 = .ok (.ifCond .eq (19), 3) := by decide +kernel
theorem d_Jstr_indexOf_II_7 : decode b_Jstr_indexOf_II 7 = .ok (.aload_n 0, 1) := by decide +kernel
theorem d_Jstr_indexOf_II_8 : decode b_Jstr_indexOf_II 8 = .ok (.getfield 9, 3) := by decide +kernel
theorem d_Jstr_indexOf_II_11 : decode b_Jstr_indexOf_II 11 = .ok (.iload_n 1, 1) := by decide +kernel
theorem d_Jstr_indexOf_II_12 : decode b_Jstr_indexOf_II 12 = .ok (.iload_n 2, 1) := by decide +kernel
theorem d_Jstr_indexOf_II_13 : decode b_Jstr_indexOf_II 13 = .ok (.aload_n 0, 1) := by decide +kernel
theorem d_Jstr_indexOf_II_14 : decode b_Jstr_indexOf_II 14 = .ok (.invokevirtual 505, 3) := by decide +kernel
theorem d_Jstr_indexOf_II_17 : decode b_Jstr_indexOf_II 17 = .ok (.invokestatic 637, 3) := by decide +kernel
theorem d_Jstr_indexOf_II_20 : decode b_Jstr_indexOf_II 20 = .ok (.goto (16), 3) := by decide +kernel
theorem d_Jstr_indexOf_II_23 : decode b_Jstr_indexOf_II 23 = .ok (.aload_n 0, 1) := by decide +kernel
theorem d_Jstr_indexOf_II_24 : decode b_Jstr_indexOf_II 24 = .ok (.getfield 9, 3) := by decide +kernel
theorem d_Jstr_indexOf_II_27 : decode b_Jstr_indexOf_II 27 = .ok (.iload_n 1, 1) := by decide +kernel
theorem d_Jstr_indexOf_II_28 : decode b_Jstr_indexOf_II 28 = .ok (.iload_n 2, 1) := by decide +kernel
theorem d_Jstr_indexOf_II_29 : decode b_Jstr_indexOf_II 29 = .ok (.aload_n 0, 1) := by decide +kernel
theorem d_Jstr_indexOf_II_30 : decode b_Jstr_indexOf_II 30 = .ok (.invokevirtual 505, 3) := by decide +kernel
theorem d_Jstr_indexOf_II_33 : decode b_Jstr_indexOf_II 33 = .ok (.invokestatic 640, 3) := by decide +kernel
theorem d_Jstr_indexOf_II_36 : decode b_Jstr_indexOf_II 36 = .ok (.ireturn, 1) := by decide +kernel
def F_Jstr_indexOf_II (w : AW) (a0 : Nat) (x1 : Int32) (x2 : Int32) : Option (Int32) :=
  gd (wk w a0 == 112) <|
  (F_Jstr_isLatin1 w a0).bind fun r2 =>
  if r2 = 0 then
    (F_Jstr_length w a0).bind fun r4 =>
    none
  else
    (F_Jstr_length w a0).bind fun r6 =>
    (F_Jlat_indexOf w (wr w a0 0) x1 x2 r6).bind fun r8 =>
    some r8
theorem P_Jstr_indexOf_II_0 {X : AX} {l : Launch} {G : AG} {w : AW} (hX : XOK X b_Jstr_indexOf_II "java/lang/String" 3) (hM : XM X l G { frames := 2, cells := 0, slots := 0, locals := 48 }) {o : Int32} (hR : XR X (some .int) 0 0 (some (vi o)) w) (a0 : Nat) (x1 : Int32) (x2 : Int32) (h : F_Jstr_indexOf_II w a0 x1 x2 = some o) : RJ X 3 0 0 0 [(0, vr a0), (1, vi x1), (2, vi x2)] [] w := by
  unfold F_Jstr_indexOf_II at h
  refine r_aload_n (i := 0) hX d_Jstr_indexOf_II_0 0 rfl rfl ?_
  obtain ⟨hk1, h⟩ := gd_e h
  obtain ⟨r2, hr3, h⟩ := bd_e h
  refine r_callV1 (As := []) hX hM mw_Jstr_492 (T_Jstr_isLatin1 _ _ hr3) (rc_S hk1) rfl rfl ⟨Nat.le_refl _, Nat.le_refl _⟩ rfl rfl d_Jstr_indexOf_II_1 ?_
  refine r_if_eq hX d_Jstr_indexOf_II_4 rfl h (fun h => ?_) (fun h => ?_)
  · refine r_aload_n (i := 0) hX d_Jstr_indexOf_II_23 0 rfl rfl ?_
    refine r_getSvalue hX fl_Jstr_9 hk1 d_Jstr_indexOf_II_24 ?_
    refine r_iload_n (i := 1) hX d_Jstr_indexOf_II_27 1 rfl rfl ?_
    refine r_iload_n (i := 2) hX d_Jstr_indexOf_II_28 2 rfl rfl ?_
    refine r_aload_n (i := 0) hX d_Jstr_indexOf_II_29 0 rfl rfl ?_
    obtain ⟨r4, hr5, h⟩ := bd_e h
    refine r_callV1 (As := []) hX hM mw_Jstr_505 (T_Jstr_length _ _ hr5) (rc_S hk1) rfl rfl ⟨Nat.le_refl _, Nat.le_refl _⟩ rfl rfl d_Jstr_indexOf_II_30 ?_
    cases h
  · refine r_aload_n (i := 0) hX d_Jstr_indexOf_II_7 0 rfl rfl ?_
    refine r_getSvalue hX fl_Jstr_9 hk1 d_Jstr_indexOf_II_8 ?_
    refine r_iload_n (i := 1) hX d_Jstr_indexOf_II_11 1 rfl rfl ?_
    refine r_iload_n (i := 2) hX d_Jstr_indexOf_II_12 2 rfl rfl ?_
    refine r_aload_n (i := 0) hX d_Jstr_indexOf_II_13 0 rfl rfl ?_
    obtain ⟨r6, hr7, h⟩ := bd_e h
    refine r_callV1 (As := []) hX hM mw_Jstr_505 (T_Jstr_length _ _ hr7) (rc_S hk1) rfl rfl ⟨Nat.le_refl _, Nat.le_refl _⟩ rfl rfl d_Jstr_indexOf_II_14 ?_
    obtain ⟨r8, hr9, h⟩ := bd_e h
    refine r_callS1 (As := [_, _, _, _]) hX hM mw_Jstr_637 (T_Jlat_indexOf _ _ _ _ _ hr9) rfl rfl ⟨Nat.le_refl _, Nat.le_refl _⟩ rfl rfl d_Jstr_indexOf_II_17 ?_
    refine r_goto hX d_Jstr_indexOf_II_20 rfl ?_
    cases h; exact r_iret hX hR d_Jstr_indexOf_II_36
theorem T_Jstr_indexOf_II {l : Launch} {G : AG} (w : AW) (a0 : Nat) (x1 : Int32) (x2 : Int32) {o : Int32} (h : F_Jstr_indexOf_II w a0 x1 x2 = some o) : Mt l G y_Jstr_indexOf_II b_Jstr_indexOf_II 3 (some (.int)) 2 48 0 0 [vr a0, vi x1, vi x2] w (some (vi o)) w := mt_of (by decide) (Nat.le_of_ble_eq_true rfl) (fun X hX hR hM hI => P_Jstr_indexOf_II_0 hX hM hR _ _ _ h)
/-! java/lang/String.indexOf(I)I -/
theorem d_Jstr_indexOf_I_0 : decode b_Jstr_indexOf_I 0 = .ok (.aload_n 0, 1) := by decide +kernel
theorem d_Jstr_indexOf_I_1 : decode b_Jstr_indexOf_I 1 = .ok (.iload_n 1, 1) := by decide +kernel
theorem d_Jstr_indexOf_I_2 : decode b_Jstr_indexOf_I 2 = .ok (.iconst 0, 1) := by decide +kernel
theorem d_Jstr_indexOf_I_3 : decode b_Jstr_indexOf_I 3 = .ok (.invokevirtual 633, 3) := by decide +kernel
theorem d_Jstr_indexOf_I_6 : decode b_Jstr_indexOf_I 6 = .ok (.ireturn, 1) := by decide +kernel
def F_Jstr_indexOf_I (w : AW) (a0 : Nat) (x1 : Int32) : Option (Int32) :=
  gd (wk w a0 == 112) <|
  (F_Jstr_indexOf_II w a0 x1 (0 : Int32)).bind fun r2 =>
  some r2
theorem P_Jstr_indexOf_I_0 {X : AX} {l : Launch} {G : AG} {w : AW} (hX : XOK X b_Jstr_indexOf_I "java/lang/String" 2) (hM : XM X l G { frames := 3, cells := 0, slots := 0, locals := 70 }) {o : Int32} (hR : XR X (some .int) 0 0 (some (vi o)) w) (a0 : Nat) (x1 : Int32) (h : F_Jstr_indexOf_I w a0 x1 = some o) : RJ X 2 0 0 0 [(0, vr a0), (1, vi x1)] [] w := by
  unfold F_Jstr_indexOf_I at h
  refine r_aload_n (i := 0) hX d_Jstr_indexOf_I_0 0 rfl rfl ?_
  refine r_iload_n (i := 1) hX d_Jstr_indexOf_I_1 1 rfl rfl ?_
  refine r_iconst (v := (0 : Int32)) hX d_Jstr_indexOf_I_2 rfl ?_
  obtain ⟨hk1, h⟩ := gd_e h
  obtain ⟨r2, hr3, h⟩ := bd_e h
  refine r_callV1 (As := [_, _]) hX hM mw_Jstr_633 (T_Jstr_indexOf_II _ _ _ _ hr3) (rc_S hk1) rfl rfl ⟨Nat.le_refl _, Nat.le_refl _⟩ rfl rfl d_Jstr_indexOf_I_3 ?_
  cases h; exact r_iret hX hR d_Jstr_indexOf_I_6
theorem T_Jstr_indexOf_I {l : Launch} {G : AG} (w : AW) (a0 : Nat) (x1 : Int32) {o : Int32} (h : F_Jstr_indexOf_I w a0 x1 = some o) : Mt l G y_Jstr_indexOf_I b_Jstr_indexOf_I 2 (some (.int)) 3 70 0 0 [vr a0, vi x1] w (some (vi o)) w := mt_of (by decide) (Nat.le_of_ble_eq_true rfl) (fun X hX hR hM hI => P_Jstr_indexOf_I_0 hX hM hR _ _ h)
/-! RedSky$Page.goesTo(I)Z -/
theorem d_Pg_goesTo_0 : decode b_Pg_goesTo 0 = .ok (.aload_n 0, 1) := by decide +kernel
theorem d_Pg_goesTo_1 : decode b_Pg_goesTo 1 = .ok (.iload_n 1, 1) := by decide +kernel
theorem d_Pg_goesTo_2 : decode b_Pg_goesTo 2 = .ok (.putfield 37, 3) := by decide +kernel
theorem d_Pg_goesTo_5 : decode b_Pg_goesTo 5 = .ok (.iconst 1, 1) := by decide +kernel
theorem d_Pg_goesTo_6 : decode b_Pg_goesTo 6 = .ok (.ireturn, 1) := by decide +kernel
def F_Pg_goesTo (a0 : Nat) (x1 : Int32) (w : AW) : Option (Int32 × AW) :=
  gd (wk w a0 == 4) <|
  let w2 : AW := upI w a0 5 x1
  some ((1 : Int32), w2)
theorem P_Pg_goesTo_0 {X : AX} {l : Launch} {G : AG} (hX : XOK X b_Pg_goesTo "RedSky$Page" 2) (hM : XM X l G { frames := 0, cells := 0, slots := 0, locals := 0 }) {o : Int32 × AW} (hR : XR X (some .boolean) 0 0 (some (vi o.1)) o.2) (a0 : Nat) (x1 : Int32) (w : AW) (h : F_Pg_goesTo a0 x1 w = some o) : RJ X 2 0 0 0 [(0, vr a0), (1, vi x1)] [] w := by
  unfold F_Pg_goesTo at h
  refine r_aload_n (i := 0) hX d_Pg_goesTo_0 0 rfl rfl ?_
  refine r_iload_n (i := 1) hX d_Pg_goesTo_1 1 rfl rfl ?_
  obtain ⟨hk1, h⟩ := gd_e h
  refine r_putI (i := 3) (f := 5) hX ci_3 (by decide) rfl rfl (fun G => rfl) (fun G => rfl) fl_Pg_37 hk1 d_Pg_goesTo_2 ?_
  refine r_iconst (v := (1 : Int32)) hX d_Pg_goesTo_5 rfl ?_
  cases h; exact r_zret hX hR rfl d_Pg_goesTo_6
theorem T_Pg_goesTo {l : Launch} {G : AG} (a0 : Nat) (x1 : Int32) (w : AW) {o : Int32 × AW} (h : F_Pg_goesTo a0 x1 w = some o) : Mt l G y_Pg_goesTo b_Pg_goesTo 2 (some (.boolean)) 0 0 0 0 [vr a0, vi x1] w (some (vi o.1)) o.2 := mt_of (by decide) (Nat.le_of_ble_eq_true rfl) (fun X hX hR hM hI => P_Pg_goesTo_0 hX hM hR _ _ _ h)
/-! RedSky$Page.startsFactor(I)Z -/
theorem d_Pg_startsFactor_0 : decode b_Pg_startsFactor 0 = .ok (.iload_n 1, 1) := by decide +kernel
theorem d_Pg_startsFactor_1 : decode b_Pg_startsFactor 1 = .ok (.bipush (40), 2) := by decide +kernel
theorem d_Pg_startsFactor_3 : decode b_Pg_startsFactor 3 = .ok (.if_icmp .ne (14), 3) := by decide +kernel
theorem d_Pg_startsFactor_6 : decode b_Pg_startsFactor 6 = .ok (.aload_n 0, 1) := by decide +kernel
theorem d_Pg_startsFactor_7 : decode b_Pg_startsFactor 7 = .ok (.aload_n 0, 1) := by decide +kernel
theorem d_Pg_startsFactor_8 : decode b_Pg_startsFactor 8 = .ok (.getfield 55, 3) := by decide +kernel
theorem d_Pg_startsFactor_11 : decode b_Pg_startsFactor 11 = .ok (.iconst 1, 1) := by decide +kernel
theorem d_Pg_startsFactor_12 : decode b_Pg_startsFactor 12 = .ok (.iadd, 1) := by decide +kernel
theorem d_Pg_startsFactor_13 : decode b_Pg_startsFactor 13 = .ok (.invokevirtual 146, 3) := by decide +kernel
theorem d_Pg_startsFactor_16 : decode b_Pg_startsFactor 16 = .ok (.ireturn, 1) := by decide +kernel
theorem d_Pg_startsFactor_17 : decode b_Pg_startsFactor 17 = .ok (.iload_n 1, 1) := by decide +kernel
theorem d_Pg_startsFactor_18 : decode b_Pg_startsFactor 18 = .ok (.bipush (33), 2) := by decide +kernel
theorem d_Pg_startsFactor_20 : decode b_Pg_startsFactor 20 = .ok (.if_icmp .ne (18), 3) := by decide +kernel
theorem d_Pg_startsFactor_23 : decode b_Pg_startsFactor 23 = .ok (.aload_n 0, 1) := by decide +kernel
theorem d_Pg_startsFactor_24 : decode b_Pg_startsFactor 24 = .ok (.getfield 58, 3) := by decide +kernel
theorem d_Pg_startsFactor_27 : decode b_Pg_startsFactor 27 = .ok (.aload_n 0, 1) := by decide +kernel
theorem d_Pg_startsFactor_28 : decode b_Pg_startsFactor 28 = .ok (.invokevirtual 149, 3) := by decide +kernel
theorem d_Pg_startsFactor_31 : decode b_Pg_startsFactor 31 = .ok (.dup2, 1) := by decide +kernel
theorem d_Pg_startsFactor_32 : decode b_Pg_startsFactor 32 = .ok (.iaload, 1) := by decide +kernel
theorem d_Pg_startsFactor_33 : decode b_Pg_startsFactor 33 = .ok (.iconst 1, 1) := by decide +kernel
theorem d_Pg_startsFactor_34 : decode b_Pg_startsFactor 34 = .ok (.iadd, 1) := by decide +kernel
theorem d_Pg_startsFactor_35 : decode b_Pg_startsFactor 35 = .ok (.iastore, 1) := by decide +kernel
theorem d_Pg_startsFactor_36 : decode b_Pg_startsFactor 36 = .ok (.iconst 1, 1) := by decide +kernel
theorem d_Pg_startsFactor_37 : decode b_Pg_startsFactor 37 = .ok (.ireturn, 1) := by decide +kernel
theorem d_Pg_startsFactor_38 : decode b_Pg_startsFactor 38 = .ok (.aload_n 0, 1) := by decide +kernel
theorem d_Pg_startsFactor_39 : decode b_Pg_startsFactor 39 = .ok (.ldc 152, 2) := by decide +kernel
theorem d_Pg_startsFactor_41 : decode b_Pg_startsFactor 41 = .ok (.iload_n 1, 1) := by decide +kernel
theorem d_Pg_startsFactor_42 : decode b_Pg_startsFactor 42 = .ok (.i2c, 1) := by decide +kernel
theorem d_Pg_startsFactor_43 : decode b_Pg_startsFactor 43 = .ok (.invokevirtual 154, 3) := by decide +kernel
theorem d_Pg_startsFactor_46 : decode b_Pg_startsFactor 46 = .ok (.putfield 40, 3) := by decide +kernel
theorem d_Pg_startsFactor_49 : decode b_Pg_startsFactor 49 = .ok (.aload_n 0, 1) := by decide +kernel
theorem d_Pg_startsFactor_50 : decode b_Pg_startsFactor 50 = .ok (.getfield 40, 3) := by decide +kernel
theorem d_Pg_startsFactor_53 : decode b_Pg_startsFactor 53 = .ok (.ifCond .lt (15), 3) := by decide +kernel
theorem d_Pg_startsFactor_56 : decode b_Pg_startsFactor 56 = .ok (.aload_n 0, 1) := by decide +kernel
theorem d_Pg_startsFactor_57 : decode b_Pg_startsFactor 57 = .ok (.iconst 1, 1) := by decide +kernel
theorem d_Pg_startsFactor_58 : decode b_Pg_startsFactor 58 = .ok (.invokevirtual 133, 3) := by decide +kernel
theorem d_Pg_startsFactor_61 : decode b_Pg_startsFactor 61 = .ok (.ifCond .eq (7), 3) := by decide +kernel
theorem d_Pg_startsFactor_64 : decode b_Pg_startsFactor 64 = .ok (.iconst 1, 1) := by decide +kernel
theorem d_Pg_startsFactor_65 : decode b_Pg_startsFactor 65 = .ok (.goto (4), 3) := by decide +kernel
theorem d_Pg_startsFactor_68 : decode b_Pg_startsFactor 68 = .ok (.iconst 0, 1) := by decide +kernel
theorem d_Pg_startsFactor_69 : decode b_Pg_startsFactor 69 = .ok (.ireturn, 1) := by decide +kernel
def F_Pg_startsFactor (a0 : Nat) (x1 : Int32) (w : AW) : Option (Int32 × AW) :=
  if x1 = (40 : Int32) then
    gd (wk w a0 == 4) <|
    (F_Pg_openLevel a0 ((wi w a0 11) + (1 : Int32)) w).bind fun r16 =>
    gd (r16.1 == 0 || r16.1 == 1) <|
    some (r16.1, r16.2)
  else
    if x1 = (33 : Int32) then
      gd (wk w a0 == 4) <|
      (F_Pg_level w a0).bind fun r9 =>
      gd (wk w (wr w a0 12) == 100) <|
      gd (inb r9 (wn w (wr w a0 12))) <|
      gd (inb r9 (wn w (wr w a0 12))) <|
      let w14 : AW := upI w (wr w a0 12) (Int32.toNatClampNeg r9) ((wi w (wr w a0 12) (Int32.toNatClampNeg r9)) + (1 : Int32))
      some ((1 : Int32), w14)
    else
      gd (wk w 7 == 112) <|
      (F_Jstr_indexOf_I w 7 (i2cv x1)).bind fun r2 =>
      gd (wk w a0 == 4) <|
      let w5 : AW := upI w a0 6 r2
      if (wi w5 a0 6) < 0 then
        some ((0 : Int32), w5)
      else
        (F_Pg_goesTo a0 (1 : Int32) w5).bind fun r6 =>
        if r6.1 = 0 then
          some ((0 : Int32), r6.2)
        else
          some ((1 : Int32), r6.2)
theorem P_Pg_startsFactor_0 {X : AX} {l : Launch} {G : AG} (hX : XOK X b_Pg_startsFactor "RedSky$Page" 2) (hM : XM X l G { frames := 4, cells := 0, slots := 0, locals := 91 }) {o : Int32 × AW} (hR : XR X (some .boolean) 0 0 (some (vi o.1)) o.2) (a0 : Nat) (x1 : Int32) (w : AW) (h : F_Pg_startsFactor a0 x1 w = some o) : RJ X 2 0 0 0 [(0, vr a0), (1, vi x1)] [] w := by
  unfold F_Pg_startsFactor at h
  refine r_iload_n (i := 1) hX d_Pg_startsFactor_0 1 rfl rfl ?_
  refine r_bipush (v := (40 : Int32)) hX d_Pg_startsFactor_1 rfl ?_
  refine r_icmp_ne hX d_Pg_startsFactor_3 rfl h (fun h => ?_) (fun h => ?_)
  · refine r_iload_n (i := 1) hX d_Pg_startsFactor_17 1 rfl rfl ?_
    refine r_bipush (v := (33 : Int32)) hX d_Pg_startsFactor_18 rfl ?_
    refine r_icmp_ne hX d_Pg_startsFactor_20 rfl h (fun h => ?_) (fun h => ?_)
    · refine r_aload_n (i := 0) hX d_Pg_startsFactor_38 0 rfl rfl ?_
      refine r_ldcS1 hX d_Pg_startsFactor_39 ?_
      refine r_iload_n (i := 1) hX d_Pg_startsFactor_41 1 rfl rfl ?_
      refine r_i2c hX d_Pg_startsFactor_42 ?_
      obtain ⟨hk1, h⟩ := gd_e h
      obtain ⟨r2, hr3, h⟩ := bd_e h
      refine r_callV1 (As := [_]) hX hM mw_Pg_154 (T_Jstr_indexOf_I _ _ _ hr3) (rc_S hk1) rfl rfl ⟨Nat.le_refl _, Nat.le_refl _⟩ rfl rfl d_Pg_startsFactor_43 ?_
      obtain ⟨hk4, h⟩ := gd_e h
      refine r_putI (i := 3) (f := 6) hX ci_3 (by decide) rfl rfl (fun G => rfl) (fun G => rfl) fl_Pg_40 hk4 d_Pg_startsFactor_46 ?_
      refine r_aload_n (i := 0) hX d_Pg_startsFactor_49 0 rfl rfl ?_
      refine r_getI (i := 3) (f := 6) hX ci_3 (by decide) rfl fl_Pg_40 (kI hk4) d_Pg_startsFactor_50 ?_
      refine r_if_lt hX d_Pg_startsFactor_53 rfl h (fun h => ?_) (fun h => ?_)
      · refine r_iconst (v := (0 : Int32)) hX d_Pg_startsFactor_68 rfl ?_
        cases h; exact r_zret hX hR rfl d_Pg_startsFactor_69
      · refine r_aload_n (i := 0) hX d_Pg_startsFactor_56 0 rfl rfl ?_
        refine r_iconst (v := (1 : Int32)) hX d_Pg_startsFactor_57 rfl ?_
        obtain ⟨r6, hr7, h⟩ := bd_e h
        refine r_callV1 (As := [_]) hX hM mw_Pg_133 (T_Pg_goesTo _ _ _ hr7) (rc_of ci_3 (kI hk4)) rfl rfl ⟨Nat.le_refl _, Nat.le_refl _⟩ rfl rfl d_Pg_startsFactor_58 ?_
        refine r_if_eq hX d_Pg_startsFactor_61 rfl h (fun h => ?_) (fun h => ?_)
        · refine r_iconst (v := (0 : Int32)) hX d_Pg_startsFactor_68 rfl ?_
          cases h; exact r_zret hX hR rfl d_Pg_startsFactor_69
        · refine r_iconst (v := (1 : Int32)) hX d_Pg_startsFactor_64 rfl ?_
          refine r_goto hX d_Pg_startsFactor_65 rfl ?_
          cases h; exact r_zret hX hR rfl d_Pg_startsFactor_69
    · refine r_aload_n (i := 0) hX d_Pg_startsFactor_23 0 rfl rfl ?_
      obtain ⟨hk8, h⟩ := gd_e h
      refine r_getR (i := 3) (f := 12) hX ci_3 (by decide) rfl fl_Pg_58 hk8 d_Pg_startsFactor_24 ?_
      refine r_aload_n (i := 0) hX d_Pg_startsFactor_27 0 rfl rfl ?_
      obtain ⟨r9, hr10, h⟩ := bd_e h
      refine r_callV1 (As := []) hX hM mw_Pg_149 (T_Pg_level _ _ hr10) (rc_of ci_3 hk8) rfl rfl ⟨Nat.le_refl _, Nat.le_refl _⟩ rfl rfl d_Pg_startsFactor_28 ?_
      refine r_dup2 hX d_Pg_startsFactor_31 rfl rfl ?_
      obtain ⟨hk11, h⟩ := gd_e h
      obtain ⟨hg12, h⟩ := gd_e h
      refine r_iald hX hk11 hg12 d_Pg_startsFactor_32 ?_
      refine r_iconst (v := (1 : Int32)) hX d_Pg_startsFactor_33 rfl ?_
      refine r_iadd hX d_Pg_startsFactor_34 ?_
      obtain ⟨hg13, h⟩ := gd_e h
      refine r_iast hX hk11 hg13 d_Pg_startsFactor_35 ?_
      refine r_iconst (v := (1 : Int32)) hX d_Pg_startsFactor_36 rfl ?_
      cases h; exact r_zret hX hR rfl d_Pg_startsFactor_37
  · refine r_aload_n (i := 0) hX d_Pg_startsFactor_6 0 rfl rfl ?_
    refine r_aload_n (i := 0) hX d_Pg_startsFactor_7 0 rfl rfl ?_
    obtain ⟨hk15, h⟩ := gd_e h
    refine r_getI (i := 3) (f := 11) hX ci_3 (by decide) rfl fl_Pg_55 hk15 d_Pg_startsFactor_8 ?_
    refine r_iconst (v := (1 : Int32)) hX d_Pg_startsFactor_11 rfl ?_
    refine r_iadd hX d_Pg_startsFactor_12 ?_
    obtain ⟨r16, hr17, h⟩ := bd_e h
    refine r_callV1 (As := [_]) hX hM mw_Pg_146 (T_Pg_openLevel _ _ _ hr17) (rc_of ci_3 hk15) rfl rfl ⟨Nat.le_refl _, Nat.le_refl _⟩ rfl rfl d_Pg_startsFactor_13 ?_
    obtain ⟨hg18, h⟩ := gd_e h
    cases h; exact r_zret hX hR (zn_ok hg18) d_Pg_startsFactor_16
theorem T_Pg_startsFactor {l : Launch} {G : AG} (a0 : Nat) (x1 : Int32) (w : AW) {o : Int32 × AW} (h : F_Pg_startsFactor a0 x1 w = some o) : Mt l G y_Pg_startsFactor b_Pg_startsFactor 2 (some (.boolean)) 4 91 0 0 [vr a0, vi x1] w (some (vi o.1)) o.2 := mt_of (by decide) (Nat.le_of_ble_eq_true rfl) (fun X hX hR hM hI => P_Pg_startsFactor_0 hX hM hR _ _ _ h)
/-! RedSky$Condition.addStep(I)V -/
theorem d_Co_addStep_0 : decode b_Co_addStep 0 = .ok (.aload_n 0, 1) := by decide +kernel
theorem d_Co_addStep_1 : decode b_Co_addStep 1 = .ok (.getfield 19, 3) := by decide +kernel
theorem d_Co_addStep_4 : decode b_Co_addStep 4 = .ok (.ifCond .lt (43), 3) := by decide +kernel
theorem d_Co_addStep_7 : decode b_Co_addStep 7 = .ok (.aload_n 0, 1) := by decide +kernel
theorem d_Co_addStep_8 : decode b_Co_addStep 8 = .ok (.getfield 19, 3) := by decide +kernel
theorem d_Co_addStep_11 : decode b_Co_addStep 11 = .ok (.bipush (80), 2) := by decide +kernel
theorem d_Co_addStep_13 : decode b_Co_addStep 13 = .ok (.if_icmp .ge (34), 3) := by decide +kernel
theorem d_Co_addStep_16 : decode b_Co_addStep 16 = .ok (.aload_n 0, 1) := by decide +kernel
theorem d_Co_addStep_17 : decode b_Co_addStep 17 = .ok (.getfield 9, 3) := by decide +kernel
theorem d_Co_addStep_20 : decode b_Co_addStep 20 = .ok (.aload_n 0, 1) := by decide +kernel
theorem d_Co_addStep_21 : decode b_Co_addStep 21 = .ok (.getfield 19, 3) := by decide +kernel
theorem d_Co_addStep_24 : decode b_Co_addStep 24 = .ok (.iload_n 1, 1) := by decide +kernel
theorem d_Co_addStep_25 : decode b_Co_addStep 25 = .ok (.i2b, 1) := by decide +kernel
theorem d_Co_addStep_26 : decode b_Co_addStep 26 = .ok (.bastore, 1) := by decide +kernel
theorem d_Co_addStep_27 : decode b_Co_addStep 27 = .ok (.aload_n 0, 1) := by decide +kernel
theorem d_Co_addStep_28 : decode b_Co_addStep 28 = .ok (.getfield 15, 3) := by decide +kernel
theorem d_Co_addStep_31 : decode b_Co_addStep 31 = .ok (.aload_n 0, 1) := by decide +kernel
theorem d_Co_addStep_32 : decode b_Co_addStep 32 = .ok (.getfield 19, 3) := by decide +kernel
theorem d_Co_addStep_35 : decode b_Co_addStep 35 = .ok (.iconst 0, 1) := by decide +kernel
theorem d_Co_addStep_36 : decode b_Co_addStep 36 = .ok (.sastore, 1) := by decide +kernel
theorem d_Co_addStep_37 : decode b_Co_addStep 37 = .ok (.aload_n 0, 1) := by decide +kernel
theorem d_Co_addStep_38 : decode b_Co_addStep 38 = .ok (.dup, 1) := by decide +kernel
theorem d_Co_addStep_39 : decode b_Co_addStep 39 = .ok (.getfield 19, 3) := by decide +kernel
theorem d_Co_addStep_42 : decode b_Co_addStep 42 = .ok (.iconst 1, 1) := by decide +kernel
theorem d_Co_addStep_43 : decode b_Co_addStep 43 = .ok (.iadd, 1) := by decide +kernel
theorem d_Co_addStep_44 : decode b_Co_addStep 44 = .ok (.putfield 19, 3) := by decide +kernel
theorem d_Co_addStep_47 : decode b_Co_addStep 47 = .ok (.return_, 1) := by decide +kernel
def F_Co_addStep (a0 : Nat) (x1 : Int32) (w : AW) : Option (AW) :=
  gd (wk w a0 == 6) <|
  if (wi w a0 2) < 0 then
    some w
  else
    if (80 : Int32) ≤ (wi w a0 2) then
      some w
    else
      gd (wk w (wr w a0 0) == 102) <|
      gd (inb (wi w a0 2) (wn w (wr w a0 0))) <|
      let w4 : AW := upI w (wr w a0 0) (Int32.toNatClampNeg (wi w a0 2)) (Int8.toInt32 (Int32.toInt8 (Int8.toInt32 (Int32.toInt8 x1))))
      gd (wk w4 (wr w4 a0 1) == 103) <|
      gd (inb (wi w4 a0 2) (wn w4 (wr w4 a0 1))) <|
      let w7 : AW := upI w4 (wr w4 a0 1) (Int32.toNatClampNeg (wi w4 a0 2)) (Int16.toInt32 (Int32.toInt16 (0 : Int32)))
      let w8 : AW := upI w7 a0 2 ((wi w7 a0 2) + (1 : Int32))
      some w8
theorem P_Co_addStep_0 {X : AX} {l : Launch} {G : AG} (hX : XOK X b_Co_addStep "RedSky$Condition" 2) (hM : XM X l G { frames := 0, cells := 0, slots := 0, locals := 0 }) {o : AW} (hR : XR X none 0 0 none o) (a0 : Nat) (x1 : Int32) (w : AW) (h : F_Co_addStep a0 x1 w = some o) : RJ X 2 0 0 0 [(0, vr a0), (1, vi x1)] [] w := by
  unfold F_Co_addStep at h
  refine r_aload_n (i := 0) hX d_Co_addStep_0 0 rfl rfl ?_
  obtain ⟨hk1, h⟩ := gd_e h
  refine r_getI (i := 5) (f := 2) hX ci_5 (by decide) rfl fl_Co_19 hk1 d_Co_addStep_1 ?_
  refine r_if_lt hX d_Co_addStep_4 rfl h (fun h => ?_) (fun h => ?_)
  · cases h; exact r_vret hX hR d_Co_addStep_47
  · refine r_aload_n (i := 0) hX d_Co_addStep_7 0 rfl rfl ?_
    refine r_getI (i := 5) (f := 2) hX ci_5 (by decide) rfl fl_Co_19 hk1 d_Co_addStep_8 ?_
    refine r_bipush (v := (80 : Int32)) hX d_Co_addStep_11 rfl ?_
    refine r_icmp_ge hX d_Co_addStep_13 rfl h (fun h => ?_) (fun h => ?_)
    · cases h; exact r_vret hX hR d_Co_addStep_47
    · refine r_aload_n (i := 0) hX d_Co_addStep_16 0 rfl rfl ?_
      refine r_getR (i := 5) (f := 0) hX ci_5 (by decide) rfl fl_Co_9 hk1 d_Co_addStep_17 ?_
      refine r_aload_n (i := 0) hX d_Co_addStep_20 0 rfl rfl ?_
      refine r_getI (i := 5) (f := 2) hX ci_5 (by decide) rfl fl_Co_19 hk1 d_Co_addStep_21 ?_
      refine r_iload_n (i := 1) hX d_Co_addStep_24 1 rfl rfl ?_
      refine r_i2b hX d_Co_addStep_25 ?_
      obtain ⟨hk2, h⟩ := gd_e h
      obtain ⟨hg3, h⟩ := gd_e h
      refine r_bast hX hk2 hg3 d_Co_addStep_26 ?_
      refine r_aload_n (i := 0) hX d_Co_addStep_27 0 rfl rfl ?_
      refine r_getR (i := 5) (f := 1) hX ci_5 (by decide) rfl fl_Co_15 (kI hk1) d_Co_addStep_28 ?_
      refine r_aload_n (i := 0) hX d_Co_addStep_31 0 rfl rfl ?_
      refine r_getI (i := 5) (f := 2) hX ci_5 (by decide) rfl fl_Co_19 (kI hk1) d_Co_addStep_32 ?_
      refine r_iconst (v := (0 : Int32)) hX d_Co_addStep_35 rfl ?_
      obtain ⟨hk5, h⟩ := gd_e h
      obtain ⟨hg6, h⟩ := gd_e h
      refine r_sast hX hk5 hg6 d_Co_addStep_36 ?_
      refine r_aload_n (i := 0) hX d_Co_addStep_37 0 rfl rfl ?_
      refine r_dup hX d_Co_addStep_38 rfl ?_
      refine r_getI (i := 5) (f := 2) hX ci_5 (by decide) rfl fl_Co_19 (kI (kI hk1)) d_Co_addStep_39 ?_
      refine r_iconst (v := (1 : Int32)) hX d_Co_addStep_42 rfl ?_
      refine r_iadd hX d_Co_addStep_43 ?_
      refine r_putI (i := 5) (f := 2) hX ci_5 (by decide) rfl rfl (fun G => rfl) (fun G => rfl) fl_Co_19 (kI (kI hk1)) d_Co_addStep_44 ?_
      cases h; exact r_vret hX hR d_Co_addStep_47
theorem T_Co_addStep {l : Launch} {G : AG} (a0 : Nat) (x1 : Int32) (w : AW) {o : AW} (h : F_Co_addStep a0 x1 w = some o) : Mt l G y_Co_addStep b_Co_addStep 2 none 0 0 0 0 [vr a0, vi x1] w none o := mt_of (by decide) (Nat.le_of_ble_eq_true rfl) (fun X hX hR hM hI => P_Co_addStep_0 hX hM hR _ _ _ h)
/-! RedSky$Condition.addComparison(II)I -/
theorem d_Co_addComparison_0 : decode b_Co_addComparison 0 = .ok (.aload_n 0, 1) := by decide +kernel
theorem d_Co_addComparison_1 : decode b_Co_addComparison 1 = .ok (.iconst 3, 1) := by decide +kernel
theorem d_Co_addComparison_2 : decode b_Co_addComparison 2 = .ok (.iload_n 1, 1) := by decide +kernel
theorem d_Co_addComparison_3 : decode b_Co_addComparison 3 = .ok (.imul, 1) := by decide +kernel
theorem d_Co_addComparison_4 : decode b_Co_addComparison 4 = .ok (.iload_n 2, 1) := by decide +kernel
theorem d_Co_addComparison_5 : decode b_Co_addComparison 5 = .ok (.iadd, 1) := by decide +kernel
theorem d_Co_addComparison_6 : decode b_Co_addComparison 6 = .ok (.iconst 1, 1) := by decide +kernel
theorem d_Co_addComparison_7 : decode b_Co_addComparison 7 = .ok (.iadd, 1) := by decide +kernel
theorem d_Co_addComparison_8 : decode b_Co_addComparison 8 = .ok (.invokevirtual 32, 3) := by decide +kernel
theorem d_Co_addComparison_11 : decode b_Co_addComparison 11 = .ok (.aload_n 0, 1) := by decide +kernel
theorem d_Co_addComparison_12 : decode b_Co_addComparison 12 = .ok (.dup, 1) := by decide +kernel
theorem d_Co_addComparison_13 : decode b_Co_addComparison 13 = .ok (.getfield 23, 3) := by decide +kernel
theorem d_Co_addComparison_16 : decode b_Co_addComparison 16 = .ok (.iconst 1, 1) := by decide +kernel
theorem d_Co_addComparison_17 : decode b_Co_addComparison 17 = .ok (.iload_n 1, 1) := by decide +kernel
theorem d_Co_addComparison_18 : decode b_Co_addComparison 18 = .ok (.ishl, 1) := by decide +kernel
theorem d_Co_addComparison_19 : decode b_Co_addComparison 19 = .ok (.ior, 1) := by decide +kernel
theorem d_Co_addComparison_20 : decode b_Co_addComparison 20 = .ok (.putfield 23, 3) := by decide +kernel
theorem d_Co_addComparison_23 : decode b_Co_addComparison 23 = .ok (.aload_n 0, 1) := by decide +kernel
theorem d_Co_addComparison_24 : decode b_Co_addComparison 24 = .ok (.dup, 1) := by decide +kernel
theorem d_Co_addComparison_25 : decode b_Co_addComparison 25 = .ok (.getfield 26, 3) := by decide +kernel
theorem d_Co_addComparison_28 : decode b_Co_addComparison 28 = .ok (.iconst 1, 1) := by decide +kernel
theorem d_Co_addComparison_29 : decode b_Co_addComparison 29 = .ok (.iadd, 1) := by decide +kernel
theorem d_Co_addComparison_30 : decode b_Co_addComparison 30 = .ok (.putfield 26, 3) := by decide +kernel
theorem d_Co_addComparison_33 : decode b_Co_addComparison 33 = .ok (.aload_n 0, 1) := by decide +kernel
theorem d_Co_addComparison_34 : decode b_Co_addComparison 34 = .ok (.getfield 19, 3) := by decide +kernel
theorem d_Co_addComparison_37 : decode b_Co_addComparison 37 = .ok (.iconst 1, 1) := by decide +kernel
theorem d_Co_addComparison_38 : decode b_Co_addComparison 38 = .ok (.isub, 1) := by decide +kernel
theorem d_Co_addComparison_39 : decode b_Co_addComparison 39 = .ok (.ireturn, 1) := by decide +kernel
def F_Co_addComparison (a0 : Nat) (x1 : Int32) (x2 : Int32) (w : AW) : Option (Int32 × AW) :=
  gd (wk w a0 == 6) <|
  (F_Co_addStep a0 ((((3 : Int32) * x1) + x2) + (1 : Int32)) w).bind fun r2 =>
  gd (wk r2 a0 == 6) <|
  let w5 : AW := upI r2 a0 3 ((wi r2 a0 3) ||| ((1 : Int32) <<< (x1 &&& 31)))
  let w6 : AW := upI w5 a0 4 ((wi w5 a0 4) + (1 : Int32))
  some (((wi w6 a0 2) - (1 : Int32)), w6)
theorem P_Co_addComparison_0 {X : AX} {l : Launch} {G : AG} (hX : XOK X b_Co_addComparison "RedSky$Condition" 3) (hM : XM X l G { frames := 1, cells := 0, slots := 0, locals := 21 }) {o : Int32 × AW} (hR : XR X (some .int) 0 0 (some (vi o.1)) o.2) (a0 : Nat) (x1 : Int32) (x2 : Int32) (w : AW) (h : F_Co_addComparison a0 x1 x2 w = some o) : RJ X 3 0 0 0 [(0, vr a0), (1, vi x1), (2, vi x2)] [] w := by
  unfold F_Co_addComparison at h
  refine r_aload_n (i := 0) hX d_Co_addComparison_0 0 rfl rfl ?_
  refine r_iconst (v := (3 : Int32)) hX d_Co_addComparison_1 rfl ?_
  refine r_iload_n (i := 1) hX d_Co_addComparison_2 1 rfl rfl ?_
  refine r_imul hX d_Co_addComparison_3 ?_
  refine r_iload_n (i := 2) hX d_Co_addComparison_4 2 rfl rfl ?_
  refine r_iadd hX d_Co_addComparison_5 ?_
  refine r_iconst (v := (1 : Int32)) hX d_Co_addComparison_6 rfl ?_
  refine r_iadd hX d_Co_addComparison_7 ?_
  obtain ⟨hk1, h⟩ := gd_e h
  obtain ⟨r2, hr3, h⟩ := bd_e h
  refine r_callV0 (As := [_]) hX hM mw_Co_32 (T_Co_addStep _ _ _ hr3) (rc_of ci_5 hk1) rfl rfl ⟨Nat.le_refl _, Nat.le_refl _⟩ rfl rfl d_Co_addComparison_8 ?_
  refine r_aload_n (i := 0) hX d_Co_addComparison_11 0 rfl rfl ?_
  refine r_dup hX d_Co_addComparison_12 rfl ?_
  obtain ⟨hk4, h⟩ := gd_e h
  refine r_getI (i := 5) (f := 3) hX ci_5 (by decide) rfl fl_Co_23 hk4 d_Co_addComparison_13 ?_
  refine r_iconst (v := (1 : Int32)) hX d_Co_addComparison_16 rfl ?_
  refine r_iload_n (i := 1) hX d_Co_addComparison_17 1 rfl rfl ?_
  refine r_ishl hX d_Co_addComparison_18 ?_
  refine r_ior hX d_Co_addComparison_19 ?_
  refine r_putI (i := 5) (f := 3) hX ci_5 (by decide) rfl rfl (fun G => rfl) (fun G => rfl) fl_Co_23 hk4 d_Co_addComparison_20 ?_
  refine r_aload_n (i := 0) hX d_Co_addComparison_23 0 rfl rfl ?_
  refine r_dup hX d_Co_addComparison_24 rfl ?_
  refine r_getI (i := 5) (f := 4) hX ci_5 (by decide) rfl fl_Co_26 (kI hk4) d_Co_addComparison_25 ?_
  refine r_iconst (v := (1 : Int32)) hX d_Co_addComparison_28 rfl ?_
  refine r_iadd hX d_Co_addComparison_29 ?_
  refine r_putI (i := 5) (f := 4) hX ci_5 (by decide) rfl rfl (fun G => rfl) (fun G => rfl) fl_Co_26 (kI hk4) d_Co_addComparison_30 ?_
  refine r_aload_n (i := 0) hX d_Co_addComparison_33 0 rfl rfl ?_
  refine r_getI (i := 5) (f := 2) hX ci_5 (by decide) rfl fl_Co_19 (kI (kI hk4)) d_Co_addComparison_34 ?_
  refine r_iconst (v := (1 : Int32)) hX d_Co_addComparison_37 rfl ?_
  refine r_isub hX d_Co_addComparison_38 ?_
  cases h; exact r_iret hX hR d_Co_addComparison_39
theorem T_Co_addComparison {l : Launch} {G : AG} (a0 : Nat) (x1 : Int32) (x2 : Int32) (w : AW) {o : Int32 × AW} (h : F_Co_addComparison a0 x1 x2 w = some o) : Mt l G y_Co_addComparison b_Co_addComparison 3 (some (.int)) 1 21 0 0 [vr a0, vi x1, vi x2] w (some (vi o.1)) o.2 := mt_of (by decide) (Nat.le_of_ble_eq_true rfl) (fun X hX hR hM hI => P_Co_addComparison_0 hX hM hR _ _ _ _ h)
/-! RedSky$Page.readsSign(I)Z -/
theorem d_Pg_readsSign_0 : decode b_Pg_readsSign 0 = .ok (.ldc 159, 2) := by decide +kernel
theorem d_Pg_readsSign_2 : decode b_Pg_readsSign 2 = .ok (.iload_n 1, 1) := by decide +kernel
theorem d_Pg_readsSign_3 : decode b_Pg_readsSign 3 = .ok (.i2c, 1) := by decide +kernel
theorem d_Pg_readsSign_4 : decode b_Pg_readsSign 4 = .ok (.invokevirtual 154, 3) := by decide +kernel
theorem d_Pg_readsSign_7 : decode b_Pg_readsSign 7 = .ok (.istore_n 2, 1) := by decide +kernel
theorem d_Pg_readsSign_8 : decode b_Pg_readsSign 8 = .ok (.iload_n 2, 1) := by decide +kernel
theorem d_Pg_readsSign_9 : decode b_Pg_readsSign 9 = .ok (.ifCond .ge (5), 3) := by decide +kernel
theorem d_Pg_readsSign_12 : decode b_Pg_readsSign 12 = .ok (.iconst 0, 1) := by decide +kernel
theorem d_Pg_readsSign_13 : decode b_Pg_readsSign 13 = .ok (.ireturn, 1) := by decide +kernel
theorem d_Pg_readsSign_14 : decode b_Pg_readsSign 14 = .ok (.aload_n 0, 1) := by decide +kernel
theorem d_Pg_readsSign_15 : decode b_Pg_readsSign 15 = .ok (.aload_n 0, 1) := by decide +kernel
theorem d_Pg_readsSign_16 : decode b_Pg_readsSign 16 = .ok (.getfield 30, 3) := by decide +kernel
theorem d_Pg_readsSign_19 : decode b_Pg_readsSign 19 = .ok (.aload_n 0, 1) := by decide +kernel
theorem d_Pg_readsSign_20 : decode b_Pg_readsSign 20 = .ok (.getfield 40, 3) := by decide +kernel
theorem d_Pg_readsSign_23 : decode b_Pg_readsSign 23 = .ok (.iload_n 2, 1) := by decide +kernel
theorem d_Pg_readsSign_24 : decode b_Pg_readsSign 24 = .ok (.iconst 1, 1) := by decide +kernel
theorem d_Pg_readsSign_25 : decode b_Pg_readsSign 25 = .ok (.isub, 1) := by decide +kernel
theorem d_Pg_readsSign_26 : decode b_Pg_readsSign 26 = .ok (.invokevirtual 161, 3) := by decide +kernel
theorem d_Pg_readsSign_29 : decode b_Pg_readsSign 29 = .ok (.putfield 43, 3) := by decide +kernel
theorem d_Pg_readsSign_32 : decode b_Pg_readsSign 32 = .ok (.aload_n 0, 1) := by decide +kernel
theorem d_Pg_readsSign_33 : decode b_Pg_readsSign 33 = .ok (.iconst 0, 1) := by decide +kernel
theorem d_Pg_readsSign_34 : decode b_Pg_readsSign 34 = .ok (.putfield 49, 3) := by decide +kernel
theorem d_Pg_readsSign_37 : decode b_Pg_readsSign 37 = .ok (.aload_n 0, 1) := by decide +kernel
theorem d_Pg_readsSign_38 : decode b_Pg_readsSign 38 = .ok (.iconst 0, 1) := by decide +kernel
theorem d_Pg_readsSign_39 : decode b_Pg_readsSign 39 = .ok (.putfield 52, 3) := by decide +kernel
theorem d_Pg_readsSign_42 : decode b_Pg_readsSign 42 = .ok (.aload_n 0, 1) := by decide +kernel
theorem d_Pg_readsSign_43 : decode b_Pg_readsSign 43 = .ok (.iconst 2, 1) := by decide +kernel
theorem d_Pg_readsSign_44 : decode b_Pg_readsSign 44 = .ok (.invokevirtual 133, 3) := by decide +kernel
theorem d_Pg_readsSign_47 : decode b_Pg_readsSign 47 = .ok (.ireturn, 1) := by decide +kernel
def F_Pg_readsSign (a0 : Nat) (x1 : Int32) (w : AW) : Option (Int32 × AW) :=
  gd (wk w 8 == 112) <|
  (F_Jstr_indexOf_I w 8 (i2cv x1)).bind fun r2 =>
  if 0 ≤ r2 then
    gd (wk w a0 == 4) <|
    gd (wk w (wr w a0 3) == 6) <|
    (F_Co_addComparison (wr w a0 3) (wi w a0 6) (r2 - (1 : Int32)) w).bind fun r6 =>
    gd (wk r6.2 a0 == 4) <|
    let w9 : AW := upI r6.2 a0 7 r6.1
    let w10 : AW := upI w9 a0 9 (0 : Int32)
    let w11 : AW := upI w10 a0 10 (0 : Int32)
    (F_Pg_goesTo a0 (2 : Int32) w11).bind fun r12 =>
    gd (r12.1 == 0 || r12.1 == 1) <|
    some (r12.1, r12.2)
  else
    some ((0 : Int32), w)
theorem P_Pg_readsSign_0 {X : AX} {l : Launch} {G : AG} (hX : XOK X b_Pg_readsSign "RedSky$Page" 3) (hM : XM X l G { frames := 4, cells := 0, slots := 0, locals := 91 }) {o : Int32 × AW} (hR : XR X (some .boolean) 0 0 (some (vi o.1)) o.2) (a0 : Nat) (x1 : Int32) (w : AW) (h : F_Pg_readsSign a0 x1 w = some o) : RJ X 3 0 0 0 [(0, vr a0), (1, vi x1)] [] w := by
  unfold F_Pg_readsSign at h
  refine r_ldcS2 hX d_Pg_readsSign_0 ?_
  refine r_iload_n (i := 1) hX d_Pg_readsSign_2 1 rfl rfl ?_
  refine r_i2c hX d_Pg_readsSign_3 ?_
  obtain ⟨hk1, h⟩ := gd_e h
  obtain ⟨r2, hr3, h⟩ := bd_e h
  refine r_callV1 (As := [_]) hX hM mw_Pg_154 (T_Jstr_indexOf_I _ _ _ hr3) (rc_S hk1) rfl rfl ⟨Nat.le_refl _, Nat.le_refl _⟩ rfl rfl d_Pg_readsSign_4 ?_
  refine r_istore_n (i := 2) hX d_Pg_readsSign_7 rfl (by decide) ?_
  refine r_iload_n (i := 2) hX d_Pg_readsSign_8 0 rfl rfl ?_
  refine r_if_ge hX d_Pg_readsSign_9 rfl h (fun h => ?_) (fun h => ?_)
  · refine r_aload_n (i := 0) hX d_Pg_readsSign_14 1 rfl rfl ?_
    refine r_aload_n (i := 0) hX d_Pg_readsSign_15 1 rfl rfl ?_
    obtain ⟨hk4, h⟩ := gd_e h
    refine r_getR (i := 3) (f := 3) hX ci_3 (by decide) rfl fl_Pg_30 hk4 d_Pg_readsSign_16 ?_
    refine r_aload_n (i := 0) hX d_Pg_readsSign_19 1 rfl rfl ?_
    refine r_getI (i := 3) (f := 6) hX ci_3 (by decide) rfl fl_Pg_40 hk4 d_Pg_readsSign_20 ?_
    refine r_iload_n (i := 2) hX d_Pg_readsSign_23 0 rfl rfl ?_
    refine r_iconst (v := (1 : Int32)) hX d_Pg_readsSign_24 rfl ?_
    refine r_isub hX d_Pg_readsSign_25 ?_
    obtain ⟨hk5, h⟩ := gd_e h
    obtain ⟨r6, hr7, h⟩ := bd_e h
    refine r_callV1 (As := [_, _]) hX hM mw_Pg_161 (T_Co_addComparison _ _ _ _ hr7) (rc_of ci_5 hk5) rfl rfl ⟨Nat.le_refl _, Nat.le_refl _⟩ rfl rfl d_Pg_readsSign_26 ?_
    obtain ⟨hk8, h⟩ := gd_e h
    refine r_putI (i := 3) (f := 7) hX ci_3 (by decide) rfl rfl (fun G => rfl) (fun G => rfl) fl_Pg_43 hk8 d_Pg_readsSign_29 ?_
    refine r_aload_n (i := 0) hX d_Pg_readsSign_32 1 rfl rfl ?_
    refine r_iconst (v := (0 : Int32)) hX d_Pg_readsSign_33 rfl ?_
    refine r_putI (i := 3) (f := 9) hX ci_3 (by decide) rfl rfl (fun G => rfl) (fun G => rfl) fl_Pg_49 (kI hk8) d_Pg_readsSign_34 ?_
    refine r_aload_n (i := 0) hX d_Pg_readsSign_37 1 rfl rfl ?_
    refine r_iconst (v := (0 : Int32)) hX d_Pg_readsSign_38 rfl ?_
    refine r_putI (i := 3) (f := 10) hX ci_3 (by decide) rfl rfl (fun G => rfl) (fun G => rfl) fl_Pg_52 (kI (kI hk8)) d_Pg_readsSign_39 ?_
    refine r_aload_n (i := 0) hX d_Pg_readsSign_42 1 rfl rfl ?_
    refine r_iconst (v := (2 : Int32)) hX d_Pg_readsSign_43 rfl ?_
    obtain ⟨r12, hr13, h⟩ := bd_e h
    refine r_callV1 (As := [_]) hX hM mw_Pg_133 (T_Pg_goesTo _ _ _ hr13) (rc_of ci_3 (kI (kI (kI hk8)))) rfl rfl ⟨Nat.le_refl _, Nat.le_refl _⟩ rfl rfl d_Pg_readsSign_44 ?_
    obtain ⟨hg14, h⟩ := gd_e h
    cases h; exact r_zret hX hR (zn_ok hg14) d_Pg_readsSign_47
  · refine r_iconst (v := (0 : Int32)) hX d_Pg_readsSign_12 rfl ?_
    cases h; exact r_zret hX hR rfl d_Pg_readsSign_13
theorem T_Pg_readsSign {l : Launch} {G : AG} (a0 : Nat) (x1 : Int32) (w : AW) {o : Int32 × AW} (h : F_Pg_readsSign a0 x1 w = some o) : Mt l G y_Pg_readsSign b_Pg_readsSign 3 (some (.boolean)) 4 91 0 0 [vr a0, vi x1] w (some (vi o.1)) o.2 := mt_of (by decide) (Nat.le_of_ble_eq_true rfl) (fun X hX hR hM hI => P_Pg_readsSign_0 hX hM hR _ _ _ h)
/-! RedSky$Page.readsMinus()Z -/
theorem d_Pg_readsMinus_0 : decode b_Pg_readsMinus 0 = .ok (.aload_n 0, 1) := by decide +kernel
theorem d_Pg_readsMinus_1 : decode b_Pg_readsMinus 1 = .ok (.iconst 1, 1) := by decide +kernel
theorem d_Pg_readsMinus_2 : decode b_Pg_readsMinus 2 = .ok (.putfield 52, 3) := by decide +kernel
theorem d_Pg_readsMinus_5 : decode b_Pg_readsMinus 5 = .ok (.aload_n 0, 1) := by decide +kernel
theorem d_Pg_readsMinus_6 : decode b_Pg_readsMinus 6 = .ok (.iconst 3, 1) := by decide +kernel
theorem d_Pg_readsMinus_7 : decode b_Pg_readsMinus 7 = .ok (.invokevirtual 133, 3) := by decide +kernel
theorem d_Pg_readsMinus_10 : decode b_Pg_readsMinus 10 = .ok (.ireturn, 1) := by decide +kernel
def F_Pg_readsMinus (a0 : Nat) (w : AW) : Option (Int32 × AW) :=
  gd (wk w a0 == 4) <|
  let w2 : AW := upI w a0 10 (1 : Int32)
  (F_Pg_goesTo a0 (3 : Int32) w2).bind fun r3 =>
  gd (r3.1 == 0 || r3.1 == 1) <|
  some (r3.1, r3.2)
theorem P_Pg_readsMinus_0 {X : AX} {l : Launch} {G : AG} (hX : XOK X b_Pg_readsMinus "RedSky$Page" 1) (hM : XM X l G { frames := 1, cells := 0, slots := 0, locals := 21 }) {o : Int32 × AW} (hR : XR X (some .boolean) 0 0 (some (vi o.1)) o.2) (a0 : Nat) (w : AW) (h : F_Pg_readsMinus a0 w = some o) : RJ X 1 0 0 0 [(0, vr a0)] [] w := by
  unfold F_Pg_readsMinus at h
  refine r_aload_n (i := 0) hX d_Pg_readsMinus_0 0 rfl rfl ?_
  refine r_iconst (v := (1 : Int32)) hX d_Pg_readsMinus_1 rfl ?_
  obtain ⟨hk1, h⟩ := gd_e h
  refine r_putI (i := 3) (f := 10) hX ci_3 (by decide) rfl rfl (fun G => rfl) (fun G => rfl) fl_Pg_52 hk1 d_Pg_readsMinus_2 ?_
  refine r_aload_n (i := 0) hX d_Pg_readsMinus_5 0 rfl rfl ?_
  refine r_iconst (v := (3 : Int32)) hX d_Pg_readsMinus_6 rfl ?_
  obtain ⟨r3, hr4, h⟩ := bd_e h
  refine r_callV1 (As := [_]) hX hM mw_Pg_133 (T_Pg_goesTo _ _ _ hr4) (rc_of ci_3 (kI hk1)) rfl rfl ⟨Nat.le_refl _, Nat.le_refl _⟩ rfl rfl d_Pg_readsMinus_7 ?_
  obtain ⟨hg5, h⟩ := gd_e h
  cases h; exact r_zret hX hR (zn_ok hg5) d_Pg_readsMinus_10
theorem T_Pg_readsMinus {l : Launch} {G : AG} (a0 : Nat) (w : AW) {o : Int32 × AW} (h : F_Pg_readsMinus a0 w = some o) : Mt l G y_Pg_readsMinus b_Pg_readsMinus 1 (some (.boolean)) 1 21 0 0 [vr a0] w (some (vi o.1)) o.2 := mt_of (by decide) (Nat.le_of_ble_eq_true rfl) (fun X hX hR hM hI => P_Pg_readsMinus_0 hX hM hR _ _ h)
/-! RedSky$Page.isDigit(I)Z -/
theorem d_Pg_isDigit_0 : decode b_Pg_isDigit 0 = .ok (.iload_n 0, 1) := by decide +kernel
theorem d_Pg_isDigit_1 : decode b_Pg_isDigit 1 = .ok (.bipush (48), 2) := by decide +kernel
theorem d_Pg_isDigit_3 : decode b_Pg_isDigit 3 = .ok (.if_icmp .lt (13), 3) := by decide +kernel
theorem d_Pg_isDigit_6 : decode b_Pg_isDigit 6 = .ok (.iload_n 0, 1) := by decide +kernel
theorem d_Pg_isDigit_7 : decode b_Pg_isDigit 7 = .ok (.bipush (57), 2) := by decide +kernel
theorem d_Pg_isDigit_9 : decode b_Pg_isDigit 9 = .ok (.if_icmp .gt (7), 3) := by decide +kernel
theorem d_Pg_isDigit_12 : decode b_Pg_isDigit 12 = .ok (.iconst 1, 1) := by decide +kernel
theorem d_Pg_isDigit_13 : decode b_Pg_isDigit 13 = .ok (.goto (4), 3) := by decide +kernel
theorem d_Pg_isDigit_16 : decode b_Pg_isDigit 16 = .ok (.iconst 0, 1) := by decide +kernel
theorem d_Pg_isDigit_17 : decode b_Pg_isDigit 17 = .ok (.ireturn, 1) := by decide +kernel
def Fo_Pg_isDigit (w : AW) (x0 : Int32) : Option (Int32) :=
  if x0 < (48 : Int32) then
    some (0 : Int32)
  else
    if (57 : Int32) < x0 then
      some (0 : Int32)
    else
      some (1 : Int32)
theorem P_Pg_isDigit_0 {X : AX} {l : Launch} {G : AG} {w : AW} (hX : XOK X b_Pg_isDigit "RedSky$Page" 1) (hM : XM X l G { frames := 0, cells := 0, slots := 0, locals := 0 }) {o : Int32} (hR : XR X (some .boolean) 0 0 (some (vi o)) w) (x0 : Int32) (h : Fo_Pg_isDigit w x0 = some o) : RJ X 1 0 0 0 [(0, vi x0)] [] w := by
  unfold Fo_Pg_isDigit at h
  refine r_iload_n (i := 0) hX d_Pg_isDigit_0 0 rfl rfl ?_
  refine r_bipush (v := (48 : Int32)) hX d_Pg_isDigit_1 rfl ?_
  refine r_icmp_lt hX d_Pg_isDigit_3 rfl h (fun h => ?_) (fun h => ?_)
  · refine r_iconst (v := (0 : Int32)) hX d_Pg_isDigit_16 rfl ?_
    cases h; exact r_zret hX hR rfl d_Pg_isDigit_17
  · refine r_iload_n (i := 0) hX d_Pg_isDigit_6 0 rfl rfl ?_
    refine r_bipush (v := (57 : Int32)) hX d_Pg_isDigit_7 rfl ?_
    refine r_icmp_gt hX d_Pg_isDigit_9 rfl h (fun h => ?_) (fun h => ?_)
    · refine r_iconst (v := (0 : Int32)) hX d_Pg_isDigit_16 rfl ?_
      cases h; exact r_zret hX hR rfl d_Pg_isDigit_17
    · refine r_iconst (v := (1 : Int32)) hX d_Pg_isDigit_12 rfl ?_
      refine r_goto hX d_Pg_isDigit_13 rfl ?_
      cases h; exact r_zret hX hR rfl d_Pg_isDigit_17
def F_Pg_isDigit (x0 : Int32) : Int32 :=
  if x0 < (48 : Int32) then
    (0 : Int32)
  else
    if (57 : Int32) < x0 then
      (0 : Int32)
    else
      (1 : Int32)
theorem E_Pg_isDigit (w : AW) (x0 : Int32) : Fo_Pg_isDigit w x0 = some (F_Pg_isDigit x0) := by
  simp only [Fo_Pg_isDigit, F_Pg_isDigit, apply_ite (some : Int32 → Option Int32)]
theorem z_Pg_isDigit (x0 : Int32) : (F_Pg_isDigit x0 == 0 || F_Pg_isDigit x0 == 1) = true := by
  unfold F_Pg_isDigit; (repeat' split) <;> decide
theorem T_Pg_isDigit {l : Launch} {G : AG} (x0 : Int32) (w : AW)  : Mt l G y_Pg_isDigit b_Pg_isDigit 1 (some (.boolean)) 0 0 0 0 [vi x0] w (some (vi (F_Pg_isDigit x0))) w := mt_of (by decide) (Nat.le_of_ble_eq_true rfl) (fun X hX hR hM hI => P_Pg_isDigit_0 hX hM hR _ (E_Pg_isDigit _ _))
/-! RedSky$Condition.numberAt(I)I -/
theorem d_Co_numberAt_0 : decode b_Co_numberAt 0 = .ok (.iload_n 1, 1) := by decide +kernel
theorem d_Co_numberAt_1 : decode b_Co_numberAt 1 = .ok (.iconst 0, 1) := by decide +kernel
theorem d_Co_numberAt_2 : decode b_Co_numberAt 2 = .ok (.bipush (79), 2) := by decide +kernel
theorem d_Co_numberAt_4 : decode b_Co_numberAt 4 = .ok (.invokestatic 36, 3) := by decide +kernel
theorem d_Co_numberAt_7 : decode b_Co_numberAt 7 = .ok (.ifCond .eq (12), 3) := by decide +kernel
theorem d_Co_numberAt_10 : decode b_Co_numberAt 10 = .ok (.aload_n 0, 1) := by decide +kernel
theorem d_Co_numberAt_11 : decode b_Co_numberAt 11 = .ok (.getfield 15, 3) := by decide +kernel
theorem d_Co_numberAt_14 : decode b_Co_numberAt 14 = .ok (.iload_n 1, 1) := by decide +kernel
theorem d_Co_numberAt_15 : decode b_Co_numberAt 15 = .ok (.saload, 1) := by decide +kernel
theorem d_Co_numberAt_16 : decode b_Co_numberAt 16 = .ok (.goto (4), 3) := by decide +kernel
theorem d_Co_numberAt_19 : decode b_Co_numberAt 19 = .ok (.iconst 0, 1) := by decide +kernel
theorem d_Co_numberAt_20 : decode b_Co_numberAt 20 = .ok (.ireturn, 1) := by decide +kernel
def F_Co_numberAt (w : AW) (a0 : Nat) (x1 : Int32) : Option (Int32) :=
  if (F_A_within x1 (0 : Int32) (79 : Int32)) = 0 then
    some (0 : Int32)
  else
    gd (wk w a0 == 6) <|
    gd (wk w (wr w a0 1) == 103) <|
    gd (inb x1 (wn w (wr w a0 1))) <|
    some (wi w (wr w a0 1) (Int32.toNatClampNeg x1))
theorem P_Co_numberAt_0 {X : AX} {l : Launch} {G : AG} {w : AW} (hX : XOK X b_Co_numberAt "RedSky$Condition" 2) (hM : XM X l G { frames := 1, cells := 0, slots := 0, locals := 22 }) {o : Int32} (hR : XR X (some .int) 0 0 (some (vi o)) w) (a0 : Nat) (x1 : Int32) (h : F_Co_numberAt w a0 x1 = some o) : RJ X 2 0 0 0 [(0, vr a0), (1, vi x1)] [] w := by
  unfold F_Co_numberAt at h
  refine r_iload_n (i := 1) hX d_Co_numberAt_0 1 rfl rfl ?_
  refine r_iconst (v := (0 : Int32)) hX d_Co_numberAt_1 rfl ?_
  refine r_bipush (v := (79 : Int32)) hX d_Co_numberAt_2 rfl ?_
  refine r_callSN1 (As := [_, _, _]) hX hM mw_Co_36 (T_A_within _ _ _ _) rfl rfl ⟨Nat.le_refl _, Nat.le_refl _⟩ rfl rfl d_Co_numberAt_4 ?_
  refine r_if_eq hX d_Co_numberAt_7 rfl h (fun h => ?_) (fun h => ?_)
  · refine r_iconst (v := (0 : Int32)) hX d_Co_numberAt_19 rfl ?_
    cases h; exact r_iret hX hR d_Co_numberAt_20
  · refine r_aload_n (i := 0) hX d_Co_numberAt_10 0 rfl rfl ?_
    obtain ⟨hk1, h⟩ := gd_e h
    refine r_getR (i := 5) (f := 1) hX ci_5 (by decide) rfl fl_Co_15 hk1 d_Co_numberAt_11 ?_
    refine r_iload_n (i := 1) hX d_Co_numberAt_14 1 rfl rfl ?_
    obtain ⟨hk2, h⟩ := gd_e h
    obtain ⟨hg3, h⟩ := gd_e h
    refine r_sald hX hk2 hg3 d_Co_numberAt_15 ?_
    refine r_goto hX d_Co_numberAt_16 rfl ?_
    cases h; exact r_iret hX hR d_Co_numberAt_20
theorem T_Co_numberAt {l : Launch} {G : AG} (w : AW) (a0 : Nat) (x1 : Int32) {o : Int32} (h : F_Co_numberAt w a0 x1 = some o) : Mt l G y_Co_numberAt b_Co_numberAt 2 (some (.int)) 1 22 0 0 [vr a0, vi x1] w (some (vi o)) w := mt_of (by decide) (Nat.le_of_ble_eq_true rfl) (fun X hX hR hM hI => P_Co_numberAt_0 hX hM hR _ _ h)
/-! RedSky$Condition.putNumber(II)V -/
theorem d_Co_putNumber_0 : decode b_Co_putNumber 0 = .ok (.iload_n 1, 1) := by decide +kernel
theorem d_Co_putNumber_1 : decode b_Co_putNumber 1 = .ok (.iconst 0, 1) := by decide +kernel
theorem d_Co_putNumber_2 : decode b_Co_putNumber 2 = .ok (.bipush (79), 2) := by decide +kernel
theorem d_Co_putNumber_4 : decode b_Co_putNumber 4 = .ok (.invokestatic 36, 3) := by decide +kernel
theorem d_Co_putNumber_7 : decode b_Co_putNumber 7 = .ok (.ifCond .eq (11), 3) := by decide +kernel
theorem d_Co_putNumber_10 : decode b_Co_putNumber 10 = .ok (.aload_n 0, 1) := by decide +kernel
theorem d_Co_putNumber_11 : decode b_Co_putNumber 11 = .ok (.getfield 15, 3) := by decide +kernel
theorem d_Co_putNumber_14 : decode b_Co_putNumber 14 = .ok (.iload_n 1, 1) := by decide +kernel
theorem d_Co_putNumber_15 : decode b_Co_putNumber 15 = .ok (.iload_n 2, 1) := by decide +kernel
theorem d_Co_putNumber_16 : decode b_Co_putNumber 16 = .ok (.i2s, 1) := by decide +kernel
theorem d_Co_putNumber_17 : decode b_Co_putNumber 17 = .ok (.sastore, 1) := by decide +kernel
theorem d_Co_putNumber_18 : decode b_Co_putNumber 18 = .ok (.return_, 1) := by decide +kernel
def F_Co_putNumber (a0 : Nat) (x1 : Int32) (x2 : Int32) (w : AW) : Option (AW) :=
  if (F_A_within x1 (0 : Int32) (79 : Int32)) = 0 then
    some w
  else
    gd (wk w a0 == 6) <|
    gd (wk w (wr w a0 1) == 103) <|
    gd (inb x1 (wn w (wr w a0 1))) <|
    let w4 : AW := upI w (wr w a0 1) (Int32.toNatClampNeg x1) (Int16.toInt32 (Int32.toInt16 (Int16.toInt32 (Int32.toInt16 x2))))
    some w4
theorem P_Co_putNumber_0 {X : AX} {l : Launch} {G : AG} (hX : XOK X b_Co_putNumber "RedSky$Condition" 3) (hM : XM X l G { frames := 1, cells := 0, slots := 0, locals := 22 }) {o : AW} (hR : XR X none 0 0 none o) (a0 : Nat) (x1 : Int32) (x2 : Int32) (w : AW) (h : F_Co_putNumber a0 x1 x2 w = some o) : RJ X 3 0 0 0 [(0, vr a0), (1, vi x1), (2, vi x2)] [] w := by
  unfold F_Co_putNumber at h
  refine r_iload_n (i := 1) hX d_Co_putNumber_0 1 rfl rfl ?_
  refine r_iconst (v := (0 : Int32)) hX d_Co_putNumber_1 rfl ?_
  refine r_bipush (v := (79 : Int32)) hX d_Co_putNumber_2 rfl ?_
  refine r_callSN1 (As := [_, _, _]) hX hM mw_Co_36 (T_A_within _ _ _ _) rfl rfl ⟨Nat.le_refl _, Nat.le_refl _⟩ rfl rfl d_Co_putNumber_4 ?_
  refine r_if_eq hX d_Co_putNumber_7 rfl h (fun h => ?_) (fun h => ?_)
  · cases h; exact r_vret hX hR d_Co_putNumber_18
  · refine r_aload_n (i := 0) hX d_Co_putNumber_10 0 rfl rfl ?_
    obtain ⟨hk1, h⟩ := gd_e h
    refine r_getR (i := 5) (f := 1) hX ci_5 (by decide) rfl fl_Co_15 hk1 d_Co_putNumber_11 ?_
    refine r_iload_n (i := 1) hX d_Co_putNumber_14 1 rfl rfl ?_
    refine r_iload_n (i := 2) hX d_Co_putNumber_15 2 rfl rfl ?_
    refine r_i2s hX d_Co_putNumber_16 ?_
    obtain ⟨hk2, h⟩ := gd_e h
    obtain ⟨hg3, h⟩ := gd_e h
    refine r_sast hX hk2 hg3 d_Co_putNumber_17 ?_
    cases h; exact r_vret hX hR d_Co_putNumber_18
theorem T_Co_putNumber {l : Launch} {G : AG} (a0 : Nat) (x1 : Int32) (x2 : Int32) (w : AW) {o : AW} (h : F_Co_putNumber a0 x1 x2 w = some o) : Mt l G y_Co_putNumber b_Co_putNumber 3 none 1 22 0 0 [vr a0, vi x1, vi x2] w none o := mt_of (by decide) (Nat.le_of_ble_eq_true rfl) (fun X hX hR hM hI => P_Co_putNumber_0 hX hM hR _ _ _ _ h)
/-! RedSky$Page.endFactor(I)V -/
theorem d_Pg_endFactor_0 : decode b_Pg_endFactor 0 = .ok (.aload_n 0, 1) := by decide +kernel
theorem d_Pg_endFactor_1 : decode b_Pg_endFactor 1 = .ok (.invokevirtual 149, 3) := by decide +kernel
theorem d_Pg_endFactor_4 : decode b_Pg_endFactor 4 = .ok (.istore_n 2, 1) := by decide +kernel
theorem d_Pg_endFactor_5 : decode b_Pg_endFactor 5 = .ok (.aload_n 0, 1) := by decide +kernel
theorem d_Pg_endFactor_6 : decode b_Pg_endFactor 6 = .ok (.getfield 58, 3) := by decide +kernel
theorem d_Pg_endFactor_9 : decode b_Pg_endFactor 9 = .ok (.iload_n 2, 1) := by decide +kernel
theorem d_Pg_endFactor_10 : decode b_Pg_endFactor 10 = .ok (.iaload, 1) := by decide +kernel
theorem d_Pg_endFactor_11 : decode b_Pg_endFactor 11 = .ok (.iconst 2, 1) := by decide +kernel
theorem d_Pg_endFactor_12 : decode b_Pg_endFactor 12 = .ok (.irem, 1) := by decide +kernel
theorem d_Pg_endFactor_13 : decode b_Pg_endFactor 13 = .ok (.iconst 1, 1) := by decide +kernel
theorem d_Pg_endFactor_14 : decode b_Pg_endFactor 14 = .ok (.if_icmp .ne (12), 3) := by decide +kernel
theorem d_Pg_endFactor_17 : decode b_Pg_endFactor 17 = .ok (.aload_n 0, 1) := by decide +kernel
theorem d_Pg_endFactor_18 : decode b_Pg_endFactor 18 = .ok (.getfield 30, 3) := by decide +kernel
theorem d_Pg_endFactor_21 : decode b_Pg_endFactor 21 = .ok (.bipush (12), 2) := by decide +kernel
theorem d_Pg_endFactor_23 : decode b_Pg_endFactor 23 = .ok (.invokevirtual 176, 3) := by decide +kernel
theorem d_Pg_endFactor_26 : decode b_Pg_endFactor 26 = .ok (.aload_n 0, 1) := by decide +kernel
theorem d_Pg_endFactor_27 : decode b_Pg_endFactor 27 = .ok (.getfield 62, 3) := by decide +kernel
theorem d_Pg_endFactor_30 : decode b_Pg_endFactor 30 = .ok (.iload_n 2, 1) := by decide +kernel
theorem d_Pg_endFactor_31 : decode b_Pg_endFactor 31 = .ok (.iaload, 1) := by decide +kernel
theorem d_Pg_endFactor_32 : decode b_Pg_endFactor 32 = .ok (.ifCond .le (12), 3) := by decide +kernel
theorem d_Pg_endFactor_35 : decode b_Pg_endFactor 35 = .ok (.aload_n 0, 1) := by decide +kernel
theorem d_Pg_endFactor_36 : decode b_Pg_endFactor 36 = .ok (.getfield 30, 3) := by decide +kernel
theorem d_Pg_endFactor_39 : decode b_Pg_endFactor 39 = .ok (.bipush (13), 2) := by decide +kernel
theorem d_Pg_endFactor_41 : decode b_Pg_endFactor 41 = .ok (.invokevirtual 176, 3) := by decide +kernel
theorem d_Pg_endFactor_44 : decode b_Pg_endFactor 44 = .ok (.aload_n 0, 1) := by decide +kernel
theorem d_Pg_endFactor_45 : decode b_Pg_endFactor 45 = .ok (.getfield 62, 3) := by decide +kernel
theorem d_Pg_endFactor_48 : decode b_Pg_endFactor 48 = .ok (.iload_n 2, 1) := by decide +kernel
theorem d_Pg_endFactor_49 : decode b_Pg_endFactor 49 = .ok (.dup2, 1) := by decide +kernel
theorem d_Pg_endFactor_50 : decode b_Pg_endFactor 50 = .ok (.iaload, 1) := by decide +kernel
theorem d_Pg_endFactor_51 : decode b_Pg_endFactor 51 = .ok (.iconst 1, 1) := by decide +kernel
theorem d_Pg_endFactor_52 : decode b_Pg_endFactor 52 = .ok (.iadd, 1) := by decide +kernel
theorem d_Pg_endFactor_53 : decode b_Pg_endFactor 53 = .ok (.iastore, 1) := by decide +kernel
theorem d_Pg_endFactor_54 : decode b_Pg_endFactor 54 = .ok (.aload_n 0, 1) := by decide +kernel
theorem d_Pg_endFactor_55 : decode b_Pg_endFactor 55 = .ok (.getfield 65, 3) := by decide +kernel
theorem d_Pg_endFactor_58 : decode b_Pg_endFactor 58 = .ok (.iload_n 2, 1) := by decide +kernel
theorem d_Pg_endFactor_59 : decode b_Pg_endFactor 59 = .ok (.aload_n 0, 1) := by decide +kernel
theorem d_Pg_endFactor_60 : decode b_Pg_endFactor 60 = .ok (.getfield 65, 3) := by decide +kernel
theorem d_Pg_endFactor_63 : decode b_Pg_endFactor 63 = .ok (.iload_n 2, 1) := by decide +kernel
theorem d_Pg_endFactor_64 : decode b_Pg_endFactor 64 = .ok (.iaload, 1) := by decide +kernel
theorem d_Pg_endFactor_65 : decode b_Pg_endFactor 65 = .ok (.iload_n 1, 1) := by decide +kernel
theorem d_Pg_endFactor_66 : decode b_Pg_endFactor 66 = .ok (.aload_n 0, 1) := by decide +kernel
theorem d_Pg_endFactor_67 : decode b_Pg_endFactor 67 = .ok (.getfield 58, 3) := by decide +kernel
theorem d_Pg_endFactor_70 : decode b_Pg_endFactor 70 = .ok (.iload_n 2, 1) := by decide +kernel
theorem d_Pg_endFactor_71 : decode b_Pg_endFactor 71 = .ok (.iaload, 1) := by decide +kernel
theorem d_Pg_endFactor_72 : decode b_Pg_endFactor 72 = .ok (.iadd, 1) := by decide +kernel
theorem d_Pg_endFactor_73 : decode b_Pg_endFactor 73 = .ok (.invokestatic 179, 3) := by decide +kernel
theorem d_Pg_endFactor_76 : decode b_Pg_endFactor 76 = .ok (.iastore, 1) := by decide +kernel
theorem d_Pg_endFactor_77 : decode b_Pg_endFactor 77 = .ok (.aload_n 0, 1) := by decide +kernel
theorem d_Pg_endFactor_78 : decode b_Pg_endFactor 78 = .ok (.getfield 58, 3) := by decide +kernel
theorem d_Pg_endFactor_81 : decode b_Pg_endFactor 81 = .ok (.iload_n 2, 1) := by decide +kernel
theorem d_Pg_endFactor_82 : decode b_Pg_endFactor 82 = .ok (.iconst 0, 1) := by decide +kernel
theorem d_Pg_endFactor_83 : decode b_Pg_endFactor 83 = .ok (.iastore, 1) := by decide +kernel
theorem d_Pg_endFactor_84 : decode b_Pg_endFactor 84 = .ok (.return_, 1) := by decide +kernel
def F_Pg_endFactor_44 (a0 : Nat) (x1 : Int32) (x2 : Int32) (w : AW) : Option (AW) :=
  gd (wk w a0 == 4) <|
  gd (wk w (wr w a0 13) == 100) <|
  gd (inb x2 (wn w (wr w a0 13))) <|
  gd (inb x2 (wn w (wr w a0 13))) <|
  let w5 : AW := upI w (wr w a0 13) (Int32.toNatClampNeg x2) ((wi w (wr w a0 13) (Int32.toNatClampNeg x2)) + (1 : Int32))
  gd (wk w5 (wr w5 a0 14) == 100) <|
  gd (inb x2 (wn w5 (wr w5 a0 14))) <|
  gd (wk w5 (wr w5 a0 12) == 100) <|
  gd (inb x2 (wn w5 (wr w5 a0 12))) <|
  gd (inb x2 (wn w5 (wr w5 a0 14))) <|
  let w11 : AW := upI w5 (wr w5 a0 14) (Int32.toNatClampNeg x2) (F_Jmath_max (wi w5 (wr w5 a0 14) (Int32.toNatClampNeg x2)) (x1 + (wi w5 (wr w5 a0 12) (Int32.toNatClampNeg x2))))
  gd (wk w11 (wr w11 a0 12) == 100) <|
  gd (inb x2 (wn w11 (wr w11 a0 12))) <|
  let w14 : AW := upI w11 (wr w11 a0 12) (Int32.toNatClampNeg x2) (0 : Int32)
  some w14
theorem P_Pg_endFactor_44 {X : AX} {l : Launch} {G : AG} (hX : XOK X b_Pg_endFactor "RedSky$Page" 3) (hM : XM X l G { frames := 1, cells := 0, slots := 0, locals := 21 }) {o : AW} (hR : XR X none 0 0 none o) (a0 : Nat) (x1 : Int32) (x2 : Int32) (w : AW) (h : F_Pg_endFactor_44 a0 x1 x2 w = some o) : RJ X 3 0 0 44 [(0, vr a0), (1, vi x1), (2, vi x2)] [] w := by
  unfold F_Pg_endFactor_44 at h
  refine r_aload_n (i := 0) hX d_Pg_endFactor_44 0 rfl rfl ?_
  obtain ⟨hk1, h⟩ := gd_e h
  refine r_getR (i := 3) (f := 13) hX ci_3 (by decide) rfl fl_Pg_62 hk1 d_Pg_endFactor_45 ?_
  refine r_iload_n (i := 2) hX d_Pg_endFactor_48 2 rfl rfl ?_
  refine r_dup2 hX d_Pg_endFactor_49 rfl rfl ?_
  obtain ⟨hk2, h⟩ := gd_e h
  obtain ⟨hg3, h⟩ := gd_e h
  refine r_iald hX hk2 hg3 d_Pg_endFactor_50 ?_
  refine r_iconst (v := (1 : Int32)) hX d_Pg_endFactor_51 rfl ?_
  refine r_iadd hX d_Pg_endFactor_52 ?_
  obtain ⟨hg4, h⟩ := gd_e h
  refine r_iast hX hk2 hg4 d_Pg_endFactor_53 ?_
  refine r_aload_n (i := 0) hX d_Pg_endFactor_54 0 rfl rfl ?_
  refine r_getR (i := 3) (f := 14) hX ci_3 (by decide) rfl fl_Pg_65 (kI hk1) d_Pg_endFactor_55 ?_
  refine r_iload_n (i := 2) hX d_Pg_endFactor_58 2 rfl rfl ?_
  refine r_aload_n (i := 0) hX d_Pg_endFactor_59 0 rfl rfl ?_
  refine r_getR (i := 3) (f := 14) hX ci_3 (by decide) rfl fl_Pg_65 (kI hk1) d_Pg_endFactor_60 ?_
  refine r_iload_n (i := 2) hX d_Pg_endFactor_63 2 rfl rfl ?_
  obtain ⟨hk6, h⟩ := gd_e h
  obtain ⟨hg7, h⟩ := gd_e h
  refine r_iald hX hk6 hg7 d_Pg_endFactor_64 ?_
  refine r_iload_n (i := 1) hX d_Pg_endFactor_65 1 rfl rfl ?_
  refine r_aload_n (i := 0) hX d_Pg_endFactor_66 0 rfl rfl ?_
  refine r_getR (i := 3) (f := 12) hX ci_3 (by decide) rfl fl_Pg_58 (kI hk1) d_Pg_endFactor_67 ?_
  refine r_iload_n (i := 2) hX d_Pg_endFactor_70 2 rfl rfl ?_
  obtain ⟨hk8, h⟩ := gd_e h
  obtain ⟨hg9, h⟩ := gd_e h
  refine r_iald hX hk8 hg9 d_Pg_endFactor_71 ?_
  refine r_iadd hX d_Pg_endFactor_72 ?_
  refine r_max hX hM mx_Pg_179 rfl rfl ⟨Nat.le_refl _, Nat.le_refl _⟩ d_Pg_endFactor_73 ?_
  obtain ⟨hg10, h⟩ := gd_e h
  refine r_iast hX hk6 hg10 d_Pg_endFactor_76 ?_
  refine r_aload_n (i := 0) hX d_Pg_endFactor_77 0 rfl rfl ?_
  refine r_getR (i := 3) (f := 12) hX ci_3 (by decide) rfl fl_Pg_58 (kI (kI hk1)) d_Pg_endFactor_78 ?_
  refine r_iload_n (i := 2) hX d_Pg_endFactor_81 2 rfl rfl ?_
  refine r_iconst (v := (0 : Int32)) hX d_Pg_endFactor_82 rfl ?_
  obtain ⟨hk12, h⟩ := gd_e h
  obtain ⟨hg13, h⟩ := gd_e h
  refine r_iast hX hk12 hg13 d_Pg_endFactor_83 ?_
  cases h; exact r_vret hX hR d_Pg_endFactor_84
def F_Pg_endFactor_26 (a0 : Nat) (x1 : Int32) (x2 : Int32) (w : AW) : Option (AW) :=
  gd (wk w a0 == 4) <|
  gd (wk w (wr w a0 13) == 100) <|
  gd (inb x2 (wn w (wr w a0 13))) <|
  if (wi w (wr w a0 13) (Int32.toNatClampNeg x2)) ≤ 0 then
    F_Pg_endFactor_44 a0 x1 x2 w
  else
    gd (wk w (wr w a0 3) == 6) <|
    (F_Co_addStep (wr w a0 3) (13 : Int32) w).bind fun r5 =>
    F_Pg_endFactor_44 a0 x1 x2 r5
theorem P_Pg_endFactor_26 {X : AX} {l : Launch} {G : AG} (hX : XOK X b_Pg_endFactor "RedSky$Page" 3) (hM : XM X l G { frames := 1, cells := 0, slots := 0, locals := 21 }) {o : AW} (hR : XR X none 0 0 none o) (a0 : Nat) (x1 : Int32) (x2 : Int32) (w : AW) (h : F_Pg_endFactor_26 a0 x1 x2 w = some o) : RJ X 3 0 0 26 [(0, vr a0), (1, vi x1), (2, vi x2)] [] w := by
  unfold F_Pg_endFactor_26 at h
  refine r_aload_n (i := 0) hX d_Pg_endFactor_26 0 rfl rfl ?_
  obtain ⟨hk1, h⟩ := gd_e h
  refine r_getR (i := 3) (f := 13) hX ci_3 (by decide) rfl fl_Pg_62 hk1 d_Pg_endFactor_27 ?_
  refine r_iload_n (i := 2) hX d_Pg_endFactor_30 2 rfl rfl ?_
  obtain ⟨hk2, h⟩ := gd_e h
  obtain ⟨hg3, h⟩ := gd_e h
  refine r_iald hX hk2 hg3 d_Pg_endFactor_31 ?_
  refine r_if_le hX d_Pg_endFactor_32 rfl h (fun h => ?_) (fun h => ?_)
  · exact rj_sub [0, 1, 2] rfl (P_Pg_endFactor_44 hX hM hR _ _ _ _ h)
  · refine r_aload_n (i := 0) hX d_Pg_endFactor_35 0 rfl rfl ?_
    refine r_getR (i := 3) (f := 3) hX ci_3 (by decide) rfl fl_Pg_30 hk1 d_Pg_endFactor_36 ?_
    refine r_bipush (v := (13 : Int32)) hX d_Pg_endFactor_39 rfl ?_
    obtain ⟨hk4, h⟩ := gd_e h
    obtain ⟨r5, hr6, h⟩ := bd_e h
    refine r_callV0 (As := [_]) hX hM mw_Pg_176 (T_Co_addStep _ _ _ hr6) (rc_of ci_5 hk4) rfl rfl ⟨Nat.le_refl _, Nat.le_refl _⟩ rfl rfl d_Pg_endFactor_41 ?_
    exact rj_sub [0, 1, 2] rfl (P_Pg_endFactor_44 hX hM hR _ _ _ _ h)
def F_Pg_endFactor (a0 : Nat) (x1 : Int32) (w : AW) : Option (AW) :=
  gd (wk w a0 == 4) <|
  (F_Pg_level w a0).bind fun r2 =>
  gd (wk w (wr w a0 12) == 100) <|
  gd (inb r2 (wn w (wr w a0 12))) <|
  if (irem (wi w (wr w a0 12) (Int32.toNatClampNeg r2)) (2 : Int32)) = (1 : Int32) then
    gd (wk w (wr w a0 3) == 6) <|
    (F_Co_addStep (wr w a0 3) (12 : Int32) w).bind fun r7 =>
    F_Pg_endFactor_26 a0 x1 r2 r7
  else
    F_Pg_endFactor_26 a0 x1 r2 w
theorem P_Pg_endFactor_0 {X : AX} {l : Launch} {G : AG} (hX : XOK X b_Pg_endFactor "RedSky$Page" 3) (hM : XM X l G { frames := 1, cells := 0, slots := 0, locals := 21 }) {o : AW} (hR : XR X none 0 0 none o) (a0 : Nat) (x1 : Int32) (w : AW) (h : F_Pg_endFactor a0 x1 w = some o) : RJ X 3 0 0 0 [(0, vr a0), (1, vi x1)] [] w := by
  unfold F_Pg_endFactor at h
  refine r_aload_n (i := 0) hX d_Pg_endFactor_0 0 rfl rfl ?_
  obtain ⟨hk1, h⟩ := gd_e h
  obtain ⟨r2, hr3, h⟩ := bd_e h
  refine r_callV1 (As := []) hX hM mw_Pg_149 (T_Pg_level _ _ hr3) (rc_of ci_3 hk1) rfl rfl ⟨Nat.le_refl _, Nat.le_refl _⟩ rfl rfl d_Pg_endFactor_1 ?_
  refine r_istore_n (i := 2) hX d_Pg_endFactor_4 rfl (by decide) ?_
  refine r_aload_n (i := 0) hX d_Pg_endFactor_5 1 rfl rfl ?_
  refine r_getR (i := 3) (f := 12) hX ci_3 (by decide) rfl fl_Pg_58 hk1 d_Pg_endFactor_6 ?_
  refine r_iload_n (i := 2) hX d_Pg_endFactor_9 0 rfl rfl ?_
  obtain ⟨hk4, h⟩ := gd_e h
  obtain ⟨hg5, h⟩ := gd_e h
  refine r_iald hX hk4 hg5 d_Pg_endFactor_10 ?_
  refine r_iconst (v := (2 : Int32)) hX d_Pg_endFactor_11 rfl ?_
  refine r_irem hX d_Pg_endFactor_12 (by decide) ?_
  refine r_iconst (v := (1 : Int32)) hX d_Pg_endFactor_13 rfl ?_
  refine r_icmp_ne hX d_Pg_endFactor_14 rfl h (fun h => ?_) (fun h => ?_)
  · exact rj_sub [1, 2, 0] rfl (P_Pg_endFactor_26 hX hM hR _ _ _ _ h)
  · refine r_aload_n (i := 0) hX d_Pg_endFactor_17 1 rfl rfl ?_
    refine r_getR (i := 3) (f := 3) hX ci_3 (by decide) rfl fl_Pg_30 hk1 d_Pg_endFactor_18 ?_
    refine r_bipush (v := (12 : Int32)) hX d_Pg_endFactor_21 rfl ?_
    obtain ⟨hk6, h⟩ := gd_e h
    obtain ⟨r7, hr8, h⟩ := bd_e h
    refine r_callV0 (As := [_]) hX hM mw_Pg_176 (T_Co_addStep _ _ _ hr8) (rc_of ci_5 hk6) rfl rfl ⟨Nat.le_refl _, Nat.le_refl _⟩ rfl rfl d_Pg_endFactor_23 ?_
    exact rj_sub [1, 2, 0] rfl (P_Pg_endFactor_26 hX hM hR _ _ _ _ h)
theorem T_Pg_endFactor {l : Launch} {G : AG} (a0 : Nat) (x1 : Int32) (w : AW) {o : AW} (h : F_Pg_endFactor a0 x1 w = some o) : Mt l G y_Pg_endFactor b_Pg_endFactor 3 none 1 21 0 0 [vr a0, vi x1] w none o := mt_of (by decide) (Nat.le_of_ble_eq_true rfl) (fun X hX hR hM hI => P_Pg_endFactor_0 hX hM hR _ _ _ h)
/-! RedSky$Page.readsDigit(I)Z -/
theorem d_Pg_readsDigit_0 : decode b_Pg_readsDigit 0 = .ok (.iload_n 1, 1) := by decide +kernel
theorem d_Pg_readsDigit_1 : decode b_Pg_readsDigit 1 = .ok (.invokestatic 124, 3) := by decide +kernel
theorem d_Pg_readsDigit_4 : decode b_Pg_readsDigit 4 = .ok (.ifCond .eq (11), 3) := by decide +kernel
theorem d_Pg_readsDigit_7 : decode b_Pg_readsDigit 7 = .ok (.aload_n 0, 1) := by decide +kernel
theorem d_Pg_readsDigit_8 : decode b_Pg_readsDigit 8 = .ok (.getfield 49, 3) := by decide +kernel
theorem d_Pg_readsDigit_11 : decode b_Pg_readsDigit 11 = .ok (.iconst 3, 1) := by decide +kernel
theorem d_Pg_readsDigit_12 : decode b_Pg_readsDigit 12 = .ok (.if_icmp .lt (5), 3) := by decide +kernel
theorem d_Pg_readsDigit_15 : decode b_Pg_readsDigit 15 = .ok (.iconst 0, 1) := by decide +kernel
theorem d_Pg_readsDigit_16 : decode b_Pg_readsDigit 16 = .ok (.ireturn, 1) := by decide +kernel
theorem d_Pg_readsDigit_17 : decode b_Pg_readsDigit 17 = .ok (.iload_n 1, 1) := by decide +kernel
theorem d_Pg_readsDigit_18 : decode b_Pg_readsDigit 18 = .ok (.bipush (48), 2) := by decide +kernel
theorem d_Pg_readsDigit_20 : decode b_Pg_readsDigit 20 = .ok (.isub, 1) := by decide +kernel
theorem d_Pg_readsDigit_21 : decode b_Pg_readsDigit 21 = .ok (.istore_n 2, 1) := by decide +kernel
theorem d_Pg_readsDigit_22 : decode b_Pg_readsDigit 22 = .ok (.aload_n 0, 1) := by decide +kernel
theorem d_Pg_readsDigit_23 : decode b_Pg_readsDigit 23 = .ok (.getfield 30, 3) := by decide +kernel
theorem d_Pg_readsDigit_26 : decode b_Pg_readsDigit 26 = .ok (.aload_n 0, 1) := by decide +kernel
theorem d_Pg_readsDigit_27 : decode b_Pg_readsDigit 27 = .ok (.getfield 43, 3) := by decide +kernel
theorem d_Pg_readsDigit_30 : decode b_Pg_readsDigit 30 = .ok (.bipush (10), 2) := by decide +kernel
theorem d_Pg_readsDigit_32 : decode b_Pg_readsDigit 32 = .ok (.aload_n 0, 1) := by decide +kernel
theorem d_Pg_readsDigit_33 : decode b_Pg_readsDigit 33 = .ok (.getfield 30, 3) := by decide +kernel
theorem d_Pg_readsDigit_36 : decode b_Pg_readsDigit 36 = .ok (.aload_n 0, 1) := by decide +kernel
theorem d_Pg_readsDigit_37 : decode b_Pg_readsDigit 37 = .ok (.getfield 43, 3) := by decide +kernel
theorem d_Pg_readsDigit_40 : decode b_Pg_readsDigit 40 = .ok (.invokevirtual 165, 3) := by decide +kernel
theorem d_Pg_readsDigit_43 : decode b_Pg_readsDigit 43 = .ok (.imul, 1) := by decide +kernel
theorem d_Pg_readsDigit_44 : decode b_Pg_readsDigit 44 = .ok (.aload_n 0, 1) := by decide +kernel
theorem d_Pg_readsDigit_45 : decode b_Pg_readsDigit 45 = .ok (.getfield 52, 3) := by decide +kernel
theorem d_Pg_readsDigit_48 : decode b_Pg_readsDigit 48 = .ok (.ifCond .eq (8), 3) := by decide +kernel
theorem d_Pg_readsDigit_51 : decode b_Pg_readsDigit 51 = .ok (.iload_n 2, 1) := by decide +kernel
theorem d_Pg_readsDigit_52 : decode b_Pg_readsDigit 52 = .ok (.ineg, 1) := by decide +kernel
theorem d_Pg_readsDigit_53 : decode b_Pg_readsDigit 53 = .ok (.goto (4), 3) := by decide +kernel
theorem d_Pg_readsDigit_56 : decode b_Pg_readsDigit 56 = .ok (.iload_n 2, 1) := by decide +kernel
theorem d_Pg_readsDigit_57 : decode b_Pg_readsDigit 57 = .ok (.iadd, 1) := by decide +kernel
theorem d_Pg_readsDigit_58 : decode b_Pg_readsDigit 58 = .ok (.invokevirtual 168, 3) := by decide +kernel
theorem d_Pg_readsDigit_61 : decode b_Pg_readsDigit 61 = .ok (.aload_n 0, 1) := by decide +kernel
theorem d_Pg_readsDigit_62 : decode b_Pg_readsDigit 62 = .ok (.dup, 1) := by decide +kernel
theorem d_Pg_readsDigit_63 : decode b_Pg_readsDigit 63 = .ok (.getfield 49, 3) := by decide +kernel
theorem d_Pg_readsDigit_66 : decode b_Pg_readsDigit 66 = .ok (.iconst 1, 1) := by decide +kernel
theorem d_Pg_readsDigit_67 : decode b_Pg_readsDigit 67 = .ok (.iadd, 1) := by decide +kernel
theorem d_Pg_readsDigit_68 : decode b_Pg_readsDigit 68 = .ok (.putfield 49, 3) := by decide +kernel
theorem d_Pg_readsDigit_71 : decode b_Pg_readsDigit 71 = .ok (.aload_n 0, 1) := by decide +kernel
theorem d_Pg_readsDigit_72 : decode b_Pg_readsDigit 72 = .ok (.getfield 37, 3) := by decide +kernel
theorem d_Pg_readsDigit_75 : decode b_Pg_readsDigit 75 = .ok (.iconst 4, 1) := by decide +kernel
theorem d_Pg_readsDigit_76 : decode b_Pg_readsDigit 76 = .ok (.if_icmp .eq (8), 3) := by decide +kernel
theorem d_Pg_readsDigit_79 : decode b_Pg_readsDigit 79 = .ok (.aload_n 0, 1) := by decide +kernel
theorem d_Pg_readsDigit_80 : decode b_Pg_readsDigit 80 = .ok (.iconst 1, 1) := by decide +kernel
theorem d_Pg_readsDigit_81 : decode b_Pg_readsDigit 81 = .ok (.invokevirtual 172, 3) := by decide +kernel
theorem d_Pg_readsDigit_84 : decode b_Pg_readsDigit 84 = .ok (.aload_n 0, 1) := by decide +kernel
theorem d_Pg_readsDigit_85 : decode b_Pg_readsDigit 85 = .ok (.iconst 4, 1) := by decide +kernel
theorem d_Pg_readsDigit_86 : decode b_Pg_readsDigit 86 = .ok (.invokevirtual 133, 3) := by decide +kernel
theorem d_Pg_readsDigit_89 : decode b_Pg_readsDigit 89 = .ok (.ireturn, 1) := by decide +kernel
def F_Pg_readsDigit_84 (a0 : Nat) (w : AW) : Option (Int32 × AW) :=
  gd (wk w a0 == 4) <|
  (F_Pg_goesTo a0 (4 : Int32) w).bind fun r2 =>
  gd (r2.1 == 0 || r2.1 == 1) <|
  some (r2.1, r2.2)
theorem P_Pg_readsDigit_84 {X : AX} {l : Launch} {G : AG} (hX : XOK X b_Pg_readsDigit "RedSky$Page" 3) (hM : XM X l G { frames := 2, cells := 0, slots := 0, locals := 44 }) {o : Int32 × AW} (hR : XR X (some .boolean) 0 0 (some (vi o.1)) o.2) (a0 : Nat) (w : AW) (h : F_Pg_readsDigit_84 a0 w = some o) : RJ X 3 0 0 84 [(0, vr a0)] [] w := by
  unfold F_Pg_readsDigit_84 at h
  refine r_aload_n (i := 0) hX d_Pg_readsDigit_84 0 rfl rfl ?_
  refine r_iconst (v := (4 : Int32)) hX d_Pg_readsDigit_85 rfl ?_
  obtain ⟨hk1, h⟩ := gd_e h
  obtain ⟨r2, hr3, h⟩ := bd_e h
  refine r_callV1 (As := [_]) hX hM mw_Pg_133 (T_Pg_goesTo _ _ _ hr3) (rc_of ci_3 hk1) rfl rfl ⟨Nat.le_refl _, Nat.le_refl _⟩ rfl rfl d_Pg_readsDigit_86 ?_
  obtain ⟨hg4, h⟩ := gd_e h
  cases h; exact r_zret hX hR (zn_ok hg4) d_Pg_readsDigit_89
def F_Pg_readsDigit_57 (a0 : Nat) (s3 : Int32) (s2 : Int32) (s1 : Int32) (s0 : Nat) (w : AW) : Option (Int32 × AW) :=
  gd (wk w s0 == 6) <|
  (F_Co_putNumber s0 s1 (s2 + s3) w).bind fun r2 =>
  gd (wk r2 a0 == 4) <|
  let w5 : AW := upI r2 a0 9 ((wi r2 a0 9) + (1 : Int32))
  if (wi w5 a0 5) = (4 : Int32) then
    F_Pg_readsDigit_84 a0 w5
  else
    (F_Pg_endFactor a0 (1 : Int32) w5).bind fun r6 =>
    F_Pg_readsDigit_84 a0 r6
theorem P_Pg_readsDigit_57 {X : AX} {l : Launch} {G : AG} (hX : XOK X b_Pg_readsDigit "RedSky$Page" 3) (hM : XM X l G { frames := 2, cells := 0, slots := 0, locals := 44 }) {o : Int32 × AW} (hR : XR X (some .boolean) 0 0 (some (vi o.1)) o.2) (a0 : Nat) (s3 : Int32) (s2 : Int32) (s1 : Int32) (s0 : Nat) (w : AW) (h : F_Pg_readsDigit_57 a0 s3 s2 s1 s0 w = some o) : RJ X 3 0 0 57 [(0, vr a0)] [vi s3, vi s2, vi s1, vr s0] w := by
  unfold F_Pg_readsDigit_57 at h
  refine r_iadd hX d_Pg_readsDigit_57 ?_
  obtain ⟨hk1, h⟩ := gd_e h
  obtain ⟨r2, hr3, h⟩ := bd_e h
  refine r_callV0 (As := [_, _]) hX hM mw_Pg_168 (T_Co_putNumber _ _ _ _ hr3) (rc_of ci_5 hk1) rfl rfl ⟨Nat.le_refl _, Nat.le_refl _⟩ rfl rfl d_Pg_readsDigit_58 ?_
  refine r_aload_n (i := 0) hX d_Pg_readsDigit_61 0 rfl rfl ?_
  refine r_dup hX d_Pg_readsDigit_62 rfl ?_
  obtain ⟨hk4, h⟩ := gd_e h
  refine r_getI (i := 3) (f := 9) hX ci_3 (by decide) rfl fl_Pg_49 hk4 d_Pg_readsDigit_63 ?_
  refine r_iconst (v := (1 : Int32)) hX d_Pg_readsDigit_66 rfl ?_
  refine r_iadd hX d_Pg_readsDigit_67 ?_
  refine r_putI (i := 3) (f := 9) hX ci_3 (by decide) rfl rfl (fun G => rfl) (fun G => rfl) fl_Pg_49 hk4 d_Pg_readsDigit_68 ?_
  refine r_aload_n (i := 0) hX d_Pg_readsDigit_71 0 rfl rfl ?_
  refine r_getI (i := 3) (f := 5) hX ci_3 (by decide) rfl fl_Pg_37 (kI hk4) d_Pg_readsDigit_72 ?_
  refine r_iconst (v := (4 : Int32)) hX d_Pg_readsDigit_75 rfl ?_
  refine r_icmp_eq hX d_Pg_readsDigit_76 rfl h (fun h => ?_) (fun h => ?_)
  · exact rj_sub [0] rfl (P_Pg_readsDigit_84 hX hM hR _ _ h)
  · refine r_aload_n (i := 0) hX d_Pg_readsDigit_79 0 rfl rfl ?_
    refine r_iconst (v := (1 : Int32)) hX d_Pg_readsDigit_80 rfl ?_
    obtain ⟨r6, hr7, h⟩ := bd_e h
    refine r_callV0 (As := [_]) hX hM mw_Pg_172 (T_Pg_endFactor _ _ _ hr7) (rc_of ci_3 (kI hk4)) rfl rfl ⟨Nat.le_refl _, Nat.le_refl _⟩ rfl rfl d_Pg_readsDigit_81 ?_
    exact rj_sub [0] rfl (P_Pg_readsDigit_84 hX hM hR _ _ h)
def F_Pg_readsDigit (a0 : Nat) (x1 : Int32) (w : AW) : Option (Int32 × AW) :=
  if (F_Pg_isDigit x1) = 0 then
    some ((0 : Int32), w)
  else
    gd (wk w a0 == 4) <|
    if (wi w a0 9) < (3 : Int32) then
      let v2 : Int32 := (x1 - (48 : Int32))
      gd (wk w (wr w a0 3) == 6) <|
      (F_Co_numberAt w (wr w a0 3) (wi w a0 7)).bind fun r4 =>
      if (wi w a0 10) = 0 then
        F_Pg_readsDigit_57 a0 v2 ((10 : Int32) * r4) (wi w a0 7) (wr w a0 3) w
      else
        F_Pg_readsDigit_57 a0 (-v2) ((10 : Int32) * r4) (wi w a0 7) (wr w a0 3) w
    else
      some ((0 : Int32), w)
theorem P_Pg_readsDigit_0 {X : AX} {l : Launch} {G : AG} (hX : XOK X b_Pg_readsDigit "RedSky$Page" 3) (hM : XM X l G { frames := 2, cells := 0, slots := 0, locals := 44 }) {o : Int32 × AW} (hR : XR X (some .boolean) 0 0 (some (vi o.1)) o.2) (a0 : Nat) (x1 : Int32) (w : AW) (h : F_Pg_readsDigit a0 x1 w = some o) : RJ X 3 0 0 0 [(0, vr a0), (1, vi x1)] [] w := by
  unfold F_Pg_readsDigit at h
  refine r_iload_n (i := 1) hX d_Pg_readsDigit_0 1 rfl rfl ?_
  refine r_callS1 (As := [_]) hX hM mw_Pg_124 (T_Pg_isDigit _ _) rfl rfl ⟨Nat.le_refl _, Nat.le_refl _⟩ rfl rfl d_Pg_readsDigit_1 ?_
  refine r_if_eq hX d_Pg_readsDigit_4 rfl h (fun h => ?_) (fun h => ?_)
  · refine r_iconst (v := (0 : Int32)) hX d_Pg_readsDigit_15 rfl ?_
    cases h; exact r_zret hX hR rfl d_Pg_readsDigit_16
  · refine r_aload_n (i := 0) hX d_Pg_readsDigit_7 0 rfl rfl ?_
    obtain ⟨hk1, h⟩ := gd_e h
    refine r_getI (i := 3) (f := 9) hX ci_3 (by decide) rfl fl_Pg_49 hk1 d_Pg_readsDigit_8 ?_
    refine r_iconst (v := (3 : Int32)) hX d_Pg_readsDigit_11 rfl ?_
    refine r_icmp_lt hX d_Pg_readsDigit_12 rfl h (fun h => ?_) (fun h => ?_)
    · refine r_iload_n (i := 1) hX d_Pg_readsDigit_17 1 rfl rfl ?_
      refine r_bipush (v := (48 : Int32)) hX d_Pg_readsDigit_18 rfl ?_
      refine r_isub hX d_Pg_readsDigit_20 ?_
      refine r_istore_n (i := 2) hX d_Pg_readsDigit_21 rfl (by decide) ?_
      refine r_aload_n (i := 0) hX d_Pg_readsDigit_22 1 rfl rfl ?_
      refine r_getR (i := 3) (f := 3) hX ci_3 (by decide) rfl fl_Pg_30 hk1 d_Pg_readsDigit_23 ?_
      refine r_aload_n (i := 0) hX d_Pg_readsDigit_26 1 rfl rfl ?_
      refine r_getI (i := 3) (f := 7) hX ci_3 (by decide) rfl fl_Pg_43 hk1 d_Pg_readsDigit_27 ?_
      refine r_bipush (v := (10 : Int32)) hX d_Pg_readsDigit_30 rfl ?_
      refine r_aload_n (i := 0) hX d_Pg_readsDigit_32 1 rfl rfl ?_
      refine r_getR (i := 3) (f := 3) hX ci_3 (by decide) rfl fl_Pg_30 hk1 d_Pg_readsDigit_33 ?_
      refine r_aload_n (i := 0) hX d_Pg_readsDigit_36 1 rfl rfl ?_
      refine r_getI (i := 3) (f := 7) hX ci_3 (by decide) rfl fl_Pg_43 hk1 d_Pg_readsDigit_37 ?_
      obtain ⟨hk3, h⟩ := gd_e h
      obtain ⟨r4, hr5, h⟩ := bd_e h
      refine r_callV1 (As := [_]) hX hM mw_Pg_165 (T_Co_numberAt _ _ _ hr5) (rc_of ci_5 hk3) rfl rfl ⟨Nat.le_refl _, Nat.le_refl _⟩ rfl rfl d_Pg_readsDigit_40 ?_
      refine r_imul hX d_Pg_readsDigit_43 ?_
      refine r_aload_n (i := 0) hX d_Pg_readsDigit_44 1 rfl rfl ?_
      refine r_getI (i := 3) (f := 10) hX ci_3 (by decide) rfl fl_Pg_52 hk1 d_Pg_readsDigit_45 ?_
      refine r_if_eq hX d_Pg_readsDigit_48 rfl h (fun h => ?_) (fun h => ?_)
      · refine r_iload_n (i := 2) hX d_Pg_readsDigit_56 0 rfl rfl ?_
        exact rj_sub [1] rfl (P_Pg_readsDigit_57 hX hM hR _ _ _ _ _ _ h)
      · refine r_iload_n (i := 2) hX d_Pg_readsDigit_51 0 rfl rfl ?_
        refine r_ineg hX d_Pg_readsDigit_52 ?_
        refine r_goto hX d_Pg_readsDigit_53 rfl ?_
        exact rj_sub [1] rfl (P_Pg_readsDigit_57 hX hM hR _ _ _ _ _ _ h)
    · refine r_iconst (v := (0 : Int32)) hX d_Pg_readsDigit_15 rfl ?_
      cases h; exact r_zret hX hR rfl d_Pg_readsDigit_16
theorem T_Pg_readsDigit {l : Launch} {G : AG} (a0 : Nat) (x1 : Int32) (w : AW) {o : Int32 × AW} (h : F_Pg_readsDigit a0 x1 w = some o) : Mt l G y_Pg_readsDigit b_Pg_readsDigit 3 (some (.boolean)) 2 44 0 0 [vr a0, vi x1] w (some (vi o.1)) o.2 := mt_of (by decide) (Nat.le_of_ble_eq_true rfl) (fun X hX hR hM hI => P_Pg_readsDigit_0 hX hM hR _ _ _ h)
