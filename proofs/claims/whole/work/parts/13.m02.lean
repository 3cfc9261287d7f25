/-! RedSky.first(I)I -/
theorem d_A_first_0 : decode b_A_first 0 = .ok (.iload_n 1, 1) := by decide +kernel
theorem d_A_first_1 : decode b_A_first 1 = .ok (.iconst 0, 1) := by decide +kernel
theorem d_A_first_2 : decode b_A_first 2 = .ok (.iconst 3, 1) := by decide +kernel
theorem d_A_first_3 : decode b_A_first 3 = .ok (.invokestatic 86, 3) := by decide +kernel
theorem d_A_first_6 : decode b_A_first 6 = .ok (.ifCond .ne (6), 3) := by decide +kernel
theorem d_A_first_9 : decode b_A_first 9 = .ok (.bipush (-102), 2) := by decide +kernel
theorem d_A_first_11 : decode b_A_first 11 = .ok (.ireturn, 1) := by decide +kernel
theorem d_A_first_12 : decode b_A_first 12 = .ok (.aload_n 0, 1) := by decide +kernel
theorem d_A_first_13 : decode b_A_first 13 = .ok (.getfield 10, 3) := by decide +kernel
theorem d_A_first_16 : decode b_A_first 16 = .ok (.getfield 90, 3) := by decide +kernel
theorem d_A_first_19 : decode b_A_first 19 = .ok (.istore_n 2, 1) := by decide +kernel
theorem d_A_first_20 : decode b_A_first 20 = .ok (.aload_n 0, 1) := by decide +kernel
theorem d_A_first_21 : decode b_A_first 21 = .ok (.getfield 10, 3) := by decide +kernel
theorem d_A_first_24 : decode b_A_first 24 = .ok (.iload_n 1, 1) := by decide +kernel
theorem d_A_first_25 : decode b_A_first 25 = .ok (.putfield 90, 3) := by decide +kernel
theorem d_A_first_28 : decode b_A_first 28 = .ok (.iconst 0, 1) := by decide +kernel
theorem d_A_first_29 : decode b_A_first 29 = .ok (.istore_n 3, 1) := by decide +kernel
theorem d_A_first_30 : decode b_A_first 30 = .ok (.iload_n 3, 1) := by decide +kernel
theorem d_A_first_31 : decode b_A_first 31 = .ok (.iconst 3, 1) := by decide +kernel
theorem d_A_first_32 : decode b_A_first 32 = .ok (.if_icmp .ge (18), 3) := by decide +kernel
theorem d_A_first_35 : decode b_A_first 35 = .ok (.aload_n 0, 1) := by decide +kernel
theorem d_A_first_36 : decode b_A_first 36 = .ok (.getfield 18, 3) := by decide +kernel
theorem d_A_first_39 : decode b_A_first 39 = .ok (.iload_n 3, 1) := by decide +kernel
theorem d_A_first_40 : decode b_A_first 40 = .ok (.aaload, 1) := by decide +kernel
theorem d_A_first_41 : decode b_A_first 41 = .ok (.invokevirtual 93, 3) := by decide +kernel
theorem d_A_first_44 : decode b_A_first 44 = .ok (.iinc 3 (1), 3) := by decide +kernel
theorem d_A_first_47 : decode b_A_first 47 = .ok (.goto (-17), 3) := by decide +kernel
theorem d_A_first_50 : decode b_A_first 50 = .ok (.iconst 0, 1) := by decide +kernel
theorem d_A_first_51 : decode b_A_first 51 = .ok (.istore_n 3, 1) := by decide +kernel
theorem d_A_first_52 : decode b_A_first 52 = .ok (.iload_n 3, 1) := by decide +kernel
theorem d_A_first_53 : decode b_A_first 53 = .ok (.bipush (6), 2) := by decide +kernel
theorem d_A_first_55 : decode b_A_first 55 = .ok (.if_icmp .ge (18), 3) := by decide +kernel
theorem d_A_first_58 : decode b_A_first 58 = .ok (.aload_n 0, 1) := by decide +kernel
theorem d_A_first_59 : decode b_A_first 59 = .ok (.getfield 72, 3) := by decide +kernel
theorem d_A_first_62 : decode b_A_first 62 = .ok (.iload_n 3, 1) := by decide +kernel
theorem d_A_first_63 : decode b_A_first 63 = .ok (.aaload, 1) := by decide +kernel
theorem d_A_first_64 : decode b_A_first 64 = .ok (.invokevirtual 96, 3) := by decide +kernel
theorem d_A_first_67 : decode b_A_first 67 = .ok (.iinc 3 (1), 3) := by decide +kernel
theorem d_A_first_70 : decode b_A_first 70 = .ok (.goto (-18), 3) := by decide +kernel
theorem d_A_first_73 : decode b_A_first 73 = .ok (.iload_n 2, 1) := by decide +kernel
theorem d_A_first_74 : decode b_A_first 74 = .ok (.ireturn, 1) := by decide +kernel
def F_A_first_52_B (rec52 : Nat → Int32 → Int32 → AW → Option (Int32 × AW)) (a0 : Nat) (x2 : Int32) (x3 : Int32) (w : AW) : Option (Int32 × AW) :=
  if (6 : Int32) ≤ x3 then
    some (x2, w)
  else
    gd (wk w a0 == 1) <|
    gd (wk w (wr w a0 10) == 108) <|
    gd (inb x3 (wn w (wr w a0 10))) <|
    gd (wk w (wr w (wr w a0 10) (Int32.toNatClampNeg x3)) == 11) <|
    (F_Al_clear (wr w (wr w a0 10) (Int32.toNatClampNeg x3)) w).bind fun r5 =>
    let v7 : Int32 := (x3 + (1 : Int32))
    rec52 a0 x2 v7 r5
theorem P_A_first_52_B {X : AX} {l : Launch} {G : AG} {rec52 : Nat → Int32 → Int32 → AW → Option (Int32 × AW)} (hX : XOK X b_A_first "RedSky" 4) (hM : XM X l G { frames := 3, cells := 0, slots := 0, locals := 64 }) {o : Int32 × AW} (hR : XR X (some .int) 0 0 (some (vi o.1)) o.2) (hrec52 : ∀ (a0 : Nat) (x2 : Int32) (x3 : Int32) (w : AW), rec52 a0 x2 x3 w = some o → RJ X 4 0 0 52 [(0, vr a0), (2, vi x2), (3, vi x3)] [] w) (a0 : Nat) (x2 : Int32) (x3 : Int32) (w : AW) (h : F_A_first_52_B rec52 a0 x2 x3 w = some o) : RJ X 4 0 0 52 [(0, vr a0), (2, vi x2), (3, vi x3)] [] w := by
  unfold F_A_first_52_B at h
  refine r_iload_n (i := 3) hX d_A_first_52 2 rfl rfl ?_
  refine r_bipush (v := (6 : Int32)) hX d_A_first_53 rfl ?_
  refine r_icmp_ge hX d_A_first_55 rfl h (fun h => ?_) (fun h => ?_)
  · refine r_iload_n (i := 2) hX d_A_first_73 1 rfl rfl ?_
    cases h; exact r_iret hX hR d_A_first_74
  · refine r_aload_n (i := 0) hX d_A_first_58 0 rfl rfl ?_
    obtain ⟨hk1, h⟩ := gd_e h
    refine r_getR (i := 0) (f := 10) hX ci_0 (by decide) rfl fl_A_72 hk1 d_A_first_59 ?_
    refine r_iload_n (i := 3) hX d_A_first_62 2 rfl rfl ?_
    obtain ⟨hk2, h⟩ := gd_e h
    obtain ⟨hg3, h⟩ := gd_e h
    refine r_aald (t := 0) (kd := 108) hX (by decide) (fun G => rfl) hk2 hg3 d_A_first_63 ?_
    obtain ⟨hk4, h⟩ := gd_e h
    obtain ⟨r5, hr6, h⟩ := bd_e h
    refine r_callV0 (As := []) hX hM mw_A_96 (T_Al_clear _ _ hr6) (rc_of ci_10 hk4) rfl rfl ⟨Nat.le_refl _, Nat.le_refl _⟩ rfl rfl d_A_first_64 ?_
    refine r_iinc (i := 3) (v := (1 : Int32)) hX d_A_first_67 2 rfl rfl (by decide) ?_
    refine r_goto hX d_A_first_70 rfl ?_
    exact rj_sub [1, 2, 0] rfl (hrec52 _ _ _ _ h)
def F_A_first_52 : Nat → Nat → Int32 → Int32 → AW → Option (Int32 × AW)
  | 0 => fun _ _ _ _ => none
  | n + 1 => fun a0 x2 x3 w => F_A_first_52_B (F_A_first_52 n) a0 x2 x3 w
theorem P_A_first_52 {X : AX} {l : Launch} {G : AG} (hX : XOK X b_A_first "RedSky" 4) (hM : XM X l G { frames := 3, cells := 0, slots := 0, locals := 64 }) {o : Int32 × AW} (hR : XR X (some .int) 0 0 (some (vi o.1)) o.2) (fu : Nat) : ∀ (a0 : Nat) (x2 : Int32) (x3 : Int32) (w : AW), F_A_first_52 fu a0 x2 x3 w = some o → RJ X 4 0 0 52 [(0, vr a0), (2, vi x2), (3, vi x3)] [] w := by
  induction fu with
  | zero => intro a0 x2 x3 w h; cases h
  | succ n9 ih => intro a0 x2 x3 w h; exact P_A_first_52_B hX hM hR ih _ _ _ _ h
def F_A_first_30_B (rec30 : Nat → Int32 → Int32 → AW → Option (Int32 × AW)) (a0 : Nat) (x2 : Int32) (x3 : Int32) (w : AW) : Option (Int32 × AW) :=
  if (3 : Int32) ≤ x3 then
    F_A_first_52 FUEL a0 x2 (0 : Int32) w
  else
    gd (wk w a0 == 1) <|
    gd (wk w (wr w a0 1) == 106) <|
    gd (inb x3 (wn w (wr w a0 1))) <|
    gd (wk w (wr w (wr w a0 1) (Int32.toNatClampNeg x3)) == 3) <|
    (F_Di_clear (wr w (wr w a0 1) (Int32.toNatClampNeg x3)) w).bind fun r5 =>
    let v7 : Int32 := (x3 + (1 : Int32))
    rec30 a0 x2 v7 r5
theorem P_A_first_30_B {X : AX} {l : Launch} {G : AG} {rec30 : Nat → Int32 → Int32 → AW → Option (Int32 × AW)} (hX : XOK X b_A_first "RedSky" 4) (hM : XM X l G { frames := 3, cells := 0, slots := 0, locals := 64 }) {o : Int32 × AW} (hR : XR X (some .int) 0 0 (some (vi o.1)) o.2) (hrec30 : ∀ (a0 : Nat) (x2 : Int32) (x3 : Int32) (w : AW), rec30 a0 x2 x3 w = some o → RJ X 4 0 0 30 [(0, vr a0), (2, vi x2), (3, vi x3)] [] w) (a0 : Nat) (x2 : Int32) (x3 : Int32) (w : AW) (h : F_A_first_30_B rec30 a0 x2 x3 w = some o) : RJ X 4 0 0 30 [(0, vr a0), (2, vi x2), (3, vi x3)] [] w := by
  unfold F_A_first_30_B at h
  refine r_iload_n (i := 3) hX d_A_first_30 2 rfl rfl ?_
  refine r_iconst (v := (3 : Int32)) hX d_A_first_31 rfl ?_
  refine r_icmp_ge hX d_A_first_32 rfl h (fun h => ?_) (fun h => ?_)
  · refine r_iconst (v := (0 : Int32)) hX d_A_first_50 rfl ?_
    refine r_istore_n (i := 3) hX d_A_first_51 rfl (by decide) ?_
    exact rj_sub [1, 2, 0] rfl (P_A_first_52 hX hM hR FUEL _ _ _ _ h)
  · refine r_aload_n (i := 0) hX d_A_first_35 0 rfl rfl ?_
    obtain ⟨hk1, h⟩ := gd_e h
    refine r_getR (i := 0) (f := 1) hX ci_0 (by decide) rfl fl_A_18 hk1 d_A_first_36 ?_
    refine r_iload_n (i := 3) hX d_A_first_39 2 rfl rfl ?_
    obtain ⟨hk2, h⟩ := gd_e h
    obtain ⟨hg3, h⟩ := gd_e h
    refine r_aald (t := 0) (kd := 106) hX (by decide) (fun G => rfl) hk2 hg3 d_A_first_40 ?_
    obtain ⟨hk4, h⟩ := gd_e h
    obtain ⟨r5, hr6, h⟩ := bd_e h
    refine r_callV0 (As := []) hX hM mw_A_93 (T_Di_clear _ _ hr6) (rc_of ci_2 hk4) rfl rfl ⟨Nat.le_refl _, Nat.le_refl _⟩ rfl rfl d_A_first_41 ?_
    refine r_iinc (i := 3) (v := (1 : Int32)) hX d_A_first_44 2 rfl rfl (by decide) ?_
    refine r_goto hX d_A_first_47 rfl ?_
    exact rj_sub [1, 2, 0] rfl (hrec30 _ _ _ _ h)
def F_A_first_30 : Nat → Nat → Int32 → Int32 → AW → Option (Int32 × AW)
  | 0 => fun _ _ _ _ => none
  | n + 1 => fun a0 x2 x3 w => F_A_first_30_B (F_A_first_30 n) a0 x2 x3 w
theorem P_A_first_30 {X : AX} {l : Launch} {G : AG} (hX : XOK X b_A_first "RedSky" 4) (hM : XM X l G { frames := 3, cells := 0, slots := 0, locals := 64 }) {o : Int32 × AW} (hR : XR X (some .int) 0 0 (some (vi o.1)) o.2) (fu : Nat) : ∀ (a0 : Nat) (x2 : Int32) (x3 : Int32) (w : AW), F_A_first_30 fu a0 x2 x3 w = some o → RJ X 4 0 0 30 [(0, vr a0), (2, vi x2), (3, vi x3)] [] w := by
  induction fu with
  | zero => intro a0 x2 x3 w h; cases h
  | succ n9 ih => intro a0 x2 x3 w h; exact P_A_first_30_B hX hM hR ih _ _ _ _ h
def F_A_first (a0 : Nat) (x1 : Int32) (w : AW) : Option (Int32 × AW) :=
  if (F_A_within x1 (0 : Int32) (3 : Int32)) = 0 then
    some ((-102 : Int32), w)
  else
    gd (wk w a0 == 1) <|
    gd (wk w (wr w a0 0) == 2) <|
    let v3 : Int32 := (wi w (wr w a0 0) 0)
    let w4 : AW := upI w (wr w a0 0) 0 x1
    F_A_first_30 FUEL a0 v3 (0 : Int32) w4
theorem P_A_first_0 {X : AX} {l : Launch} {G : AG} (hX : XOK X b_A_first "RedSky" 4) (hM : XM X l G { frames := 3, cells := 0, slots := 0, locals := 64 }) {o : Int32 × AW} (hR : XR X (some .int) 0 0 (some (vi o.1)) o.2) (a0 : Nat) (x1 : Int32) (w : AW) (h : F_A_first a0 x1 w = some o) : RJ X 4 0 0 0 [(0, vr a0), (1, vi x1)] [] w := by
  unfold F_A_first at h
  refine r_iload_n (i := 1) hX d_A_first_0 1 rfl rfl ?_
  refine r_iconst (v := (0 : Int32)) hX d_A_first_1 rfl ?_
  refine r_iconst (v := (3 : Int32)) hX d_A_first_2 rfl ?_
  refine r_callS1 (As := [_, _, _]) hX hM mw_A_86 (T_A_within _ _ _ _) rfl rfl ⟨Nat.le_refl _, Nat.le_refl _⟩ rfl rfl d_A_first_3 ?_
  refine r_if_ne hX d_A_first_6 rfl h (fun h => ?_) (fun h => ?_)
  · refine r_aload_n (i := 0) hX d_A_first_12 0 rfl rfl ?_
    obtain ⟨hk1, h⟩ := gd_e h
    refine r_getR (i := 0) (f := 0) hX ci_0 (by decide) rfl fl_A_10 hk1 d_A_first_13 ?_
    obtain ⟨hk2, h⟩ := gd_e h
    refine r_getI (i := 1) (f := 0) hX ci_1 (by decide) rfl fl_A_90 hk2 d_A_first_16 ?_
    refine r_istore_n (i := 2) hX d_A_first_19 rfl (by decide) ?_
    refine r_aload_n (i := 0) hX d_A_first_20 1 rfl rfl ?_
    refine r_getR (i := 0) (f := 0) hX ci_0 (by decide) rfl fl_A_10 hk1 d_A_first_21 ?_
    refine r_iload_n (i := 1) hX d_A_first_24 2 rfl rfl ?_
    refine r_putI (i := 1) (f := 0) hX ci_1 (by decide) rfl rfl (fun G => rfl) (fun G => rfl) fl_A_90 hk2 d_A_first_25 ?_
    refine r_iconst (v := (0 : Int32)) hX d_A_first_28 rfl ?_
    refine r_istore_n (i := 3) hX d_A_first_29 rfl (by decide) ?_
    exact rj_sub [2, 1, 0] rfl (P_A_first_30 hX hM hR FUEL _ _ _ _ h)
  · refine r_bipush (v := (-102 : Int32)) hX d_A_first_9 rfl ?_
    cases h; exact r_iret hX hR d_A_first_11
theorem T_A_first {l : Launch} {G : AG} (a0 : Nat) (x1 : Int32) (w : AW) {o : Int32 × AW} (h : F_A_first a0 x1 w = some o) : Mt l G y_A_first b_A_first 4 (some (.int)) 3 64 0 0 [vr a0, vi x1] w (some (vi o.1)) o.2 := mt_of (by decide) (Nat.le_of_ble_eq_true rfl) (fun X hX hR hM hI => P_A_first_0 hX hM hR _ _ _ h)
/-! RedSkyModel.in(JJJ)Z -/
theorem d_M_in_0 : decode b_M_in 0 = .ok (.lload_n 0, 1) := by decide +kernel
theorem d_M_in_1 : decode b_M_in 1 = .ok (.lload_n 2, 1) := by decide +kernel
theorem d_M_in_2 : decode b_M_in 2 = .ok (.lcmp, 1) := by decide +kernel
theorem d_M_in_3 : decode b_M_in 3 = .ok (.ifCond .lt (14), 3) := by decide +kernel
theorem d_M_in_6 : decode b_M_in 6 = .ok (.lload_n 0, 1) := by decide +kernel
theorem d_M_in_7 : decode b_M_in 7 = .ok (.lload 4, 2) := by decide +kernel
theorem d_M_in_9 : decode b_M_in 9 = .ok (.lcmp, 1) := by decide +kernel
theorem d_M_in_10 : decode b_M_in 10 = .ok (.ifCond .gt (7), 3) := by decide +kernel
theorem d_M_in_13 : decode b_M_in 13 = .ok (.iconst 1, 1) := by decide +kernel
theorem d_M_in_14 : decode b_M_in 14 = .ok (.goto (4), 3) := by decide +kernel
theorem d_M_in_17 : decode b_M_in 17 = .ok (.iconst 0, 1) := by decide +kernel
theorem d_M_in_18 : decode b_M_in 18 = .ok (.ireturn, 1) := by decide +kernel
def Fo_M_in (w : AW) (x0 : Int64) (x2 : Int64) (x4 : Int64) : Option (Int32) :=
  if (lg_cmp x0 x2) < 0 then
    some (0 : Int32)
  else
    if 0 < (lg_cmp x0 x4) then
      some (0 : Int32)
    else
      some (1 : Int32)
theorem P_M_in_0 {X : AX} {l : Launch} {G : AG} {w : AW} (hX : XOK X b_M_in "RedSkyModel" 6) (hM : XM X l G { frames := 0, cells := 0, slots := 0, locals := 0 }) {o : Int32} (hR : XR X (some .boolean) 0 0 (some (vi o)) w) (x0 : Int64) (x2 : Int64) (x4 : Int64) (h : Fo_M_in w x0 x2 x4 = some o) : RJ X 6 0 0 0 [(0, vl x0), (2, vl x2), (4, vl x4)] [] w := by
  unfold Fo_M_in at h
  refine r_lload_n (i := 0) hX d_M_in_0 0 rfl rfl ?_
  refine r_lload_n (i := 2) hX d_M_in_1 1 rfl rfl ?_
  refine r_lcmp hX d_M_in_2 ?_
  refine r_if_lt hX d_M_in_3 rfl h (fun h => ?_) (fun h => ?_)
  · refine r_iconst (v := (0 : Int32)) hX d_M_in_17 rfl ?_
    cases h; exact r_zret hX hR rfl d_M_in_18
  · refine r_lload_n (i := 0) hX d_M_in_6 0 rfl rfl ?_
    refine r_lload (i := 4) hX d_M_in_7 2  rfl ?_
    refine r_lcmp hX d_M_in_9 ?_
    refine r_if_gt hX d_M_in_10 rfl h (fun h => ?_) (fun h => ?_)
    · refine r_iconst (v := (0 : Int32)) hX d_M_in_17 rfl ?_
      cases h; exact r_zret hX hR rfl d_M_in_18
    · refine r_iconst (v := (1 : Int32)) hX d_M_in_13 rfl ?_
      refine r_goto hX d_M_in_14 rfl ?_
      cases h; exact r_zret hX hR rfl d_M_in_18
def F_M_in (x0 : Int64) (x2 : Int64) (x4 : Int64) : Int32 :=
  if (lg_cmp x0 x2) < 0 then
    (0 : Int32)
  else
    if 0 < (lg_cmp x0 x4) then
      (0 : Int32)
    else
      (1 : Int32)
theorem E_M_in (w : AW) (x0 : Int64) (x2 : Int64) (x4 : Int64) : Fo_M_in w x0 x2 x4 = some (F_M_in x0 x2 x4) := by
  simp only [Fo_M_in, F_M_in, apply_ite (some : Int32 → Option Int32)]
theorem z_M_in (x0 : Int64) (x2 : Int64) (x4 : Int64) : (F_M_in x0 x2 x4 == 0 || F_M_in x0 x2 x4 == 1) = true := by
  unfold F_M_in; (repeat' split) <;> decide
theorem T_M_in {l : Launch} {G : AG} (x0 : Int64) (x2 : Int64) (x4 : Int64) (w : AW)  : Mt l G y_M_in b_M_in 6 (some (.boolean)) 0 0 0 0 [vl x0, vl x2, vl x4] w (some (vi (F_M_in x0 x2 x4))) w := mt_of (by decide) (Nat.le_of_ble_eq_true rfl) (fun X hX hR hM hI => P_M_in_0 hX hM hR _ _ _ (E_M_in _ _ _ _))
/-! RedSkyModel.first(I)I -/
theorem d_M_first_0 : decode b_M_first 0 = .ok (.iload_n 1, 1) := by decide +kernel
theorem d_M_first_1 : decode b_M_first 1 = .ok (.i2l, 1) := by decide +kernel
theorem d_M_first_2 : decode b_M_first 2 = .ok (.lconst 0, 1) := by decide +kernel
theorem d_M_first_3 : decode b_M_first 3 = .ok (.ldc2_w 126, 3) := by decide +kernel
theorem d_M_first_6 : decode b_M_first 6 = .ok (.invokestatic 122, 3) := by decide +kernel
theorem d_M_first_9 : decode b_M_first 9 = .ok (.ifCond .ne (6), 3) := by decide +kernel
theorem d_M_first_12 : decode b_M_first 12 = .ok (.bipush (-102), 2) := by decide +kernel
theorem d_M_first_14 : decode b_M_first 14 = .ok (.ireturn, 1) := by decide +kernel
theorem d_M_first_15 : decode b_M_first 15 = .ok (.aload_n 0, 1) := by decide +kernel
theorem d_M_first_16 : decode b_M_first 16 = .ok (.getfield 95, 3) := by decide +kernel
theorem d_M_first_19 : decode b_M_first 19 = .ok (.istore_n 2, 1) := by decide +kernel
theorem d_M_first_20 : decode b_M_first 20 = .ok (.aload_n 0, 1) := by decide +kernel
theorem d_M_first_21 : decode b_M_first 21 = .ok (.iload_n 1, 1) := by decide +kernel
theorem d_M_first_22 : decode b_M_first 22 = .ok (.putfield 95, 3) := by decide +kernel
theorem d_M_first_25 : decode b_M_first 25 = .ok (.aload_n 0, 1) := by decide +kernel
theorem d_M_first_26 : decode b_M_first 26 = .ok (.invokevirtual 99, 3) := by decide +kernel
theorem d_M_first_29 : decode b_M_first 29 = .ok (.iload_n 2, 1) := by decide +kernel
theorem d_M_first_30 : decode b_M_first 30 = .ok (.ireturn, 1) := by decide +kernel
def F_M_first (a0 : Nat) (x1 : Int32) (w : AW) : Option (Int32 × AW) :=
  if (F_M_in (Int32.toInt64 x1) (0 : Int64) (3 : Int64)) = 0 then
    some ((-102 : Int32), w)
  else
    gd (wk w a0 == 13) <|
    let v2 : Int32 := (wi w a0 0)
    let w3 : AW := upI w a0 0 x1
    (F_M_wipe a0 w3).bind fun r4 =>
    some (v2, r4)
theorem P_M_first_0 {X : AX} {l : Launch} {G : AG} (hX : XOK X b_M_first "RedSkyModel" 3) (hM : XM X l G { frames := 1, cells := 0, slots := 0, locals := 25 }) {o : Int32 × AW} (hR : XR X (some .int) 0 0 (some (vi o.1)) o.2) (a0 : Nat) (x1 : Int32) (w : AW) (h : F_M_first a0 x1 w = some o) : RJ X 3 0 0 0 [(0, vr a0), (1, vi x1)] [] w := by
  unfold F_M_first at h
  refine r_iload_n (i := 1) hX d_M_first_0 1 rfl rfl ?_
  refine r_i2l hX d_M_first_1 ?_
  refine r_lconst (v := (0 : Int64)) hX d_M_first_2 rfl ?_
  refine r_ldc2 hX d_M_first_3 cw_M_126 ?_
  refine r_callS1 (As := [_, _, _]) hX hM mw_M_122 (T_M_in _ _ _ _) rfl rfl ⟨Nat.le_refl _, Nat.le_refl _⟩ rfl rfl d_M_first_6 ?_
  refine r_if_ne hX d_M_first_9 rfl h (fun h => ?_) (fun h => ?_)
  · refine r_aload_n (i := 0) hX d_M_first_15 0 rfl rfl ?_
    obtain ⟨hk1, h⟩ := gd_e h
    refine r_getI (i := 12) (f := 0) hX ci_12 (by decide) rfl fl_M_95 hk1 d_M_first_16 ?_
    refine r_istore_n (i := 2) hX d_M_first_19 rfl (by decide) ?_
    refine r_aload_n (i := 0) hX d_M_first_20 1 rfl rfl ?_
    refine r_iload_n (i := 1) hX d_M_first_21 2 rfl rfl ?_
    refine r_putI (i := 12) (f := 0) hX ci_12 (by decide) rfl rfl (fun G => rfl) (fun G => rfl) fl_M_95 hk1 d_M_first_22 ?_
    refine r_aload_n (i := 0) hX d_M_first_25 1 rfl rfl ?_
    obtain ⟨r4, hr5, h⟩ := bd_e h
    refine r_callV0 (As := []) hX hM mw_M_99 (T_M_wipe _ _ hr5) (rc_of ci_12 (kI hk1)) rfl rfl ⟨Nat.le_refl _, Nat.le_refl _⟩ rfl rfl d_M_first_26 ?_
    refine r_iload_n (i := 2) hX d_M_first_29 0 rfl rfl ?_
    cases h; exact r_iret hX hR d_M_first_30
  · refine r_bipush (v := (-102 : Int32)) hX d_M_first_12 rfl ?_
    cases h; exact r_iret hX hR d_M_first_14
theorem T_M_first {l : Launch} {G : AG} (a0 : Nat) (x1 : Int32) (w : AW) {o : Int32 × AW} (h : F_M_first a0 x1 w = some o) : Mt l G y_M_first b_M_first 3 (some (.int)) 1 25 0 0 [vr a0, vi x1] w (some (vi o.1)) o.2 := mt_of (by decide) (Nat.le_of_ble_eq_true rfl) (fun X hX hR hM hI => P_M_first_0 hX hM hR _ _ _ h)
/-! RedSky.isYear(I)Z -/
theorem d_A_isYear_0 : decode b_A_isYear 0 = .ok (.iload_n 0, 1) := by decide +kernel
theorem d_A_isYear_1 : decode b_A_isYear 1 = .ok (.iconst 0, 1) := by decide +kernel
theorem d_A_isYear_2 : decode b_A_isYear 2 = .ok (.iconst 3, 1) := by decide +kernel
theorem d_A_isYear_3 : decode b_A_isYear 3 = .ok (.invokestatic 86, 3) := by decide +kernel
theorem d_A_isYear_6 : decode b_A_isYear 6 = .ok (.ireturn, 1) := by decide +kernel
def Fo_A_isYear (w : AW) (x0 : Int32) : Option (Int32) :=
  some (F_A_within x0 (0 : Int32) (3 : Int32))
theorem P_A_isYear_0 {X : AX} {l : Launch} {G : AG} {w : AW} (hX : XOK X b_A_isYear "RedSky" 1) (hM : XM X l G { frames := 1, cells := 0, slots := 0, locals := 22 }) {o : Int32} (hR : XR X (some .boolean) 0 0 (some (vi o)) w) (x0 : Int32) (h : Fo_A_isYear w x0 = some o) : RJ X 1 0 0 0 [(0, vi x0)] [] w := by
  unfold Fo_A_isYear at h
  refine r_iload_n (i := 0) hX d_A_isYear_0 0 rfl rfl ?_
  refine r_iconst (v := (0 : Int32)) hX d_A_isYear_1 rfl ?_
  refine r_iconst (v := (3 : Int32)) hX d_A_isYear_2 rfl ?_
  refine r_callS1 (As := [_, _, _]) hX hM mw_A_86 (T_A_within _ _ _ _) rfl rfl ⟨Nat.le_refl _, Nat.le_refl _⟩ rfl rfl d_A_isYear_3 ?_
  cases h; exact r_zret hX hR (zn_ok (z_A_within _ _ _)) d_A_isYear_6
def F_A_isYear (x0 : Int32) : Int32 :=
  (F_A_within x0 (0 : Int32) (3 : Int32))
theorem E_A_isYear (w : AW) (x0 : Int32) : Fo_A_isYear w x0 = some (F_A_isYear x0) := by
  simp only [Fo_A_isYear, F_A_isYear, apply_ite (some : Int32 → Option Int32)]
theorem z_A_isYear (x0 : Int32) : (F_A_isYear x0 == 0 || F_A_isYear x0 == 1) = true := by
  unfold F_A_isYear; exact (z_A_within _ _ _)
theorem T_A_isYear {l : Launch} {G : AG} (x0 : Int32) (w : AW)  : Mt l G y_A_isYear b_A_isYear 1 (some (.boolean)) 1 22 0 0 [vi x0] w (some (vi (F_A_isYear x0))) w := mt_of (by decide) (Nat.le_of_ble_eq_true rfl) (fun X hX hR hM hI => P_A_isYear_0 hX hM hR _ (E_A_isYear _ _))
/-! RedSky.isMonth(I)Z -/
theorem d_A_isMonth_0 : decode b_A_isMonth 0 = .ok (.iload_n 0, 1) := by decide +kernel
theorem d_A_isMonth_1 : decode b_A_isMonth 1 = .ok (.iconst 1, 1) := by decide +kernel
theorem d_A_isMonth_2 : decode b_A_isMonth 2 = .ok (.bipush (12), 2) := by decide +kernel
theorem d_A_isMonth_4 : decode b_A_isMonth 4 = .ok (.invokestatic 86, 3) := by decide +kernel
theorem d_A_isMonth_7 : decode b_A_isMonth 7 = .ok (.ireturn, 1) := by decide +kernel
def Fo_A_isMonth (w : AW) (x0 : Int32) : Option (Int32) :=
  some (F_A_within x0 (1 : Int32) (12 : Int32))
theorem P_A_isMonth_0 {X : AX} {l : Launch} {G : AG} {w : AW} (hX : XOK X b_A_isMonth "RedSky" 1) (hM : XM X l G { frames := 1, cells := 0, slots := 0, locals := 22 }) {o : Int32} (hR : XR X (some .boolean) 0 0 (some (vi o)) w) (x0 : Int32) (h : Fo_A_isMonth w x0 = some o) : RJ X 1 0 0 0 [(0, vi x0)] [] w := by
  unfold Fo_A_isMonth at h
  refine r_iload_n (i := 0) hX d_A_isMonth_0 0 rfl rfl ?_
  refine r_iconst (v := (1 : Int32)) hX d_A_isMonth_1 rfl ?_
  refine r_bipush (v := (12 : Int32)) hX d_A_isMonth_2 rfl ?_
  refine r_callS1 (As := [_, _, _]) hX hM mw_A_86 (T_A_within _ _ _ _) rfl rfl ⟨Nat.le_refl _, Nat.le_refl _⟩ rfl rfl d_A_isMonth_4 ?_
  cases h; exact r_zret hX hR (zn_ok (z_A_within _ _ _)) d_A_isMonth_7
def F_A_isMonth (x0 : Int32) : Int32 :=
  (F_A_within x0 (1 : Int32) (12 : Int32))
theorem E_A_isMonth (w : AW) (x0 : Int32) : Fo_A_isMonth w x0 = some (F_A_isMonth x0) := by
  simp only [Fo_A_isMonth, F_A_isMonth, apply_ite (some : Int32 → Option Int32)]
theorem z_A_isMonth (x0 : Int32) : (F_A_isMonth x0 == 0 || F_A_isMonth x0 == 1) = true := by
  unfold F_A_isMonth; exact (z_A_within _ _ _)
theorem T_A_isMonth {l : Launch} {G : AG} (x0 : Int32) (w : AW)  : Mt l G y_A_isMonth b_A_isMonth 1 (some (.boolean)) 1 22 0 0 [vi x0] w (some (vi (F_A_isMonth x0))) w := mt_of (by decide) (Nat.le_of_ble_eq_true rfl) (fun X hX hR hM hI => P_A_isMonth_0 hX hM hR _ (E_A_isMonth _ _))
/-! RedSky.isDate(I)Z -/
theorem d_A_isDate_0 : decode b_A_isDate 0 = .ok (.iload_n 0, 1) := by decide +kernel
theorem d_A_isDate_1 : decode b_A_isDate 1 = .ok (.iconst 1, 1) := by decide +kernel
theorem d_A_isDate_2 : decode b_A_isDate 2 = .ok (.bipush (31), 2) := by decide +kernel
theorem d_A_isDate_4 : decode b_A_isDate 4 = .ok (.invokestatic 86, 3) := by decide +kernel
theorem d_A_isDate_7 : decode b_A_isDate 7 = .ok (.ireturn, 1) := by decide +kernel
def Fo_A_isDate (w : AW) (x0 : Int32) : Option (Int32) :=
  some (F_A_within x0 (1 : Int32) (31 : Int32))
theorem P_A_isDate_0 {X : AX} {l : Launch} {G : AG} {w : AW} (hX : XOK X b_A_isDate "RedSky" 1) (hM : XM X l G { frames := 1, cells := 0, slots := 0, locals := 22 }) {o : Int32} (hR : XR X (some .boolean) 0 0 (some (vi o)) w) (x0 : Int32) (h : Fo_A_isDate w x0 = some o) : RJ X 1 0 0 0 [(0, vi x0)] [] w := by
  unfold Fo_A_isDate at h
  refine r_iload_n (i := 0) hX d_A_isDate_0 0 rfl rfl ?_
  refine r_iconst (v := (1 : Int32)) hX d_A_isDate_1 rfl ?_
  refine r_bipush (v := (31 : Int32)) hX d_A_isDate_2 rfl ?_
  refine r_callS1 (As := [_, _, _]) hX hM mw_A_86 (T_A_within _ _ _ _) rfl rfl ⟨Nat.le_refl _, Nat.le_refl _⟩ rfl rfl d_A_isDate_4 ?_
  cases h; exact r_zret hX hR (zn_ok (z_A_within _ _ _)) d_A_isDate_7
def F_A_isDate (x0 : Int32) : Int32 :=
  (F_A_within x0 (1 : Int32) (31 : Int32))
theorem E_A_isDate (w : AW) (x0 : Int32) : Fo_A_isDate w x0 = some (F_A_isDate x0) := by
  simp only [Fo_A_isDate, F_A_isDate, apply_ite (some : Int32 → Option Int32)]
theorem z_A_isDate (x0 : Int32) : (F_A_isDate x0 == 0 || F_A_isDate x0 == 1) = true := by
  unfold F_A_isDate; exact (z_A_within _ _ _)
theorem T_A_isDate {l : Launch} {G : AG} (x0 : Int32) (w : AW)  : Mt l G y_A_isDate b_A_isDate 1 (some (.boolean)) 1 22 0 0 [vi x0] w (some (vi (F_A_isDate x0))) w := mt_of (by decide) (Nat.le_of_ble_eq_true rfl) (fun X hX hR hM hI => P_A_isDate_0 hX hM hR _ (E_A_isDate _ _))
/-! RedSky$Calendar.isLong(I)Z -/
theorem d_Ca_isLong_0 : decode b_Ca_isLong 0 = .ok (.aload_n 0, 1) := by decide +kernel
theorem d_Ca_isLong_1 : decode b_Ca_isLong 1 = .ok (.getfield 9, 3) := by decide +kernel
theorem d_Ca_isLong_4 : decode b_Ca_isLong 4 = .ok (.iload_n 1, 1) := by decide +kernel
theorem d_Ca_isLong_5 : decode b_Ca_isLong 5 = .ok (.iadd, 1) := by decide +kernel
theorem d_Ca_isLong_6 : decode b_Ca_isLong 6 = .ok (.iconst 4, 1) := by decide +kernel
theorem d_Ca_isLong_7 : decode b_Ca_isLong 7 = .ok (.irem, 1) := by decide +kernel
theorem d_Ca_isLong_8 : decode b_Ca_isLong 8 = .ok (.ifCond .ne (7), 3) := by decide +kernel
theorem d_Ca_isLong_11 : decode b_Ca_isLong 11 = .ok (.iconst 1, 1) := by decide +kernel
theorem d_Ca_isLong_12 : decode b_Ca_isLong 12 = .ok (.goto (4), 3) := by decide +kernel
theorem d_Ca_isLong_15 : decode b_Ca_isLong 15 = .ok (.iconst 0, 1) := by decide +kernel
theorem d_Ca_isLong_16 : decode b_Ca_isLong 16 = .ok (.ireturn, 1) := by decide +kernel
def F_Ca_isLong (w : AW) (a0 : Nat) (x1 : Int32) : Option (Int32) :=
  gd (wk w a0 == 2) <|
  if (irem ((wi w a0 0) + x1) (4 : Int32)) = 0 then
    some (1 : Int32)
  else
    some (0 : Int32)
theorem P_Ca_isLong_0 {X : AX} {l : Launch} {G : AG} {w : AW} (hX : XOK X b_Ca_isLong "RedSky$Calendar" 2) (hM : XM X l G { frames := 0, cells := 0, slots := 0, locals := 0 }) {o : Int32} (hR : XR X (some .boolean) 0 0 (some (vi o)) w) (a0 : Nat) (x1 : Int32) (h : F_Ca_isLong w a0 x1 = some o) : RJ X 2 0 0 0 [(0, vr a0), (1, vi x1)] [] w := by
  unfold F_Ca_isLong at h
  refine r_aload_n (i := 0) hX d_Ca_isLong_0 0 rfl rfl ?_
  obtain ⟨hk1, h⟩ := gd_e h
  refine r_getI (i := 1) (f := 0) hX ci_1 (by decide) rfl fl_Ca_9 hk1 d_Ca_isLong_1 ?_
  refine r_iload_n (i := 1) hX d_Ca_isLong_4 1 rfl rfl ?_
  refine r_iadd hX d_Ca_isLong_5 ?_
  refine r_iconst (v := (4 : Int32)) hX d_Ca_isLong_6 rfl ?_
  refine r_irem hX d_Ca_isLong_7 (by decide) ?_
  refine r_if_ne hX d_Ca_isLong_8 rfl h (fun h => ?_) (fun h => ?_)
  · refine r_iconst (v := (0 : Int32)) hX d_Ca_isLong_15 rfl ?_
    cases h; exact r_zret hX hR rfl d_Ca_isLong_16
  · refine r_iconst (v := (1 : Int32)) hX d_Ca_isLong_11 rfl ?_
    refine r_goto hX d_Ca_isLong_12 rfl ?_
    cases h; exact r_zret hX hR rfl d_Ca_isLong_16
theorem T_Ca_isLong {l : Launch} {G : AG} (w : AW) (a0 : Nat) (x1 : Int32) {o : Int32} (h : F_Ca_isLong w a0 x1 = some o) : Mt l G y_Ca_isLong b_Ca_isLong 2 (some (.boolean)) 0 0 0 0 [vr a0, vi x1] w (some (vi o)) w := mt_of (by decide) (Nat.le_of_ble_eq_true rfl) (fun X hX hR hM hI => P_Ca_isLong_0 hX hM hR _ _ h)
/-! RedSky$Calendar.monthLength(II)I -/
theorem d_Ca_monthLength_0 : decode b_Ca_monthLength 0 = .ok (.iload_n 2, 1) := by decide +kernel
theorem d_Ca_monthLength_1 : decode b_Ca_monthLength 1 = .ok (.iconst 1, 1) := by decide +kernel
theorem d_Ca_monthLength_2 : decode b_Ca_monthLength 2 = .ok (.if_icmp .lt (9), 3) := by decide +kernel
theorem d_Ca_monthLength_5 : decode b_Ca_monthLength 5 = .ok (.iload_n 2, 1) := by decide +kernel
theorem d_Ca_monthLength_6 : decode b_Ca_monthLength 6 = .ok (.bipush (12), 2) := by decide +kernel
theorem d_Ca_monthLength_8 : decode b_Ca_monthLength 8 = .ok (.if_icmp .le (5), 3) := by decide +kernel
theorem d_Ca_monthLength_11 : decode b_Ca_monthLength 11 = .ok (.iconst 0, 1) := by decide +kernel
theorem d_Ca_monthLength_12 : decode b_Ca_monthLength 12 = .ok (.ireturn, 1) := by decide +kernel
theorem d_Ca_monthLength_13 : decode b_Ca_monthLength 13 = .ok (.iload_n 2, 1) := by decide +kernel
theorem d_Ca_monthLength_14 : decode b_Ca_monthLength 14 = .ok (.iconst 2, 1) := by decide +kernel
theorem d_Ca_monthLength_15 : decode b_Ca_monthLength 15 = .ok (.if_icmp .ne (16), 3) := by decide +kernel
theorem d_Ca_monthLength_18 : decode b_Ca_monthLength 18 = .ok (.aload_n 0, 1) := by decide +kernel
theorem d_Ca_monthLength_19 : decode b_Ca_monthLength 19 = .ok (.iload_n 1, 1) := by decide +kernel
theorem d_Ca_monthLength_20 : decode b_Ca_monthLength 20 = .ok (.invokevirtual 34, 3) := by decide +kernel
theorem d_Ca_monthLength_23 : decode b_Ca_monthLength 23 = .ok (.ifCond .eq (8), 3) := by decide +kernel
theorem d_Ca_monthLength_26 : decode b_Ca_monthLength 26 = .ok (.bipush (29), 2) := by decide +kernel
theorem d_Ca_monthLength_28 : decode b_Ca_monthLength 28 = .ok (.goto (10), 3) := by decide +kernel
theorem d_Ca_monthLength_31 : decode b_Ca_monthLength 31 = .ok (.getstatic 42, 3) := by decide +kernel
theorem d_Ca_monthLength_34 : decode b_Ca_monthLength 34 = .ok (.iload_n 2, 1) := by decide +kernel
theorem d_Ca_monthLength_35 : decode b_Ca_monthLength 35 = .ok (.iconst 1, 1) := by decide +kernel
theorem d_Ca_monthLength_36 : decode b_Ca_monthLength 36 = .ok (.isub, 1) := by decide +kernel
theorem d_Ca_monthLength_37 : decode b_Ca_monthLength 37 = .ok (.iaload, 1) := by decide +kernel
theorem d_Ca_monthLength_38 : decode b_Ca_monthLength 38 = .ok (.ireturn, 1) := by decide +kernel
def F_Ca_monthLength_31 (w : AW) (x2 : Int32) : Option (Int32) :=
  gd (wk w 2 == 110) <|
  gd (inb (x2 - (1 : Int32)) (wn w 2)) <|
  some (wi w 2 (Int32.toNatClampNeg (x2 - (1 : Int32))))
theorem P_Ca_monthLength_31 {X : AX} {l : Launch} {G : AG} {w : AW} (hX : XOK X b_Ca_monthLength "RedSky$Calendar" 3) (hM : XM X l G { frames := 1, cells := 0, slots := 0, locals := 21 }) {o : Int32} (hR : XR X (some .int) 0 0 (some (vi o)) w) (x2 : Int32) (h : F_Ca_monthLength_31 w x2 = some o) : RJ X 3 0 0 31 [(2, vi x2)] [] w := by
  unfold F_Ca_monthLength_31 at h
  refine r_gets (v := vr 2) hX (List.mem_of_getElem? (i := 0) rfl) fl_Ca_42 d_Ca_monthLength_31 ?_
  refine r_iload_n (i := 2) hX d_Ca_monthLength_34 0 rfl rfl ?_
  refine r_iconst (v := (1 : Int32)) hX d_Ca_monthLength_35 rfl ?_
  refine r_isub hX d_Ca_monthLength_36 ?_
  obtain ⟨hk1, h⟩ := gd_e h
  obtain ⟨hg2, h⟩ := gd_e h
  refine r_xald hX hk1 hg2 d_Ca_monthLength_37 ?_
  cases h; exact r_iret hX hR d_Ca_monthLength_38
def F_Ca_monthLength (w : AW) (a0 : Nat) (x1 : Int32) (x2 : Int32) : Option (Int32) :=
  if x2 < (1 : Int32) then
    some (0 : Int32)
  else
    if x2 ≤ (12 : Int32) then
      if x2 = (2 : Int32) then
        gd (wk w a0 == 2) <|
        (F_Ca_isLong w a0 x1).bind fun r2 =>
        if r2 = 0 then
          F_Ca_monthLength_31 w x2
        else
          some (29 : Int32)
      else
        F_Ca_monthLength_31 w x2
    else
      some (0 : Int32)
theorem P_Ca_monthLength_0 {X : AX} {l : Launch} {G : AG} {w : AW} (hX : XOK X b_Ca_monthLength "RedSky$Calendar" 3) (hM : XM X l G { frames := 1, cells := 0, slots := 0, locals := 21 }) {o : Int32} (hR : XR X (some .int) 0 0 (some (vi o)) w) (a0 : Nat) (x1 : Int32) (x2 : Int32) (h : F_Ca_monthLength w a0 x1 x2 = some o) : RJ X 3 0 0 0 [(0, vr a0), (1, vi x1), (2, vi x2)] [] w := by
  unfold F_Ca_monthLength at h
  refine r_iload_n (i := 2) hX d_Ca_monthLength_0 2 rfl rfl ?_
  refine r_iconst (v := (1 : Int32)) hX d_Ca_monthLength_1 rfl ?_
  refine r_icmp_lt hX d_Ca_monthLength_2 rfl h (fun h => ?_) (fun h => ?_)
  · refine r_iconst (v := (0 : Int32)) hX d_Ca_monthLength_11 rfl ?_
    cases h; exact r_iret hX hR d_Ca_monthLength_12
  · refine r_iload_n (i := 2) hX d_Ca_monthLength_5 2 rfl rfl ?_
    refine r_bipush (v := (12 : Int32)) hX d_Ca_monthLength_6 rfl ?_
    refine r_icmp_le hX d_Ca_monthLength_8 rfl h (fun h => ?_) (fun h => ?_)
    · refine r_iload_n (i := 2) hX d_Ca_monthLength_13 2 rfl rfl ?_
      refine r_iconst (v := (2 : Int32)) hX d_Ca_monthLength_14 rfl ?_
      refine r_icmp_ne hX d_Ca_monthLength_15 rfl h (fun h => ?_) (fun h => ?_)
      · exact rj_sub [2] rfl (P_Ca_monthLength_31 hX hM hR _ h)
      · refine r_aload_n (i := 0) hX d_Ca_monthLength_18 0 rfl rfl ?_
        refine r_iload_n (i := 1) hX d_Ca_monthLength_19 1 rfl rfl ?_
        obtain ⟨hk1, h⟩ := gd_e h
        obtain ⟨r2, hr3, h⟩ := bd_e h
        refine r_callV1 (As := [_]) hX hM mw_Ca_34 (T_Ca_isLong _ _ _ hr3) (rc_of ci_1 hk1) rfl rfl ⟨Nat.le_refl _, Nat.le_refl _⟩ rfl rfl d_Ca_monthLength_20 ?_
        refine r_if_eq hX d_Ca_monthLength_23 rfl h (fun h => ?_) (fun h => ?_)
        · exact rj_sub [2] rfl (P_Ca_monthLength_31 hX hM hR _ h)
        · refine r_bipush (v := (29 : Int32)) hX d_Ca_monthLength_26 rfl ?_
          refine r_goto hX d_Ca_monthLength_28 rfl ?_
          cases h; exact r_iret hX hR d_Ca_monthLength_38
    · refine r_iconst (v := (0 : Int32)) hX d_Ca_monthLength_11 rfl ?_
      cases h; exact r_iret hX hR d_Ca_monthLength_12
theorem T_Ca_monthLength {l : Launch} {G : AG} (w : AW) (a0 : Nat) (x1 : Int32) (x2 : Int32) {o : Int32} (h : F_Ca_monthLength w a0 x1 x2 = some o) : Mt l G y_Ca_monthLength b_Ca_monthLength 3 (some (.int)) 1 21 0 0 [vr a0, vi x1, vi x2] w (some (vi o)) w := mt_of (by decide) (Nat.le_of_ble_eq_true rfl) (fun X hX hR hM hI => P_Ca_monthLength_0 hX hM hR _ _ _ h)
/-! RedSky$Calendar.startOf(I)I -/
theorem d_Ca_startOf_0 : decode b_Ca_startOf 0 = .ok (.iconst 0, 1) := by decide +kernel
theorem d_Ca_startOf_1 : decode b_Ca_startOf 1 = .ok (.istore_n 2, 1) := by decide +kernel
theorem d_Ca_startOf_2 : decode b_Ca_startOf 2 = .ok (.iconst 0, 1) := by decide +kernel
theorem d_Ca_startOf_3 : decode b_Ca_startOf 3 = .ok (.istore_n 3, 1) := by decide +kernel
theorem d_Ca_startOf_4 : decode b_Ca_startOf 4 = .ok (.iload_n 3, 1) := by decide +kernel
theorem d_Ca_startOf_5 : decode b_Ca_startOf 5 = .ok (.iconst 4, 1) := by decide +kernel
theorem d_Ca_startOf_6 : decode b_Ca_startOf 6 = .ok (.if_icmp .ge (34), 3) := by decide +kernel
theorem d_Ca_startOf_9 : decode b_Ca_startOf 9 = .ok (.iload_n 3, 1) := by decide +kernel
theorem d_Ca_startOf_10 : decode b_Ca_startOf 10 = .ok (.iload_n 1, 1) := by decide +kernel
theorem d_Ca_startOf_11 : decode b_Ca_startOf 11 = .ok (.if_icmp .ge (29), 3) := by decide +kernel
theorem d_Ca_startOf_14 : decode b_Ca_startOf 14 = .ok (.iload_n 2, 1) := by decide +kernel
theorem d_Ca_startOf_15 : decode b_Ca_startOf 15 = .ok (.aload_n 0, 1) := by decide +kernel
theorem d_Ca_startOf_16 : decode b_Ca_startOf 16 = .ok (.iload_n 3, 1) := by decide +kernel
theorem d_Ca_startOf_17 : decode b_Ca_startOf 17 = .ok (.invokevirtual 34, 3) := by decide +kernel
theorem d_Ca_startOf_20 : decode b_Ca_startOf 20 = .ok (.ifCond .eq (9), 3) := by decide +kernel
theorem d_Ca_startOf_23 : decode b_Ca_startOf 23 = .ok (.sipush (366), 3) := by decide +kernel
theorem d_Ca_startOf_26 : decode b_Ca_startOf 26 = .ok (.goto (6), 3) := by decide +kernel
theorem d_Ca_startOf_29 : decode b_Ca_startOf 29 = .ok (.sipush (365), 3) := by decide +kernel
theorem d_Ca_startOf_32 : decode b_Ca_startOf 32 = .ok (.iadd, 1) := by decide +kernel
theorem d_Ca_startOf_33 : decode b_Ca_startOf 33 = .ok (.istore_n 2, 1) := by decide +kernel
theorem d_Ca_startOf_34 : decode b_Ca_startOf 34 = .ok (.iinc 3 (1), 3) := by decide +kernel
theorem d_Ca_startOf_37 : decode b_Ca_startOf 37 = .ok (.goto (-33), 3) := by decide +kernel
theorem d_Ca_startOf_40 : decode b_Ca_startOf 40 = .ok (.iload_n 2, 1) := by decide +kernel
theorem d_Ca_startOf_41 : decode b_Ca_startOf 41 = .ok (.ireturn, 1) := by decide +kernel
def F_Ca_startOf_4_B (rec4 : Nat → Int32 → Int32 → Int32 → Option (Int32)) (w : AW) (a0 : Nat) (x1 : Int32) (x2 : Int32) (x3 : Int32) : Option (Int32) :=
  if (4 : Int32) ≤ x3 then
    some x2
  else
    if x1 ≤ x3 then
      some x2
    else
      gd (wk w a0 == 2) <|
      (F_Ca_isLong w a0 x3).bind fun r2 =>
      if r2 = 0 then
        let v4 : Int32 := (x2 + (365 : Int32))
        let v5 : Int32 := (x3 + (1 : Int32))
        rec4 a0 x1 v4 v5
      else
        let v6 : Int32 := (x2 + (366 : Int32))
        let v7 : Int32 := (x3 + (1 : Int32))
        rec4 a0 x1 v6 v7
theorem P_Ca_startOf_4_B {X : AX} {l : Launch} {G : AG} {w : AW} {rec4 : Nat → Int32 → Int32 → Int32 → Option (Int32)} (hX : XOK X b_Ca_startOf "RedSky$Calendar" 4) (hM : XM X l G { frames := 1, cells := 0, slots := 0, locals := 21 }) {o : Int32} (hR : XR X (some .int) 0 0 (some (vi o)) w) (hrec4 : ∀ (a0 : Nat) (x1 : Int32) (x2 : Int32) (x3 : Int32), rec4 a0 x1 x2 x3 = some o → RJ X 4 0 0 4 [(0, vr a0), (1, vi x1), (2, vi x2), (3, vi x3)] [] w) (a0 : Nat) (x1 : Int32) (x2 : Int32) (x3 : Int32) (h : F_Ca_startOf_4_B rec4 w a0 x1 x2 x3 = some o) : RJ X 4 0 0 4 [(0, vr a0), (1, vi x1), (2, vi x2), (3, vi x3)] [] w := by
  unfold F_Ca_startOf_4_B at h
  refine r_iload_n (i := 3) hX d_Ca_startOf_4 3 rfl rfl ?_
  refine r_iconst (v := (4 : Int32)) hX d_Ca_startOf_5 rfl ?_
  refine r_icmp_ge hX d_Ca_startOf_6 rfl h (fun h => ?_) (fun h => ?_)
  · refine r_iload_n (i := 2) hX d_Ca_startOf_40 2 rfl rfl ?_
    cases h; exact r_iret hX hR d_Ca_startOf_41
  · refine r_iload_n (i := 3) hX d_Ca_startOf_9 3 rfl rfl ?_
    refine r_iload_n (i := 1) hX d_Ca_startOf_10 1 rfl rfl ?_
    refine r_icmp_ge hX d_Ca_startOf_11 rfl h (fun h => ?_) (fun h => ?_)
    · refine r_iload_n (i := 2) hX d_Ca_startOf_40 2 rfl rfl ?_
      cases h; exact r_iret hX hR d_Ca_startOf_41
    · refine r_iload_n (i := 2) hX d_Ca_startOf_14 2 rfl rfl ?_
      refine r_aload_n (i := 0) hX d_Ca_startOf_15 0 rfl rfl ?_
      refine r_iload_n (i := 3) hX d_Ca_startOf_16 3 rfl rfl ?_
      obtain ⟨hk1, h⟩ := gd_e h
      obtain ⟨r2, hr3, h⟩ := bd_e h
      refine r_callV1 (As := [_]) hX hM mw_Ca_34 (T_Ca_isLong _ _ _ hr3) (rc_of ci_1 hk1) rfl rfl ⟨Nat.le_refl _, Nat.le_refl _⟩ rfl rfl d_Ca_startOf_17 ?_
      refine r_if_eq hX d_Ca_startOf_20 rfl h (fun h => ?_) (fun h => ?_)
      · refine r_sipush (v := (365 : Int32)) hX d_Ca_startOf_29 rfl ?_
        refine r_iadd hX d_Ca_startOf_32 ?_
        refine r_istore_n (i := 2) hX d_Ca_startOf_33 rfl (by decide) ?_
        refine r_iinc (i := 3) (v := (1 : Int32)) hX d_Ca_startOf_34 3 rfl rfl (by decide) ?_
        refine r_goto hX d_Ca_startOf_37 rfl ?_
        exact rj_sub [2, 3, 1, 0] rfl (hrec4 _ _ _ _ h)
      · refine r_sipush (v := (366 : Int32)) hX d_Ca_startOf_23 rfl ?_
        refine r_goto hX d_Ca_startOf_26 rfl ?_
        refine r_iadd hX d_Ca_startOf_32 ?_
        refine r_istore_n (i := 2) hX d_Ca_startOf_33 rfl (by decide) ?_
        refine r_iinc (i := 3) (v := (1 : Int32)) hX d_Ca_startOf_34 3 rfl rfl (by decide) ?_
        refine r_goto hX d_Ca_startOf_37 rfl ?_
        exact rj_sub [2, 3, 1, 0] rfl (hrec4 _ _ _ _ h)
def F_Ca_startOf_4 (w : AW) : Nat → Nat → Int32 → Int32 → Int32 → Option (Int32)
  | 0 => fun _ _ _ _ => none
  | n + 1 => fun a0 x1 x2 x3 => F_Ca_startOf_4_B (F_Ca_startOf_4 w n) w a0 x1 x2 x3
theorem P_Ca_startOf_4 {X : AX} {l : Launch} {G : AG} {w : AW} (hX : XOK X b_Ca_startOf "RedSky$Calendar" 4) (hM : XM X l G { frames := 1, cells := 0, slots := 0, locals := 21 }) {o : Int32} (hR : XR X (some .int) 0 0 (some (vi o)) w) (fu : Nat) : ∀ (a0 : Nat) (x1 : Int32) (x2 : Int32) (x3 : Int32), F_Ca_startOf_4 w fu a0 x1 x2 x3 = some o → RJ X 4 0 0 4 [(0, vr a0), (1, vi x1), (2, vi x2), (3, vi x3)] [] w := by
  induction fu with
  | zero => intro a0 x1 x2 x3 h; cases h
  | succ n9 ih => intro a0 x1 x2 x3 h; exact P_Ca_startOf_4_B hX hM hR ih _ _ _ _ h
def F_Ca_startOf (w : AW) (a0 : Nat) (x1 : Int32) : Option (Int32) :=
  F_Ca_startOf_4 w FUEL a0 x1 (0 : Int32) (0 : Int32)
theorem P_Ca_startOf_0 {X : AX} {l : Launch} {G : AG} {w : AW} (hX : XOK X b_Ca_startOf "RedSky$Calendar" 4) (hM : XM X l G { frames := 1, cells := 0, slots := 0, locals := 21 }) {o : Int32} (hR : XR X (some .int) 0 0 (some (vi o)) w) (a0 : Nat) (x1 : Int32) (h : F_Ca_startOf w a0 x1 = some o) : RJ X 4 0 0 0 [(0, vr a0), (1, vi x1)] [] w := by
  unfold F_Ca_startOf at h
  refine r_iconst (v := (0 : Int32)) hX d_Ca_startOf_0 rfl ?_
  refine r_istore_n (i := 2) hX d_Ca_startOf_1 rfl (by decide) ?_
  refine r_iconst (v := (0 : Int32)) hX d_Ca_startOf_2 rfl ?_
  refine r_istore_n (i := 3) hX d_Ca_startOf_3 rfl (by decide) ?_
  exact rj_sub [2, 3, 1, 0] rfl (P_Ca_startOf_4 hX hM hR FUEL _ _ _ _ h)
theorem T_Ca_startOf {l : Launch} {G : AG} (w : AW) (a0 : Nat) (x1 : Int32) {o : Int32} (h : F_Ca_startOf w a0 x1 = some o) : Mt l G y_Ca_startOf b_Ca_startOf 4 (some (.int)) 1 21 0 0 [vr a0, vi x1] w (some (vi o)) w := mt_of (by decide) (Nat.le_of_ble_eq_true rfl) (fun X hX hR hM hI => P_Ca_startOf_0 hX hM hR _ _ h)
/-! RedSky$Calendar.dayOf(III)I -/
theorem d_Ca_dayOf_0 : decode b_Ca_dayOf 0 = .ok (.iload_n 3, 1) := by decide +kernel
theorem d_Ca_dayOf_1 : decode b_Ca_dayOf 1 = .ok (.iconst 1, 1) := by decide +kernel
theorem d_Ca_dayOf_2 : decode b_Ca_dayOf 2 = .ok (.aload_n 0, 1) := by decide +kernel
theorem d_Ca_dayOf_3 : decode b_Ca_dayOf 3 = .ok (.iload_n 1, 1) := by decide +kernel
theorem d_Ca_dayOf_4 : decode b_Ca_dayOf 4 = .ok (.iload_n 2, 1) := by decide +kernel
theorem d_Ca_dayOf_5 : decode b_Ca_dayOf 5 = .ok (.invokevirtual 45, 3) := by decide +kernel
theorem d_Ca_dayOf_8 : decode b_Ca_dayOf 8 = .ok (.invokestatic 49, 3) := by decide +kernel
theorem d_Ca_dayOf_11 : decode b_Ca_dayOf 11 = .ok (.ifCond .ne (5), 3) := by decide +kernel
theorem d_Ca_dayOf_14 : decode b_Ca_dayOf 14 = .ok (.iconst (-1), 1) := by decide +kernel
theorem d_Ca_dayOf_15 : decode b_Ca_dayOf 15 = .ok (.ireturn, 1) := by decide +kernel
theorem d_Ca_dayOf_16 : decode b_Ca_dayOf 16 = .ok (.aload_n 0, 1) := by decide +kernel
theorem d_Ca_dayOf_17 : decode b_Ca_dayOf 17 = .ok (.iload_n 1, 1) := by decide +kernel
theorem d_Ca_dayOf_18 : decode b_Ca_dayOf 18 = .ok (.invokevirtual 38, 3) := by decide +kernel
theorem d_Ca_dayOf_21 : decode b_Ca_dayOf 21 = .ok (.iload_n 3, 1) := by decide +kernel
theorem d_Ca_dayOf_22 : decode b_Ca_dayOf 22 = .ok (.iadd, 1) := by decide +kernel
theorem d_Ca_dayOf_23 : decode b_Ca_dayOf 23 = .ok (.iconst 1, 1) := by decide +kernel
theorem d_Ca_dayOf_24 : decode b_Ca_dayOf 24 = .ok (.isub, 1) := by decide +kernel
theorem d_Ca_dayOf_25 : decode b_Ca_dayOf 25 = .ok (.istore 4, 2) := by decide +kernel
theorem d_Ca_dayOf_27 : decode b_Ca_dayOf 27 = .ok (.iconst 1, 1) := by decide +kernel
theorem d_Ca_dayOf_28 : decode b_Ca_dayOf 28 = .ok (.istore 5, 2) := by decide +kernel
theorem d_Ca_dayOf_30 : decode b_Ca_dayOf 30 = .ok (.iload 5, 2) := by decide +kernel
theorem d_Ca_dayOf_32 : decode b_Ca_dayOf 32 = .ok (.bipush (12), 2) := by decide +kernel
theorem d_Ca_dayOf_34 : decode b_Ca_dayOf 34 = .ok (.if_icmp .ge (27), 3) := by decide +kernel
theorem d_Ca_dayOf_37 : decode b_Ca_dayOf 37 = .ok (.iload 5, 2) := by decide +kernel
theorem d_Ca_dayOf_39 : decode b_Ca_dayOf 39 = .ok (.iload_n 2, 1) := by decide +kernel
theorem d_Ca_dayOf_40 : decode b_Ca_dayOf 40 = .ok (.if_icmp .ge (21), 3) := by decide +kernel
theorem d_Ca_dayOf_43 : decode b_Ca_dayOf 43 = .ok (.iload 4, 2) := by decide +kernel
theorem d_Ca_dayOf_45 : decode b_Ca_dayOf 45 = .ok (.aload_n 0, 1) := by decide +kernel
theorem d_Ca_dayOf_46 : decode b_Ca_dayOf 46 = .ok (.iload_n 1, 1) := by decide +kernel
theorem d_Ca_dayOf_47 : decode b_Ca_dayOf 47 = .ok (.iload 5, 2) := by decide +kernel
theorem d_Ca_dayOf_49 : decode b_Ca_dayOf 49 = .ok (.invokevirtual 45, 3) := by decide +kernel
theorem d_Ca_dayOf_52 : decode b_Ca_dayOf 52 = .ok (.iadd, 1) := by decide +kernel
theorem d_Ca_dayOf_53 : decode b_Ca_dayOf 53 = .ok (.istore 4, 2) := by decide +kernel
theorem d_Ca_dayOf_55 : decode b_Ca_dayOf 55 = .ok (.iinc 5 (1), 3) := by decide +kernel
theorem d_Ca_dayOf_58 : decode b_Ca_dayOf 58 = .ok (.goto (-28), 3) := by decide +kernel
theorem d_Ca_dayOf_61 : decode b_Ca_dayOf 61 = .ok (.iload 4, 2) := by decide +kernel
theorem d_Ca_dayOf_63 : decode b_Ca_dayOf 63 = .ok (.ireturn, 1) := by decide +kernel
def F_Ca_dayOf_30_B (rec30 : Nat → Int32 → Int32 → Int32 → Int32 → Option (Int32)) (w : AW) (a0 : Nat) (x1 : Int32) (x2 : Int32) (x4 : Int32) (x5 : Int32) : Option (Int32) :=
  if (12 : Int32) ≤ x5 then
    some x4
  else
    if x2 ≤ x5 then
      some x4
    else
      gd (wk w a0 == 2) <|
      (F_Ca_monthLength w a0 x1 x5).bind fun r2 =>
      let v4 : Int32 := (x4 + r2)
      let v5 : Int32 := (x5 + (1 : Int32))
      rec30 a0 x1 x2 v4 v5
theorem P_Ca_dayOf_30_B {X : AX} {l : Launch} {G : AG} {w : AW} {rec30 : Nat → Int32 → Int32 → Int32 → Int32 → Option (Int32)} (hX : XOK X b_Ca_dayOf "RedSky$Calendar" 6) (hM : XM X l G { frames := 2, cells := 0, slots := 0, locals := 44 }) {o : Int32} (hR : XR X (some .int) 0 0 (some (vi o)) w) (hrec30 : ∀ (a0 : Nat) (x1 : Int32) (x2 : Int32) (x4 : Int32) (x5 : Int32), rec30 a0 x1 x2 x4 x5 = some o → RJ X 6 0 0 30 [(0, vr a0), (1, vi x1), (2, vi x2), (4, vi x4), (5, vi x5)] [] w) (a0 : Nat) (x1 : Int32) (x2 : Int32) (x4 : Int32) (x5 : Int32) (h : F_Ca_dayOf_30_B rec30 w a0 x1 x2 x4 x5 = some o) : RJ X 6 0 0 30 [(0, vr a0), (1, vi x1), (2, vi x2), (4, vi x4), (5, vi x5)] [] w := by
  unfold F_Ca_dayOf_30_B at h
  refine r_iload (i := 5) hX d_Ca_dayOf_30 4  rfl ?_
  refine r_bipush (v := (12 : Int32)) hX d_Ca_dayOf_32 rfl ?_
  refine r_icmp_ge hX d_Ca_dayOf_34 rfl h (fun h => ?_) (fun h => ?_)
  · refine r_iload (i := 4) hX d_Ca_dayOf_61 3  rfl ?_
    cases h; exact r_iret hX hR d_Ca_dayOf_63
  · refine r_iload (i := 5) hX d_Ca_dayOf_37 4  rfl ?_
    refine r_iload_n (i := 2) hX d_Ca_dayOf_39 2 rfl rfl ?_
    refine r_icmp_ge hX d_Ca_dayOf_40 rfl h (fun h => ?_) (fun h => ?_)
    · refine r_iload (i := 4) hX d_Ca_dayOf_61 3  rfl ?_
      cases h; exact r_iret hX hR d_Ca_dayOf_63
    · refine r_iload (i := 4) hX d_Ca_dayOf_43 3  rfl ?_
      refine r_aload_n (i := 0) hX d_Ca_dayOf_45 0 rfl rfl ?_
      refine r_iload_n (i := 1) hX d_Ca_dayOf_46 1 rfl rfl ?_
      refine r_iload (i := 5) hX d_Ca_dayOf_47 4  rfl ?_
      obtain ⟨hk1, h⟩ := gd_e h
      obtain ⟨r2, hr3, h⟩ := bd_e h
      refine r_callV1 (As := [_, _]) hX hM mw_Ca_45 (T_Ca_monthLength _ _ _ _ hr3) (rc_of ci_1 hk1) rfl rfl ⟨Nat.le_refl _, Nat.le_refl _⟩ rfl rfl d_Ca_dayOf_49 ?_
      refine r_iadd hX d_Ca_dayOf_52 ?_
      refine r_istore (i := 4) hX d_Ca_dayOf_53  (by decide) ?_
      refine r_iinc (i := 5) (v := (1 : Int32)) hX d_Ca_dayOf_55 4 rfl rfl (by decide) ?_
      refine r_goto hX d_Ca_dayOf_58 rfl ?_
      exact rj_sub [2, 3, 4, 1, 0] rfl (hrec30 _ _ _ _ _ h)
def F_Ca_dayOf_30 (w : AW) : Nat → Nat → Int32 → Int32 → Int32 → Int32 → Option (Int32)
  | 0 => fun _ _ _ _ _ => none
  | n + 1 => fun a0 x1 x2 x4 x5 => F_Ca_dayOf_30_B (F_Ca_dayOf_30 w n) w a0 x1 x2 x4 x5
theorem P_Ca_dayOf_30 {X : AX} {l : Launch} {G : AG} {w : AW} (hX : XOK X b_Ca_dayOf "RedSky$Calendar" 6) (hM : XM X l G { frames := 2, cells := 0, slots := 0, locals := 44 }) {o : Int32} (hR : XR X (some .int) 0 0 (some (vi o)) w) (fu : Nat) : ∀ (a0 : Nat) (x1 : Int32) (x2 : Int32) (x4 : Int32) (x5 : Int32), F_Ca_dayOf_30 w fu a0 x1 x2 x4 x5 = some o → RJ X 6 0 0 30 [(0, vr a0), (1, vi x1), (2, vi x2), (4, vi x4), (5, vi x5)] [] w := by
  induction fu with
  | zero => intro a0 x1 x2 x4 x5 h; cases h
  | succ n9 ih => intro a0 x1 x2 x4 x5 h; exact P_Ca_dayOf_30_B hX hM hR ih _ _ _ _ _ h
def F_Ca_dayOf (w : AW) (a0 : Nat) (x1 : Int32) (x2 : Int32) (x3 : Int32) : Option (Int32) :=
  gd (wk w a0 == 2) <|
  (F_Ca_monthLength w a0 x1 x2).bind fun r2 =>
  if (F_A_within x3 (1 : Int32) r2) = 0 then
    some (-1 : Int32)
  else
    (F_Ca_startOf w a0 x1).bind fun r4 =>
    let v6 : Int32 := ((r4 + x3) - (1 : Int32))
    F_Ca_dayOf_30 w FUEL a0 x1 x2 v6 (1 : Int32)
theorem P_Ca_dayOf_0 {X : AX} {l : Launch} {G : AG} {w : AW} (hX : XOK X b_Ca_dayOf "RedSky$Calendar" 6) (hM : XM X l G { frames := 2, cells := 0, slots := 0, locals := 44 }) {o : Int32} (hR : XR X (some .int) 0 0 (some (vi o)) w) (a0 : Nat) (x1 : Int32) (x2 : Int32) (x3 : Int32) (h : F_Ca_dayOf w a0 x1 x2 x3 = some o) : RJ X 6 0 0 0 [(0, vr a0), (1, vi x1), (2, vi x2), (3, vi x3)] [] w := by
  unfold F_Ca_dayOf at h
  refine r_iload_n (i := 3) hX d_Ca_dayOf_0 3 rfl rfl ?_
  refine r_iconst (v := (1 : Int32)) hX d_Ca_dayOf_1 rfl ?_
  refine r_aload_n (i := 0) hX d_Ca_dayOf_2 0 rfl rfl ?_
  refine r_iload_n (i := 1) hX d_Ca_dayOf_3 1 rfl rfl ?_
  refine r_iload_n (i := 2) hX d_Ca_dayOf_4 2 rfl rfl ?_
  obtain ⟨hk1, h⟩ := gd_e h
  obtain ⟨r2, hr3, h⟩ := bd_e h
  refine r_callV1 (As := [_, _]) hX hM mw_Ca_45 (T_Ca_monthLength _ _ _ _ hr3) (rc_of ci_1 hk1) rfl rfl ⟨Nat.le_refl _, Nat.le_refl _⟩ rfl rfl d_Ca_dayOf_5 ?_
  refine r_callSN1 (As := [_, _, _]) hX hM mw_Ca_49 (T_A_within _ _ _ _) rfl rfl ⟨Nat.le_refl _, Nat.le_refl _⟩ rfl rfl d_Ca_dayOf_8 ?_
  refine r_if_ne hX d_Ca_dayOf_11 rfl h (fun h => ?_) (fun h => ?_)
  · refine r_aload_n (i := 0) hX d_Ca_dayOf_16 0 rfl rfl ?_
    refine r_iload_n (i := 1) hX d_Ca_dayOf_17 1 rfl rfl ?_
    obtain ⟨r4, hr5, h⟩ := bd_e h
    refine r_callV1 (As := [_]) hX hM mw_Ca_38 (T_Ca_startOf _ _ _ hr5) (rc_of ci_1 hk1) rfl rfl ⟨Nat.le_refl _, Nat.le_refl _⟩ rfl rfl d_Ca_dayOf_18 ?_
    refine r_iload_n (i := 3) hX d_Ca_dayOf_21 3 rfl rfl ?_
    refine r_iadd hX d_Ca_dayOf_22 ?_
    refine r_iconst (v := (1 : Int32)) hX d_Ca_dayOf_23 rfl ?_
    refine r_isub hX d_Ca_dayOf_24 ?_
    refine r_istore (i := 4) hX d_Ca_dayOf_25  (by decide) ?_
    refine r_iconst (v := (1 : Int32)) hX d_Ca_dayOf_27 rfl ?_
    refine r_istore (i := 5) hX d_Ca_dayOf_28  (by decide) ?_
    exact rj_sub [2, 3, 4, 1, 0] rfl (P_Ca_dayOf_30 hX hM hR FUEL _ _ _ _ _ h)
  · refine r_iconst (v := (-1 : Int32)) hX d_Ca_dayOf_14 rfl ?_
    cases h; exact r_iret hX hR d_Ca_dayOf_15
theorem T_Ca_dayOf {l : Launch} {G : AG} (w : AW) (a0 : Nat) (x1 : Int32) (x2 : Int32) (x3 : Int32) {o : Int32} (h : F_Ca_dayOf w a0 x1 x2 x3 = some o) : Mt l G y_Ca_dayOf b_Ca_dayOf 6 (some (.int)) 2 44 0 0 [vr a0, vi x1, vi x2, vi x3] w (some (vi o)) w := mt_of (by decide) (Nat.le_of_ble_eq_true rfl) (fun X hX hR hM hI => P_Ca_dayOf_0 hX hM hR _ _ _ _ h)
/-! RedSky.day(III)I -/
theorem d_A_day_0 : decode b_A_day 0 = .ok (.iload_n 1, 1) := by decide +kernel
theorem d_A_day_1 : decode b_A_day 1 = .ok (.invokestatic 97, 3) := by decide +kernel
theorem d_A_day_4 : decode b_A_day 4 = .ok (.ifCond .eq (17), 3) := by decide +kernel
theorem d_A_day_7 : decode b_A_day 7 = .ok (.iload_n 2, 1) := by decide +kernel
theorem d_A_day_8 : decode b_A_day 8 = .ok (.invokestatic 101, 3) := by decide +kernel
theorem d_A_day_11 : decode b_A_day 11 = .ok (.ifCond .eq (10), 3) := by decide +kernel
theorem d_A_day_14 : decode b_A_day 14 = .ok (.iload_n 3, 1) := by decide +kernel
theorem d_A_day_15 : decode b_A_day 15 = .ok (.invokestatic 104, 3) := by decide +kernel
theorem d_A_day_18 : decode b_A_day 18 = .ok (.ifCond .ne (6), 3) := by decide +kernel
theorem d_A_day_21 : decode b_A_day 21 = .ok (.bipush (-102), 2) := by decide +kernel
theorem d_A_day_23 : decode b_A_day 23 = .ok (.ireturn, 1) := by decide +kernel
theorem d_A_day_24 : decode b_A_day 24 = .ok (.aload_n 0, 1) := by decide +kernel
theorem d_A_day_25 : decode b_A_day 25 = .ok (.getfield 10, 3) := by decide +kernel
theorem d_A_day_28 : decode b_A_day 28 = .ok (.iload_n 1, 1) := by decide +kernel
theorem d_A_day_29 : decode b_A_day 29 = .ok (.iload_n 2, 1) := by decide +kernel
theorem d_A_day_30 : decode b_A_day 30 = .ok (.iload_n 3, 1) := by decide +kernel
theorem d_A_day_31 : decode b_A_day 31 = .ok (.invokevirtual 107, 3) := by decide +kernel
theorem d_A_day_34 : decode b_A_day 34 = .ok (.ireturn, 1) := by decide +kernel
def F_A_day (w : AW) (a0 : Nat) (x1 : Int32) (x2 : Int32) (x3 : Int32) : Option (Int32) :=
  if (F_A_isYear x1) = 0 then
    some (-102 : Int32)
  else
    if (F_A_isMonth x2) = 0 then
      some (-102 : Int32)
    else
      if (F_A_isDate x3) = 0 then
        some (-102 : Int32)
      else
        gd (wk w a0 == 1) <|
        gd (wk w (wr w a0 0) == 2) <|
        (F_Ca_dayOf w (wr w a0 0) x1 x2 x3).bind fun r3 =>
        some r3
theorem P_A_day_0 {X : AX} {l : Launch} {G : AG} {w : AW} (hX : XOK X b_A_day "RedSky" 4) (hM : XM X l G { frames := 3, cells := 0, slots := 0, locals := 69 }) {o : Int32} (hR : XR X (some .int) 0 0 (some (vi o)) w) (a0 : Nat) (x1 : Int32) (x2 : Int32) (x3 : Int32) (h : F_A_day w a0 x1 x2 x3 = some o) : RJ X 4 0 0 0 [(0, vr a0), (1, vi x1), (2, vi x2), (3, vi x3)] [] w := by
  unfold F_A_day at h
  refine r_iload_n (i := 1) hX d_A_day_0 1 rfl rfl ?_
  refine r_callS1 (As := [_]) hX hM mw_A_97 (T_A_isYear _ _) rfl rfl ⟨Nat.le_refl _, Nat.le_refl _⟩ rfl rfl d_A_day_1 ?_
  refine r_if_eq hX d_A_day_4 rfl h (fun h => ?_) (fun h => ?_)
  · refine r_bipush (v := (-102 : Int32)) hX d_A_day_21 rfl ?_
    cases h; exact r_iret hX hR d_A_day_23
  · refine r_iload_n (i := 2) hX d_A_day_7 2 rfl rfl ?_
    refine r_callS1 (As := [_]) hX hM mw_A_101 (T_A_isMonth _ _) rfl rfl ⟨Nat.le_refl _, Nat.le_refl _⟩ rfl rfl d_A_day_8 ?_
    refine r_if_eq hX d_A_day_11 rfl h (fun h => ?_) (fun h => ?_)
    · refine r_bipush (v := (-102 : Int32)) hX d_A_day_21 rfl ?_
      cases h; exact r_iret hX hR d_A_day_23
    · refine r_iload_n (i := 3) hX d_A_day_14 3 rfl rfl ?_
      refine r_callS1 (As := [_]) hX hM mw_A_104 (T_A_isDate _ _) rfl rfl ⟨Nat.le_refl _, Nat.le_refl _⟩ rfl rfl d_A_day_15 ?_
      refine r_if_ne hX d_A_day_18 rfl h (fun h => ?_) (fun h => ?_)
      · refine r_aload_n (i := 0) hX d_A_day_24 0 rfl rfl ?_
        obtain ⟨hk1, h⟩ := gd_e h
        refine r_getR (i := 0) (f := 0) hX ci_0 (by decide) rfl fl_A_10 hk1 d_A_day_25 ?_
        refine r_iload_n (i := 1) hX d_A_day_28 1 rfl rfl ?_
        refine r_iload_n (i := 2) hX d_A_day_29 2 rfl rfl ?_
        refine r_iload_n (i := 3) hX d_A_day_30 3 rfl rfl ?_
        obtain ⟨hk2, h⟩ := gd_e h
        obtain ⟨r3, hr4, h⟩ := bd_e h
        refine r_callV1 (As := [_, _, _]) hX hM mw_A_107 (T_Ca_dayOf _ _ _ _ _ hr4) (rc_of ci_1 hk2) rfl rfl ⟨Nat.le_refl _, Nat.le_refl _⟩ rfl rfl d_A_day_31 ?_
        cases h; exact r_iret hX hR d_A_day_34
      · refine r_bipush (v := (-102 : Int32)) hX d_A_day_21 rfl ?_
        cases h; exact r_iret hX hR d_A_day_23
theorem T_A_day {l : Launch} {G : AG} (w : AW) (a0 : Nat) (x1 : Int32) (x2 : Int32) (x3 : Int32) {o : Int32} (h : F_A_day w a0 x1 x2 x3 = some o) : Mt l G y_A_day b_A_day 4 (some (.int)) 3 69 0 0 [vr a0, vi x1, vi x2, vi x3] w (some (vi o)) w := mt_of (by decide) (Nat.le_of_ble_eq_true rfl) (fun X hX hR hM hI => P_A_day_0 hX hM hR _ _ _ _ h)
/-! RedSkyModel.isLong(I)Z -/
theorem d_M_isLong_0 : decode b_M_isLong 0 = .ok (.aload_n 0, 1) := by decide +kernel
theorem d_M_isLong_1 : decode b_M_isLong 1 = .ok (.getfield 95, 3) := by decide +kernel
theorem d_M_isLong_4 : decode b_M_isLong 4 = .ok (.iload_n 1, 1) := by decide +kernel
theorem d_M_isLong_5 : decode b_M_isLong 5 = .ok (.iadd, 1) := by decide +kernel
theorem d_M_isLong_6 : decode b_M_isLong 6 = .ok (.iconst 4, 1) := by decide +kernel
theorem d_M_isLong_7 : decode b_M_isLong 7 = .ok (.irem, 1) := by decide +kernel
theorem d_M_isLong_8 : decode b_M_isLong 8 = .ok (.ifCond .ne (7), 3) := by decide +kernel
theorem d_M_isLong_11 : decode b_M_isLong 11 = .ok (.iconst 1, 1) := by decide +kernel
theorem d_M_isLong_12 : decode b_M_isLong 12 = .ok (.goto (4), 3) := by decide +kernel
theorem d_M_isLong_15 : decode b_M_isLong 15 = .ok (.iconst 0, 1) := by decide +kernel
theorem d_M_isLong_16 : decode b_M_isLong 16 = .ok (.ireturn, 1) := by decide +kernel
def F_M_isLong (w : AW) (a0 : Nat) (x1 : Int32) : Option (Int32) :=
  gd (wk w a0 == 13) <|
  if (irem ((wi w a0 0) + x1) (4 : Int32)) = 0 then
    some (1 : Int32)
  else
    some (0 : Int32)
theorem P_M_isLong_0 {X : AX} {l : Launch} {G : AG} {w : AW} (hX : XOK X b_M_isLong "RedSkyModel" 2) (hM : XM X l G { frames := 0, cells := 0, slots := 0, locals := 0 }) {o : Int32} (hR : XR X (some .boolean) 0 0 (some (vi o)) w) (a0 : Nat) (x1 : Int32) (h : F_M_isLong w a0 x1 = some o) : RJ X 2 0 0 0 [(0, vr a0), (1, vi x1)] [] w := by
  unfold F_M_isLong at h
  refine r_aload_n (i := 0) hX d_M_isLong_0 0 rfl rfl ?_
  obtain ⟨hk1, h⟩ := gd_e h
  refine r_getI (i := 12) (f := 0) hX ci_12 (by decide) rfl fl_M_95 hk1 d_M_isLong_1 ?_
  refine r_iload_n (i := 1) hX d_M_isLong_4 1 rfl rfl ?_
  refine r_iadd hX d_M_isLong_5 ?_
  refine r_iconst (v := (4 : Int32)) hX d_M_isLong_6 rfl ?_
  refine r_irem hX d_M_isLong_7 (by decide) ?_
  refine r_if_ne hX d_M_isLong_8 rfl h (fun h => ?_) (fun h => ?_)
  · refine r_iconst (v := (0 : Int32)) hX d_M_isLong_15 rfl ?_
    cases h; exact r_zret hX hR rfl d_M_isLong_16
  · refine r_iconst (v := (1 : Int32)) hX d_M_isLong_11 rfl ?_
    refine r_goto hX d_M_isLong_12 rfl ?_
    cases h; exact r_zret hX hR rfl d_M_isLong_16
theorem T_M_isLong {l : Launch} {G : AG} (w : AW) (a0 : Nat) (x1 : Int32) {o : Int32} (h : F_M_isLong w a0 x1 = some o) : Mt l G y_M_isLong b_M_isLong 2 (some (.boolean)) 0 0 0 0 [vr a0, vi x1] w (some (vi o)) w := mt_of (by decide) (Nat.le_of_ble_eq_true rfl) (fun X hX hR hM hI => P_M_isLong_0 hX hM hR _ _ h)
/-! RedSkyModel.length(II)I -/
theorem d_M_length_0 : decode b_M_length 0 = .ok (.iload_n 2, 1) := by decide +kernel
theorem d_M_length_1 : decode b_M_length 1 = .ok (.iconst 2, 1) := by decide +kernel
theorem d_M_length_2 : decode b_M_length 2 = .ok (.if_icmp .ne (19), 3) := by decide +kernel
theorem d_M_length_5 : decode b_M_length 5 = .ok (.aload_n 0, 1) := by decide +kernel
theorem d_M_length_6 : decode b_M_length 6 = .ok (.iload_n 1, 1) := by decide +kernel
theorem d_M_length_7 : decode b_M_length 7 = .ok (.invokevirtual 102, 3) := by decide +kernel
theorem d_M_length_10 : decode b_M_length 10 = .ok (.ifCond .eq (8), 3) := by decide +kernel
theorem d_M_length_13 : decode b_M_length 13 = .ok (.bipush (29), 2) := by decide +kernel
theorem d_M_length_15 : decode b_M_length 15 = .ok (.goto (5), 3) := by decide +kernel
theorem d_M_length_18 : decode b_M_length 18 = .ok (.bipush (28), 2) := by decide +kernel
theorem d_M_length_20 : decode b_M_length 20 = .ok (.ireturn, 1) := by decide +kernel
theorem d_M_length_21 : decode b_M_length 21 = .ok (.iload_n 2, 1) := by decide +kernel
theorem d_M_length_22 : decode b_M_length 22 = .ok (.iconst 4, 1) := by decide +kernel
theorem d_M_length_23 : decode b_M_length 23 = .ok (.if_icmp .eq (21), 3) := by decide +kernel
theorem d_M_length_26 : decode b_M_length 26 = .ok (.iload_n 2, 1) := by decide +kernel
theorem d_M_length_27 : decode b_M_length 27 = .ok (.bipush (6), 2) := by decide +kernel
theorem d_M_length_29 : decode b_M_length 29 = .ok (.if_icmp .eq (15), 3) := by decide +kernel
theorem d_M_length_32 : decode b_M_length 32 = .ok (.iload_n 2, 1) := by decide +kernel
theorem d_M_length_33 : decode b_M_length 33 = .ok (.bipush (9), 2) := by decide +kernel
theorem d_M_length_35 : decode b_M_length 35 = .ok (.if_icmp .eq (9), 3) := by decide +kernel
theorem d_M_length_38 : decode b_M_length 38 = .ok (.iload_n 2, 1) := by decide +kernel
theorem d_M_length_39 : decode b_M_length 39 = .ok (.bipush (11), 2) := by decide +kernel
theorem d_M_length_41 : decode b_M_length 41 = .ok (.if_icmp .ne (8), 3) := by decide +kernel
theorem d_M_length_44 : decode b_M_length 44 = .ok (.bipush (30), 2) := by decide +kernel
theorem d_M_length_46 : decode b_M_length 46 = .ok (.goto (5), 3) := by decide +kernel
theorem d_M_length_49 : decode b_M_length 49 = .ok (.bipush (31), 2) := by decide +kernel
theorem d_M_length_51 : decode b_M_length 51 = .ok (.ireturn, 1) := by decide +kernel
def F_M_length (w : AW) (a0 : Nat) (x1 : Int32) (x2 : Int32) : Option (Int32) :=
  if x2 = (2 : Int32) then
    gd (wk w a0 == 13) <|
    (F_M_isLong w a0 x1).bind fun r2 =>
    if r2 = 0 then
      some (28 : Int32)
    else
      some (29 : Int32)
  else
    if x2 = (4 : Int32) then
      some (30 : Int32)
    else
      if x2 = (6 : Int32) then
        some (30 : Int32)
      else
        if x2 = (9 : Int32) then
          some (30 : Int32)
        else
          if x2 = (11 : Int32) then
            some (30 : Int32)
          else
            some (31 : Int32)
theorem P_M_length_0 {X : AX} {l : Launch} {G : AG} {w : AW} (hX : XOK X b_M_length "RedSkyModel" 3) (hM : XM X l G { frames := 1, cells := 0, slots := 0, locals := 21 }) {o : Int32} (hR : XR X (some .int) 0 0 (some (vi o)) w) (a0 : Nat) (x1 : Int32) (x2 : Int32) (h : F_M_length w a0 x1 x2 = some o) : RJ X 3 0 0 0 [(0, vr a0), (1, vi x1), (2, vi x2)] [] w := by
  unfold F_M_length at h
  refine r_iload_n (i := 2) hX d_M_length_0 2 rfl rfl ?_
  refine r_iconst (v := (2 : Int32)) hX d_M_length_1 rfl ?_
  refine r_icmp_ne hX d_M_length_2 rfl h (fun h => ?_) (fun h => ?_)
  · refine r_iload_n (i := 2) hX d_M_length_21 2 rfl rfl ?_
    refine r_iconst (v := (4 : Int32)) hX d_M_length_22 rfl ?_
    refine r_icmp_eq hX d_M_length_23 rfl h (fun h => ?_) (fun h => ?_)
    · refine r_bipush (v := (30 : Int32)) hX d_M_length_44 rfl ?_
      refine r_goto hX d_M_length_46 rfl ?_
      cases h; exact r_iret hX hR d_M_length_51
    · refine r_iload_n (i := 2) hX d_M_length_26 2 rfl rfl ?_
      refine r_bipush (v := (6 : Int32)) hX d_M_length_27 rfl ?_
      refine r_icmp_eq hX d_M_length_29 rfl h (fun h => ?_) (fun h => ?_)
      · refine r_bipush (v := (30 : Int32)) hX d_M_length_44 rfl ?_
        refine r_goto hX d_M_length_46 rfl ?_
        cases h; exact r_iret hX hR d_M_length_51
      · refine r_iload_n (i := 2) hX d_M_length_32 2 rfl rfl ?_
        refine r_bipush (v := (9 : Int32)) hX d_M_length_33 rfl ?_
        refine r_icmp_eq hX d_M_length_35 rfl h (fun h => ?_) (fun h => ?_)
        · refine r_bipush (v := (30 : Int32)) hX d_M_length_44 rfl ?_
          refine r_goto hX d_M_length_46 rfl ?_
          cases h; exact r_iret hX hR d_M_length_51
        · refine r_iload_n (i := 2) hX d_M_length_38 2 rfl rfl ?_
          refine r_bipush (v := (11 : Int32)) hX d_M_length_39 rfl ?_
          refine r_icmp_ne hX d_M_length_41 rfl h (fun h => ?_) (fun h => ?_)
          · refine r_bipush (v := (31 : Int32)) hX d_M_length_49 rfl ?_
            cases h; exact r_iret hX hR d_M_length_51
          · refine r_bipush (v := (30 : Int32)) hX d_M_length_44 rfl ?_
            refine r_goto hX d_M_length_46 rfl ?_
            cases h; exact r_iret hX hR d_M_length_51
  · refine r_aload_n (i := 0) hX d_M_length_5 0 rfl rfl ?_
    refine r_iload_n (i := 1) hX d_M_length_6 1 rfl rfl ?_
    obtain ⟨hk1, h⟩ := gd_e h
    obtain ⟨r2, hr3, h⟩ := bd_e h
    refine r_callV1 (As := [_]) hX hM mw_M_102 (T_M_isLong _ _ _ hr3) (rc_of ci_12 hk1) rfl rfl ⟨Nat.le_refl _, Nat.le_refl _⟩ rfl rfl d_M_length_7 ?_
    refine r_if_eq hX d_M_length_10 rfl h (fun h => ?_) (fun h => ?_)
    · refine r_bipush (v := (28 : Int32)) hX d_M_length_18 rfl ?_
      cases h; exact r_iret hX hR d_M_length_20
    · refine r_bipush (v := (29 : Int32)) hX d_M_length_13 rfl ?_
      refine r_goto hX d_M_length_15 rfl ?_
      cases h; exact r_iret hX hR d_M_length_20
theorem T_M_length {l : Launch} {G : AG} (w : AW) (a0 : Nat) (x1 : Int32) (x2 : Int32) {o : Int32} (h : F_M_length w a0 x1 x2 = some o) : Mt l G y_M_length b_M_length 3 (some (.int)) 1 21 0 0 [vr a0, vi x1, vi x2] w (some (vi o)) w := mt_of (by decide) (Nat.le_of_ble_eq_true rfl) (fun X hX hR hM hI => P_M_length_0 hX hM hR _ _ _ h)
/-! RedSkyModel.begin(II)I -/
theorem d_M_begin_0 : decode b_M_begin 0 = .ok (.iconst 0, 1) := by decide +kernel
theorem d_M_begin_1 : decode b_M_begin 1 = .ok (.istore_n 3, 1) := by decide +kernel
theorem d_M_begin_2 : decode b_M_begin 2 = .ok (.iconst 0, 1) := by decide +kernel
theorem d_M_begin_3 : decode b_M_begin 3 = .ok (.istore 4, 2) := by decide +kernel
theorem d_M_begin_5 : decode b_M_begin 5 = .ok (.iload 4, 2) := by decide +kernel
theorem d_M_begin_7 : decode b_M_begin 7 = .ok (.iload_n 1, 1) := by decide +kernel
theorem d_M_begin_8 : decode b_M_begin 8 = .ok (.if_icmp .ge (30), 3) := by decide +kernel
theorem d_M_begin_11 : decode b_M_begin 11 = .ok (.iload_n 3, 1) := by decide +kernel
theorem d_M_begin_12 : decode b_M_begin 12 = .ok (.aload_n 0, 1) := by decide +kernel
theorem d_M_begin_13 : decode b_M_begin 13 = .ok (.iload 4, 2) := by decide +kernel
theorem d_M_begin_15 : decode b_M_begin 15 = .ok (.invokevirtual 102, 3) := by decide +kernel
theorem d_M_begin_18 : decode b_M_begin 18 = .ok (.ifCond .eq (9), 3) := by decide +kernel
theorem d_M_begin_21 : decode b_M_begin 21 = .ok (.sipush (366), 3) := by decide +kernel
theorem d_M_begin_24 : decode b_M_begin 24 = .ok (.goto (6), 3) := by decide +kernel
theorem d_M_begin_27 : decode b_M_begin 27 = .ok (.sipush (365), 3) := by decide +kernel
theorem d_M_begin_30 : decode b_M_begin 30 = .ok (.iadd, 1) := by decide +kernel
theorem d_M_begin_31 : decode b_M_begin 31 = .ok (.istore_n 3, 1) := by decide +kernel
theorem d_M_begin_32 : decode b_M_begin 32 = .ok (.iinc 4 (1), 3) := by decide +kernel
theorem d_M_begin_35 : decode b_M_begin 35 = .ok (.goto (-30), 3) := by decide +kernel
theorem d_M_begin_38 : decode b_M_begin 38 = .ok (.iconst 1, 1) := by decide +kernel
theorem d_M_begin_39 : decode b_M_begin 39 = .ok (.istore 4, 2) := by decide +kernel
theorem d_M_begin_41 : decode b_M_begin 41 = .ok (.iload 4, 2) := by decide +kernel
theorem d_M_begin_43 : decode b_M_begin 43 = .ok (.iload_n 2, 1) := by decide +kernel
theorem d_M_begin_44 : decode b_M_begin 44 = .ok (.if_icmp .ge (19), 3) := by decide +kernel
theorem d_M_begin_47 : decode b_M_begin 47 = .ok (.iload_n 3, 1) := by decide +kernel
theorem d_M_begin_48 : decode b_M_begin 48 = .ok (.aload_n 0, 1) := by decide +kernel
theorem d_M_begin_49 : decode b_M_begin 49 = .ok (.iload_n 1, 1) := by decide +kernel
theorem d_M_begin_50 : decode b_M_begin 50 = .ok (.iload 4, 2) := by decide +kernel
theorem d_M_begin_52 : decode b_M_begin 52 = .ok (.invokevirtual 106, 3) := by decide +kernel
theorem d_M_begin_55 : decode b_M_begin 55 = .ok (.iadd, 1) := by decide +kernel
theorem d_M_begin_56 : decode b_M_begin 56 = .ok (.istore_n 3, 1) := by decide +kernel
theorem d_M_begin_57 : decode b_M_begin 57 = .ok (.iinc 4 (1), 3) := by decide +kernel
theorem d_M_begin_60 : decode b_M_begin 60 = .ok (.goto (-19), 3) := by decide +kernel
theorem d_M_begin_63 : decode b_M_begin 63 = .ok (.iload_n 3, 1) := by decide +kernel
theorem d_M_begin_64 : decode b_M_begin 64 = .ok (.ireturn, 1) := by decide +kernel
def F_M_begin_41_B (rec41 : Nat → Int32 → Int32 → Int32 → Int32 → Option (Int32)) (w : AW) (a0 : Nat) (x1 : Int32) (x2 : Int32) (x3 : Int32) (x4 : Int32) : Option (Int32) :=
  if x2 ≤ x4 then
    some x3
  else
    gd (wk w a0 == 13) <|
    (F_M_length w a0 x1 x4).bind fun r2 =>
    let v4 : Int32 := (x3 + r2)
    let v5 : Int32 := (x4 + (1 : Int32))
    rec41 a0 x1 x2 v4 v5
theorem P_M_begin_41_B {X : AX} {l : Launch} {G : AG} {w : AW} {rec41 : Nat → Int32 → Int32 → Int32 → Int32 → Option (Int32)} (hX : XOK X b_M_begin "RedSkyModel" 5) (hM : XM X l G { frames := 2, cells := 0, slots := 0, locals := 43 }) {o : Int32} (hR : XR X (some .int) 0 0 (some (vi o)) w) (hrec41 : ∀ (a0 : Nat) (x1 : Int32) (x2 : Int32) (x3 : Int32) (x4 : Int32), rec41 a0 x1 x2 x3 x4 = some o → RJ X 5 0 0 41 [(0, vr a0), (1, vi x1), (2, vi x2), (3, vi x3), (4, vi x4)] [] w) (a0 : Nat) (x1 : Int32) (x2 : Int32) (x3 : Int32) (x4 : Int32) (h : F_M_begin_41_B rec41 w a0 x1 x2 x3 x4 = some o) : RJ X 5 0 0 41 [(0, vr a0), (1, vi x1), (2, vi x2), (3, vi x3), (4, vi x4)] [] w := by
  unfold F_M_begin_41_B at h
  refine r_iload (i := 4) hX d_M_begin_41 4  rfl ?_
  refine r_iload_n (i := 2) hX d_M_begin_43 2 rfl rfl ?_
  refine r_icmp_ge hX d_M_begin_44 rfl h (fun h => ?_) (fun h => ?_)
  · refine r_iload_n (i := 3) hX d_M_begin_63 3 rfl rfl ?_
    cases h; exact r_iret hX hR d_M_begin_64
  · refine r_iload_n (i := 3) hX d_M_begin_47 3 rfl rfl ?_
    refine r_aload_n (i := 0) hX d_M_begin_48 0 rfl rfl ?_
    refine r_iload_n (i := 1) hX d_M_begin_49 1 rfl rfl ?_
    refine r_iload (i := 4) hX d_M_begin_50 4  rfl ?_
    obtain ⟨hk1, h⟩ := gd_e h
    obtain ⟨r2, hr3, h⟩ := bd_e h
    refine r_callV1 (As := [_, _]) hX hM mw_M_106 (T_M_length _ _ _ _ hr3) (rc_of ci_12 hk1) rfl rfl ⟨Nat.le_refl _, Nat.le_refl _⟩ rfl rfl d_M_begin_52 ?_
    refine r_iadd hX d_M_begin_55 ?_
    refine r_istore_n (i := 3) hX d_M_begin_56 rfl (by decide) ?_
    refine r_iinc (i := 4) (v := (1 : Int32)) hX d_M_begin_57 4 rfl rfl (by decide) ?_
    refine r_goto hX d_M_begin_60 rfl ?_
    exact rj_sub [2, 3, 4, 1, 0] rfl (hrec41 _ _ _ _ _ h)
def F_M_begin_41 (w : AW) : Nat → Nat → Int32 → Int32 → Int32 → Int32 → Option (Int32)
  | 0 => fun _ _ _ _ _ => none
  | n + 1 => fun a0 x1 x2 x3 x4 => F_M_begin_41_B (F_M_begin_41 w n) w a0 x1 x2 x3 x4
theorem P_M_begin_41 {X : AX} {l : Launch} {G : AG} {w : AW} (hX : XOK X b_M_begin "RedSkyModel" 5) (hM : XM X l G { frames := 2, cells := 0, slots := 0, locals := 43 }) {o : Int32} (hR : XR X (some .int) 0 0 (some (vi o)) w) (fu : Nat) : ∀ (a0 : Nat) (x1 : Int32) (x2 : Int32) (x3 : Int32) (x4 : Int32), F_M_begin_41 w fu a0 x1 x2 x3 x4 = some o → RJ X 5 0 0 41 [(0, vr a0), (1, vi x1), (2, vi x2), (3, vi x3), (4, vi x4)] [] w := by
  induction fu with
  | zero => intro a0 x1 x2 x3 x4 h; cases h
  | succ n9 ih => intro a0 x1 x2 x3 x4 h; exact P_M_begin_41_B hX hM hR ih _ _ _ _ _ h
def F_M_begin_5_B (rec5 : Nat → Int32 → Int32 → Int32 → Int32 → Option (Int32)) (w : AW) (a0 : Nat) (x1 : Int32) (x2 : Int32) (x3 : Int32) (x4 : Int32) : Option (Int32) :=
  if x1 ≤ x4 then
    F_M_begin_41 w FUEL a0 x1 x2 x3 (1 : Int32)
  else
    gd (wk w a0 == 13) <|
    (F_M_isLong w a0 x4).bind fun r2 =>
    if r2 = 0 then
      let v4 : Int32 := (x3 + (365 : Int32))
      let v5 : Int32 := (x4 + (1 : Int32))
      rec5 a0 x1 x2 v4 v5
    else
      let v6 : Int32 := (x3 + (366 : Int32))
      let v7 : Int32 := (x4 + (1 : Int32))
      rec5 a0 x1 x2 v6 v7
theorem P_M_begin_5_B {X : AX} {l : Launch} {G : AG} {w : AW} {rec5 : Nat → Int32 → Int32 → Int32 → Int32 → Option (Int32)} (hX : XOK X b_M_begin "RedSkyModel" 5) (hM : XM X l G { frames := 2, cells := 0, slots := 0, locals := 43 }) {o : Int32} (hR : XR X (some .int) 0 0 (some (vi o)) w) (hrec5 : ∀ (a0 : Nat) (x1 : Int32) (x2 : Int32) (x3 : Int32) (x4 : Int32), rec5 a0 x1 x2 x3 x4 = some o → RJ X 5 0 0 5 [(0, vr a0), (1, vi x1), (2, vi x2), (3, vi x3), (4, vi x4)] [] w) (a0 : Nat) (x1 : Int32) (x2 : Int32) (x3 : Int32) (x4 : Int32) (h : F_M_begin_5_B rec5 w a0 x1 x2 x3 x4 = some o) : RJ X 5 0 0 5 [(0, vr a0), (1, vi x1), (2, vi x2), (3, vi x3), (4, vi x4)] [] w := by
  unfold F_M_begin_5_B at h
  refine r_iload (i := 4) hX d_M_begin_5 4  rfl ?_
  refine r_iload_n (i := 1) hX d_M_begin_7 1 rfl rfl ?_
  refine r_icmp_ge hX d_M_begin_8 rfl h (fun h => ?_) (fun h => ?_)
  · refine r_iconst (v := (1 : Int32)) hX d_M_begin_38 rfl ?_
    refine r_istore (i := 4) hX d_M_begin_39  (by decide) ?_
    exact rj_sub [1, 2, 3, 4, 0] rfl (P_M_begin_41 hX hM hR FUEL _ _ _ _ _ h)
  · refine r_iload_n (i := 3) hX d_M_begin_11 3 rfl rfl ?_
    refine r_aload_n (i := 0) hX d_M_begin_12 0 rfl rfl ?_
    refine r_iload (i := 4) hX d_M_begin_13 4  rfl ?_
    obtain ⟨hk1, h⟩ := gd_e h
    obtain ⟨r2, hr3, h⟩ := bd_e h
    refine r_callV1 (As := [_]) hX hM mw_M_102 (T_M_isLong _ _ _ hr3) (rc_of ci_12 hk1) rfl rfl ⟨Nat.le_refl _, Nat.le_refl _⟩ rfl rfl d_M_begin_15 ?_
    refine r_if_eq hX d_M_begin_18 rfl h (fun h => ?_) (fun h => ?_)
    · refine r_sipush (v := (365 : Int32)) hX d_M_begin_27 rfl ?_
      refine r_iadd hX d_M_begin_30 ?_
      refine r_istore_n (i := 3) hX d_M_begin_31 rfl (by decide) ?_
      refine r_iinc (i := 4) (v := (1 : Int32)) hX d_M_begin_32 4 rfl rfl (by decide) ?_
      refine r_goto hX d_M_begin_35 rfl ?_
      exact rj_sub [2, 3, 4, 1, 0] rfl (hrec5 _ _ _ _ _ h)
    · refine r_sipush (v := (366 : Int32)) hX d_M_begin_21 rfl ?_
      refine r_goto hX d_M_begin_24 rfl ?_
      refine r_iadd hX d_M_begin_30 ?_
      refine r_istore_n (i := 3) hX d_M_begin_31 rfl (by decide) ?_
      refine r_iinc (i := 4) (v := (1 : Int32)) hX d_M_begin_32 4 rfl rfl (by decide) ?_
      refine r_goto hX d_M_begin_35 rfl ?_
      exact rj_sub [2, 3, 4, 1, 0] rfl (hrec5 _ _ _ _ _ h)
def F_M_begin_5 (w : AW) : Nat → Nat → Int32 → Int32 → Int32 → Int32 → Option (Int32)
  | 0 => fun _ _ _ _ _ => none
  | n + 1 => fun a0 x1 x2 x3 x4 => F_M_begin_5_B (F_M_begin_5 w n) w a0 x1 x2 x3 x4
theorem P_M_begin_5 {X : AX} {l : Launch} {G : AG} {w : AW} (hX : XOK X b_M_begin "RedSkyModel" 5) (hM : XM X l G { frames := 2, cells := 0, slots := 0, locals := 43 }) {o : Int32} (hR : XR X (some .int) 0 0 (some (vi o)) w) (fu : Nat) : ∀ (a0 : Nat) (x1 : Int32) (x2 : Int32) (x3 : Int32) (x4 : Int32), F_M_begin_5 w fu a0 x1 x2 x3 x4 = some o → RJ X 5 0 0 5 [(0, vr a0), (1, vi x1), (2, vi x2), (3, vi x3), (4, vi x4)] [] w := by
  induction fu with
  | zero => intro a0 x1 x2 x3 x4 h; cases h
  | succ n9 ih => intro a0 x1 x2 x3 x4 h; exact P_M_begin_5_B hX hM hR ih _ _ _ _ _ h
def F_M_begin (w : AW) (a0 : Nat) (x1 : Int32) (x2 : Int32) : Option (Int32) :=
  F_M_begin_5 w FUEL a0 x1 x2 (0 : Int32) (0 : Int32)
theorem P_M_begin_0 {X : AX} {l : Launch} {G : AG} {w : AW} (hX : XOK X b_M_begin "RedSkyModel" 5) (hM : XM X l G { frames := 2, cells := 0, slots := 0, locals := 43 }) {o : Int32} (hR : XR X (some .int) 0 0 (some (vi o)) w) (a0 : Nat) (x1 : Int32) (x2 : Int32) (h : F_M_begin w a0 x1 x2 = some o) : RJ X 5 0 0 0 [(0, vr a0), (1, vi x1), (2, vi x2)] [] w := by
  unfold F_M_begin at h
  refine r_iconst (v := (0 : Int32)) hX d_M_begin_0 rfl ?_
  refine r_istore_n (i := 3) hX d_M_begin_1 rfl (by decide) ?_
  refine r_iconst (v := (0 : Int32)) hX d_M_begin_2 rfl ?_
  refine r_istore (i := 4) hX d_M_begin_3  (by decide) ?_
  exact rj_sub [2, 3, 4, 1, 0] rfl (P_M_begin_5 hX hM hR FUEL _ _ _ _ _ h)
theorem T_M_begin {l : Launch} {G : AG} (w : AW) (a0 : Nat) (x1 : Int32) (x2 : Int32) {o : Int32} (h : F_M_begin w a0 x1 x2 = some o) : Mt l G y_M_begin b_M_begin 5 (some (.int)) 2 43 0 0 [vr a0, vi x1, vi x2] w (some (vi o)) w := mt_of (by decide) (Nat.le_of_ble_eq_true rfl) (fun X hX hR hM hI => P_M_begin_0 hX hM hR _ _ _ h)
/-! RedSkyModel.dayOf(III)I -/
theorem d_M_dayOf_0 : decode b_M_dayOf 0 = .ok (.iload_n 3, 1) := by decide +kernel
theorem d_M_dayOf_1 : decode b_M_dayOf 1 = .ok (.aload_n 0, 1) := by decide +kernel
theorem d_M_dayOf_2 : decode b_M_dayOf 2 = .ok (.iload_n 1, 1) := by decide +kernel
theorem d_M_dayOf_3 : decode b_M_dayOf 3 = .ok (.iload_n 2, 1) := by decide +kernel
theorem d_M_dayOf_4 : decode b_M_dayOf 4 = .ok (.invokevirtual 106, 3) := by decide +kernel
theorem d_M_dayOf_7 : decode b_M_dayOf 7 = .ok (.if_icmp .gt (16), 3) := by decide +kernel
theorem d_M_dayOf_10 : decode b_M_dayOf 10 = .ok (.aload_n 0, 1) := by decide +kernel
theorem d_M_dayOf_11 : decode b_M_dayOf 11 = .ok (.iload_n 1, 1) := by decide +kernel
theorem d_M_dayOf_12 : decode b_M_dayOf 12 = .ok (.iload_n 2, 1) := by decide +kernel
theorem d_M_dayOf_13 : decode b_M_dayOf 13 = .ok (.invokevirtual 110, 3) := by decide +kernel
theorem d_M_dayOf_16 : decode b_M_dayOf 16 = .ok (.iload_n 3, 1) := by decide +kernel
theorem d_M_dayOf_17 : decode b_M_dayOf 17 = .ok (.iadd, 1) := by decide +kernel
theorem d_M_dayOf_18 : decode b_M_dayOf 18 = .ok (.iconst 1, 1) := by decide +kernel
theorem d_M_dayOf_19 : decode b_M_dayOf 19 = .ok (.isub, 1) := by decide +kernel
theorem d_M_dayOf_20 : decode b_M_dayOf 20 = .ok (.goto (4), 3) := by decide +kernel
theorem d_M_dayOf_23 : decode b_M_dayOf 23 = .ok (.iconst (-1), 1) := by decide +kernel
theorem d_M_dayOf_24 : decode b_M_dayOf 24 = .ok (.ireturn, 1) := by decide +kernel
def F_M_dayOf (w : AW) (a0 : Nat) (x1 : Int32) (x2 : Int32) (x3 : Int32) : Option (Int32) :=
  gd (wk w a0 == 13) <|
  (F_M_length w a0 x1 x2).bind fun r2 =>
  if r2 < x3 then
    some (-1 : Int32)
  else
    (F_M_begin w a0 x1 x2).bind fun r4 =>
    some ((r4 + x3) - (1 : Int32))
theorem P_M_dayOf_0 {X : AX} {l : Launch} {G : AG} {w : AW} (hX : XOK X b_M_dayOf "RedSkyModel" 4) (hM : XM X l G { frames := 3, cells := 0, slots := 0, locals := 67 }) {o : Int32} (hR : XR X (some .int) 0 0 (some (vi o)) w) (a0 : Nat) (x1 : Int32) (x2 : Int32) (x3 : Int32) (h : F_M_dayOf w a0 x1 x2 x3 = some o) : RJ X 4 0 0 0 [(0, vr a0), (1, vi x1), (2, vi x2), (3, vi x3)] [] w := by
  unfold F_M_dayOf at h
  refine r_iload_n (i := 3) hX d_M_dayOf_0 3 rfl rfl ?_
  refine r_aload_n (i := 0) hX d_M_dayOf_1 0 rfl rfl ?_
  refine r_iload_n (i := 1) hX d_M_dayOf_2 1 rfl rfl ?_
  refine r_iload_n (i := 2) hX d_M_dayOf_3 2 rfl rfl ?_
  obtain ⟨hk1, h⟩ := gd_e h
  obtain ⟨r2, hr3, h⟩ := bd_e h
  refine r_callV1 (As := [_, _]) hX hM mw_M_106 (T_M_length _ _ _ _ hr3) (rc_of ci_12 hk1) rfl rfl ⟨Nat.le_refl _, Nat.le_refl _⟩ rfl rfl d_M_dayOf_4 ?_
  refine r_icmp_gt hX d_M_dayOf_7 rfl h (fun h => ?_) (fun h => ?_)
  · refine r_iconst (v := (-1 : Int32)) hX d_M_dayOf_23 rfl ?_
    cases h; exact r_iret hX hR d_M_dayOf_24
  · refine r_aload_n (i := 0) hX d_M_dayOf_10 0 rfl rfl ?_
    refine r_iload_n (i := 1) hX d_M_dayOf_11 1 rfl rfl ?_
    refine r_iload_n (i := 2) hX d_M_dayOf_12 2 rfl rfl ?_
    obtain ⟨r4, hr5, h⟩ := bd_e h
    refine r_callV1 (As := [_, _]) hX hM mw_M_110 (T_M_begin _ _ _ _ hr5) (rc_of ci_12 hk1) rfl rfl ⟨Nat.le_refl _, Nat.le_refl _⟩ rfl rfl d_M_dayOf_13 ?_
    refine r_iload_n (i := 3) hX d_M_dayOf_16 3 rfl rfl ?_
    refine r_iadd hX d_M_dayOf_17 ?_
    refine r_iconst (v := (1 : Int32)) hX d_M_dayOf_18 rfl ?_
    refine r_isub hX d_M_dayOf_19 ?_
    refine r_goto hX d_M_dayOf_20 rfl ?_
    cases h; exact r_iret hX hR d_M_dayOf_24
theorem T_M_dayOf {l : Launch} {G : AG} (w : AW) (a0 : Nat) (x1 : Int32) (x2 : Int32) (x3 : Int32) {o : Int32} (h : F_M_dayOf w a0 x1 x2 x3 = some o) : Mt l G y_M_dayOf b_M_dayOf 4 (some (.int)) 3 67 0 0 [vr a0, vi x1, vi x2, vi x3] w (some (vi o)) w := mt_of (by decide) (Nat.le_of_ble_eq_true rfl) (fun X hX hR hM hI => P_M_dayOf_0 hX hM hR _ _ _ _ h)
/-! RedSkyModel.day(III)I -/
theorem d_M_day_0 : decode b_M_day 0 = .ok (.iload_n 1, 1) := by decide +kernel
theorem d_M_day_1 : decode b_M_day 1 = .ok (.i2l, 1) := by decide +kernel
theorem d_M_day_2 : decode b_M_day 2 = .ok (.lconst 0, 1) := by decide +kernel
theorem d_M_day_3 : decode b_M_day 3 = .ok (.ldc2_w 126, 3) := by decide +kernel
theorem d_M_day_6 : decode b_M_day 6 = .ok (.invokestatic 122, 3) := by decide +kernel
theorem d_M_day_9 : decode b_M_day 9 = .ok (.ifCond .eq (27), 3) := by decide +kernel
theorem d_M_day_12 : decode b_M_day 12 = .ok (.iload_n 2, 1) := by decide +kernel
theorem d_M_day_13 : decode b_M_day 13 = .ok (.i2l, 1) := by decide +kernel
theorem d_M_day_14 : decode b_M_day 14 = .ok (.lconst 1, 1) := by decide +kernel
theorem d_M_day_15 : decode b_M_day 15 = .ok (.ldc2_w 128, 3) := by decide +kernel
theorem d_M_day_18 : decode b_M_day 18 = .ok (.invokestatic 122, 3) := by decide +kernel
theorem d_M_day_21 : decode b_M_day 21 = .ok (.ifCond .eq (15), 3) := by decide +kernel
theorem d_M_day_24 : decode b_M_day 24 = .ok (.iload_n 3, 1) := by decide +kernel
theorem d_M_day_25 : decode b_M_day 25 = .ok (.i2l, 1) := by decide +kernel
theorem d_M_day_26 : decode b_M_day 26 = .ok (.lconst 1, 1) := by decide +kernel
theorem d_M_day_27 : decode b_M_day 27 = .ok (.ldc2_w 130, 3) := by decide +kernel
theorem d_M_day_30 : decode b_M_day 30 = .ok (.invokestatic 122, 3) := by decide +kernel
theorem d_M_day_33 : decode b_M_day 33 = .ok (.ifCond .ne (6), 3) := by decide +kernel
theorem d_M_day_36 : decode b_M_day 36 = .ok (.bipush (-102), 2) := by decide +kernel
theorem d_M_day_38 : decode b_M_day 38 = .ok (.ireturn, 1) := by decide +kernel
theorem d_M_day_39 : decode b_M_day 39 = .ok (.aload_n 0, 1) := by decide +kernel
theorem d_M_day_40 : decode b_M_day 40 = .ok (.iload_n 1, 1) := by decide +kernel
theorem d_M_day_41 : decode b_M_day 41 = .ok (.iload_n 2, 1) := by decide +kernel
theorem d_M_day_42 : decode b_M_day 42 = .ok (.iload_n 3, 1) := by decide +kernel
theorem d_M_day_43 : decode b_M_day 43 = .ok (.invokevirtual 132, 3) := by decide +kernel
theorem d_M_day_46 : decode b_M_day 46 = .ok (.ireturn, 1) := by decide +kernel
def F_M_day (w : AW) (a0 : Nat) (x1 : Int32) (x2 : Int32) (x3 : Int32) : Option (Int32) :=
  if (F_M_in (Int32.toInt64 x1) (0 : Int64) (3 : Int64)) = 0 then
    some (-102 : Int32)
  else
    if (F_M_in (Int32.toInt64 x2) (1 : Int64) (12 : Int64)) = 0 then
      some (-102 : Int32)
    else
      if (F_M_in (Int32.toInt64 x3) (1 : Int64) (31 : Int64)) = 0 then
        some (-102 : Int32)
      else
        gd (wk w a0 == 13) <|
        (F_M_dayOf w a0 x1 x2 x3).bind fun r2 =>
        some r2
theorem P_M_day_0 {X : AX} {l : Launch} {G : AG} {w : AW} (hX : XOK X b_M_day "RedSkyModel" 4) (hM : XM X l G { frames := 4, cells := 0, slots := 0, locals := 90 }) {o : Int32} (hR : XR X (some .int) 0 0 (some (vi o)) w) (a0 : Nat) (x1 : Int32) (x2 : Int32) (x3 : Int32) (h : F_M_day w a0 x1 x2 x3 = some o) : RJ X 4 0 0 0 [(0, vr a0), (1, vi x1), (2, vi x2), (3, vi x3)] [] w := by
  unfold F_M_day at h
  refine r_iload_n (i := 1) hX d_M_day_0 1 rfl rfl ?_
  refine r_i2l hX d_M_day_1 ?_
  refine r_lconst (v := (0 : Int64)) hX d_M_day_2 rfl ?_
  refine r_ldc2 hX d_M_day_3 cw_M_126 ?_
  refine r_callS1 (As := [_, _, _]) hX hM mw_M_122 (T_M_in _ _ _ _) rfl rfl ⟨Nat.le_refl _, Nat.le_refl _⟩ rfl rfl d_M_day_6 ?_
  refine r_if_eq hX d_M_day_9 rfl h (fun h => ?_) (fun h => ?_)
  · refine r_bipush (v := (-102 : Int32)) hX d_M_day_36 rfl ?_
    cases h; exact r_iret hX hR d_M_day_38
  · refine r_iload_n (i := 2) hX d_M_day_12 2 rfl rfl ?_
    refine r_i2l hX d_M_day_13 ?_
    refine r_lconst (v := (1 : Int64)) hX d_M_day_14 rfl ?_
    refine r_ldc2 hX d_M_day_15 cw_M_128 ?_
    refine r_callS1 (As := [_, _, _]) hX hM mw_M_122 (T_M_in _ _ _ _) rfl rfl ⟨Nat.le_refl _, Nat.le_refl _⟩ rfl rfl d_M_day_18 ?_
    refine r_if_eq hX d_M_day_21 rfl h (fun h => ?_) (fun h => ?_)
    · refine r_bipush (v := (-102 : Int32)) hX d_M_day_36 rfl ?_
      cases h; exact r_iret hX hR d_M_day_38
    · refine r_iload_n (i := 3) hX d_M_day_24 3 rfl rfl ?_
      refine r_i2l hX d_M_day_25 ?_
      refine r_lconst (v := (1 : Int64)) hX d_M_day_26 rfl ?_
      refine r_ldc2 hX d_M_day_27 cw_M_130 ?_
      refine r_callS1 (As := [_, _, _]) hX hM mw_M_122 (T_M_in _ _ _ _) rfl rfl ⟨Nat.le_refl _, Nat.le_refl _⟩ rfl rfl d_M_day_30 ?_
      refine r_if_ne hX d_M_day_33 rfl h (fun h => ?_) (fun h => ?_)
      · refine r_aload_n (i := 0) hX d_M_day_39 0 rfl rfl ?_
        refine r_iload_n (i := 1) hX d_M_day_40 1 rfl rfl ?_
        refine r_iload_n (i := 2) hX d_M_day_41 2 rfl rfl ?_
        refine r_iload_n (i := 3) hX d_M_day_42 3 rfl rfl ?_
        obtain ⟨hk1, h⟩ := gd_e h
        obtain ⟨r2, hr3, h⟩ := bd_e h
        refine r_callV1 (As := [_, _, _]) hX hM mw_M_132 (T_M_dayOf _ _ _ _ _ hr3) (rc_of ci_12 hk1) rfl rfl ⟨Nat.le_refl _, Nat.le_refl _⟩ rfl rfl d_M_day_43 ?_
        cases h; exact r_iret hX hR d_M_day_46
      · refine r_bipush (v := (-102 : Int32)) hX d_M_day_36 rfl ?_
        cases h; exact r_iret hX hR d_M_day_38
theorem T_M_day {l : Launch} {G : AG} (w : AW) (a0 : Nat) (x1 : Int32) (x2 : Int32) (x3 : Int32) {o : Int32} (h : F_M_day w a0 x1 x2 x3 = some o) : Mt l G y_M_day b_M_day 4 (some (.int)) 4 90 0 0 [vr a0, vi x1, vi x2, vi x3] w (some (vi o)) w := mt_of (by decide) (Nat.le_of_ble_eq_true rfl) (fun X hX hR hM hI => P_M_day_0 hX hM hR _ _ _ _ h)
/-! RedSky.isDay(I)Z -/
theorem d_A_isDay_0 : decode b_A_isDay 0 = .ok (.iload_n 0, 1) := by decide +kernel
theorem d_A_isDay_1 : decode b_A_isDay 1 = .ok (.iconst 0, 1) := by decide +kernel
theorem d_A_isDay_2 : decode b_A_isDay 2 = .ok (.sipush (1460), 3) := by decide +kernel
theorem d_A_isDay_5 : decode b_A_isDay 5 = .ok (.invokestatic 86, 3) := by decide +kernel
theorem d_A_isDay_8 : decode b_A_isDay 8 = .ok (.ireturn, 1) := by decide +kernel
def Fo_A_isDay (w : AW) (x0 : Int32) : Option (Int32) :=
  some (F_A_within x0 (0 : Int32) (1460 : Int32))
theorem P_A_isDay_0 {X : AX} {l : Launch} {G : AG} {w : AW} (hX : XOK X b_A_isDay "RedSky" 1) (hM : XM X l G { frames := 1, cells := 0, slots := 0, locals := 22 }) {o : Int32} (hR : XR X (some .boolean) 0 0 (some (vi o)) w) (x0 : Int32) (h : Fo_A_isDay w x0 = some o) : RJ X 1 0 0 0 [(0, vi x0)] [] w := by
  unfold Fo_A_isDay at h
  refine r_iload_n (i := 0) hX d_A_isDay_0 0 rfl rfl ?_
  refine r_iconst (v := (0 : Int32)) hX d_A_isDay_1 rfl ?_
  refine r_sipush (v := (1460 : Int32)) hX d_A_isDay_2 rfl ?_
  refine r_callS1 (As := [_, _, _]) hX hM mw_A_86 (T_A_within _ _ _ _) rfl rfl ⟨Nat.le_refl _, Nat.le_refl _⟩ rfl rfl d_A_isDay_5 ?_
  cases h; exact r_zret hX hR (zn_ok (z_A_within _ _ _)) d_A_isDay_8
def F_A_isDay (x0 : Int32) : Int32 :=
  (F_A_within x0 (0 : Int32) (1460 : Int32))
theorem E_A_isDay (w : AW) (x0 : Int32) : Fo_A_isDay w x0 = some (F_A_isDay x0) := by
  simp only [Fo_A_isDay, F_A_isDay, apply_ite (some : Int32 → Option Int32)]
theorem z_A_isDay (x0 : Int32) : (F_A_isDay x0 == 0 || F_A_isDay x0 == 1) = true := by
  unfold F_A_isDay; exact (z_A_within _ _ _)
theorem T_A_isDay {l : Launch} {G : AG} (x0 : Int32) (w : AW)  : Mt l G y_A_isDay b_A_isDay 1 (some (.boolean)) 1 22 0 0 [vi x0] w (some (vi (F_A_isDay x0))) w := mt_of (by decide) (Nat.le_of_ble_eq_true rfl) (fun X hX hR hM hI => P_A_isDay_0 hX hM hR _ (E_A_isDay _ _))
/-! RedSky$Calendar.endOf(I)I -/
theorem d_Ca_endOf_0 : decode b_Ca_endOf 0 = .ok (.aload_n 0, 1) := by decide +kernel
theorem d_Ca_endOf_1 : decode b_Ca_endOf 1 = .ok (.iload_n 1, 1) := by decide +kernel
theorem d_Ca_endOf_2 : decode b_Ca_endOf 2 = .ok (.iconst 1, 1) := by decide +kernel
theorem d_Ca_endOf_3 : decode b_Ca_endOf 3 = .ok (.iadd, 1) := by decide +kernel
theorem d_Ca_endOf_4 : decode b_Ca_endOf 4 = .ok (.invokevirtual 38, 3) := by decide +kernel
theorem d_Ca_endOf_7 : decode b_Ca_endOf 7 = .ok (.ireturn, 1) := by decide +kernel
def F_Ca_endOf (w : AW) (a0 : Nat) (x1 : Int32) : Option (Int32) :=
  gd (wk w a0 == 2) <|
  (F_Ca_startOf w a0 (x1 + (1 : Int32))).bind fun r2 =>
  some r2
theorem P_Ca_endOf_0 {X : AX} {l : Launch} {G : AG} {w : AW} (hX : XOK X b_Ca_endOf "RedSky$Calendar" 2) (hM : XM X l G { frames := 2, cells := 0, slots := 0, locals := 44 }) {o : Int32} (hR : XR X (some .int) 0 0 (some (vi o)) w) (a0 : Nat) (x1 : Int32) (h : F_Ca_endOf w a0 x1 = some o) : RJ X 2 0 0 0 [(0, vr a0), (1, vi x1)] [] w := by
  unfold F_Ca_endOf at h
  refine r_aload_n (i := 0) hX d_Ca_endOf_0 0 rfl rfl ?_
  refine r_iload_n (i := 1) hX d_Ca_endOf_1 1 rfl rfl ?_
  refine r_iconst (v := (1 : Int32)) hX d_Ca_endOf_2 rfl ?_
  refine r_iadd hX d_Ca_endOf_3 ?_
  obtain ⟨hk1, h⟩ := gd_e h
  obtain ⟨r2, hr3, h⟩ := bd_e h
  refine r_callV1 (As := [_]) hX hM mw_Ca_38 (T_Ca_startOf _ _ _ hr3) (rc_of ci_1 hk1) rfl rfl ⟨Nat.le_refl _, Nat.le_refl _⟩ rfl rfl d_Ca_endOf_4 ?_
  cases h; exact r_iret hX hR d_Ca_endOf_7
theorem T_Ca_endOf {l : Launch} {G : AG} (w : AW) (a0 : Nat) (x1 : Int32) {o : Int32} (h : F_Ca_endOf w a0 x1 = some o) : Mt l G y_Ca_endOf b_Ca_endOf 2 (some (.int)) 2 44 0 0 [vr a0, vi x1] w (some (vi o)) w := mt_of (by decide) (Nat.le_of_ble_eq_true rfl) (fun X hX hR hM hI => P_Ca_endOf_0 hX hM hR _ _ h)
/-! RedSky$Calendar.yearOf(I)I -/
theorem d_Ca_yearOf_0 : decode b_Ca_yearOf 0 = .ok (.iconst 0, 1) := by decide +kernel
theorem d_Ca_yearOf_1 : decode b_Ca_yearOf 1 = .ok (.istore_n 2, 1) := by decide +kernel
theorem d_Ca_yearOf_2 : decode b_Ca_yearOf 2 = .ok (.iload_n 2, 1) := by decide +kernel
theorem d_Ca_yearOf_3 : decode b_Ca_yearOf 3 = .ok (.iconst 3, 1) := by decide +kernel
theorem d_Ca_yearOf_4 : decode b_Ca_yearOf 4 = .ok (.if_icmp .ge (18), 3) := by decide +kernel
theorem d_Ca_yearOf_7 : decode b_Ca_yearOf 7 = .ok (.iload_n 1, 1) := by decide +kernel
theorem d_Ca_yearOf_8 : decode b_Ca_yearOf 8 = .ok (.aload_n 0, 1) := by decide +kernel
theorem d_Ca_yearOf_9 : decode b_Ca_yearOf 9 = .ok (.iload_n 2, 1) := by decide +kernel
theorem d_Ca_yearOf_10 : decode b_Ca_yearOf 10 = .ok (.invokevirtual 53, 3) := by decide +kernel
theorem d_Ca_yearOf_13 : decode b_Ca_yearOf 13 = .ok (.if_icmp .lt (9), 3) := by decide +kernel
theorem d_Ca_yearOf_16 : decode b_Ca_yearOf 16 = .ok (.iinc 2 (1), 3) := by decide +kernel
theorem d_Ca_yearOf_19 : decode b_Ca_yearOf 19 = .ok (.goto (-17), 3) := by decide +kernel
theorem d_Ca_yearOf_22 : decode b_Ca_yearOf 22 = .ok (.iload_n 2, 1) := by decide +kernel
theorem d_Ca_yearOf_23 : decode b_Ca_yearOf 23 = .ok (.ireturn, 1) := by decide +kernel
def F_Ca_yearOf_2_B (rec2 : Nat → Int32 → Int32 → Option (Int32)) (w : AW) (a0 : Nat) (x1 : Int32) (x2 : Int32) : Option (Int32) :=
  if (3 : Int32) ≤ x2 then
    some x2
  else
    gd (wk w a0 == 2) <|
    (F_Ca_endOf w a0 x2).bind fun r2 =>
    if x1 < r2 then
      some x2
    else
      let v4 : Int32 := (x2 + (1 : Int32))
      rec2 a0 x1 v4
theorem P_Ca_yearOf_2_B {X : AX} {l : Launch} {G : AG} {w : AW} {rec2 : Nat → Int32 → Int32 → Option (Int32)} (hX : XOK X b_Ca_yearOf "RedSky$Calendar" 3) (hM : XM X l G { frames := 3, cells := 0, slots := 0, locals := 65 }) {o : Int32} (hR : XR X (some .int) 0 0 (some (vi o)) w) (hrec2 : ∀ (a0 : Nat) (x1 : Int32) (x2 : Int32), rec2 a0 x1 x2 = some o → RJ X 3 0 0 2 [(0, vr a0), (1, vi x1), (2, vi x2)] [] w) (a0 : Nat) (x1 : Int32) (x2 : Int32) (h : F_Ca_yearOf_2_B rec2 w a0 x1 x2 = some o) : RJ X 3 0 0 2 [(0, vr a0), (1, vi x1), (2, vi x2)] [] w := by
  unfold F_Ca_yearOf_2_B at h
  refine r_iload_n (i := 2) hX d_Ca_yearOf_2 2 rfl rfl ?_
  refine r_iconst (v := (3 : Int32)) hX d_Ca_yearOf_3 rfl ?_
  refine r_icmp_ge hX d_Ca_yearOf_4 rfl h (fun h => ?_) (fun h => ?_)
  · refine r_iload_n (i := 2) hX d_Ca_yearOf_22 2 rfl rfl ?_
    cases h; exact r_iret hX hR d_Ca_yearOf_23
  · refine r_iload_n (i := 1) hX d_Ca_yearOf_7 1 rfl rfl ?_
    refine r_aload_n (i := 0) hX d_Ca_yearOf_8 0 rfl rfl ?_
    refine r_iload_n (i := 2) hX d_Ca_yearOf_9 2 rfl rfl ?_
    obtain ⟨hk1, h⟩ := gd_e h
    obtain ⟨r2, hr3, h⟩ := bd_e h
    refine r_callV1 (As := [_]) hX hM mw_Ca_53 (T_Ca_endOf _ _ _ hr3) (rc_of ci_1 hk1) rfl rfl ⟨Nat.le_refl _, Nat.le_refl _⟩ rfl rfl d_Ca_yearOf_10 ?_
    refine r_icmp_lt hX d_Ca_yearOf_13 rfl h (fun h => ?_) (fun h => ?_)
    · refine r_iload_n (i := 2) hX d_Ca_yearOf_22 2 rfl rfl ?_
      cases h; exact r_iret hX hR d_Ca_yearOf_23
    · refine r_iinc (i := 2) (v := (1 : Int32)) hX d_Ca_yearOf_16 2 rfl rfl (by decide) ?_
      refine r_goto hX d_Ca_yearOf_19 rfl ?_
      exact rj_sub [1, 2, 0] rfl (hrec2 _ _ _ h)
def F_Ca_yearOf_2 (w : AW) : Nat → Nat → Int32 → Int32 → Option (Int32)
  | 0 => fun _ _ _ => none
  | n + 1 => fun a0 x1 x2 => F_Ca_yearOf_2_B (F_Ca_yearOf_2 w n) w a0 x1 x2
theorem P_Ca_yearOf_2 {X : AX} {l : Launch} {G : AG} {w : AW} (hX : XOK X b_Ca_yearOf "RedSky$Calendar" 3) (hM : XM X l G { frames := 3, cells := 0, slots := 0, locals := 65 }) {o : Int32} (hR : XR X (some .int) 0 0 (some (vi o)) w) (fu : Nat) : ∀ (a0 : Nat) (x1 : Int32) (x2 : Int32), F_Ca_yearOf_2 w fu a0 x1 x2 = some o → RJ X 3 0 0 2 [(0, vr a0), (1, vi x1), (2, vi x2)] [] w := by
  induction fu with
  | zero => intro a0 x1 x2 h; cases h
  | succ n9 ih => intro a0 x1 x2 h; exact P_Ca_yearOf_2_B hX hM hR ih _ _ _ h
def F_Ca_yearOf (w : AW) (a0 : Nat) (x1 : Int32) : Option (Int32) :=
  F_Ca_yearOf_2 w FUEL a0 x1 (0 : Int32)
theorem P_Ca_yearOf_0 {X : AX} {l : Launch} {G : AG} {w : AW} (hX : XOK X b_Ca_yearOf "RedSky$Calendar" 3) (hM : XM X l G { frames := 3, cells := 0, slots := 0, locals := 65 }) {o : Int32} (hR : XR X (some .int) 0 0 (some (vi o)) w) (a0 : Nat) (x1 : Int32) (h : F_Ca_yearOf w a0 x1 = some o) : RJ X 3 0 0 0 [(0, vr a0), (1, vi x1)] [] w := by
  unfold F_Ca_yearOf at h
  refine r_iconst (v := (0 : Int32)) hX d_Ca_yearOf_0 rfl ?_
  refine r_istore_n (i := 2) hX d_Ca_yearOf_1 rfl (by decide) ?_
  exact rj_sub [1, 2, 0] rfl (P_Ca_yearOf_2 hX hM hR FUEL _ _ _ h)
theorem T_Ca_yearOf {l : Launch} {G : AG} (w : AW) (a0 : Nat) (x1 : Int32) {o : Int32} (h : F_Ca_yearOf w a0 x1 = some o) : Mt l G y_Ca_yearOf b_Ca_yearOf 3 (some (.int)) 3 65 0 0 [vr a0, vi x1] w (some (vi o)) w := mt_of (by decide) (Nat.le_of_ble_eq_true rfl) (fun X hX hR hM hI => P_Ca_yearOf_0 hX hM hR _ _ h)
/-! RedSky$Calendar.monthOf(I)I -/
theorem d_Ca_monthOf_0 : decode b_Ca_monthOf 0 = .ok (.aload_n 0, 1) := by decide +kernel
theorem d_Ca_monthOf_1 : decode b_Ca_monthOf 1 = .ok (.iload_n 1, 1) := by decide +kernel
theorem d_Ca_monthOf_2 : decode b_Ca_monthOf 2 = .ok (.invokevirtual 56, 3) := by decide +kernel
theorem d_Ca_monthOf_5 : decode b_Ca_monthOf 5 = .ok (.istore_n 2, 1) := by decide +kernel
theorem d_Ca_monthOf_6 : decode b_Ca_monthOf 6 = .ok (.iconst 1, 1) := by decide +kernel
theorem d_Ca_monthOf_7 : decode b_Ca_monthOf 7 = .ok (.istore_n 3, 1) := by decide +kernel
theorem d_Ca_monthOf_8 : decode b_Ca_monthOf 8 = .ok (.aload_n 0, 1) := by decide +kernel
theorem d_Ca_monthOf_9 : decode b_Ca_monthOf 9 = .ok (.iload_n 2, 1) := by decide +kernel
theorem d_Ca_monthOf_10 : decode b_Ca_monthOf 10 = .ok (.invokevirtual 38, 3) := by decide +kernel
theorem d_Ca_monthOf_13 : decode b_Ca_monthOf 13 = .ok (.aload_n 0, 1) := by decide +kernel
theorem d_Ca_monthOf_14 : decode b_Ca_monthOf 14 = .ok (.iload_n 2, 1) := by decide +kernel
theorem d_Ca_monthOf_15 : decode b_Ca_monthOf 15 = .ok (.iload_n 3, 1) := by decide +kernel
theorem d_Ca_monthOf_16 : decode b_Ca_monthOf 16 = .ok (.invokevirtual 45, 3) := by decide +kernel
theorem d_Ca_monthOf_19 : decode b_Ca_monthOf 19 = .ok (.iadd, 1) := by decide +kernel
theorem d_Ca_monthOf_20 : decode b_Ca_monthOf 20 = .ok (.istore 4, 2) := by decide +kernel
theorem d_Ca_monthOf_22 : decode b_Ca_monthOf 22 = .ok (.iload_n 3, 1) := by decide +kernel
theorem d_Ca_monthOf_23 : decode b_Ca_monthOf 23 = .ok (.bipush (12), 2) := by decide +kernel
theorem d_Ca_monthOf_25 : decode b_Ca_monthOf 25 = .ok (.if_icmp .ge (26), 3) := by decide +kernel
theorem d_Ca_monthOf_28 : decode b_Ca_monthOf 28 = .ok (.iload_n 1, 1) := by decide +kernel
theorem d_Ca_monthOf_29 : decode b_Ca_monthOf 29 = .ok (.iload 4, 2) := by decide +kernel
theorem d_Ca_monthOf_31 : decode b_Ca_monthOf 31 = .ok (.if_icmp .lt (20), 3) := by decide +kernel
theorem d_Ca_monthOf_34 : decode b_Ca_monthOf 34 = .ok (.iinc 3 (1), 3) := by decide +kernel
theorem d_Ca_monthOf_37 : decode b_Ca_monthOf 37 = .ok (.iload 4, 2) := by decide +kernel
theorem d_Ca_monthOf_39 : decode b_Ca_monthOf 39 = .ok (.aload_n 0, 1) := by decide +kernel
theorem d_Ca_monthOf_40 : decode b_Ca_monthOf 40 = .ok (.iload_n 2, 1) := by decide +kernel
theorem d_Ca_monthOf_41 : decode b_Ca_monthOf 41 = .ok (.iload_n 3, 1) := by decide +kernel
theorem d_Ca_monthOf_42 : decode b_Ca_monthOf 42 = .ok (.invokevirtual 45, 3) := by decide +kernel
theorem d_Ca_monthOf_45 : decode b_Ca_monthOf 45 = .ok (.iadd, 1) := by decide +kernel
theorem d_Ca_monthOf_46 : decode b_Ca_monthOf 46 = .ok (.istore 4, 2) := by decide +kernel
theorem d_Ca_monthOf_48 : decode b_Ca_monthOf 48 = .ok (.goto (-26), 3) := by decide +kernel
theorem d_Ca_monthOf_51 : decode b_Ca_monthOf 51 = .ok (.iload_n 3, 1) := by decide +kernel
theorem d_Ca_monthOf_52 : decode b_Ca_monthOf 52 = .ok (.ireturn, 1) := by decide +kernel
def F_Ca_monthOf_22_B (rec22 : Nat → Int32 → Int32 → Int32 → Int32 → Option (Int32)) (w : AW) (a0 : Nat) (x1 : Int32) (x2 : Int32) (x3 : Int32) (x4 : Int32) : Option (Int32) :=
  if (12 : Int32) ≤ x3 then
    some x3
  else
    if x1 < x4 then
      some x3
    else
      let v1 : Int32 := (x3 + (1 : Int32))
      gd (wk w a0 == 2) <|
      (F_Ca_monthLength w a0 x2 v1).bind fun r3 =>
      let v5 : Int32 := (x4 + r3)
      rec22 a0 x1 x2 v1 v5
theorem P_Ca_monthOf_22_B {X : AX} {l : Launch} {G : AG} {w : AW} {rec22 : Nat → Int32 → Int32 → Int32 → Int32 → Option (Int32)} (hX : XOK X b_Ca_monthOf "RedSky$Calendar" 5) (hM : XM X l G { frames := 4, cells := 0, slots := 0, locals := 87 }) {o : Int32} (hR : XR X (some .int) 0 0 (some (vi o)) w) (hrec22 : ∀ (a0 : Nat) (x1 : Int32) (x2 : Int32) (x3 : Int32) (x4 : Int32), rec22 a0 x1 x2 x3 x4 = some o → RJ X 5 0 0 22 [(0, vr a0), (1, vi x1), (2, vi x2), (3, vi x3), (4, vi x4)] [] w) (a0 : Nat) (x1 : Int32) (x2 : Int32) (x3 : Int32) (x4 : Int32) (h : F_Ca_monthOf_22_B rec22 w a0 x1 x2 x3 x4 = some o) : RJ X 5 0 0 22 [(0, vr a0), (1, vi x1), (2, vi x2), (3, vi x3), (4, vi x4)] [] w := by
  unfold F_Ca_monthOf_22_B at h
  refine r_iload_n (i := 3) hX d_Ca_monthOf_22 3 rfl rfl ?_
  refine r_bipush (v := (12 : Int32)) hX d_Ca_monthOf_23 rfl ?_
  refine r_icmp_ge hX d_Ca_monthOf_25 rfl h (fun h => ?_) (fun h => ?_)
  · refine r_iload_n (i := 3) hX d_Ca_monthOf_51 3 rfl rfl ?_
    cases h; exact r_iret hX hR d_Ca_monthOf_52
  · refine r_iload_n (i := 1) hX d_Ca_monthOf_28 1 rfl rfl ?_
    refine r_iload (i := 4) hX d_Ca_monthOf_29 4  rfl ?_
    refine r_icmp_lt hX d_Ca_monthOf_31 rfl h (fun h => ?_) (fun h => ?_)
    · refine r_iload_n (i := 3) hX d_Ca_monthOf_51 3 rfl rfl ?_
      cases h; exact r_iret hX hR d_Ca_monthOf_52
    · refine r_iinc (i := 3) (v := (1 : Int32)) hX d_Ca_monthOf_34 3 rfl rfl (by decide) ?_
      refine r_iload (i := 4) hX d_Ca_monthOf_37 4  rfl ?_
      refine r_aload_n (i := 0) hX d_Ca_monthOf_39 1 rfl rfl ?_
      refine r_iload_n (i := 2) hX d_Ca_monthOf_40 3 rfl rfl ?_
      refine r_iload_n (i := 3) hX d_Ca_monthOf_41 0 rfl rfl ?_
      obtain ⟨hk2, h⟩ := gd_e h
      obtain ⟨r3, hr4, h⟩ := bd_e h
      refine r_callV1 (As := [_, _]) hX hM mw_Ca_45 (T_Ca_monthLength _ _ _ _ hr4) (rc_of ci_1 hk2) rfl rfl ⟨Nat.le_refl _, Nat.le_refl _⟩ rfl rfl d_Ca_monthOf_42 ?_
      refine r_iadd hX d_Ca_monthOf_45 ?_
      refine r_istore (i := 4) hX d_Ca_monthOf_46  (by decide) ?_
      refine r_goto hX d_Ca_monthOf_48 rfl ?_
      exact rj_sub [2, 3, 4, 1, 0] rfl (hrec22 _ _ _ _ _ h)
def F_Ca_monthOf_22 (w : AW) : Nat → Nat → Int32 → Int32 → Int32 → Int32 → Option (Int32)
  | 0 => fun _ _ _ _ _ => none
  | n + 1 => fun a0 x1 x2 x3 x4 => F_Ca_monthOf_22_B (F_Ca_monthOf_22 w n) w a0 x1 x2 x3 x4
theorem P_Ca_monthOf_22 {X : AX} {l : Launch} {G : AG} {w : AW} (hX : XOK X b_Ca_monthOf "RedSky$Calendar" 5) (hM : XM X l G { frames := 4, cells := 0, slots := 0, locals := 87 }) {o : Int32} (hR : XR X (some .int) 0 0 (some (vi o)) w) (fu : Nat) : ∀ (a0 : Nat) (x1 : Int32) (x2 : Int32) (x3 : Int32) (x4 : Int32), F_Ca_monthOf_22 w fu a0 x1 x2 x3 x4 = some o → RJ X 5 0 0 22 [(0, vr a0), (1, vi x1), (2, vi x2), (3, vi x3), (4, vi x4)] [] w := by
  induction fu with
  | zero => intro a0 x1 x2 x3 x4 h; cases h
  | succ n9 ih => intro a0 x1 x2 x3 x4 h; exact P_Ca_monthOf_22_B hX hM hR ih _ _ _ _ _ h
def F_Ca_monthOf (w : AW) (a0 : Nat) (x1 : Int32) : Option (Int32) :=
  gd (wk w a0 == 2) <|
  (F_Ca_yearOf w a0 x1).bind fun r2 =>
  (F_Ca_startOf w a0 r2).bind fun r4 =>
  (F_Ca_monthLength w a0 r2 (1 : Int32)).bind fun r6 =>
  let v8 : Int32 := (r4 + r6)
  F_Ca_monthOf_22 w FUEL a0 x1 r2 (1 : Int32) v8
theorem P_Ca_monthOf_0 {X : AX} {l : Launch} {G : AG} {w : AW} (hX : XOK X b_Ca_monthOf "RedSky$Calendar" 5) (hM : XM X l G { frames := 4, cells := 0, slots := 0, locals := 87 }) {o : Int32} (hR : XR X (some .int) 0 0 (some (vi o)) w) (a0 : Nat) (x1 : Int32) (h : F_Ca_monthOf w a0 x1 = some o) : RJ X 5 0 0 0 [(0, vr a0), (1, vi x1)] [] w := by
  unfold F_Ca_monthOf at h
  refine r_aload_n (i := 0) hX d_Ca_monthOf_0 0 rfl rfl ?_
  refine r_iload_n (i := 1) hX d_Ca_monthOf_1 1 rfl rfl ?_
  obtain ⟨hk1, h⟩ := gd_e h
  obtain ⟨r2, hr3, h⟩ := bd_e h
  refine r_callV1 (As := [_]) hX hM mw_Ca_56 (T_Ca_yearOf _ _ _ hr3) (rc_of ci_1 hk1) rfl rfl ⟨Nat.le_refl _, Nat.le_refl _⟩ rfl rfl d_Ca_monthOf_2 ?_
  refine r_istore_n (i := 2) hX d_Ca_monthOf_5 rfl (by decide) ?_
  refine r_iconst (v := (1 : Int32)) hX d_Ca_monthOf_6 rfl ?_
  refine r_istore_n (i := 3) hX d_Ca_monthOf_7 rfl (by decide) ?_
  refine r_aload_n (i := 0) hX d_Ca_monthOf_8 2 rfl rfl ?_
  refine r_iload_n (i := 2) hX d_Ca_monthOf_9 1 rfl rfl ?_
  obtain ⟨r4, hr5, h⟩ := bd_e h
  refine r_callV1 (As := [_]) hX hM mw_Ca_38 (T_Ca_startOf _ _ _ hr5) (rc_of ci_1 hk1) rfl rfl ⟨Nat.le_refl _, Nat.le_refl _⟩ rfl rfl d_Ca_monthOf_10 ?_
  refine r_aload_n (i := 0) hX d_Ca_monthOf_13 2 rfl rfl ?_
  refine r_iload_n (i := 2) hX d_Ca_monthOf_14 1 rfl rfl ?_
  refine r_iload_n (i := 3) hX d_Ca_monthOf_15 0 rfl rfl ?_
  obtain ⟨r6, hr7, h⟩ := bd_e h
  refine r_callV1 (As := [_, _]) hX hM mw_Ca_45 (T_Ca_monthLength _ _ _ _ hr7) (rc_of ci_1 hk1) rfl rfl ⟨Nat.le_refl _, Nat.le_refl _⟩ rfl rfl d_Ca_monthOf_16 ?_
  refine r_iadd hX d_Ca_monthOf_19 ?_
  refine r_istore (i := 4) hX d_Ca_monthOf_20  (by decide) ?_
  exact rj_sub [3, 4, 2, 1, 0] rfl (P_Ca_monthOf_22 hX hM hR FUEL _ _ _ _ _ h)
theorem T_Ca_monthOf {l : Launch} {G : AG} (w : AW) (a0 : Nat) (x1 : Int32) {o : Int32} (h : F_Ca_monthOf w a0 x1 = some o) : Mt l G y_Ca_monthOf b_Ca_monthOf 5 (some (.int)) 4 87 0 0 [vr a0, vi x1] w (some (vi o)) w := mt_of (by decide) (Nat.le_of_ble_eq_true rfl) (fun X hX hR hM hI => P_Ca_monthOf_0 hX hM hR _ _ h)
/-! RedSky$Calendar.dateOf(I)I -/
theorem d_Ca_dateOf_0 : decode b_Ca_dateOf 0 = .ok (.iload_n 1, 1) := by decide +kernel
theorem d_Ca_dateOf_1 : decode b_Ca_dateOf 1 = .ok (.aload_n 0, 1) := by decide +kernel
theorem d_Ca_dateOf_2 : decode b_Ca_dateOf 2 = .ok (.aload_n 0, 1) := by decide +kernel
theorem d_Ca_dateOf_3 : decode b_Ca_dateOf 3 = .ok (.iload_n 1, 1) := by decide +kernel
theorem d_Ca_dateOf_4 : decode b_Ca_dateOf 4 = .ok (.invokevirtual 56, 3) := by decide +kernel
theorem d_Ca_dateOf_7 : decode b_Ca_dateOf 7 = .ok (.aload_n 0, 1) := by decide +kernel
theorem d_Ca_dateOf_8 : decode b_Ca_dateOf 8 = .ok (.iload_n 1, 1) := by decide +kernel
theorem d_Ca_dateOf_9 : decode b_Ca_dateOf 9 = .ok (.invokevirtual 59, 3) := by decide +kernel
theorem d_Ca_dateOf_12 : decode b_Ca_dateOf 12 = .ok (.iconst 1, 1) := by decide +kernel
theorem d_Ca_dateOf_13 : decode b_Ca_dateOf 13 = .ok (.invokevirtual 62, 3) := by decide +kernel
theorem d_Ca_dateOf_16 : decode b_Ca_dateOf 16 = .ok (.isub, 1) := by decide +kernel
theorem d_Ca_dateOf_17 : decode b_Ca_dateOf 17 = .ok (.iconst 1, 1) := by decide +kernel
theorem d_Ca_dateOf_18 : decode b_Ca_dateOf 18 = .ok (.iadd, 1) := by decide +kernel
theorem d_Ca_dateOf_19 : decode b_Ca_dateOf 19 = .ok (.ireturn, 1) := by decide +kernel
def F_Ca_dateOf (w : AW) (a0 : Nat) (x1 : Int32) : Option (Int32) :=
  gd (wk w a0 == 2) <|
  (F_Ca_yearOf w a0 x1).bind fun r2 =>
  (F_Ca_monthOf w a0 x1).bind fun r4 =>
  (F_Ca_dayOf w a0 r2 r4 (1 : Int32)).bind fun r6 =>
  some ((x1 - r6) + (1 : Int32))
theorem P_Ca_dateOf_0 {X : AX} {l : Launch} {G : AG} {w : AW} (hX : XOK X b_Ca_dateOf "RedSky$Calendar" 2) (hM : XM X l G { frames := 5, cells := 0, slots := 0, locals := 111 }) {o : Int32} (hR : XR X (some .int) 0 0 (some (vi o)) w) (a0 : Nat) (x1 : Int32) (h : F_Ca_dateOf w a0 x1 = some o) : RJ X 2 0 0 0 [(0, vr a0), (1, vi x1)] [] w := by
  unfold F_Ca_dateOf at h
  refine r_iload_n (i := 1) hX d_Ca_dateOf_0 1 rfl rfl ?_
  refine r_aload_n (i := 0) hX d_Ca_dateOf_1 0 rfl rfl ?_
  refine r_aload_n (i := 0) hX d_Ca_dateOf_2 0 rfl rfl ?_
  refine r_iload_n (i := 1) hX d_Ca_dateOf_3 1 rfl rfl ?_
  obtain ⟨hk1, h⟩ := gd_e h
  obtain ⟨r2, hr3, h⟩ := bd_e h
  refine r_callV1 (As := [_]) hX hM mw_Ca_56 (T_Ca_yearOf _ _ _ hr3) (rc_of ci_1 hk1) rfl rfl ⟨Nat.le_refl _, Nat.le_refl _⟩ rfl rfl d_Ca_dateOf_4 ?_
  refine r_aload_n (i := 0) hX d_Ca_dateOf_7 0 rfl rfl ?_
  refine r_iload_n (i := 1) hX d_Ca_dateOf_8 1 rfl rfl ?_
  obtain ⟨r4, hr5, h⟩ := bd_e h
  refine r_callV1 (As := [_]) hX hM mw_Ca_59 (T_Ca_monthOf _ _ _ hr5) (rc_of ci_1 hk1) rfl rfl ⟨Nat.le_refl _, Nat.le_refl _⟩ rfl rfl d_Ca_dateOf_9 ?_
  refine r_iconst (v := (1 : Int32)) hX d_Ca_dateOf_12 rfl ?_
  obtain ⟨r6, hr7, h⟩ := bd_e h
  refine r_callV1 (As := [_, _, _]) hX hM mw_Ca_62 (T_Ca_dayOf _ _ _ _ _ hr7) (rc_of ci_1 hk1) rfl rfl ⟨Nat.le_refl _, Nat.le_refl _⟩ rfl rfl d_Ca_dateOf_13 ?_
  refine r_isub hX d_Ca_dateOf_16 ?_
  refine r_iconst (v := (1 : Int32)) hX d_Ca_dateOf_17 rfl ?_
  refine r_iadd hX d_Ca_dateOf_18 ?_
  cases h; exact r_iret hX hR d_Ca_dateOf_19
theorem T_Ca_dateOf {l : Launch} {G : AG} (w : AW) (a0 : Nat) (x1 : Int32) {o : Int32} (h : F_Ca_dateOf w a0 x1 = some o) : Mt l G y_Ca_dateOf b_Ca_dateOf 2 (some (.int)) 5 111 0 0 [vr a0, vi x1] w (some (vi o)) w := mt_of (by decide) (Nat.le_of_ble_eq_true rfl) (fun X hX hR hM hI => P_Ca_dateOf_0 hX hM hR _ _ h)
/-! RedSky.date(II)I -/
theorem d_A_date_0 : decode b_A_date 0 = .ok (.iload_n 1, 1) := by decide +kernel
theorem d_A_date_1 : decode b_A_date 1 = .ok (.invokestatic 111, 3) := by decide +kernel
theorem d_A_date_4 : decode b_A_date 4 = .ok (.ifCond .ne (6), 3) := by decide +kernel
theorem d_A_date_7 : decode b_A_date 7 = .ok (.bipush (-101), 2) := by decide +kernel
theorem d_A_date_9 : decode b_A_date 9 = .ok (.ireturn, 1) := by decide +kernel
theorem d_A_date_10 : decode b_A_date 10 = .ok (.iload_n 2, 1) := by decide +kernel
theorem d_A_date_11 : decode b_A_date 11 = .ok (.tableswitch (52) 0 2 #[25, 34, 43], 25) := by decide +kernel
theorem d_A_date_36 : decode b_A_date 36 = .ok (.aload_n 0, 1) := by decide +kernel
theorem d_A_date_37 : decode b_A_date 37 = .ok (.getfield 10, 3) := by decide +kernel
theorem d_A_date_40 : decode b_A_date 40 = .ok (.iload_n 1, 1) := by decide +kernel
theorem d_A_date_41 : decode b_A_date 41 = .ok (.invokevirtual 114, 3) := by decide +kernel
theorem d_A_date_44 : decode b_A_date 44 = .ok (.ireturn, 1) := by decide +kernel
theorem d_A_date_45 : decode b_A_date 45 = .ok (.aload_n 0, 1) := by decide +kernel
theorem d_A_date_46 : decode b_A_date 46 = .ok (.getfield 10, 3) := by decide +kernel
theorem d_A_date_49 : decode b_A_date 49 = .ok (.iload_n 1, 1) := by decide +kernel
theorem d_A_date_50 : decode b_A_date 50 = .ok (.invokevirtual 118, 3) := by decide +kernel
theorem d_A_date_53 : decode b_A_date 53 = .ok (.ireturn, 1) := by decide +kernel
theorem d_A_date_54 : decode b_A_date 54 = .ok (.aload_n 0, 1) := by decide +kernel
theorem d_A_date_55 : decode b_A_date 55 = .ok (.getfield 10, 3) := by decide +kernel
theorem d_A_date_58 : decode b_A_date 58 = .ok (.iload_n 1, 1) := by decide +kernel
theorem d_A_date_59 : decode b_A_date 59 = .ok (.invokevirtual 121, 3) := by decide +kernel
theorem d_A_date_62 : decode b_A_date 62 = .ok (.ireturn, 1) := by decide +kernel
theorem d_A_date_63 : decode b_A_date 63 = .ok (.bipush (-102), 2) := by decide +kernel
theorem d_A_date_65 : decode b_A_date 65 = .ok (.ireturn, 1) := by decide +kernel
def F_A_date (w : AW) (a0 : Nat) (x1 : Int32) (x2 : Int32) : Option (Int32) :=
  if (F_A_isDay x1) = 0 then
    some (-101 : Int32)
  else
    if Int32.toInt x2 < 0 ∨ 2 < Int32.toInt x2 then
      some (-102 : Int32)
    else if x2 = (0 : Int32) then
      gd (wk w a0 == 1) <|
      gd (wk w (wr w a0 0) == 2) <|
      (F_Ca_yearOf w (wr w a0 0) x1).bind fun r3 =>
      some r3
    else if x2 = (1 : Int32) then
      gd (wk w a0 == 1) <|
      gd (wk w (wr w a0 0) == 2) <|
      (F_Ca_monthOf w (wr w a0 0) x1).bind fun r7 =>
      some r7
    else if x2 = (2 : Int32) then
      gd (wk w a0 == 1) <|
      gd (wk w (wr w a0 0) == 2) <|
      (F_Ca_dateOf w (wr w a0 0) x1).bind fun r11 =>
      some r11
    else none
theorem P_A_date_0 {X : AX} {l : Launch} {G : AG} {w : AW} (hX : XOK X b_A_date "RedSky" 3) (hM : XM X l G { frames := 6, cells := 0, slots := 0, locals := 132 }) {o : Int32} (hR : XR X (some .int) 0 0 (some (vi o)) w) (a0 : Nat) (x1 : Int32) (x2 : Int32) (h : F_A_date w a0 x1 x2 = some o) : RJ X 3 0 0 0 [(0, vr a0), (1, vi x1), (2, vi x2)] [] w := by
  unfold F_A_date at h
  refine r_iload_n (i := 1) hX d_A_date_0 1 rfl rfl ?_
  refine r_callS1 (As := [_]) hX hM mw_A_111 (T_A_isDay _ _) rfl rfl ⟨Nat.le_refl _, Nat.le_refl _⟩ rfl rfl d_A_date_1 ?_
  refine r_if_ne hX d_A_date_4 rfl h (fun h => ?_) (fun h => ?_)
  · refine r_iload_n (i := 2) hX d_A_date_10 2 rfl rfl ?_
    rcases it_e h with ⟨hc, h⟩ | ⟨-, h⟩
    · refine r_tsOut hX hc d_A_date_11 rfl ?_
      refine r_bipush (v := (-102 : Int32)) hX d_A_date_63 rfl ?_
      cases h; exact r_iret hX hR d_A_date_65
    rcases it_e h with ⟨hc, h⟩ | ⟨-, h⟩
    · refine r_tsIn (v := (0 : Int32)) hX hc d_A_date_11 (by decide) (by decide) rfl rfl ?_
      refine r_aload_n (i := 0) hX d_A_date_36 0 rfl rfl ?_
      obtain ⟨hk1, h⟩ := gd_e h
      refine r_getR (i := 0) (f := 0) hX ci_0 (by decide) rfl fl_A_10 hk1 d_A_date_37 ?_
      refine r_iload_n (i := 1) hX d_A_date_40 1 rfl rfl ?_
      obtain ⟨hk2, h⟩ := gd_e h
      obtain ⟨r3, hr4, h⟩ := bd_e h
      refine r_callV1 (As := [_]) hX hM mw_A_114 (T_Ca_yearOf _ _ _ hr4) (rc_of ci_1 hk2) rfl rfl ⟨Nat.le_refl _, Nat.le_refl _⟩ rfl rfl d_A_date_41 ?_
      cases h; exact r_iret hX hR d_A_date_44
    rcases it_e h with ⟨hc, h⟩ | ⟨-, h⟩
    · refine r_tsIn (v := (1 : Int32)) hX hc d_A_date_11 (by decide) (by decide) rfl rfl ?_
      refine r_aload_n (i := 0) hX d_A_date_45 0 rfl rfl ?_
      obtain ⟨hk5, h⟩ := gd_e h
      refine r_getR (i := 0) (f := 0) hX ci_0 (by decide) rfl fl_A_10 hk5 d_A_date_46 ?_
      refine r_iload_n (i := 1) hX d_A_date_49 1 rfl rfl ?_
      obtain ⟨hk6, h⟩ := gd_e h
      obtain ⟨r7, hr8, h⟩ := bd_e h
      refine r_callV1 (As := [_]) hX hM mw_A_118 (T_Ca_monthOf _ _ _ hr8) (rc_of ci_1 hk6) rfl rfl ⟨Nat.le_refl _, Nat.le_refl _⟩ rfl rfl d_A_date_50 ?_
      cases h; exact r_iret hX hR d_A_date_53
    rcases it_e h with ⟨hc, h⟩ | ⟨-, h⟩
    · refine r_tsIn (v := (2 : Int32)) hX hc d_A_date_11 (by decide) (by decide) rfl rfl ?_
      refine r_aload_n (i := 0) hX d_A_date_54 0 rfl rfl ?_
      obtain ⟨hk9, h⟩ := gd_e h
      refine r_getR (i := 0) (f := 0) hX ci_0 (by decide) rfl fl_A_10 hk9 d_A_date_55 ?_
      refine r_iload_n (i := 1) hX d_A_date_58 1 rfl rfl ?_
      obtain ⟨hk10, h⟩ := gd_e h
      obtain ⟨r11, hr12, h⟩ := bd_e h
      refine r_callV1 (As := [_]) hX hM mw_A_121 (T_Ca_dateOf _ _ _ hr12) (rc_of ci_1 hk10) rfl rfl ⟨Nat.le_refl _, Nat.le_refl _⟩ rfl rfl d_A_date_59 ?_
      cases h; exact r_iret hX hR d_A_date_62
    cases h
  · refine r_bipush (v := (-101 : Int32)) hX d_A_date_7 rfl ?_
    cases h; exact r_iret hX hR d_A_date_9
theorem T_A_date {l : Launch} {G : AG} (w : AW) (a0 : Nat) (x1 : Int32) (x2 : Int32) {o : Int32} (h : F_A_date w a0 x1 x2 = some o) : Mt l G y_A_date b_A_date 3 (some (.int)) 6 132 0 0 [vr a0, vi x1, vi x2] w (some (vi o)) w := mt_of (by decide) (Nat.le_of_ble_eq_true rfl) (fun X hX hR hM hI => P_A_date_0 hX hM hR _ _ _ h)
/-! RedSkyModel.isDay(I)Z -/
theorem d_M_isDay_0 : decode b_M_isDay 0 = .ok (.iload_n 0, 1) := by decide +kernel
theorem d_M_isDay_1 : decode b_M_isDay 1 = .ok (.i2l, 1) := by decide +kernel
theorem d_M_isDay_2 : decode b_M_isDay 2 = .ok (.lconst 0, 1) := by decide +kernel
theorem d_M_isDay_3 : decode b_M_isDay 3 = .ok (.ldc2_w 120, 3) := by decide +kernel
theorem d_M_isDay_6 : decode b_M_isDay 6 = .ok (.invokestatic 122, 3) := by decide +kernel
theorem d_M_isDay_9 : decode b_M_isDay 9 = .ok (.ireturn, 1) := by decide +kernel
def Fo_M_isDay (w : AW) (x0 : Int32) : Option (Int32) :=
  some (F_M_in (Int32.toInt64 x0) (0 : Int64) (1460 : Int64))
theorem P_M_isDay_0 {X : AX} {l : Launch} {G : AG} {w : AW} (hX : XOK X b_M_isDay "RedSkyModel" 1) (hM : XM X l G { frames := 1, cells := 0, slots := 0, locals := 25 }) {o : Int32} (hR : XR X (some .boolean) 0 0 (some (vi o)) w) (x0 : Int32) (h : Fo_M_isDay w x0 = some o) : RJ X 1 0 0 0 [(0, vi x0)] [] w := by
  unfold Fo_M_isDay at h
  refine r_iload_n (i := 0) hX d_M_isDay_0 0 rfl rfl ?_
  refine r_i2l hX d_M_isDay_1 ?_
  refine r_lconst (v := (0 : Int64)) hX d_M_isDay_2 rfl ?_
  refine r_ldc2 hX d_M_isDay_3 cw_M_120 ?_
  refine r_callS1 (As := [_, _, _]) hX hM mw_M_122 (T_M_in _ _ _ _) rfl rfl ⟨Nat.le_refl _, Nat.le_refl _⟩ rfl rfl d_M_isDay_6 ?_
  cases h; exact r_zret hX hR (zn_ok (z_M_in _ _ _)) d_M_isDay_9
def F_M_isDay (x0 : Int32) : Int32 :=
  (F_M_in (Int32.toInt64 x0) (0 : Int64) (1460 : Int64))
theorem E_M_isDay (w : AW) (x0 : Int32) : Fo_M_isDay w x0 = some (F_M_isDay x0) := by
  simp only [Fo_M_isDay, F_M_isDay, apply_ite (some : Int32 → Option Int32)]
theorem z_M_isDay (x0 : Int32) : (F_M_isDay x0 == 0 || F_M_isDay x0 == 1) = true := by
  unfold F_M_isDay; exact (z_M_in _ _ _)
theorem T_M_isDay {l : Launch} {G : AG} (x0 : Int32) (w : AW)  : Mt l G y_M_isDay b_M_isDay 1 (some (.boolean)) 1 25 0 0 [vi x0] w (some (vi (F_M_isDay x0))) w := mt_of (by decide) (Nat.le_of_ble_eq_true rfl) (fun X hX hR hM hI => P_M_isDay_0 hX hM hR _ (E_M_isDay _ _))
/-! RedSkyModel.yearOf(I)I -/
theorem d_M_yearOf_0 : decode b_M_yearOf 0 = .ok (.iconst 3, 1) := by decide +kernel
theorem d_M_yearOf_1 : decode b_M_yearOf 1 = .ok (.istore_n 2, 1) := by decide +kernel
theorem d_M_yearOf_2 : decode b_M_yearOf 2 = .ok (.iload_n 1, 1) := by decide +kernel
theorem d_M_yearOf_3 : decode b_M_yearOf 3 = .ok (.aload_n 0, 1) := by decide +kernel
theorem d_M_yearOf_4 : decode b_M_yearOf 4 = .ok (.iload_n 2, 1) := by decide +kernel
theorem d_M_yearOf_5 : decode b_M_yearOf 5 = .ok (.iconst 1, 1) := by decide +kernel
theorem d_M_yearOf_6 : decode b_M_yearOf 6 = .ok (.invokevirtual 110, 3) := by decide +kernel
theorem d_M_yearOf_9 : decode b_M_yearOf 9 = .ok (.if_icmp .ge (9), 3) := by decide +kernel
theorem d_M_yearOf_12 : decode b_M_yearOf 12 = .ok (.iinc 2 (-1), 3) := by decide +kernel
theorem d_M_yearOf_15 : decode b_M_yearOf 15 = .ok (.goto (-13), 3) := by decide +kernel
theorem d_M_yearOf_18 : decode b_M_yearOf 18 = .ok (.iload_n 2, 1) := by decide +kernel
theorem d_M_yearOf_19 : decode b_M_yearOf 19 = .ok (.ireturn, 1) := by decide +kernel
def F_M_yearOf_2_B (rec2 : Nat → Int32 → Int32 → Option (Int32)) (w : AW) (a0 : Nat) (x1 : Int32) (x2 : Int32) : Option (Int32) :=
  gd (wk w a0 == 13) <|
  (F_M_begin w a0 x2 (1 : Int32)).bind fun r2 =>
  if r2 ≤ x1 then
    some x2
  else
    let v4 : Int32 := (x2 + (-1 : Int32))
    rec2 a0 x1 v4
theorem P_M_yearOf_2_B {X : AX} {l : Launch} {G : AG} {w : AW} {rec2 : Nat → Int32 → Int32 → Option (Int32)} (hX : XOK X b_M_yearOf "RedSkyModel" 3) (hM : XM X l G { frames := 3, cells := 0, slots := 0, locals := 67 }) {o : Int32} (hR : XR X (some .int) 0 0 (some (vi o)) w) (hrec2 : ∀ (a0 : Nat) (x1 : Int32) (x2 : Int32), rec2 a0 x1 x2 = some o → RJ X 3 0 0 2 [(0, vr a0), (1, vi x1), (2, vi x2)] [] w) (a0 : Nat) (x1 : Int32) (x2 : Int32) (h : F_M_yearOf_2_B rec2 w a0 x1 x2 = some o) : RJ X 3 0 0 2 [(0, vr a0), (1, vi x1), (2, vi x2)] [] w := by
  unfold F_M_yearOf_2_B at h
  refine r_iload_n (i := 1) hX d_M_yearOf_2 1 rfl rfl ?_
  refine r_aload_n (i := 0) hX d_M_yearOf_3 0 rfl rfl ?_
  refine r_iload_n (i := 2) hX d_M_yearOf_4 2 rfl rfl ?_
  refine r_iconst (v := (1 : Int32)) hX d_M_yearOf_5 rfl ?_
  obtain ⟨hk1, h⟩ := gd_e h
  obtain ⟨r2, hr3, h⟩ := bd_e h
  refine r_callV1 (As := [_, _]) hX hM mw_M_110 (T_M_begin _ _ _ _ hr3) (rc_of ci_12 hk1) rfl rfl ⟨Nat.le_refl _, Nat.le_refl _⟩ rfl rfl d_M_yearOf_6 ?_
  refine r_icmp_ge hX d_M_yearOf_9 rfl h (fun h => ?_) (fun h => ?_)
  · refine r_iload_n (i := 2) hX d_M_yearOf_18 2 rfl rfl ?_
    cases h; exact r_iret hX hR d_M_yearOf_19
  · refine r_iinc (i := 2) (v := (-1 : Int32)) hX d_M_yearOf_12 2 rfl rfl (by decide) ?_
    refine r_goto hX d_M_yearOf_15 rfl ?_
    exact rj_sub [1, 2, 0] rfl (hrec2 _ _ _ h)
def F_M_yearOf_2 (w : AW) : Nat → Nat → Int32 → Int32 → Option (Int32)
  | 0 => fun _ _ _ => none
  | n + 1 => fun a0 x1 x2 => F_M_yearOf_2_B (F_M_yearOf_2 w n) w a0 x1 x2
theorem P_M_yearOf_2 {X : AX} {l : Launch} {G : AG} {w : AW} (hX : XOK X b_M_yearOf "RedSkyModel" 3) (hM : XM X l G { frames := 3, cells := 0, slots := 0, locals := 67 }) {o : Int32} (hR : XR X (some .int) 0 0 (some (vi o)) w) (fu : Nat) : ∀ (a0 : Nat) (x1 : Int32) (x2 : Int32), F_M_yearOf_2 w fu a0 x1 x2 = some o → RJ X 3 0 0 2 [(0, vr a0), (1, vi x1), (2, vi x2)] [] w := by
  induction fu with
  | zero => intro a0 x1 x2 h; cases h
  | succ n9 ih => intro a0 x1 x2 h; exact P_M_yearOf_2_B hX hM hR ih _ _ _ h
def F_M_yearOf (w : AW) (a0 : Nat) (x1 : Int32) : Option (Int32) :=
  F_M_yearOf_2 w FUEL a0 x1 (3 : Int32)
theorem P_M_yearOf_0 {X : AX} {l : Launch} {G : AG} {w : AW} (hX : XOK X b_M_yearOf "RedSkyModel" 3) (hM : XM X l G { frames := 3, cells := 0, slots := 0, locals := 67 }) {o : Int32} (hR : XR X (some .int) 0 0 (some (vi o)) w) (a0 : Nat) (x1 : Int32) (h : F_M_yearOf w a0 x1 = some o) : RJ X 3 0 0 0 [(0, vr a0), (1, vi x1)] [] w := by
  unfold F_M_yearOf at h
  refine r_iconst (v := (3 : Int32)) hX d_M_yearOf_0 rfl ?_
  refine r_istore_n (i := 2) hX d_M_yearOf_1 rfl (by decide) ?_
  exact rj_sub [1, 2, 0] rfl (P_M_yearOf_2 hX hM hR FUEL _ _ _ h)
theorem T_M_yearOf {l : Launch} {G : AG} (w : AW) (a0 : Nat) (x1 : Int32) {o : Int32} (h : F_M_yearOf w a0 x1 = some o) : Mt l G y_M_yearOf b_M_yearOf 3 (some (.int)) 3 67 0 0 [vr a0, vi x1] w (some (vi o)) w := mt_of (by decide) (Nat.le_of_ble_eq_true rfl) (fun X hX hR hM hI => P_M_yearOf_0 hX hM hR _ _ h)
/-! RedSkyModel.monthOf(I)I -/
theorem d_M_monthOf_0 : decode b_M_monthOf 0 = .ok (.aload_n 0, 1) := by decide +kernel
theorem d_M_monthOf_1 : decode b_M_monthOf 1 = .ok (.iload_n 1, 1) := by decide +kernel
theorem d_M_monthOf_2 : decode b_M_monthOf 2 = .ok (.invokevirtual 113, 3) := by decide +kernel
theorem d_M_monthOf_5 : decode b_M_monthOf 5 = .ok (.istore_n 2, 1) := by decide +kernel
theorem d_M_monthOf_6 : decode b_M_monthOf 6 = .ok (.bipush (12), 2) := by decide +kernel
theorem d_M_monthOf_8 : decode b_M_monthOf 8 = .ok (.istore_n 3, 1) := by decide +kernel
theorem d_M_monthOf_9 : decode b_M_monthOf 9 = .ok (.iload_n 1, 1) := by decide +kernel
theorem d_M_monthOf_10 : decode b_M_monthOf 10 = .ok (.aload_n 0, 1) := by decide +kernel
theorem d_M_monthOf_11 : decode b_M_monthOf 11 = .ok (.iload_n 2, 1) := by decide +kernel
theorem d_M_monthOf_12 : decode b_M_monthOf 12 = .ok (.iload_n 3, 1) := by decide +kernel
theorem d_M_monthOf_13 : decode b_M_monthOf 13 = .ok (.invokevirtual 110, 3) := by decide +kernel
theorem d_M_monthOf_16 : decode b_M_monthOf 16 = .ok (.if_icmp .ge (9), 3) := by decide +kernel
theorem d_M_monthOf_19 : decode b_M_monthOf 19 = .ok (.iinc 3 (-1), 3) := by decide +kernel
theorem d_M_monthOf_22 : decode b_M_monthOf 22 = .ok (.goto (-13), 3) := by decide +kernel
theorem d_M_monthOf_25 : decode b_M_monthOf 25 = .ok (.iload_n 3, 1) := by decide +kernel
theorem d_M_monthOf_26 : decode b_M_monthOf 26 = .ok (.ireturn, 1) := by decide +kernel
def F_M_monthOf_9_B (rec9 : Nat → Int32 → Int32 → Int32 → Option (Int32)) (w : AW) (a0 : Nat) (x1 : Int32) (x2 : Int32) (x3 : Int32) : Option (Int32) :=
  gd (wk w a0 == 13) <|
  (F_M_begin w a0 x2 x3).bind fun r2 =>
  if r2 ≤ x1 then
    some x3
  else
    let v4 : Int32 := (x3 + (-1 : Int32))
    rec9 a0 x1 x2 v4
theorem P_M_monthOf_9_B {X : AX} {l : Launch} {G : AG} {w : AW} {rec9 : Nat → Int32 → Int32 → Int32 → Option (Int32)} (hX : XOK X b_M_monthOf "RedSkyModel" 4) (hM : XM X l G { frames := 4, cells := 0, slots := 0, locals := 89 }) {o : Int32} (hR : XR X (some .int) 0 0 (some (vi o)) w) (hrec9 : ∀ (a0 : Nat) (x1 : Int32) (x2 : Int32) (x3 : Int32), rec9 a0 x1 x2 x3 = some o → RJ X 4 0 0 9 [(0, vr a0), (1, vi x1), (2, vi x2), (3, vi x3)] [] w) (a0 : Nat) (x1 : Int32) (x2 : Int32) (x3 : Int32) (h : F_M_monthOf_9_B rec9 w a0 x1 x2 x3 = some o) : RJ X 4 0 0 9 [(0, vr a0), (1, vi x1), (2, vi x2), (3, vi x3)] [] w := by
  unfold F_M_monthOf_9_B at h
  refine r_iload_n (i := 1) hX d_M_monthOf_9 1 rfl rfl ?_
  refine r_aload_n (i := 0) hX d_M_monthOf_10 0 rfl rfl ?_
  refine r_iload_n (i := 2) hX d_M_monthOf_11 2 rfl rfl ?_
  refine r_iload_n (i := 3) hX d_M_monthOf_12 3 rfl rfl ?_
  obtain ⟨hk1, h⟩ := gd_e h
  obtain ⟨r2, hr3, h⟩ := bd_e h
  refine r_callV1 (As := [_, _]) hX hM mw_M_110 (T_M_begin _ _ _ _ hr3) (rc_of ci_12 hk1) rfl rfl ⟨Nat.le_refl _, Nat.le_refl _⟩ rfl rfl d_M_monthOf_13 ?_
  refine r_icmp_ge hX d_M_monthOf_16 rfl h (fun h => ?_) (fun h => ?_)
  · refine r_iload_n (i := 3) hX d_M_monthOf_25 3 rfl rfl ?_
    cases h; exact r_iret hX hR d_M_monthOf_26
  · refine r_iinc (i := 3) (v := (-1 : Int32)) hX d_M_monthOf_19 3 rfl rfl (by decide) ?_
    refine r_goto hX d_M_monthOf_22 rfl ?_
    exact rj_sub [1, 2, 3, 0] rfl (hrec9 _ _ _ _ h)
def F_M_monthOf_9 (w : AW) : Nat → Nat → Int32 → Int32 → Int32 → Option (Int32)
  | 0 => fun _ _ _ _ => none
  | n + 1 => fun a0 x1 x2 x3 => F_M_monthOf_9_B (F_M_monthOf_9 w n) w a0 x1 x2 x3
theorem P_M_monthOf_9 {X : AX} {l : Launch} {G : AG} {w : AW} (hX : XOK X b_M_monthOf "RedSkyModel" 4) (hM : XM X l G { frames := 4, cells := 0, slots := 0, locals := 89 }) {o : Int32} (hR : XR X (some .int) 0 0 (some (vi o)) w) (fu : Nat) : ∀ (a0 : Nat) (x1 : Int32) (x2 : Int32) (x3 : Int32), F_M_monthOf_9 w fu a0 x1 x2 x3 = some o → RJ X 4 0 0 9 [(0, vr a0), (1, vi x1), (2, vi x2), (3, vi x3)] [] w := by
  induction fu with
  | zero => intro a0 x1 x2 x3 h; cases h
  | succ n9 ih => intro a0 x1 x2 x3 h; exact P_M_monthOf_9_B hX hM hR ih _ _ _ _ h
def F_M_monthOf (w : AW) (a0 : Nat) (x1 : Int32) : Option (Int32) :=
  gd (wk w a0 == 13) <|
  (F_M_yearOf w a0 x1).bind fun r2 =>
  F_M_monthOf_9 w FUEL a0 x1 r2 (12 : Int32)
theorem P_M_monthOf_0 {X : AX} {l : Launch} {G : AG} {w : AW} (hX : XOK X b_M_monthOf "RedSkyModel" 4) (hM : XM X l G { frames := 4, cells := 0, slots := 0, locals := 89 }) {o : Int32} (hR : XR X (some .int) 0 0 (some (vi o)) w) (a0 : Nat) (x1 : Int32) (h : F_M_monthOf w a0 x1 = some o) : RJ X 4 0 0 0 [(0, vr a0), (1, vi x1)] [] w := by
  unfold F_M_monthOf at h
  refine r_aload_n (i := 0) hX d_M_monthOf_0 0 rfl rfl ?_
  refine r_iload_n (i := 1) hX d_M_monthOf_1 1 rfl rfl ?_
  obtain ⟨hk1, h⟩ := gd_e h
  obtain ⟨r2, hr3, h⟩ := bd_e h
  refine r_callV1 (As := [_]) hX hM mw_M_113 (T_M_yearOf _ _ _ hr3) (rc_of ci_12 hk1) rfl rfl ⟨Nat.le_refl _, Nat.le_refl _⟩ rfl rfl d_M_monthOf_2 ?_
  refine r_istore_n (i := 2) hX d_M_monthOf_5 rfl (by decide) ?_
  refine r_bipush (v := (12 : Int32)) hX d_M_monthOf_6 rfl ?_
  refine r_istore_n (i := 3) hX d_M_monthOf_8 rfl (by decide) ?_
  exact rj_sub [2, 3, 1, 0] rfl (P_M_monthOf_9 hX hM hR FUEL _ _ _ _ h)
theorem T_M_monthOf {l : Launch} {G : AG} (w : AW) (a0 : Nat) (x1 : Int32) {o : Int32} (h : F_M_monthOf w a0 x1 = some o) : Mt l G y_M_monthOf b_M_monthOf 4 (some (.int)) 4 89 0 0 [vr a0, vi x1] w (some (vi o)) w := mt_of (by decide) (Nat.le_of_ble_eq_true rfl) (fun X hX hR hM hI => P_M_monthOf_0 hX hM hR _ _ h)
/-! RedSkyModel.dateOf(I)I -/
theorem d_M_dateOf_0 : decode b_M_dateOf 0 = .ok (.iload_n 1, 1) := by decide +kernel
theorem d_M_dateOf_1 : decode b_M_dateOf 1 = .ok (.aload_n 0, 1) := by decide +kernel
theorem d_M_dateOf_2 : decode b_M_dateOf 2 = .ok (.aload_n 0, 1) := by decide +kernel
theorem d_M_dateOf_3 : decode b_M_dateOf 3 = .ok (.iload_n 1, 1) := by decide +kernel
theorem d_M_dateOf_4 : decode b_M_dateOf 4 = .ok (.invokevirtual 113, 3) := by decide +kernel
theorem d_M_dateOf_7 : decode b_M_dateOf 7 = .ok (.aload_n 0, 1) := by decide +kernel
theorem d_M_dateOf_8 : decode b_M_dateOf 8 = .ok (.iload_n 1, 1) := by decide +kernel
theorem d_M_dateOf_9 : decode b_M_dateOf 9 = .ok (.invokevirtual 117, 3) := by decide +kernel
theorem d_M_dateOf_12 : decode b_M_dateOf 12 = .ok (.invokevirtual 110, 3) := by decide +kernel
theorem d_M_dateOf_15 : decode b_M_dateOf 15 = .ok (.isub, 1) := by decide +kernel
theorem d_M_dateOf_16 : decode b_M_dateOf 16 = .ok (.iconst 1, 1) := by decide +kernel
theorem d_M_dateOf_17 : decode b_M_dateOf 17 = .ok (.iadd, 1) := by decide +kernel
theorem d_M_dateOf_18 : decode b_M_dateOf 18 = .ok (.ireturn, 1) := by decide +kernel
def F_M_dateOf (w : AW) (a0 : Nat) (x1 : Int32) : Option (Int32) :=
  gd (wk w a0 == 13) <|
  (F_M_yearOf w a0 x1).bind fun r2 =>
  (F_M_monthOf w a0 x1).bind fun r4 =>
  (F_M_begin w a0 r2 r4).bind fun r6 =>
  some ((x1 - r6) + (1 : Int32))
theorem P_M_dateOf_0 {X : AX} {l : Launch} {G : AG} {w : AW} (hX : XOK X b_M_dateOf "RedSkyModel" 2) (hM : XM X l G { frames := 5, cells := 0, slots := 0, locals := 112 }) {o : Int32} (hR : XR X (some .int) 0 0 (some (vi o)) w) (a0 : Nat) (x1 : Int32) (h : F_M_dateOf w a0 x1 = some o) : RJ X 2 0 0 0 [(0, vr a0), (1, vi x1)] [] w := by
  unfold F_M_dateOf at h
  refine r_iload_n (i := 1) hX d_M_dateOf_0 1 rfl rfl ?_
  refine r_aload_n (i := 0) hX d_M_dateOf_1 0 rfl rfl ?_
  refine r_aload_n (i := 0) hX d_M_dateOf_2 0 rfl rfl ?_
  refine r_iload_n (i := 1) hX d_M_dateOf_3 1 rfl rfl ?_
  obtain ⟨hk1, h⟩ := gd_e h
  obtain ⟨r2, hr3, h⟩ := bd_e h
  refine r_callV1 (As := [_]) hX hM mw_M_113 (T_M_yearOf _ _ _ hr3) (rc_of ci_12 hk1) rfl rfl ⟨Nat.le_refl _, Nat.le_refl _⟩ rfl rfl d_M_dateOf_4 ?_
  refine r_aload_n (i := 0) hX d_M_dateOf_7 0 rfl rfl ?_
  refine r_iload_n (i := 1) hX d_M_dateOf_8 1 rfl rfl ?_
  obtain ⟨r4, hr5, h⟩ := bd_e h
  refine r_callV1 (As := [_]) hX hM mw_M_117 (T_M_monthOf _ _ _ hr5) (rc_of ci_12 hk1) rfl rfl ⟨Nat.le_refl _, Nat.le_refl _⟩ rfl rfl d_M_dateOf_9 ?_
  obtain ⟨r6, hr7, h⟩ := bd_e h
  refine r_callV1 (As := [_, _]) hX hM mw_M_110 (T_M_begin _ _ _ _ hr7) (rc_of ci_12 hk1) rfl rfl ⟨Nat.le_refl _, Nat.le_refl _⟩ rfl rfl d_M_dateOf_12 ?_
  refine r_isub hX d_M_dateOf_15 ?_
  refine r_iconst (v := (1 : Int32)) hX d_M_dateOf_16 rfl ?_
  refine r_iadd hX d_M_dateOf_17 ?_
  cases h; exact r_iret hX hR d_M_dateOf_18
theorem T_M_dateOf {l : Launch} {G : AG} (w : AW) (a0 : Nat) (x1 : Int32) {o : Int32} (h : F_M_dateOf w a0 x1 = some o) : Mt l G y_M_dateOf b_M_dateOf 2 (some (.int)) 5 112 0 0 [vr a0, vi x1] w (some (vi o)) w := mt_of (by decide) (Nat.le_of_ble_eq_true rfl) (fun X hX hR hM hI => P_M_dateOf_0 hX hM hR _ _ h)
/-! RedSkyModel.date(II)I -/
theorem d_M_date_0 : decode b_M_date 0 = .ok (.iload_n 1, 1) := by decide +kernel
theorem d_M_date_1 : decode b_M_date 1 = .ok (.invokestatic 136, 3) := by decide +kernel
theorem d_M_date_4 : decode b_M_date 4 = .ok (.ifCond .ne (6), 3) := by decide +kernel
theorem d_M_date_7 : decode b_M_date 7 = .ok (.bipush (-101), 2) := by decide +kernel
theorem d_M_date_9 : decode b_M_date 9 = .ok (.ireturn, 1) := by decide +kernel
theorem d_M_date_10 : decode b_M_date 10 = .ok (.iload_n 2, 1) := by decide +kernel
theorem d_M_date_11 : decode b_M_date 11 = .ok (.ifCond .ne (11), 3) := by decide +kernel
theorem d_M_date_14 : decode b_M_date 14 = .ok (.aload_n 0, 1) := by decide +kernel
theorem d_M_date_15 : decode b_M_date 15 = .ok (.iload_n 1, 1) := by decide +kernel
theorem d_M_date_16 : decode b_M_date 16 = .ok (.invokevirtual 113, 3) := by decide +kernel
theorem d_M_date_19 : decode b_M_date 19 = .ok (.goto (31), 3) := by decide +kernel
theorem d_M_date_22 : decode b_M_date 22 = .ok (.iload_n 2, 1) := by decide +kernel
theorem d_M_date_23 : decode b_M_date 23 = .ok (.iconst 1, 1) := by decide +kernel
theorem d_M_date_24 : decode b_M_date 24 = .ok (.if_icmp .ne (11), 3) := by decide +kernel
theorem d_M_date_27 : decode b_M_date 27 = .ok (.aload_n 0, 1) := by decide +kernel
theorem d_M_date_28 : decode b_M_date 28 = .ok (.iload_n 1, 1) := by decide +kernel
theorem d_M_date_29 : decode b_M_date 29 = .ok (.invokevirtual 117, 3) := by decide +kernel
theorem d_M_date_32 : decode b_M_date 32 = .ok (.goto (18), 3) := by decide +kernel
theorem d_M_date_35 : decode b_M_date 35 = .ok (.iload_n 2, 1) := by decide +kernel
theorem d_M_date_36 : decode b_M_date 36 = .ok (.iconst 2, 1) := by decide +kernel
theorem d_M_date_37 : decode b_M_date 37 = .ok (.if_icmp .ne (11), 3) := by decide +kernel
theorem d_M_date_40 : decode b_M_date 40 = .ok (.aload_n 0, 1) := by decide +kernel
theorem d_M_date_41 : decode b_M_date 41 = .ok (.iload_n 1, 1) := by decide +kernel
theorem d_M_date_42 : decode b_M_date 42 = .ok (.invokevirtual 139, 3) := by decide +kernel
theorem d_M_date_45 : decode b_M_date 45 = .ok (.goto (5), 3) := by decide +kernel
theorem d_M_date_48 : decode b_M_date 48 = .ok (.bipush (-102), 2) := by decide +kernel
theorem d_M_date_50 : decode b_M_date 50 = .ok (.ireturn, 1) := by decide +kernel
def F_M_date (w : AW) (a0 : Nat) (x1 : Int32) (x2 : Int32) : Option (Int32) :=
  if (F_M_isDay x1) = 0 then
    some (-101 : Int32)
  else
    if x2 = 0 then
      gd (wk w a0 == 13) <|
      (F_M_yearOf w a0 x1).bind fun r8 =>
      some r8
    else
      if x2 = (1 : Int32) then
        gd (wk w a0 == 13) <|
        (F_M_monthOf w a0 x1).bind fun r5 =>
        some r5
      else
        if x2 = (2 : Int32) then
          gd (wk w a0 == 13) <|
          (F_M_dateOf w a0 x1).bind fun r2 =>
          some r2
        else
          some (-102 : Int32)
theorem P_M_date_0 {X : AX} {l : Launch} {G : AG} {w : AW} (hX : XOK X b_M_date "RedSkyModel" 3) (hM : XM X l G { frames := 6, cells := 0, slots := 0, locals := 133 }) {o : Int32} (hR : XR X (some .int) 0 0 (some (vi o)) w) (a0 : Nat) (x1 : Int32) (x2 : Int32) (h : F_M_date w a0 x1 x2 = some o) : RJ X 3 0 0 0 [(0, vr a0), (1, vi x1), (2, vi x2)] [] w := by
  unfold F_M_date at h
  refine r_iload_n (i := 1) hX d_M_date_0 1 rfl rfl ?_
  refine r_callS1 (As := [_]) hX hM mw_M_136 (T_M_isDay _ _) rfl rfl ⟨Nat.le_refl _, Nat.le_refl _⟩ rfl rfl d_M_date_1 ?_
  refine r_if_ne hX d_M_date_4 rfl h (fun h => ?_) (fun h => ?_)
  · refine r_iload_n (i := 2) hX d_M_date_10 2 rfl rfl ?_
    refine r_if_ne hX d_M_date_11 rfl h (fun h => ?_) (fun h => ?_)
    · refine r_iload_n (i := 2) hX d_M_date_22 2 rfl rfl ?_
      refine r_iconst (v := (1 : Int32)) hX d_M_date_23 rfl ?_
      refine r_icmp_ne hX d_M_date_24 rfl h (fun h => ?_) (fun h => ?_)
      · refine r_iload_n (i := 2) hX d_M_date_35 2 rfl rfl ?_
        refine r_iconst (v := (2 : Int32)) hX d_M_date_36 rfl ?_
        refine r_icmp_ne hX d_M_date_37 rfl h (fun h => ?_) (fun h => ?_)
        · refine r_bipush (v := (-102 : Int32)) hX d_M_date_48 rfl ?_
          cases h; exact r_iret hX hR d_M_date_50
        · refine r_aload_n (i := 0) hX d_M_date_40 0 rfl rfl ?_
          refine r_iload_n (i := 1) hX d_M_date_41 1 rfl rfl ?_
          obtain ⟨hk1, h⟩ := gd_e h
          obtain ⟨r2, hr3, h⟩ := bd_e h
          refine r_callV1 (As := [_]) hX hM mw_M_139 (T_M_dateOf _ _ _ hr3) (rc_of ci_12 hk1) rfl rfl ⟨Nat.le_refl _, Nat.le_refl _⟩ rfl rfl d_M_date_42 ?_
          refine r_goto hX d_M_date_45 rfl ?_
          cases h; exact r_iret hX hR d_M_date_50
      · refine r_aload_n (i := 0) hX d_M_date_27 0 rfl rfl ?_
        refine r_iload_n (i := 1) hX d_M_date_28 1 rfl rfl ?_
        obtain ⟨hk4, h⟩ := gd_e h
        obtain ⟨r5, hr6, h⟩ := bd_e h
        refine r_callV1 (As := [_]) hX hM mw_M_117 (T_M_monthOf _ _ _ hr6) (rc_of ci_12 hk4) rfl rfl ⟨Nat.le_refl _, Nat.le_refl _⟩ rfl rfl d_M_date_29 ?_
        refine r_goto hX d_M_date_32 rfl ?_
        cases h; exact r_iret hX hR d_M_date_50
    · refine r_aload_n (i := 0) hX d_M_date_14 0 rfl rfl ?_
      refine r_iload_n (i := 1) hX d_M_date_15 1 rfl rfl ?_
      obtain ⟨hk7, h⟩ := gd_e h
      obtain ⟨r8, hr9, h⟩ := bd_e h
      refine r_callV1 (As := [_]) hX hM mw_M_113 (T_M_yearOf _ _ _ hr9) (rc_of ci_12 hk7) rfl rfl ⟨Nat.le_refl _, Nat.le_refl _⟩ rfl rfl d_M_date_16 ?_
      refine r_goto hX d_M_date_19 rfl ?_
      cases h; exact r_iret hX hR d_M_date_50
  · refine r_bipush (v := (-101 : Int32)) hX d_M_date_7 rfl ?_
    cases h; exact r_iret hX hR d_M_date_9
theorem T_M_date {l : Launch} {G : AG} (w : AW) (a0 : Nat) (x1 : Int32) (x2 : Int32) {o : Int32} (h : F_M_date w a0 x1 x2 = some o) : Mt l G y_M_date b_M_date 3 (some (.int)) 6 133 0 0 [vr a0, vi x1, vi x2] w (some (vi o)) w := mt_of (by decide) (Nat.le_of_ble_eq_true rfl) (fun X hX hR hM hI => P_M_date_0 hX hM hR _ _ _ h)
/-! RedSky.saint(IIIII)I -/
theorem d_A_saint_0 : decode b_A_saint 0 = .ok (.iload_n 1, 1) := by decide +kernel
theorem d_A_saint_1 : decode b_A_saint 1 = .ok (.iconst 0, 1) := by decide +kernel
theorem d_A_saint_2 : decode b_A_saint 2 = .ok (.bipush (7), 2) := by decide +kernel
theorem d_A_saint_4 : decode b_A_saint 4 = .ok (.invokestatic 86, 3) := by decide +kernel
theorem d_A_saint_7 : decode b_A_saint 7 = .ok (.ifCond .ne (6), 3) := by decide +kernel
theorem d_A_saint_10 : decode b_A_saint 10 = .ok (.bipush (-101), 2) := by decide +kernel
theorem d_A_saint_12 : decode b_A_saint 12 = .ok (.ireturn, 1) := by decide +kernel
theorem d_A_saint_13 : decode b_A_saint 13 = .ok (.iload_n 2, 1) := by decide +kernel
theorem d_A_saint_14 : decode b_A_saint 14 = .ok (.invokestatic 101, 3) := by decide +kernel
theorem d_A_saint_17 : decode b_A_saint 17 = .ok (.ifCond .eq (30), 3) := by decide +kernel
theorem d_A_saint_20 : decode b_A_saint 20 = .ok (.iload_n 3, 1) := by decide +kernel
theorem d_A_saint_21 : decode b_A_saint 21 = .ok (.invokestatic 104, 3) := by decide +kernel
theorem d_A_saint_24 : decode b_A_saint 24 = .ok (.ifCond .eq (23), 3) := by decide +kernel
theorem d_A_saint_27 : decode b_A_saint 27 = .ok (.iload 4, 2) := by decide +kernel
theorem d_A_saint_29 : decode b_A_saint 29 = .ok (.invokestatic 97, 3) := by decide +kernel
theorem d_A_saint_32 : decode b_A_saint 32 = .ok (.ifCond .eq (15), 3) := by decide +kernel
theorem d_A_saint_35 : decode b_A_saint 35 = .ok (.iload 5, 2) := by decide +kernel
theorem d_A_saint_37 : decode b_A_saint 37 = .ok (.bipush (-30), 2) := by decide +kernel
theorem d_A_saint_39 : decode b_A_saint 39 = .ok (.bipush (30), 2) := by decide +kernel
theorem d_A_saint_41 : decode b_A_saint 41 = .ok (.invokestatic 86, 3) := by decide +kernel
theorem d_A_saint_44 : decode b_A_saint 44 = .ok (.ifCond .ne (6), 3) := by decide +kernel
theorem d_A_saint_47 : decode b_A_saint 47 = .ok (.bipush (-102), 2) := by decide +kernel
theorem d_A_saint_49 : decode b_A_saint 49 = .ok (.ireturn, 1) := by decide +kernel
theorem d_A_saint_50 : decode b_A_saint 50 = .ok (.aload_n 0, 1) := by decide +kernel
theorem d_A_saint_51 : decode b_A_saint 51 = .ok (.getfield 10, 3) := by decide +kernel
theorem d_A_saint_54 : decode b_A_saint 54 = .ok (.getfield 124, 3) := by decide +kernel
theorem d_A_saint_57 : decode b_A_saint 57 = .ok (.iload_n 1, 1) := by decide +kernel
theorem d_A_saint_58 : decode b_A_saint 58 = .ok (.iload_n 2, 1) := by decide +kernel
theorem d_A_saint_59 : decode b_A_saint 59 = .ok (.iastore, 1) := by decide +kernel
theorem d_A_saint_60 : decode b_A_saint 60 = .ok (.aload_n 0, 1) := by decide +kernel
theorem d_A_saint_61 : decode b_A_saint 61 = .ok (.getfield 10, 3) := by decide +kernel
theorem d_A_saint_64 : decode b_A_saint 64 = .ok (.getfield 128, 3) := by decide +kernel
theorem d_A_saint_67 : decode b_A_saint 67 = .ok (.iload_n 1, 1) := by decide +kernel
theorem d_A_saint_68 : decode b_A_saint 68 = .ok (.iload_n 3, 1) := by decide +kernel
theorem d_A_saint_69 : decode b_A_saint 69 = .ok (.iastore, 1) := by decide +kernel
theorem d_A_saint_70 : decode b_A_saint 70 = .ok (.aload_n 0, 1) := by decide +kernel
theorem d_A_saint_71 : decode b_A_saint 71 = .ok (.getfield 10, 3) := by decide +kernel
theorem d_A_saint_74 : decode b_A_saint 74 = .ok (.getfield 131, 3) := by decide +kernel
theorem d_A_saint_77 : decode b_A_saint 77 = .ok (.iload_n 1, 1) := by decide +kernel
theorem d_A_saint_78 : decode b_A_saint 78 = .ok (.iload 4, 2) := by decide +kernel
theorem d_A_saint_80 : decode b_A_saint 80 = .ok (.iastore, 1) := by decide +kernel
theorem d_A_saint_81 : decode b_A_saint 81 = .ok (.aload_n 0, 1) := by decide +kernel
theorem d_A_saint_82 : decode b_A_saint 82 = .ok (.getfield 10, 3) := by decide +kernel
theorem d_A_saint_85 : decode b_A_saint 85 = .ok (.getfield 134, 3) := by decide +kernel
theorem d_A_saint_88 : decode b_A_saint 88 = .ok (.iload_n 1, 1) := by decide +kernel
theorem d_A_saint_89 : decode b_A_saint 89 = .ok (.iload 5, 2) := by decide +kernel
theorem d_A_saint_91 : decode b_A_saint 91 = .ok (.iastore, 1) := by decide +kernel
theorem d_A_saint_92 : decode b_A_saint 92 = .ok (.iconst 1, 1) := by decide +kernel
theorem d_A_saint_93 : decode b_A_saint 93 = .ok (.ireturn, 1) := by decide +kernel
def F_A_saint (a0 : Nat) (x1 : Int32) (x2 : Int32) (x3 : Int32) (x4 : Int32) (x5 : Int32) (w : AW) : Option (Int32 × AW) :=
  if (F_A_within x1 (0 : Int32) (7 : Int32)) = 0 then
    some ((-101 : Int32), w)
  else
    if (F_A_isMonth x2) = 0 then
      some ((-102 : Int32), w)
    else
      if (F_A_isDate x3) = 0 then
        some ((-102 : Int32), w)
      else
        if (F_A_isYear x4) = 0 then
          some ((-102 : Int32), w)
        else
          if (F_A_within x5 (-30 : Int32) (30 : Int32)) = 0 then
            some ((-102 : Int32), w)
          else
            gd (wk w a0 == 1) <|
            gd (wk w (wr w a0 0) == 2) <|
            gd (wk w (wr w (wr w a0 0) 1) == 100) <|
            gd (inb x1 (wn w (wr w (wr w a0 0) 1))) <|
            let w5 : AW := upI w (wr w (wr w a0 0) 1) (Int32.toNatClampNeg x1) x2
            gd (wk w5 (wr w5 a0 0) == 2) <|
            gd (wk w5 (wr w5 (wr w5 a0 0) 2) == 100) <|
            gd (inb x1 (wn w5 (wr w5 (wr w5 a0 0) 2))) <|
            let w9 : AW := upI w5 (wr w5 (wr w5 a0 0) 2) (Int32.toNatClampNeg x1) x3
            gd (wk w9 (wr w9 a0 0) == 2) <|
            gd (wk w9 (wr w9 (wr w9 a0 0) 3) == 100) <|
            gd (inb x1 (wn w9 (wr w9 (wr w9 a0 0) 3))) <|
            let w13 : AW := upI w9 (wr w9 (wr w9 a0 0) 3) (Int32.toNatClampNeg x1) x4
            gd (wk w13 (wr w13 a0 0) == 2) <|
            gd (wk w13 (wr w13 (wr w13 a0 0) 4) == 100) <|
            gd (inb x1 (wn w13 (wr w13 (wr w13 a0 0) 4))) <|
            let w17 : AW := upI w13 (wr w13 (wr w13 a0 0) 4) (Int32.toNatClampNeg x1) x5
            some ((1 : Int32), w17)
theorem P_A_saint_0 {X : AX} {l : Launch} {G : AG} (hX : XOK X b_A_saint "RedSky" 6) (hM : XM X l G { frames := 2, cells := 0, slots := 0, locals := 42 }) {o : Int32 × AW} (hR : XR X (some .int) 0 0 (some (vi o.1)) o.2) (a0 : Nat) (x1 : Int32) (x2 : Int32) (x3 : Int32) (x4 : Int32) (x5 : Int32) (w : AW) (h : F_A_saint a0 x1 x2 x3 x4 x5 w = some o) : RJ X 6 0 0 0 [(0, vr a0), (1, vi x1), (2, vi x2), (3, vi x3), (4, vi x4), (5, vi x5)] [] w := by
  unfold F_A_saint at h
  refine r_iload_n (i := 1) hX d_A_saint_0 1 rfl rfl ?_
  refine r_iconst (v := (0 : Int32)) hX d_A_saint_1 rfl ?_
  refine r_bipush (v := (7 : Int32)) hX d_A_saint_2 rfl ?_
  refine r_callS1 (As := [_, _, _]) hX hM mw_A_86 (T_A_within _ _ _ _) rfl rfl ⟨Nat.le_refl _, Nat.le_refl _⟩ rfl rfl d_A_saint_4 ?_
  refine r_if_ne hX d_A_saint_7 rfl h (fun h => ?_) (fun h => ?_)
  · refine r_iload_n (i := 2) hX d_A_saint_13 2 rfl rfl ?_
    refine r_callS1 (As := [_]) hX hM mw_A_101 (T_A_isMonth _ _) rfl rfl ⟨Nat.le_refl _, Nat.le_refl _⟩ rfl rfl d_A_saint_14 ?_
    refine r_if_eq hX d_A_saint_17 rfl h (fun h => ?_) (fun h => ?_)
    · refine r_bipush (v := (-102 : Int32)) hX d_A_saint_47 rfl ?_
      cases h; exact r_iret hX hR d_A_saint_49
    · refine r_iload_n (i := 3) hX d_A_saint_20 3 rfl rfl ?_
      refine r_callS1 (As := [_]) hX hM mw_A_104 (T_A_isDate _ _) rfl rfl ⟨Nat.le_refl _, Nat.le_refl _⟩ rfl rfl d_A_saint_21 ?_
      refine r_if_eq hX d_A_saint_24 rfl h (fun h => ?_) (fun h => ?_)
      · refine r_bipush (v := (-102 : Int32)) hX d_A_saint_47 rfl ?_
        cases h; exact r_iret hX hR d_A_saint_49
      · refine r_iload (i := 4) hX d_A_saint_27 4  rfl ?_
        refine r_callS1 (As := [_]) hX hM mw_A_97 (T_A_isYear _ _) rfl rfl ⟨Nat.le_refl _, Nat.le_refl _⟩ rfl rfl d_A_saint_29 ?_
        refine r_if_eq hX d_A_saint_32 rfl h (fun h => ?_) (fun h => ?_)
        · refine r_bipush (v := (-102 : Int32)) hX d_A_saint_47 rfl ?_
          cases h; exact r_iret hX hR d_A_saint_49
        · refine r_iload (i := 5) hX d_A_saint_35 5  rfl ?_
          refine r_bipush (v := (-30 : Int32)) hX d_A_saint_37 rfl ?_
          refine r_bipush (v := (30 : Int32)) hX d_A_saint_39 rfl ?_
          refine r_callS1 (As := [_, _, _]) hX hM mw_A_86 (T_A_within _ _ _ _) rfl rfl ⟨Nat.le_refl _, Nat.le_refl _⟩ rfl rfl d_A_saint_41 ?_
          refine r_if_ne hX d_A_saint_44 rfl h (fun h => ?_) (fun h => ?_)
          · refine r_aload_n (i := 0) hX d_A_saint_50 0 rfl rfl ?_
            obtain ⟨hk1, h⟩ := gd_e h
            refine r_getR (i := 0) (f := 0) hX ci_0 (by decide) rfl fl_A_10 hk1 d_A_saint_51 ?_
            obtain ⟨hk2, h⟩ := gd_e h
            refine r_getR (i := 1) (f := 1) hX ci_1 (by decide) rfl fl_A_124 hk2 d_A_saint_54 ?_
            refine r_iload_n (i := 1) hX d_A_saint_57 1 rfl rfl ?_
            refine r_iload_n (i := 2) hX d_A_saint_58 2 rfl rfl ?_
            obtain ⟨hk3, h⟩ := gd_e h
            obtain ⟨hg4, h⟩ := gd_e h
            refine r_iast hX hk3 hg4 d_A_saint_59 ?_
            refine r_aload_n (i := 0) hX d_A_saint_60 0 rfl rfl ?_
            refine r_getR (i := 0) (f := 0) hX ci_0 (by decide) rfl fl_A_10 (kI hk1) d_A_saint_61 ?_
            obtain ⟨hk6, h⟩ := gd_e h
            refine r_getR (i := 1) (f := 2) hX ci_1 (by decide) rfl fl_A_128 hk6 d_A_saint_64 ?_
            refine r_iload_n (i := 1) hX d_A_saint_67 1 rfl rfl ?_
            refine r_iload_n (i := 3) hX d_A_saint_68 3 rfl rfl ?_
            obtain ⟨hk7, h⟩ := gd_e h
            obtain ⟨hg8, h⟩ := gd_e h
            refine r_iast hX hk7 hg8 d_A_saint_69 ?_
            refine r_aload_n (i := 0) hX d_A_saint_70 0 rfl rfl ?_
            refine r_getR (i := 0) (f := 0) hX ci_0 (by decide) rfl fl_A_10 (kI (kI hk1)) d_A_saint_71 ?_
            obtain ⟨hk10, h⟩ := gd_e h
            refine r_getR (i := 1) (f := 3) hX ci_1 (by decide) rfl fl_A_131 hk10 d_A_saint_74 ?_
            refine r_iload_n (i := 1) hX d_A_saint_77 1 rfl rfl ?_
            refine r_iload (i := 4) hX d_A_saint_78 4  rfl ?_
            obtain ⟨hk11, h⟩ := gd_e h
            obtain ⟨hg12, h⟩ := gd_e h
            refine r_iast hX hk11 hg12 d_A_saint_80 ?_
            refine r_aload_n (i := 0) hX d_A_saint_81 0 rfl rfl ?_
            refine r_getR (i := 0) (f := 0) hX ci_0 (by decide) rfl fl_A_10 (kI (kI (kI hk1))) d_A_saint_82 ?_
            obtain ⟨hk14, h⟩ := gd_e h
            refine r_getR (i := 1) (f := 4) hX ci_1 (by decide) rfl fl_A_134 hk14 d_A_saint_85 ?_
            refine r_iload_n (i := 1) hX d_A_saint_88 1 rfl rfl ?_
            refine r_iload (i := 5) hX d_A_saint_89 5  rfl ?_
            obtain ⟨hk15, h⟩ := gd_e h
            obtain ⟨hg16, h⟩ := gd_e h
            refine r_iast hX hk15 hg16 d_A_saint_91 ?_
            refine r_iconst (v := (1 : Int32)) hX d_A_saint_92 rfl ?_
            cases h; exact r_iret hX hR d_A_saint_93
          · refine r_bipush (v := (-102 : Int32)) hX d_A_saint_47 rfl ?_
            cases h; exact r_iret hX hR d_A_saint_49
  · refine r_bipush (v := (-101 : Int32)) hX d_A_saint_10 rfl ?_
    cases h; exact r_iret hX hR d_A_saint_12
theorem T_A_saint {l : Launch} {G : AG} (a0 : Nat) (x1 : Int32) (x2 : Int32) (x3 : Int32) (x4 : Int32) (x5 : Int32) (w : AW) {o : Int32 × AW} (h : F_A_saint a0 x1 x2 x3 x4 x5 w = some o) : Mt l G y_A_saint b_A_saint 6 (some (.int)) 2 42 0 0 [vr a0, vi x1, vi x2, vi x3, vi x4, vi x5] w (some (vi o.1)) o.2 := mt_of (by decide) (Nat.le_of_ble_eq_true rfl) (fun X hX hR hM hI => P_A_saint_0 hX hM hR _ _ _ _ _ _ _ h)
/-! RedSkyModel.saint(IIIII)I -/
theorem d_M_saint_0 : decode b_M_saint 0 = .ok (.iload_n 1, 1) := by decide +kernel
theorem d_M_saint_1 : decode b_M_saint 1 = .ok (.i2l, 1) := by decide +kernel
theorem d_M_saint_2 : decode b_M_saint 2 = .ok (.lconst 0, 1) := by decide +kernel
theorem d_M_saint_3 : decode b_M_saint 3 = .ok (.ldc2_w 142, 3) := by decide +kernel
theorem d_M_saint_6 : decode b_M_saint 6 = .ok (.invokestatic 122, 3) := by decide +kernel
theorem d_M_saint_9 : decode b_M_saint 9 = .ok (.ifCond .ne (6), 3) := by decide +kernel
theorem d_M_saint_12 : decode b_M_saint 12 = .ok (.bipush (-101), 2) := by decide +kernel
theorem d_M_saint_14 : decode b_M_saint 14 = .ok (.ireturn, 1) := by decide +kernel
theorem d_M_saint_15 : decode b_M_saint 15 = .ok (.iload_n 2, 1) := by decide +kernel
theorem d_M_saint_16 : decode b_M_saint 16 = .ok (.i2l, 1) := by decide +kernel
theorem d_M_saint_17 : decode b_M_saint 17 = .ok (.lconst 1, 1) := by decide +kernel
theorem d_M_saint_18 : decode b_M_saint 18 = .ok (.ldc2_w 128, 3) := by decide +kernel
theorem d_M_saint_21 : decode b_M_saint 21 = .ok (.invokestatic 122, 3) := by decide +kernel
theorem d_M_saint_24 : decode b_M_saint 24 = .ok (.ifCond .eq (43), 3) := by decide +kernel
theorem d_M_saint_27 : decode b_M_saint 27 = .ok (.iload_n 3, 1) := by decide +kernel
theorem d_M_saint_28 : decode b_M_saint 28 = .ok (.i2l, 1) := by decide +kernel
theorem d_M_saint_29 : decode b_M_saint 29 = .ok (.lconst 1, 1) := by decide +kernel
theorem d_M_saint_30 : decode b_M_saint 30 = .ok (.ldc2_w 130, 3) := by decide +kernel
theorem d_M_saint_33 : decode b_M_saint 33 = .ok (.invokestatic 122, 3) := by decide +kernel
theorem d_M_saint_36 : decode b_M_saint 36 = .ok (.ifCond .eq (31), 3) := by decide +kernel
theorem d_M_saint_39 : decode b_M_saint 39 = .ok (.iload 4, 2) := by decide +kernel
theorem d_M_saint_41 : decode b_M_saint 41 = .ok (.i2l, 1) := by decide +kernel
theorem d_M_saint_42 : decode b_M_saint 42 = .ok (.lconst 0, 1) := by decide +kernel
theorem d_M_saint_43 : decode b_M_saint 43 = .ok (.ldc2_w 126, 3) := by decide +kernel
theorem d_M_saint_46 : decode b_M_saint 46 = .ok (.invokestatic 122, 3) := by decide +kernel
theorem d_M_saint_49 : decode b_M_saint 49 = .ok (.ifCond .eq (18), 3) := by decide +kernel
theorem d_M_saint_52 : decode b_M_saint 52 = .ok (.iload 5, 2) := by decide +kernel
theorem d_M_saint_54 : decode b_M_saint 54 = .ok (.i2l, 1) := by decide +kernel
theorem d_M_saint_55 : decode b_M_saint 55 = .ok (.ldc2_w 144, 3) := by decide +kernel
theorem d_M_saint_58 : decode b_M_saint 58 = .ok (.ldc2_w 146, 3) := by decide +kernel
theorem d_M_saint_61 : decode b_M_saint 61 = .ok (.invokestatic 122, 3) := by decide +kernel
theorem d_M_saint_64 : decode b_M_saint 64 = .ok (.ifCond .ne (6), 3) := by decide +kernel
theorem d_M_saint_67 : decode b_M_saint 67 = .ok (.bipush (-102), 2) := by decide +kernel
theorem d_M_saint_69 : decode b_M_saint 69 = .ok (.ireturn, 1) := by decide +kernel
theorem d_M_saint_70 : decode b_M_saint 70 = .ok (.aload_n 0, 1) := by decide +kernel
theorem d_M_saint_71 : decode b_M_saint 71 = .ok (.getfield 7, 3) := by decide +kernel
theorem d_M_saint_74 : decode b_M_saint 74 = .ok (.iload_n 1, 1) := by decide +kernel
theorem d_M_saint_75 : decode b_M_saint 75 = .ok (.iload_n 2, 1) := by decide +kernel
theorem d_M_saint_76 : decode b_M_saint 76 = .ok (.iastore, 1) := by decide +kernel
theorem d_M_saint_77 : decode b_M_saint 77 = .ok (.aload_n 0, 1) := by decide +kernel
theorem d_M_saint_78 : decode b_M_saint 78 = .ok (.getfield 13, 3) := by decide +kernel
theorem d_M_saint_81 : decode b_M_saint 81 = .ok (.iload_n 1, 1) := by decide +kernel
theorem d_M_saint_82 : decode b_M_saint 82 = .ok (.iload_n 3, 1) := by decide +kernel
theorem d_M_saint_83 : decode b_M_saint 83 = .ok (.iastore, 1) := by decide +kernel
theorem d_M_saint_84 : decode b_M_saint 84 = .ok (.aload_n 0, 1) := by decide +kernel
theorem d_M_saint_85 : decode b_M_saint 85 = .ok (.getfield 16, 3) := by decide +kernel
theorem d_M_saint_88 : decode b_M_saint 88 = .ok (.iload_n 1, 1) := by decide +kernel
theorem d_M_saint_89 : decode b_M_saint 89 = .ok (.iload 4, 2) := by decide +kernel
theorem d_M_saint_91 : decode b_M_saint 91 = .ok (.iastore, 1) := by decide +kernel
theorem d_M_saint_92 : decode b_M_saint 92 = .ok (.aload_n 0, 1) := by decide +kernel
theorem d_M_saint_93 : decode b_M_saint 93 = .ok (.getfield 19, 3) := by decide +kernel
theorem d_M_saint_96 : decode b_M_saint 96 = .ok (.iload_n 1, 1) := by decide +kernel
theorem d_M_saint_97 : decode b_M_saint 97 = .ok (.iload 5, 2) := by decide +kernel
theorem d_M_saint_99 : decode b_M_saint 99 = .ok (.iastore, 1) := by decide +kernel
theorem d_M_saint_100 : decode b_M_saint 100 = .ok (.iconst 1, 1) := by decide +kernel
theorem d_M_saint_101 : decode b_M_saint 101 = .ok (.ireturn, 1) := by decide +kernel
def F_M_saint (a0 : Nat) (x1 : Int32) (x2 : Int32) (x3 : Int32) (x4 : Int32) (x5 : Int32) (w : AW) : Option (Int32 × AW) :=
  if (F_M_in (Int32.toInt64 x1) (0 : Int64) (7 : Int64)) = 0 then
    some ((-101 : Int32), w)
  else
    if (F_M_in (Int32.toInt64 x2) (1 : Int64) (12 : Int64)) = 0 then
      some ((-102 : Int32), w)
    else
      if (F_M_in (Int32.toInt64 x3) (1 : Int64) (31 : Int64)) = 0 then
        some ((-102 : Int32), w)
      else
        if (F_M_in (Int32.toInt64 x4) (0 : Int64) (3 : Int64)) = 0 then
          some ((-102 : Int32), w)
        else
          if (F_M_in (Int32.toInt64 x5) (-30 : Int64) (30 : Int64)) = 0 then
            some ((-102 : Int32), w)
          else
            gd (wk w a0 == 13) <|
            gd (wk w (wr w a0 1) == 100) <|
            gd (inb x1 (wn w (wr w a0 1))) <|
            let w4 : AW := upI w (wr w a0 1) (Int32.toNatClampNeg x1) x2
            gd (wk w4 (wr w4 a0 2) == 100) <|
            gd (inb x1 (wn w4 (wr w4 a0 2))) <|
            let w7 : AW := upI w4 (wr w4 a0 2) (Int32.toNatClampNeg x1) x3
            gd (wk w7 (wr w7 a0 3) == 100) <|
            gd (inb x1 (wn w7 (wr w7 a0 3))) <|
            let w10 : AW := upI w7 (wr w7 a0 3) (Int32.toNatClampNeg x1) x4
            gd (wk w10 (wr w10 a0 4) == 100) <|
            gd (inb x1 (wn w10 (wr w10 a0 4))) <|
            let w13 : AW := upI w10 (wr w10 a0 4) (Int32.toNatClampNeg x1) x5
            some ((1 : Int32), w13)
theorem P_M_saint_0 {X : AX} {l : Launch} {G : AG} (hX : XOK X b_M_saint "RedSkyModel" 6) (hM : XM X l G { frames := 1, cells := 0, slots := 0, locals := 25 }) {o : Int32 × AW} (hR : XR X (some .int) 0 0 (some (vi o.1)) o.2) (a0 : Nat) (x1 : Int32) (x2 : Int32) (x3 : Int32) (x4 : Int32) (x5 : Int32) (w : AW) (h : F_M_saint a0 x1 x2 x3 x4 x5 w = some o) : RJ X 6 0 0 0 [(0, vr a0), (1, vi x1), (2, vi x2), (3, vi x3), (4, vi x4), (5, vi x5)] [] w := by
  unfold F_M_saint at h
  refine r_iload_n (i := 1) hX d_M_saint_0 1 rfl rfl ?_
  refine r_i2l hX d_M_saint_1 ?_
  refine r_lconst (v := (0 : Int64)) hX d_M_saint_2 rfl ?_
  refine r_ldc2 hX d_M_saint_3 cw_M_142 ?_
  refine r_callS1 (As := [_, _, _]) hX hM mw_M_122 (T_M_in _ _ _ _) rfl rfl ⟨Nat.le_refl _, Nat.le_refl _⟩ rfl rfl d_M_saint_6 ?_
  refine r_if_ne hX d_M_saint_9 rfl h (fun h => ?_) (fun h => ?_)
  · refine r_iload_n (i := 2) hX d_M_saint_15 2 rfl rfl ?_
    refine r_i2l hX d_M_saint_16 ?_
    refine r_lconst (v := (1 : Int64)) hX d_M_saint_17 rfl ?_
    refine r_ldc2 hX d_M_saint_18 cw_M_128 ?_
    refine r_callS1 (As := [_, _, _]) hX hM mw_M_122 (T_M_in _ _ _ _) rfl rfl ⟨Nat.le_refl _, Nat.le_refl _⟩ rfl rfl d_M_saint_21 ?_
    refine r_if_eq hX d_M_saint_24 rfl h (fun h => ?_) (fun h => ?_)
    · refine r_bipush (v := (-102 : Int32)) hX d_M_saint_67 rfl ?_
      cases h; exact r_iret hX hR d_M_saint_69
    · refine r_iload_n (i := 3) hX d_M_saint_27 3 rfl rfl ?_
      refine r_i2l hX d_M_saint_28 ?_
      refine r_lconst (v := (1 : Int64)) hX d_M_saint_29 rfl ?_
      refine r_ldc2 hX d_M_saint_30 cw_M_130 ?_
      refine r_callS1 (As := [_, _, _]) hX hM mw_M_122 (T_M_in _ _ _ _) rfl rfl ⟨Nat.le_refl _, Nat.le_refl _⟩ rfl rfl d_M_saint_33 ?_
      refine r_if_eq hX d_M_saint_36 rfl h (fun h => ?_) (fun h => ?_)
      · refine r_bipush (v := (-102 : Int32)) hX d_M_saint_67 rfl ?_
        cases h; exact r_iret hX hR d_M_saint_69
      · refine r_iload (i := 4) hX d_M_saint_39 4  rfl ?_
        refine r_i2l hX d_M_saint_41 ?_
        refine r_lconst (v := (0 : Int64)) hX d_M_saint_42 rfl ?_
        refine r_ldc2 hX d_M_saint_43 cw_M_126 ?_
        refine r_callS1 (As := [_, _, _]) hX hM mw_M_122 (T_M_in _ _ _ _) rfl rfl ⟨Nat.le_refl _, Nat.le_refl _⟩ rfl rfl d_M_saint_46 ?_
        refine r_if_eq hX d_M_saint_49 rfl h (fun h => ?_) (fun h => ?_)
        · refine r_bipush (v := (-102 : Int32)) hX d_M_saint_67 rfl ?_
          cases h; exact r_iret hX hR d_M_saint_69
        · refine r_iload (i := 5) hX d_M_saint_52 5  rfl ?_
          refine r_i2l hX d_M_saint_54 ?_
          refine r_ldc2 hX d_M_saint_55 cw_M_144 ?_
          refine r_ldc2 hX d_M_saint_58 cw_M_146 ?_
          refine r_callS1 (As := [_, _, _]) hX hM mw_M_122 (T_M_in _ _ _ _) rfl rfl ⟨Nat.le_refl _, Nat.le_refl _⟩ rfl rfl d_M_saint_61 ?_
          refine r_if_ne hX d_M_saint_64 rfl h (fun h => ?_) (fun h => ?_)
          · refine r_aload_n (i := 0) hX d_M_saint_70 0 rfl rfl ?_
            obtain ⟨hk1, h⟩ := gd_e h
            refine r_getR (i := 12) (f := 1) hX ci_12 (by decide) rfl fl_M_7 hk1 d_M_saint_71 ?_
            refine r_iload_n (i := 1) hX d_M_saint_74 1 rfl rfl ?_
            refine r_iload_n (i := 2) hX d_M_saint_75 2 rfl rfl ?_
            obtain ⟨hk2, h⟩ := gd_e h
            obtain ⟨hg3, h⟩ := gd_e h
            refine r_iast hX hk2 hg3 d_M_saint_76 ?_
            refine r_aload_n (i := 0) hX d_M_saint_77 0 rfl rfl ?_
            refine r_getR (i := 12) (f := 2) hX ci_12 (by decide) rfl fl_M_13 (kI hk1) d_M_saint_78 ?_
            refine r_iload_n (i := 1) hX d_M_saint_81 1 rfl rfl ?_
            refine r_iload_n (i := 3) hX d_M_saint_82 3 rfl rfl ?_
            obtain ⟨hk5, h⟩ := gd_e h
            obtain ⟨hg6, h⟩ := gd_e h
            refine r_iast hX hk5 hg6 d_M_saint_83 ?_
            refine r_aload_n (i := 0) hX d_M_saint_84 0 rfl rfl ?_
            refine r_getR (i := 12) (f := 3) hX ci_12 (by decide) rfl fl_M_16 (kI (kI hk1)) d_M_saint_85 ?_
            refine r_iload_n (i := 1) hX d_M_saint_88 1 rfl rfl ?_
            refine r_iload (i := 4) hX d_M_saint_89 4  rfl ?_
            obtain ⟨hk8, h⟩ := gd_e h
            obtain ⟨hg9, h⟩ := gd_e h
            refine r_iast hX hk8 hg9 d_M_saint_91 ?_
            refine r_aload_n (i := 0) hX d_M_saint_92 0 rfl rfl ?_
            refine r_getR (i := 12) (f := 4) hX ci_12 (by decide) rfl fl_M_19 (kI (kI (kI hk1))) d_M_saint_93 ?_
            refine r_iload_n (i := 1) hX d_M_saint_96 1 rfl rfl ?_
            refine r_iload (i := 5) hX d_M_saint_97 5  rfl ?_
            obtain ⟨hk11, h⟩ := gd_e h
            obtain ⟨hg12, h⟩ := gd_e h
            refine r_iast hX hk11 hg12 d_M_saint_99 ?_
            refine r_iconst (v := (1 : Int32)) hX d_M_saint_100 rfl ?_
            cases h; exact r_iret hX hR d_M_saint_101
          · refine r_bipush (v := (-102 : Int32)) hX d_M_saint_67 rfl ?_
            cases h; exact r_iret hX hR d_M_saint_69
  · refine r_bipush (v := (-101 : Int32)) hX d_M_saint_12 rfl ?_
    cases h; exact r_iret hX hR d_M_saint_14
theorem T_M_saint {l : Launch} {G : AG} (a0 : Nat) (x1 : Int32) (x2 : Int32) (x3 : Int32) (x4 : Int32) (x5 : Int32) (w : AW) {o : Int32 × AW} (h : F_M_saint a0 x1 x2 x3 x4 x5 w = some o) : Mt l G y_M_saint b_M_saint 6 (some (.int)) 1 25 0 0 [vr a0, vi x1, vi x2, vi x3, vi x4, vi x5] w (some (vi o.1)) o.2 := mt_of (by decide) (Nat.le_of_ble_eq_true rfl) (fun X hX hR hM hI => P_M_saint_0 hX hM hR _ _ _ _ _ _ _ h)
/-! RedSky$Calendar.feastDay(II)I -/
theorem d_Ca_feastDay_0 : decode b_Ca_feastDay 0 = .ok (.iload_n 1, 1) := by decide +kernel
theorem d_Ca_feastDay_1 : decode b_Ca_feastDay 1 = .ok (.iconst 0, 1) := by decide +kernel
theorem d_Ca_feastDay_2 : decode b_Ca_feastDay 2 = .ok (.bipush (7), 2) := by decide +kernel
theorem d_Ca_feastDay_4 : decode b_Ca_feastDay 4 = .ok (.invokestatic 49, 3) := by decide +kernel
theorem d_Ca_feastDay_7 : decode b_Ca_feastDay 7 = .ok (.ifCond .ne (5), 3) := by decide +kernel
theorem d_Ca_feastDay_10 : decode b_Ca_feastDay 10 = .ok (.iconst (-1), 1) := by decide +kernel
theorem d_Ca_feastDay_11 : decode b_Ca_feastDay 11 = .ok (.ireturn, 1) := by decide +kernel
theorem d_Ca_feastDay_12 : decode b_Ca_feastDay 12 = .ok (.aload_n 0, 1) := by decide +kernel
theorem d_Ca_feastDay_13 : decode b_Ca_feastDay 13 = .ok (.iload_n 2, 1) := by decide +kernel
theorem d_Ca_feastDay_14 : decode b_Ca_feastDay 14 = .ok (.aload_n 0, 1) := by decide +kernel
theorem d_Ca_feastDay_15 : decode b_Ca_feastDay 15 = .ok (.getfield 15, 3) := by decide +kernel
theorem d_Ca_feastDay_18 : decode b_Ca_feastDay 18 = .ok (.iload_n 1, 1) := by decide +kernel
theorem d_Ca_feastDay_19 : decode b_Ca_feastDay 19 = .ok (.iaload, 1) := by decide +kernel
theorem d_Ca_feastDay_20 : decode b_Ca_feastDay 20 = .ok (.aload_n 0, 1) := by decide +kernel
theorem d_Ca_feastDay_21 : decode b_Ca_feastDay 21 = .ok (.getfield 19, 3) := by decide +kernel
theorem d_Ca_feastDay_24 : decode b_Ca_feastDay 24 = .ok (.iload_n 1, 1) := by decide +kernel
theorem d_Ca_feastDay_25 : decode b_Ca_feastDay 25 = .ok (.iaload, 1) := by decide +kernel
theorem d_Ca_feastDay_26 : decode b_Ca_feastDay 26 = .ok (.invokevirtual 62, 3) := by decide +kernel
theorem d_Ca_feastDay_29 : decode b_Ca_feastDay 29 = .ok (.istore_n 3, 1) := by decide +kernel
theorem d_Ca_feastDay_30 : decode b_Ca_feastDay 30 = .ok (.iload_n 3, 1) := by decide +kernel
theorem d_Ca_feastDay_31 : decode b_Ca_feastDay 31 = .ok (.iconst (-1), 1) := by decide +kernel
theorem d_Ca_feastDay_32 : decode b_Ca_feastDay 32 = .ok (.if_icmp .ne (5), 3) := by decide +kernel
theorem d_Ca_feastDay_35 : decode b_Ca_feastDay 35 = .ok (.iconst (-1), 1) := by decide +kernel
theorem d_Ca_feastDay_36 : decode b_Ca_feastDay 36 = .ok (.ireturn, 1) := by decide +kernel
theorem d_Ca_feastDay_37 : decode b_Ca_feastDay 37 = .ok (.iload_n 2, 1) := by decide +kernel
theorem d_Ca_feastDay_38 : decode b_Ca_feastDay 38 = .ok (.aload_n 0, 1) := by decide +kernel
theorem d_Ca_feastDay_39 : decode b_Ca_feastDay 39 = .ok (.getfield 22, 3) := by decide +kernel
theorem d_Ca_feastDay_42 : decode b_Ca_feastDay 42 = .ok (.iload_n 1, 1) := by decide +kernel
theorem d_Ca_feastDay_43 : decode b_Ca_feastDay 43 = .ok (.iaload, 1) := by decide +kernel
theorem d_Ca_feastDay_44 : decode b_Ca_feastDay 44 = .ok (.if_icmp .lt (14), 3) := by decide +kernel
theorem d_Ca_feastDay_47 : decode b_Ca_feastDay 47 = .ok (.iload_n 3, 1) := by decide +kernel
theorem d_Ca_feastDay_48 : decode b_Ca_feastDay 48 = .ok (.aload_n 0, 1) := by decide +kernel
theorem d_Ca_feastDay_49 : decode b_Ca_feastDay 49 = .ok (.getfield 25, 3) := by decide +kernel
theorem d_Ca_feastDay_52 : decode b_Ca_feastDay 52 = .ok (.iload_n 1, 1) := by decide +kernel
theorem d_Ca_feastDay_53 : decode b_Ca_feastDay 53 = .ok (.iaload, 1) := by decide +kernel
theorem d_Ca_feastDay_54 : decode b_Ca_feastDay 54 = .ok (.iadd, 1) := by decide +kernel
theorem d_Ca_feastDay_55 : decode b_Ca_feastDay 55 = .ok (.goto (4), 3) := by decide +kernel
theorem d_Ca_feastDay_58 : decode b_Ca_feastDay 58 = .ok (.iload_n 3, 1) := by decide +kernel
theorem d_Ca_feastDay_59 : decode b_Ca_feastDay 59 = .ok (.istore 4, 2) := by decide +kernel
theorem d_Ca_feastDay_61 : decode b_Ca_feastDay 61 = .ok (.iload 4, 2) := by decide +kernel
theorem d_Ca_feastDay_63 : decode b_Ca_feastDay 63 = .ok (.invokestatic 66, 3) := by decide +kernel
theorem d_Ca_feastDay_66 : decode b_Ca_feastDay 66 = .ok (.ifCond .eq (8), 3) := by decide +kernel
theorem d_Ca_feastDay_69 : decode b_Ca_feastDay 69 = .ok (.iload 4, 2) := by decide +kernel
theorem d_Ca_feastDay_71 : decode b_Ca_feastDay 71 = .ok (.goto (4), 3) := by decide +kernel
theorem d_Ca_feastDay_74 : decode b_Ca_feastDay 74 = .ok (.iconst (-1), 1) := by decide +kernel
theorem d_Ca_feastDay_75 : decode b_Ca_feastDay 75 = .ok (.ireturn, 1) := by decide +kernel
def F_Ca_feastDay_59 (w : AW) (s0 : Int32) : Option (Int32) :=
  if (F_A_isDay s0) = 0 then
    some (-1 : Int32)
  else
    some s0
theorem P_Ca_feastDay_59 {X : AX} {l : Launch} {G : AG} {w : AW} (hX : XOK X b_Ca_feastDay "RedSky$Calendar" 5) (hM : XM X l G { frames := 3, cells := 0, slots := 0, locals := 69 }) {o : Int32} (hR : XR X (some .int) 0 0 (some (vi o)) w) (s0 : Int32) (h : F_Ca_feastDay_59 w s0 = some o) : RJ X 5 0 0 59 [] [vi s0] w := by
  unfold F_Ca_feastDay_59 at h
  refine r_istore (i := 4) hX d_Ca_feastDay_59  (by decide) ?_
  refine r_iload (i := 4) hX d_Ca_feastDay_61 0  rfl ?_
  refine r_callSN1 (As := [_]) hX hM mw_Ca_66 (T_A_isDay _ _) rfl rfl ⟨Nat.le_refl _, Nat.le_refl _⟩ rfl rfl d_Ca_feastDay_63 ?_
  refine r_if_eq hX d_Ca_feastDay_66 rfl h (fun h => ?_) (fun h => ?_)
  · refine r_iconst (v := (-1 : Int32)) hX d_Ca_feastDay_74 rfl ?_
    cases h; exact r_iret hX hR d_Ca_feastDay_75
  · refine r_iload (i := 4) hX d_Ca_feastDay_69 0  rfl ?_
    refine r_goto hX d_Ca_feastDay_71 rfl ?_
    cases h; exact r_iret hX hR d_Ca_feastDay_75
def F_Ca_feastDay (w : AW) (a0 : Nat) (x1 : Int32) (x2 : Int32) : Option (Int32) :=
  if (F_A_within x1 (0 : Int32) (7 : Int32)) = 0 then
    some (-1 : Int32)
  else
    gd (wk w a0 == 2) <|
    gd (wk w (wr w a0 1) == 100) <|
    gd (inb x1 (wn w (wr w a0 1))) <|
    gd (wk w (wr w a0 2) == 100) <|
    gd (inb x1 (wn w (wr w a0 2))) <|
    (F_Ca_dayOf w a0 x2 (wi w (wr w a0 1) (Int32.toNatClampNeg x1)) (wi w (wr w a0 2) (Int32.toNatClampNeg x1))).bind fun r6 =>
    if r6 = (-1 : Int32) then
      some (-1 : Int32)
    else
      gd (wk w (wr w a0 3) == 100) <|
      gd (inb x1 (wn w (wr w a0 3))) <|
      if x2 < (wi w (wr w a0 3) (Int32.toNatClampNeg x1)) then
        F_Ca_feastDay_59 w r6
      else
        gd (wk w (wr w a0 4) == 100) <|
        gd (inb x1 (wn w (wr w a0 4))) <|
        F_Ca_feastDay_59 w (r6 + (wi w (wr w a0 4) (Int32.toNatClampNeg x1)))
theorem P_Ca_feastDay_0 {X : AX} {l : Launch} {G : AG} {w : AW} (hX : XOK X b_Ca_feastDay "RedSky$Calendar" 5) (hM : XM X l G { frames := 3, cells := 0, slots := 0, locals := 69 }) {o : Int32} (hR : XR X (some .int) 0 0 (some (vi o)) w) (a0 : Nat) (x1 : Int32) (x2 : Int32) (h : F_Ca_feastDay w a0 x1 x2 = some o) : RJ X 5 0 0 0 [(0, vr a0), (1, vi x1), (2, vi x2)] [] w := by
  unfold F_Ca_feastDay at h
  refine r_iload_n (i := 1) hX d_Ca_feastDay_0 1 rfl rfl ?_
  refine r_iconst (v := (0 : Int32)) hX d_Ca_feastDay_1 rfl ?_
  refine r_bipush (v := (7 : Int32)) hX d_Ca_feastDay_2 rfl ?_
  refine r_callSN1 (As := [_, _, _]) hX hM mw_Ca_49 (T_A_within _ _ _ _) rfl rfl ⟨Nat.le_refl _, Nat.le_refl _⟩ rfl rfl d_Ca_feastDay_4 ?_
  refine r_if_ne hX d_Ca_feastDay_7 rfl h (fun h => ?_) (fun h => ?_)
  · refine r_aload_n (i := 0) hX d_Ca_feastDay_12 0 rfl rfl ?_
    refine r_iload_n (i := 2) hX d_Ca_feastDay_13 2 rfl rfl ?_
    refine r_aload_n (i := 0) hX d_Ca_feastDay_14 0 rfl rfl ?_
    obtain ⟨hk1, h⟩ := gd_e h
    refine r_getR (i := 1) (f := 1) hX ci_1 (by decide) rfl fl_Ca_15 hk1 d_Ca_feastDay_15 ?_
    refine r_iload_n (i := 1) hX d_Ca_feastDay_18 1 rfl rfl ?_
    obtain ⟨hk2, h⟩ := gd_e h
    obtain ⟨hg3, h⟩ := gd_e h
    refine r_iald hX hk2 hg3 d_Ca_feastDay_19 ?_
    refine r_aload_n (i := 0) hX d_Ca_feastDay_20 0 rfl rfl ?_
    refine r_getR (i := 1) (f := 2) hX ci_1 (by decide) rfl fl_Ca_19 hk1 d_Ca_feastDay_21 ?_
    refine r_iload_n (i := 1) hX d_Ca_feastDay_24 1 rfl rfl ?_
    obtain ⟨hk4, h⟩ := gd_e h
    obtain ⟨hg5, h⟩ := gd_e h
    refine r_iald hX hk4 hg5 d_Ca_feastDay_25 ?_
    obtain ⟨r6, hr7, h⟩ := bd_e h
    refine r_callV1 (As := [_, _, _]) hX hM mw_Ca_62 (T_Ca_dayOf _ _ _ _ _ hr7) (rc_of ci_1 hk1) rfl rfl ⟨Nat.le_refl _, Nat.le_refl _⟩ rfl rfl d_Ca_feastDay_26 ?_
    refine r_istore_n (i := 3) hX d_Ca_feastDay_29 rfl (by decide) ?_
    refine r_iload_n (i := 3) hX d_Ca_feastDay_30 0 rfl rfl ?_
    refine r_iconst (v := (-1 : Int32)) hX d_Ca_feastDay_31 rfl ?_
    refine r_icmp_ne hX d_Ca_feastDay_32 rfl h (fun h => ?_) (fun h => ?_)
    · refine r_iload_n (i := 2) hX d_Ca_feastDay_37 3 rfl rfl ?_
      refine r_aload_n (i := 0) hX d_Ca_feastDay_38 1 rfl rfl ?_
      refine r_getR (i := 1) (f := 3) hX ci_1 (by decide) rfl fl_Ca_22 hk1 d_Ca_feastDay_39 ?_
      refine r_iload_n (i := 1) hX d_Ca_feastDay_42 2 rfl rfl ?_
      obtain ⟨hk8, h⟩ := gd_e h
      obtain ⟨hg9, h⟩ := gd_e h
      refine r_iald hX hk8 hg9 d_Ca_feastDay_43 ?_
      refine r_icmp_lt hX d_Ca_feastDay_44 rfl h (fun h => ?_) (fun h => ?_)
      · refine r_iload_n (i := 3) hX d_Ca_feastDay_58 0 rfl rfl ?_
        exact rj_sub [] rfl (P_Ca_feastDay_59 hX hM hR _ h)
      · refine r_iload_n (i := 3) hX d_Ca_feastDay_47 0 rfl rfl ?_
        refine r_aload_n (i := 0) hX d_Ca_feastDay_48 1 rfl rfl ?_
        refine r_getR (i := 1) (f := 4) hX ci_1 (by decide) rfl fl_Ca_25 hk1 d_Ca_feastDay_49 ?_
        refine r_iload_n (i := 1) hX d_Ca_feastDay_52 2 rfl rfl ?_
        obtain ⟨hk10, h⟩ := gd_e h
        obtain ⟨hg11, h⟩ := gd_e h
        refine r_iald hX hk10 hg11 d_Ca_feastDay_53 ?_
        refine r_iadd hX d_Ca_feastDay_54 ?_
        refine r_goto hX d_Ca_feastDay_55 rfl ?_
        exact rj_sub [] rfl (P_Ca_feastDay_59 hX hM hR _ h)
    · refine r_iconst (v := (-1 : Int32)) hX d_Ca_feastDay_35 rfl ?_
      cases h; exact r_iret hX hR d_Ca_feastDay_36
  · refine r_iconst (v := (-1 : Int32)) hX d_Ca_feastDay_10 rfl ?_
    cases h; exact r_iret hX hR d_Ca_feastDay_11
theorem T_Ca_feastDay {l : Launch} {G : AG} (w : AW) (a0 : Nat) (x1 : Int32) (x2 : Int32) {o : Int32} (h : F_Ca_feastDay w a0 x1 x2 = some o) : Mt l G y_Ca_feastDay b_Ca_feastDay 5 (some (.int)) 3 69 0 0 [vr a0, vi x1, vi x2] w (some (vi o)) w := mt_of (by decide) (Nat.le_of_ble_eq_true rfl) (fun X hX hR hM hI => P_Ca_feastDay_0 hX hM hR _ _ _ h)
/-! RedSky.feast(II)I -/
theorem d_A_feast_0 : decode b_A_feast 0 = .ok (.iload_n 1, 1) := by decide +kernel
theorem d_A_feast_1 : decode b_A_feast 1 = .ok (.iconst 0, 1) := by decide +kernel
theorem d_A_feast_2 : decode b_A_feast 2 = .ok (.bipush (7), 2) := by decide +kernel
theorem d_A_feast_4 : decode b_A_feast 4 = .ok (.invokestatic 86, 3) := by decide +kernel
theorem d_A_feast_7 : decode b_A_feast 7 = .ok (.ifCond .ne (6), 3) := by decide +kernel
theorem d_A_feast_10 : decode b_A_feast 10 = .ok (.bipush (-101), 2) := by decide +kernel
theorem d_A_feast_12 : decode b_A_feast 12 = .ok (.ireturn, 1) := by decide +kernel
theorem d_A_feast_13 : decode b_A_feast 13 = .ok (.iload_n 2, 1) := by decide +kernel
theorem d_A_feast_14 : decode b_A_feast 14 = .ok (.invokestatic 97, 3) := by decide +kernel
theorem d_A_feast_17 : decode b_A_feast 17 = .ok (.ifCond .ne (6), 3) := by decide +kernel
theorem d_A_feast_20 : decode b_A_feast 20 = .ok (.bipush (-102), 2) := by decide +kernel
theorem d_A_feast_22 : decode b_A_feast 22 = .ok (.ireturn, 1) := by decide +kernel
theorem d_A_feast_23 : decode b_A_feast 23 = .ok (.aload_n 0, 1) := by decide +kernel
theorem d_A_feast_24 : decode b_A_feast 24 = .ok (.getfield 10, 3) := by decide +kernel
theorem d_A_feast_27 : decode b_A_feast 27 = .ok (.iload_n 1, 1) := by decide +kernel
theorem d_A_feast_28 : decode b_A_feast 28 = .ok (.iload_n 2, 1) := by decide +kernel
theorem d_A_feast_29 : decode b_A_feast 29 = .ok (.invokevirtual 137, 3) := by decide +kernel
theorem d_A_feast_32 : decode b_A_feast 32 = .ok (.ireturn, 1) := by decide +kernel
def F_A_feast (w : AW) (a0 : Nat) (x1 : Int32) (x2 : Int32) : Option (Int32) :=
  if (F_A_within x1 (0 : Int32) (7 : Int32)) = 0 then
    some (-101 : Int32)
  else
    if (F_A_isYear x2) = 0 then
      some (-102 : Int32)
    else
      gd (wk w a0 == 1) <|
      gd (wk w (wr w a0 0) == 2) <|
      (F_Ca_feastDay w (wr w a0 0) x1 x2).bind fun r3 =>
      some r3
theorem P_A_feast_0 {X : AX} {l : Launch} {G : AG} {w : AW} (hX : XOK X b_A_feast "RedSky" 3) (hM : XM X l G { frames := 4, cells := 0, slots := 0, locals := 93 }) {o : Int32} (hR : XR X (some .int) 0 0 (some (vi o)) w) (a0 : Nat) (x1 : Int32) (x2 : Int32) (h : F_A_feast w a0 x1 x2 = some o) : RJ X 3 0 0 0 [(0, vr a0), (1, vi x1), (2, vi x2)] [] w := by
  unfold F_A_feast at h
  refine r_iload_n (i := 1) hX d_A_feast_0 1 rfl rfl ?_
  refine r_iconst (v := (0 : Int32)) hX d_A_feast_1 rfl ?_
  refine r_bipush (v := (7 : Int32)) hX d_A_feast_2 rfl ?_
  refine r_callS1 (As := [_, _, _]) hX hM mw_A_86 (T_A_within _ _ _ _) rfl rfl ⟨Nat.le_refl _, Nat.le_refl _⟩ rfl rfl d_A_feast_4 ?_
  refine r_if_ne hX d_A_feast_7 rfl h (fun h => ?_) (fun h => ?_)
  · refine r_iload_n (i := 2) hX d_A_feast_13 2 rfl rfl ?_
    refine r_callS1 (As := [_]) hX hM mw_A_97 (T_A_isYear _ _) rfl rfl ⟨Nat.le_refl _, Nat.le_refl _⟩ rfl rfl d_A_feast_14 ?_
    refine r_if_ne hX d_A_feast_17 rfl h (fun h => ?_) (fun h => ?_)
    · refine r_aload_n (i := 0) hX d_A_feast_23 0 rfl rfl ?_
      obtain ⟨hk1, h⟩ := gd_e h
      refine r_getR (i := 0) (f := 0) hX ci_0 (by decide) rfl fl_A_10 hk1 d_A_feast_24 ?_
      refine r_iload_n (i := 1) hX d_A_feast_27 1 rfl rfl ?_
      refine r_iload_n (i := 2) hX d_A_feast_28 2 rfl rfl ?_
      obtain ⟨hk2, h⟩ := gd_e h
      obtain ⟨r3, hr4, h⟩ := bd_e h
      refine r_callV1 (As := [_, _]) hX hM mw_A_137 (T_Ca_feastDay _ _ _ _ hr4) (rc_of ci_1 hk2) rfl rfl ⟨Nat.le_refl _, Nat.le_refl _⟩ rfl rfl d_A_feast_29 ?_
      cases h; exact r_iret hX hR d_A_feast_32
    · refine r_bipush (v := (-102 : Int32)) hX d_A_feast_20 rfl ?_
      cases h; exact r_iret hX hR d_A_feast_22
  · refine r_bipush (v := (-101 : Int32)) hX d_A_feast_10 rfl ?_
    cases h; exact r_iret hX hR d_A_feast_12
theorem T_A_feast {l : Launch} {G : AG} (w : AW) (a0 : Nat) (x1 : Int32) (x2 : Int32) {o : Int32} (h : F_A_feast w a0 x1 x2 = some o) : Mt l G y_A_feast b_A_feast 3 (some (.int)) 4 93 0 0 [vr a0, vi x1, vi x2] w (some (vi o)) w := mt_of (by decide) (Nat.le_of_ble_eq_true rfl) (fun X hX hR hM hI => P_A_feast_0 hX hM hR _ _ _ h)
/-! RedSkyModel.feastOf(II)I -/
theorem d_M_feastOf_0 : decode b_M_feastOf 0 = .ok (.aload_n 0, 1) := by decide +kernel
theorem d_M_feastOf_1 : decode b_M_feastOf 1 = .ok (.iload_n 2, 1) := by decide +kernel
theorem d_M_feastOf_2 : decode b_M_feastOf 2 = .ok (.aload_n 0, 1) := by decide +kernel
theorem d_M_feastOf_3 : decode b_M_feastOf 3 = .ok (.getfield 7, 3) := by decide +kernel
theorem d_M_feastOf_6 : decode b_M_feastOf 6 = .ok (.iload_n 1, 1) := by decide +kernel
theorem d_M_feastOf_7 : decode b_M_feastOf 7 = .ok (.iaload, 1) := by decide +kernel
theorem d_M_feastOf_8 : decode b_M_feastOf 8 = .ok (.aload_n 0, 1) := by decide +kernel
theorem d_M_feastOf_9 : decode b_M_feastOf 9 = .ok (.getfield 13, 3) := by decide +kernel
theorem d_M_feastOf_12 : decode b_M_feastOf 12 = .ok (.iload_n 1, 1) := by decide +kernel
theorem d_M_feastOf_13 : decode b_M_feastOf 13 = .ok (.iaload, 1) := by decide +kernel
theorem d_M_feastOf_14 : decode b_M_feastOf 14 = .ok (.invokevirtual 132, 3) := by decide +kernel
theorem d_M_feastOf_17 : decode b_M_feastOf 17 = .ok (.istore_n 3, 1) := by decide +kernel
theorem d_M_feastOf_18 : decode b_M_feastOf 18 = .ok (.iload_n 3, 1) := by decide +kernel
theorem d_M_feastOf_19 : decode b_M_feastOf 19 = .ok (.iconst (-1), 1) := by decide +kernel
theorem d_M_feastOf_20 : decode b_M_feastOf 20 = .ok (.if_icmp .ne (5), 3) := by decide +kernel
theorem d_M_feastOf_23 : decode b_M_feastOf 23 = .ok (.iconst (-1), 1) := by decide +kernel
theorem d_M_feastOf_24 : decode b_M_feastOf 24 = .ok (.ireturn, 1) := by decide +kernel
theorem d_M_feastOf_25 : decode b_M_feastOf 25 = .ok (.iload_n 3, 1) := by decide +kernel
theorem d_M_feastOf_26 : decode b_M_feastOf 26 = .ok (.iload_n 2, 1) := by decide +kernel
theorem d_M_feastOf_27 : decode b_M_feastOf 27 = .ok (.aload_n 0, 1) := by decide +kernel
theorem d_M_feastOf_28 : decode b_M_feastOf 28 = .ok (.getfield 16, 3) := by decide +kernel
theorem d_M_feastOf_31 : decode b_M_feastOf 31 = .ok (.iload_n 1, 1) := by decide +kernel
theorem d_M_feastOf_32 : decode b_M_feastOf 32 = .ok (.iaload, 1) := by decide +kernel
theorem d_M_feastOf_33 : decode b_M_feastOf 33 = .ok (.if_icmp .lt (12), 3) := by decide +kernel
theorem d_M_feastOf_36 : decode b_M_feastOf 36 = .ok (.aload_n 0, 1) := by decide +kernel
theorem d_M_feastOf_37 : decode b_M_feastOf 37 = .ok (.getfield 19, 3) := by decide +kernel
theorem d_M_feastOf_40 : decode b_M_feastOf 40 = .ok (.iload_n 1, 1) := by decide +kernel
theorem d_M_feastOf_41 : decode b_M_feastOf 41 = .ok (.iaload, 1) := by decide +kernel
theorem d_M_feastOf_42 : decode b_M_feastOf 42 = .ok (.goto (4), 3) := by decide +kernel
theorem d_M_feastOf_45 : decode b_M_feastOf 45 = .ok (.iconst 0, 1) := by decide +kernel
theorem d_M_feastOf_46 : decode b_M_feastOf 46 = .ok (.iadd, 1) := by decide +kernel
theorem d_M_feastOf_47 : decode b_M_feastOf 47 = .ok (.istore_n 3, 1) := by decide +kernel
theorem d_M_feastOf_48 : decode b_M_feastOf 48 = .ok (.iload_n 3, 1) := by decide +kernel
theorem d_M_feastOf_49 : decode b_M_feastOf 49 = .ok (.invokestatic 136, 3) := by decide +kernel
theorem d_M_feastOf_52 : decode b_M_feastOf 52 = .ok (.ifCond .eq (7), 3) := by decide +kernel
theorem d_M_feastOf_55 : decode b_M_feastOf 55 = .ok (.iload_n 3, 1) := by decide +kernel
theorem d_M_feastOf_56 : decode b_M_feastOf 56 = .ok (.goto (4), 3) := by decide +kernel
theorem d_M_feastOf_59 : decode b_M_feastOf 59 = .ok (.iconst (-1), 1) := by decide +kernel
theorem d_M_feastOf_60 : decode b_M_feastOf 60 = .ok (.ireturn, 1) := by decide +kernel
def F_M_feastOf_46 (w : AW) (s1 : Int32) (s0 : Int32) : Option (Int32) :=
  let v1 : Int32 := (s0 + s1)
  if (F_M_isDay v1) = 0 then
    some (-1 : Int32)
  else
    some v1
theorem P_M_feastOf_46 {X : AX} {l : Launch} {G : AG} {w : AW} (hX : XOK X b_M_feastOf "RedSkyModel" 4) (hM : XM X l G { frames := 4, cells := 0, slots := 0, locals := 90 }) {o : Int32} (hR : XR X (some .int) 0 0 (some (vi o)) w) (s1 : Int32) (s0 : Int32) (h : F_M_feastOf_46 w s1 s0 = some o) : RJ X 4 0 0 46 [] [vi s1, vi s0] w := by
  unfold F_M_feastOf_46 at h
  refine r_iadd hX d_M_feastOf_46 ?_
  refine r_istore_n (i := 3) hX d_M_feastOf_47 rfl (by decide) ?_
  refine r_iload_n (i := 3) hX d_M_feastOf_48 0 rfl rfl ?_
  refine r_callS1 (As := [_]) hX hM mw_M_136 (T_M_isDay _ _) rfl rfl ⟨Nat.le_refl _, Nat.le_refl _⟩ rfl rfl d_M_feastOf_49 ?_
  refine r_if_eq hX d_M_feastOf_52 rfl h (fun h => ?_) (fun h => ?_)
  · refine r_iconst (v := (-1 : Int32)) hX d_M_feastOf_59 rfl ?_
    cases h; exact r_iret hX hR d_M_feastOf_60
  · refine r_iload_n (i := 3) hX d_M_feastOf_55 0 rfl rfl ?_
    refine r_goto hX d_M_feastOf_56 rfl ?_
    cases h; exact r_iret hX hR d_M_feastOf_60
def F_M_feastOf (w : AW) (a0 : Nat) (x1 : Int32) (x2 : Int32) : Option (Int32) :=
  gd (wk w a0 == 13) <|
  gd (wk w (wr w a0 1) == 100) <|
  gd (inb x1 (wn w (wr w a0 1))) <|
  gd (wk w (wr w a0 2) == 100) <|
  gd (inb x1 (wn w (wr w a0 2))) <|
  (F_M_dayOf w a0 x2 (wi w (wr w a0 1) (Int32.toNatClampNeg x1)) (wi w (wr w a0 2) (Int32.toNatClampNeg x1))).bind fun r6 =>
  if r6 = (-1 : Int32) then
    some (-1 : Int32)
  else
    gd (wk w (wr w a0 3) == 100) <|
    gd (inb x1 (wn w (wr w a0 3))) <|
    if x2 < (wi w (wr w a0 3) (Int32.toNatClampNeg x1)) then
      F_M_feastOf_46 w (0 : Int32) r6
    else
      gd (wk w (wr w a0 4) == 100) <|
      gd (inb x1 (wn w (wr w a0 4))) <|
      F_M_feastOf_46 w (wi w (wr w a0 4) (Int32.toNatClampNeg x1)) r6
theorem P_M_feastOf_0 {X : AX} {l : Launch} {G : AG} {w : AW} (hX : XOK X b_M_feastOf "RedSkyModel" 4) (hM : XM X l G { frames := 4, cells := 0, slots := 0, locals := 90 }) {o : Int32} (hR : XR X (some .int) 0 0 (some (vi o)) w) (a0 : Nat) (x1 : Int32) (x2 : Int32) (h : F_M_feastOf w a0 x1 x2 = some o) : RJ X 4 0 0 0 [(0, vr a0), (1, vi x1), (2, vi x2)] [] w := by
  unfold F_M_feastOf at h
  refine r_aload_n (i := 0) hX d_M_feastOf_0 0 rfl rfl ?_
  refine r_iload_n (i := 2) hX d_M_feastOf_1 2 rfl rfl ?_
  refine r_aload_n (i := 0) hX d_M_feastOf_2 0 rfl rfl ?_
  obtain ⟨hk1, h⟩ := gd_e h
  refine r_getR (i := 12) (f := 1) hX ci_12 (by decide) rfl fl_M_7 hk1 d_M_feastOf_3 ?_
  refine r_iload_n (i := 1) hX d_M_feastOf_6 1 rfl rfl ?_
  obtain ⟨hk2, h⟩ := gd_e h
  obtain ⟨hg3, h⟩ := gd_e h
  refine r_iald hX hk2 hg3 d_M_feastOf_7 ?_
  refine r_aload_n (i := 0) hX d_M_feastOf_8 0 rfl rfl ?_
  refine r_getR (i := 12) (f := 2) hX ci_12 (by decide) rfl fl_M_13 hk1 d_M_feastOf_9 ?_
  refine r_iload_n (i := 1) hX d_M_feastOf_12 1 rfl rfl ?_
  obtain ⟨hk4, h⟩ := gd_e h
  obtain ⟨hg5, h⟩ := gd_e h
  refine r_iald hX hk4 hg5 d_M_feastOf_13 ?_
  obtain ⟨r6, hr7, h⟩ := bd_e h
  refine r_callV1 (As := [_, _, _]) hX hM mw_M_132 (T_M_dayOf _ _ _ _ _ hr7) (rc_of ci_12 hk1) rfl rfl ⟨Nat.le_refl _, Nat.le_refl _⟩ rfl rfl d_M_feastOf_14 ?_
  refine r_istore_n (i := 3) hX d_M_feastOf_17 rfl (by decide) ?_
  refine r_iload_n (i := 3) hX d_M_feastOf_18 0 rfl rfl ?_
  refine r_iconst (v := (-1 : Int32)) hX d_M_feastOf_19 rfl ?_
  refine r_icmp_ne hX d_M_feastOf_20 rfl h (fun h => ?_) (fun h => ?_)
  · refine r_iload_n (i := 3) hX d_M_feastOf_25 0 rfl rfl ?_
    refine r_iload_n (i := 2) hX d_M_feastOf_26 3 rfl rfl ?_
    refine r_aload_n (i := 0) hX d_M_feastOf_27 1 rfl rfl ?_
    refine r_getR (i := 12) (f := 3) hX ci_12 (by decide) rfl fl_M_16 hk1 d_M_feastOf_28 ?_
    refine r_iload_n (i := 1) hX d_M_feastOf_31 2 rfl rfl ?_
    obtain ⟨hk8, h⟩ := gd_e h
    obtain ⟨hg9, h⟩ := gd_e h
    refine r_iald hX hk8 hg9 d_M_feastOf_32 ?_
    refine r_icmp_lt hX d_M_feastOf_33 rfl h (fun h => ?_) (fun h => ?_)
    · refine r_iconst (v := (0 : Int32)) hX d_M_feastOf_45 rfl ?_
      exact rj_sub [] rfl (P_M_feastOf_46 hX hM hR _ _ h)
    · refine r_aload_n (i := 0) hX d_M_feastOf_36 1 rfl rfl ?_
      refine r_getR (i := 12) (f := 4) hX ci_12 (by decide) rfl fl_M_19 hk1 d_M_feastOf_37 ?_
      refine r_iload_n (i := 1) hX d_M_feastOf_40 2 rfl rfl ?_
      obtain ⟨hk10, h⟩ := gd_e h
      obtain ⟨hg11, h⟩ := gd_e h
      refine r_iald hX hk10 hg11 d_M_feastOf_41 ?_
      refine r_goto hX d_M_feastOf_42 rfl ?_
      exact rj_sub [] rfl (P_M_feastOf_46 hX hM hR _ _ h)
  · refine r_iconst (v := (-1 : Int32)) hX d_M_feastOf_23 rfl ?_
    cases h; exact r_iret hX hR d_M_feastOf_24
theorem T_M_feastOf {l : Launch} {G : AG} (w : AW) (a0 : Nat) (x1 : Int32) (x2 : Int32) {o : Int32} (h : F_M_feastOf w a0 x1 x2 = some o) : Mt l G y_M_feastOf b_M_feastOf 4 (some (.int)) 4 90 0 0 [vr a0, vi x1, vi x2] w (some (vi o)) w := mt_of (by decide) (Nat.le_of_ble_eq_true rfl) (fun X hX hR hM hI => P_M_feastOf_0 hX hM hR _ _ _ h)
