/-! RedSky$Condition.orderOf(I)I -/
theorem d_Co_orderOf_0 : decode b_Co_orderOf 0 = .ok (.iload_n 0, 1) := by decide +kernel
theorem d_Co_orderOf_1 : decode b_Co_orderOf 1 = .ok (.iconst 3, 1) := by decide +kernel
theorem d_Co_orderOf_2 : decode b_Co_orderOf 2 = .ok (.irem, 1) := by decide +kernel
theorem d_Co_orderOf_3 : decode b_Co_orderOf 3 = .ok (.iconst 1, 1) := by decide +kernel
theorem d_Co_orderOf_4 : decode b_Co_orderOf 4 = .ok (.isub, 1) := by decide +kernel
theorem d_Co_orderOf_5 : decode b_Co_orderOf 5 = .ok (.ireturn, 1) := by decide +kernel
def Fo_Co_orderOf (w : AW) (x0 : Int32) : Option (Int32) :=
  some ((irem x0 (3 : Int32)) - (1 : Int32))
theorem P_Co_orderOf_0 {X : AX} {l : Launch} {G : AG} {w : AW} (hX : XOK X b_Co_orderOf "RedSky$Condition" 1) (hM : XM X l G { frames := 0, cells := 0, slots := 0, locals := 0 }) {o : Int32} (hR : XR X (some .int) 0 0 (some (vi o)) w) (x0 : Int32) (h : Fo_Co_orderOf w x0 = some o) : RJ X 1 0 0 0 [(0, vi x0)] [] w := by
  unfold Fo_Co_orderOf at h
  refine r_iload_n (i := 0) hX d_Co_orderOf_0 0 rfl rfl ?_
  refine r_iconst (v := (3 : Int32)) hX d_Co_orderOf_1 rfl ?_
  refine r_irem hX d_Co_orderOf_2 (by decide) ?_
  refine r_iconst (v := (1 : Int32)) hX d_Co_orderOf_3 rfl ?_
  refine r_isub hX d_Co_orderOf_4 ?_
  cases h; exact r_iret hX hR d_Co_orderOf_5
def F_Co_orderOf (x0 : Int32) : Int32 :=
  ((irem x0 (3 : Int32)) - (1 : Int32))
theorem E_Co_orderOf (w : AW) (x0 : Int32) : Fo_Co_orderOf w x0 = some (F_Co_orderOf x0) := by
  simp only [Fo_Co_orderOf, F_Co_orderOf, apply_ite (some : Int32 → Option Int32)]
theorem T_Co_orderOf {l : Launch} {G : AG} (x0 : Int32) (w : AW)  : Mt l G y_Co_orderOf b_Co_orderOf 1 (some (.int)) 0 0 0 0 [vi x0] w (some (vi (F_Co_orderOf x0))) w := mt_of (by decide) (Nat.le_of_ble_eq_true rfl) (fun X hX hR hM hI => P_Co_orderOf_0 hX hM hR _ (E_Co_orderOf _ _))
/-! java/lang/Integer.compare(II)I -/
theorem d_Jint_compare_0 : decode b_Jint_compare 0 = .ok (.iload_n 0, 1) := by decide +kernel
theorem d_Jint_compare_1 : decode b_Jint_compare 1 = .ok (.iload_n 1, 1) := by decide +kernel
theorem d_Jint_compare_2 : decode b_Jint_compare 2 = .ok (.if_icmp .ge (7), 3) := by decide +kernel
theorem d_Jint_compare_5 : decode b_Jint_compare 5 = .ok (.iconst (-1), 1) := by decide +kernel
theorem d_Jint_compare_6 : decode b_Jint_compare 6 = .ok (.goto (13), 3) := by decide +kernel
theorem d_Jint_compare_9 : decode b_Jint_compare 9 = .ok (.iload_n 0, 1) := by decide +kernel
theorem d_Jint_compare_10 : decode b_Jint_compare 10 = .ok (.iload_n 1, 1) := by decide +kernel
theorem d_Jint_compare_11 : decode b_Jint_compare 11 = .ok (.if_icmp .ne (7), 3) := by decide +kernel
theorem d_Jint_compare_14 : decode b_Jint_compare 14 = .ok (.iconst 0, 1) := by decide +kernel
theorem d_Jint_compare_15 : decode b_Jint_compare 15 = .ok (.goto (4), 3) := by decide +kernel
theorem d_Jint_compare_18 : decode b_Jint_compare 18 = .ok (.iconst 1, 1) := by decide +kernel
theorem d_Jint_compare_19 : decode b_Jint_compare 19 = .ok (.ireturn, 1) := by decide +kernel
def Fo_Jint_compare (w : AW) (x0 : Int32) (x1 : Int32) : Option (Int32) :=
  if x1 ≤ x0 then
    if x0 = x1 then
      some (0 : Int32)
    else
      some (1 : Int32)
  else
    some (-1 : Int32)
theorem P_Jint_compare_0 {X : AX} {l : Launch} {G : AG} {w : AW} (hX : XOK X b_Jint_compare "java/lang/Integer" 2) (hM : XM X l G { frames := 0, cells := 0, slots := 0, locals := 0 }) {o : Int32} (hR : XR X (some .int) 0 0 (some (vi o)) w) (x0 : Int32) (x1 : Int32) (h : Fo_Jint_compare w x0 x1 = some o) : RJ X 2 0 0 0 [(0, vi x0), (1, vi x1)] [] w := by
  unfold Fo_Jint_compare at h
  refine r_iload_n (i := 0) hX d_Jint_compare_0 0 rfl rfl ?_
  refine r_iload_n (i := 1) hX d_Jint_compare_1 1 rfl rfl ?_
  refine r_icmp_ge hX d_Jint_compare_2 rfl h (fun h => ?_) (fun h => ?_)
  · refine r_iload_n (i := 0) hX d_Jint_compare_9 0 rfl rfl ?_
    refine r_iload_n (i := 1) hX d_Jint_compare_10 1 rfl rfl ?_
    refine r_icmp_ne hX d_Jint_compare_11 rfl h (fun h => ?_) (fun h => ?_)
    · refine r_iconst (v := (1 : Int32)) hX d_Jint_compare_18 rfl ?_
      cases h; exact r_iret hX hR d_Jint_compare_19
    · refine r_iconst (v := (0 : Int32)) hX d_Jint_compare_14 rfl ?_
      refine r_goto hX d_Jint_compare_15 rfl ?_
      cases h; exact r_iret hX hR d_Jint_compare_19
  · refine r_iconst (v := (-1 : Int32)) hX d_Jint_compare_5 rfl ?_
    refine r_goto hX d_Jint_compare_6 rfl ?_
    cases h; exact r_iret hX hR d_Jint_compare_19
def F_Jint_compare (x0 : Int32) (x1 : Int32) : Int32 :=
  if x1 ≤ x0 then
    if x0 = x1 then
      (0 : Int32)
    else
      (1 : Int32)
  else
    (-1 : Int32)
theorem E_Jint_compare (w : AW) (x0 : Int32) (x1 : Int32) : Fo_Jint_compare w x0 x1 = some (F_Jint_compare x0 x1) := by
  simp only [Fo_Jint_compare, F_Jint_compare, apply_ite (some : Int32 → Option Int32)]
theorem T_Jint_compare {l : Launch} {G : AG} (x0 : Int32) (x1 : Int32) (w : AW)  : Mt l G y_Jint_compare b_Jint_compare 2 (some (.int)) 0 0 0 0 [vi x0, vi x1] w (some (vi (F_Jint_compare x0 x1))) w := mt_of (by decide) (Nat.le_of_ble_eq_true rfl) (fun X hX hR hM hI => P_Jint_compare_0 hX hM hR _ _ (E_Jint_compare _ _ _))
/-! RedSky$Diary.findCompared(IIILRedSky$Days;)V -/
theorem d_Di_findCompared_0 : decode b_Di_findCompared 0 = .ok (.aload 4, 2) := by decide +kernel
theorem d_Di_findCompared_2 : decode b_Di_findCompared 2 = .ok (.invokevirtual 61, 3) := by decide +kernel
theorem d_Di_findCompared_5 : decode b_Di_findCompared 5 = .ok (.iload_n 1, 1) := by decide +kernel
theorem d_Di_findCompared_6 : decode b_Di_findCompared 6 = .ok (.ifCond .lt (8), 3) := by decide +kernel
theorem d_Di_findCompared_9 : decode b_Di_findCompared 9 = .ok (.iload_n 1, 1) := by decide +kernel
theorem d_Di_findCompared_10 : decode b_Di_findCompared 10 = .ok (.iconst 4, 1) := by decide +kernel
theorem d_Di_findCompared_11 : decode b_Di_findCompared 11 = .ok (.if_icmp .lt (4), 3) := by decide +kernel
theorem d_Di_findCompared_14 : decode b_Di_findCompared 14 = .ok (.return_, 1) := by decide +kernel
theorem d_Di_findCompared_15 : decode b_Di_findCompared 15 = .ok (.getstatic 28, 3) := by decide +kernel
theorem d_Di_findCompared_18 : decode b_Di_findCompared 18 = .ok (.iload_n 1, 1) := by decide +kernel
theorem d_Di_findCompared_19 : decode b_Di_findCompared 19 = .ok (.iaload, 1) := by decide +kernel
theorem d_Di_findCompared_20 : decode b_Di_findCompared 20 = .ok (.istore 5, 2) := by decide +kernel
theorem d_Di_findCompared_22 : decode b_Di_findCompared 22 = .ok (.getstatic 31, 3) := by decide +kernel
theorem d_Di_findCompared_25 : decode b_Di_findCompared 25 = .ok (.iload_n 1, 1) := by decide +kernel
theorem d_Di_findCompared_26 : decode b_Di_findCompared 26 = .ok (.iaload, 1) := by decide +kernel
theorem d_Di_findCompared_27 : decode b_Di_findCompared 27 = .ok (.istore 6, 2) := by decide +kernel
theorem d_Di_findCompared_29 : decode b_Di_findCompared 29 = .ok (.iload_n 3, 1) := by decide +kernel
theorem d_Di_findCompared_30 : decode b_Di_findCompared 30 = .ok (.getstatic 34, 3) := by decide +kernel
theorem d_Di_findCompared_33 : decode b_Di_findCompared 33 = .ok (.iload_n 1, 1) := by decide +kernel
theorem d_Di_findCompared_34 : decode b_Di_findCompared 34 = .ok (.iaload, 1) := by decide +kernel
theorem d_Di_findCompared_35 : decode b_Di_findCompared 35 = .ok (.isub, 1) := by decide +kernel
theorem d_Di_findCompared_36 : decode b_Di_findCompared 36 = .ok (.iconst 1, 1) := by decide +kernel
theorem d_Di_findCompared_37 : decode b_Di_findCompared 37 = .ok (.iadd, 1) := by decide +kernel
theorem d_Di_findCompared_38 : decode b_Di_findCompared 38 = .ok (.istore 7, 2) := by decide +kernel
theorem d_Di_findCompared_40 : decode b_Di_findCompared 40 = .ok (.iconst 0, 1) := by decide +kernel
theorem d_Di_findCompared_41 : decode b_Di_findCompared 41 = .ok (.istore 8, 2) := by decide +kernel
theorem d_Di_findCompared_43 : decode b_Di_findCompared 43 = .ok (.iload 8, 2) := by decide +kernel
theorem d_Di_findCompared_45 : decode b_Di_findCompared 45 = .ok (.sipush (1461), 3) := by decide +kernel
theorem d_Di_findCompared_48 : decode b_Di_findCompared 48 = .ok (.if_icmp .ge (47), 3) := by decide +kernel
theorem d_Di_findCompared_51 : decode b_Di_findCompared 51 = .ok (.aload_n 0, 1) := by decide +kernel
theorem d_Di_findCompared_52 : decode b_Di_findCompared 52 = .ok (.getfield 9, 3) := by decide +kernel
theorem d_Di_findCompared_55 : decode b_Di_findCompared 55 = .ok (.iload 8, 2) := by decide +kernel
theorem d_Di_findCompared_57 : decode b_Di_findCompared 57 = .ok (.iaload, 1) := by decide +kernel
theorem d_Di_findCompared_58 : decode b_Di_findCompared 58 = .ok (.iload 5, 2) := by decide +kernel
theorem d_Di_findCompared_60 : decode b_Di_findCompared 60 = .ok (.ishr, 1) := by decide +kernel
theorem d_Di_findCompared_61 : decode b_Di_findCompared 61 = .ok (.iload 6, 2) := by decide +kernel
theorem d_Di_findCompared_63 : decode b_Di_findCompared 63 = .ok (.iand, 1) := by decide +kernel
theorem d_Di_findCompared_64 : decode b_Di_findCompared 64 = .ok (.istore 9, 2) := by decide +kernel
theorem d_Di_findCompared_66 : decode b_Di_findCompared 66 = .ok (.iload 9, 2) := by decide +kernel
theorem d_Di_findCompared_68 : decode b_Di_findCompared 68 = .ok (.ifCond .eq (21), 3) := by decide +kernel
theorem d_Di_findCompared_71 : decode b_Di_findCompared 71 = .ok (.iload 9, 2) := by decide +kernel
theorem d_Di_findCompared_73 : decode b_Di_findCompared 73 = .ok (.iload 7, 2) := by decide +kernel
theorem d_Di_findCompared_75 : decode b_Di_findCompared 75 = .ok (.invokestatic 64, 3) := by decide +kernel
theorem d_Di_findCompared_78 : decode b_Di_findCompared 78 = .ok (.iload_n 2, 1) := by decide +kernel
theorem d_Di_findCompared_79 : decode b_Di_findCompared 79 = .ok (.if_icmp .ne (10), 3) := by decide +kernel
theorem d_Di_findCompared_82 : decode b_Di_findCompared 82 = .ok (.aload 4, 2) := by decide +kernel
theorem d_Di_findCompared_84 : decode b_Di_findCompared 84 = .ok (.iload 8, 2) := by decide +kernel
theorem d_Di_findCompared_86 : decode b_Di_findCompared 86 = .ok (.invokevirtual 69, 3) := by decide +kernel
theorem d_Di_findCompared_89 : decode b_Di_findCompared 89 = .ok (.iinc 8 (1), 3) := by decide +kernel
theorem d_Di_findCompared_92 : decode b_Di_findCompared 92 = .ok (.goto (-49), 3) := by decide +kernel
theorem d_Di_findCompared_95 : decode b_Di_findCompared 95 = .ok (.return_, 1) := by decide +kernel
def F_Di_findCompared_43_B (rec43 : Nat → Int32 → Nat → Int32 → Int32 → Int32 → Int32 → AW → Option (AW)) (a0 : Nat) (x2 : Int32) (a4 : Nat) (x5 : Int32) (x6 : Int32) (x7 : Int32) (x8 : Int32) (w : AW) : Option (AW) :=
  if (1461 : Int32) ≤ x8 then
    some w
  else
    gd (wk w a0 == 3) <|
    gd (wk w (wr w a0 0) == 100) <|
    gd (inb x8 (wn w (wr w a0 0))) <|
    let v4 : Int32 := (((wi w (wr w a0 0) (Int32.toNatClampNeg x8)) >>> (x5 &&& 31)) &&& x6)
    if v4 = 0 then
      let v5 : Int32 := (x8 + (1 : Int32))
      rec43 a0 x2 a4 x5 x6 x7 v5 w
    else
      if (F_Jint_compare v4 x7) = x2 then
        gd (wk w a4 == 8) <|
        (F_Dy_add a4 x8 w).bind fun r8 =>
        let v10 : Int32 := (x8 + (1 : Int32))
        rec43 a0 x2 a4 x5 x6 x7 v10 r8
      else
        let v6 : Int32 := (x8 + (1 : Int32))
        rec43 a0 x2 a4 x5 x6 x7 v6 w
theorem P_Di_findCompared_43_B {X : AX} {l : Launch} {G : AG} {rec43 : Nat → Int32 → Nat → Int32 → Int32 → Int32 → Int32 → AW → Option (AW)} (hX : XOK X b_Di_findCompared "RedSky$Diary" 10) (hM : XM X l G { frames := 2, cells := 0, slots := 0, locals := 44 }) {o : AW} (hR : XR X none 0 0 none o) (hrec43 : ∀ (a0 : Nat) (x2 : Int32) (a4 : Nat) (x5 : Int32) (x6 : Int32) (x7 : Int32) (x8 : Int32) (w : AW), rec43 a0 x2 a4 x5 x6 x7 x8 w = some o → RJ X 10 0 0 43 [(0, vr a0), (2, vi x2), (4, vr a4), (5, vi x5), (6, vi x6), (7, vi x7), (8, vi x8)] [] w) (a0 : Nat) (x2 : Int32) (a4 : Nat) (x5 : Int32) (x6 : Int32) (x7 : Int32) (x8 : Int32) (w : AW) (h : F_Di_findCompared_43_B rec43 a0 x2 a4 x5 x6 x7 x8 w = some o) : RJ X 10 0 0 43 [(0, vr a0), (2, vi x2), (4, vr a4), (5, vi x5), (6, vi x6), (7, vi x7), (8, vi x8)] [] w := by
  unfold F_Di_findCompared_43_B at h
  refine r_iload (i := 8) hX d_Di_findCompared_43 6  rfl ?_
  refine r_sipush (v := (1461 : Int32)) hX d_Di_findCompared_45 rfl ?_
  refine r_icmp_ge hX d_Di_findCompared_48 rfl h (fun h => ?_) (fun h => ?_)
  · cases h; exact r_vret hX hR d_Di_findCompared_95
  · refine r_aload_n (i := 0) hX d_Di_findCompared_51 0 rfl rfl ?_
    obtain ⟨hk1, h⟩ := gd_e h
    refine r_getR (i := 2) (f := 0) hX ci_2 (by decide) rfl fl_Di_9 hk1 d_Di_findCompared_52 ?_
    refine r_iload (i := 8) hX d_Di_findCompared_55 6  rfl ?_
    obtain ⟨hk2, h⟩ := gd_e h
    obtain ⟨hg3, h⟩ := gd_e h
    refine r_iald hX hk2 hg3 d_Di_findCompared_57 ?_
    refine r_iload (i := 5) hX d_Di_findCompared_58 3  rfl ?_
    refine r_ishr hX d_Di_findCompared_60 ?_
    refine r_iload (i := 6) hX d_Di_findCompared_61 4  rfl ?_
    refine r_iand hX d_Di_findCompared_63 ?_
    refine r_istore (i := 9) hX d_Di_findCompared_64  (by decide) ?_
    refine r_iload (i := 9) hX d_Di_findCompared_66 0  rfl ?_
    refine r_if_eq hX d_Di_findCompared_68 rfl h (fun h => ?_) (fun h => ?_)
    · refine r_iinc (i := 8) (v := (1 : Int32)) hX d_Di_findCompared_89 7 rfl rfl (by decide) ?_
      refine r_goto hX d_Di_findCompared_92 rfl ?_
      exact rj_sub [2, 3, 4, 5, 6, 7, 0] rfl (hrec43 _ _ _ _ _ _ _ _ h)
    · refine r_iload (i := 9) hX d_Di_findCompared_71 0  rfl ?_
      refine r_iload (i := 7) hX d_Di_findCompared_73 6  rfl ?_
      refine r_callS1 (As := [_, _]) hX hM mw_Di_64 (T_Jint_compare _ _ _) rfl rfl ⟨Nat.le_refl _, Nat.le_refl _⟩ rfl rfl d_Di_findCompared_75 ?_
      refine r_iload_n (i := 2) hX d_Di_findCompared_78 2 rfl rfl ?_
      refine r_icmp_ne hX d_Di_findCompared_79 rfl h (fun h => ?_) (fun h => ?_)
      · refine r_iinc (i := 8) (v := (1 : Int32)) hX d_Di_findCompared_89 7 rfl rfl (by decide) ?_
        refine r_goto hX d_Di_findCompared_92 rfl ?_
        exact rj_sub [2, 3, 4, 5, 6, 7, 0] rfl (hrec43 _ _ _ _ _ _ _ _ h)
      · refine r_aload (i := 4) hX d_Di_findCompared_82 3  rfl ?_
        refine r_iload (i := 8) hX d_Di_findCompared_84 7  rfl ?_
        obtain ⟨hk7, h⟩ := gd_e h
        obtain ⟨r8, hr9, h⟩ := bd_e h
        refine r_callV0 (As := [_]) hX hM mw_Di_69 (T_Dy_add _ _ _ hr9) (rc_of ci_7 hk7) rfl rfl ⟨Nat.le_refl _, Nat.le_refl _⟩ rfl rfl d_Di_findCompared_86 ?_
        refine r_iinc (i := 8) (v := (1 : Int32)) hX d_Di_findCompared_89 7 rfl rfl (by decide) ?_
        refine r_goto hX d_Di_findCompared_92 rfl ?_
        exact rj_sub [2, 3, 4, 5, 6, 7, 0] rfl (hrec43 _ _ _ _ _ _ _ _ h)
def F_Di_findCompared_43 : Nat → Nat → Int32 → Nat → Int32 → Int32 → Int32 → Int32 → AW → Option (AW)
  | 0 => fun _ _ _ _ _ _ _ _ => none
  | n + 1 => fun a0 x2 a4 x5 x6 x7 x8 w => F_Di_findCompared_43_B (F_Di_findCompared_43 n) a0 x2 a4 x5 x6 x7 x8 w
theorem P_Di_findCompared_43 {X : AX} {l : Launch} {G : AG} (hX : XOK X b_Di_findCompared "RedSky$Diary" 10) (hM : XM X l G { frames := 2, cells := 0, slots := 0, locals := 44 }) {o : AW} (hR : XR X none 0 0 none o) (fu : Nat) : ∀ (a0 : Nat) (x2 : Int32) (a4 : Nat) (x5 : Int32) (x6 : Int32) (x7 : Int32) (x8 : Int32) (w : AW), F_Di_findCompared_43 fu a0 x2 a4 x5 x6 x7 x8 w = some o → RJ X 10 0 0 43 [(0, vr a0), (2, vi x2), (4, vr a4), (5, vi x5), (6, vi x6), (7, vi x7), (8, vi x8)] [] w := by
  induction fu with
  | zero => intro a0 x2 a4 x5 x6 x7 x8 w h; cases h
  | succ n9 ih => intro a0 x2 a4 x5 x6 x7 x8 w h; exact P_Di_findCompared_43_B hX hM hR ih _ _ _ _ _ _ _ _ h
def F_Di_findCompared (a0 : Nat) (x1 : Int32) (x2 : Int32) (x3 : Int32) (a4 : Nat) (w : AW) : Option (AW) :=
  gd (wk w a4 == 8) <|
  (F_Dy_clear a4 w).bind fun r2 =>
  if x1 < 0 then
    some r2
  else
    if x1 < (4 : Int32) then
      gd (wk r2 5 == 110) <|
      gd (inb x1 (wn r2 5)) <|
      let v6 : Int32 := (wi r2 5 (Int32.toNatClampNeg x1))
      gd (wk r2 6 == 110) <|
      gd (inb x1 (wn r2 6)) <|
      let v9 : Int32 := (wi r2 6 (Int32.toNatClampNeg x1))
      gd (wk r2 3 == 110) <|
      gd (inb x1 (wn r2 3)) <|
      let v12 : Int32 := ((x3 - (wi r2 3 (Int32.toNatClampNeg x1))) + (1 : Int32))
      F_Di_findCompared_43 FUEL a0 x2 a4 v6 v9 v12 (0 : Int32) r2
    else
      some r2
theorem P_Di_findCompared_0 {X : AX} {l : Launch} {G : AG} (hX : XOK X b_Di_findCompared "RedSky$Diary" 10) (hM : XM X l G { frames := 2, cells := 0, slots := 0, locals := 44 }) {o : AW} (hR : XR X none 0 0 none o) (a0 : Nat) (x1 : Int32) (x2 : Int32) (x3 : Int32) (a4 : Nat) (w : AW) (h : F_Di_findCompared a0 x1 x2 x3 a4 w = some o) : RJ X 10 0 0 0 [(0, vr a0), (1, vi x1), (2, vi x2), (3, vi x3), (4, vr a4)] [] w := by
  unfold F_Di_findCompared at h
  refine r_aload (i := 4) hX d_Di_findCompared_0 4  rfl ?_
  obtain ⟨hk1, h⟩ := gd_e h
  obtain ⟨r2, hr3, h⟩ := bd_e h
  refine r_callV0 (As := []) hX hM mw_Di_61 (T_Dy_clear _ _ hr3) (rc_of ci_7 hk1) rfl rfl ⟨Nat.le_refl _, Nat.le_refl _⟩ rfl rfl d_Di_findCompared_2 ?_
  refine r_iload_n (i := 1) hX d_Di_findCompared_5 1 rfl rfl ?_
  refine r_if_lt hX d_Di_findCompared_6 rfl h (fun h => ?_) (fun h => ?_)
  · cases h; exact r_vret hX hR d_Di_findCompared_14
  · refine r_iload_n (i := 1) hX d_Di_findCompared_9 1 rfl rfl ?_
    refine r_iconst (v := (4 : Int32)) hX d_Di_findCompared_10 rfl ?_
    refine r_icmp_lt hX d_Di_findCompared_11 rfl h (fun h => ?_) (fun h => ?_)
    · refine r_gets (v := vr 5) hX (List.mem_of_getElem? (i := 3) rfl) fl_Di_28 d_Di_findCompared_15 ?_
      refine r_iload_n (i := 1) hX d_Di_findCompared_18 1 rfl rfl ?_
      obtain ⟨hk4, h⟩ := gd_e h
      obtain ⟨hg5, h⟩ := gd_e h
      refine r_xald hX hk4 hg5 d_Di_findCompared_19 ?_
      refine r_istore (i := 5) hX d_Di_findCompared_20  (by decide) ?_
      refine r_gets (v := vr 6) hX (List.mem_of_getElem? (i := 4) rfl) fl_Di_31 d_Di_findCompared_22 ?_
      refine r_iload_n (i := 1) hX d_Di_findCompared_25 2 rfl rfl ?_
      obtain ⟨hk7, h⟩ := gd_e h
      obtain ⟨hg8, h⟩ := gd_e h
      refine r_xald hX hk7 hg8 d_Di_findCompared_26 ?_
      refine r_istore (i := 6) hX d_Di_findCompared_27  (by decide) ?_
      refine r_iload_n (i := 3) hX d_Di_findCompared_29 5 rfl rfl ?_
      refine r_gets (v := vr 3) hX (List.mem_of_getElem? (i := 1) rfl) fl_Di_34 d_Di_findCompared_30 ?_
      refine r_iload_n (i := 1) hX d_Di_findCompared_33 3 rfl rfl ?_
      obtain ⟨hk10, h⟩ := gd_e h
      obtain ⟨hg11, h⟩ := gd_e h
      refine r_xald hX hk10 hg11 d_Di_findCompared_34 ?_
      refine r_isub hX d_Di_findCompared_35 ?_
      refine r_iconst (v := (1 : Int32)) hX d_Di_findCompared_36 rfl ?_
      refine r_iadd hX d_Di_findCompared_37 ?_
      refine r_istore (i := 7) hX d_Di_findCompared_38  (by decide) ?_
      refine r_iconst (v := (0 : Int32)) hX d_Di_findCompared_40 rfl ?_
      refine r_istore (i := 8) hX d_Di_findCompared_41  (by decide) ?_
      exact rj_sub [4, 6, 8, 3, 2, 1, 0] rfl (P_Di_findCompared_43 hX hM hR FUEL _ _ _ _ _ _ _ _ h)
    · cases h; exact r_vret hX hR d_Di_findCompared_14
theorem T_Di_findCompared {l : Launch} {G : AG} (a0 : Nat) (x1 : Int32) (x2 : Int32) (x3 : Int32) (a4 : Nat) (w : AW) {o : AW} (h : F_Di_findCompared a0 x1 x2 x3 a4 w = some o) : Mt l G y_Di_findCompared b_Di_findCompared 10 none 2 44 0 0 [vr a0, vi x1, vi x2, vi x3, vr a4] w none o := mt_of (by decide) (Nat.le_of_ble_eq_true rfl) (fun X hX hR hM hI => P_Di_findCompared_0 hX hM hR _ _ _ _ _ _ h)
/-! RedSky$Days.meet(LRedSky$Days;)V -/
theorem d_Dy_meet_0 : decode b_Dy_meet 0 = .ok (.iconst 0, 1) := by decide +kernel
theorem d_Dy_meet_1 : decode b_Dy_meet 1 = .ok (.istore_n 2, 1) := by decide +kernel
theorem d_Dy_meet_2 : decode b_Dy_meet 2 = .ok (.iload_n 2, 1) := by decide +kernel
theorem d_Dy_meet_3 : decode b_Dy_meet 3 = .ok (.bipush (23), 2) := by decide +kernel
theorem d_Dy_meet_5 : decode b_Dy_meet 5 = .ok (.if_icmp .ge (24), 3) := by decide +kernel
theorem d_Dy_meet_8 : decode b_Dy_meet 8 = .ok (.aload_n 0, 1) := by decide +kernel
theorem d_Dy_meet_9 : decode b_Dy_meet 9 = .ok (.getfield 11, 3) := by decide +kernel
theorem d_Dy_meet_12 : decode b_Dy_meet 12 = .ok (.iload_n 2, 1) := by decide +kernel
theorem d_Dy_meet_13 : decode b_Dy_meet 13 = .ok (.dup2, 1) := by decide +kernel
theorem d_Dy_meet_14 : decode b_Dy_meet 14 = .ok (.laload, 1) := by decide +kernel
theorem d_Dy_meet_15 : decode b_Dy_meet 15 = .ok (.aload_n 1, 1) := by decide +kernel
theorem d_Dy_meet_16 : decode b_Dy_meet 16 = .ok (.getfield 11, 3) := by decide +kernel
theorem d_Dy_meet_19 : decode b_Dy_meet 19 = .ok (.iload_n 2, 1) := by decide +kernel
theorem d_Dy_meet_20 : decode b_Dy_meet 20 = .ok (.laload, 1) := by decide +kernel
theorem d_Dy_meet_21 : decode b_Dy_meet 21 = .ok (.land, 1) := by decide +kernel
theorem d_Dy_meet_22 : decode b_Dy_meet 22 = .ok (.lastore, 1) := by decide +kernel
theorem d_Dy_meet_23 : decode b_Dy_meet 23 = .ok (.iinc 2 (1), 3) := by decide +kernel
theorem d_Dy_meet_26 : decode b_Dy_meet 26 = .ok (.goto (-24), 3) := by decide +kernel
theorem d_Dy_meet_29 : decode b_Dy_meet 29 = .ok (.return_, 1) := by decide +kernel
def F_Dy_meet_2_B (rec2 : Nat → Nat → Int32 → AW → Option (AW)) (a0 : Nat) (a1 : Nat) (x2 : Int32) (w : AW) : Option (AW) :=
  if (23 : Int32) ≤ x2 then
    some w
  else
    gd (wk w a0 == 8) <|
    gd (wk w (wr w a0 0) == 101) <|
    gd (inb x2 (wn w (wr w a0 0))) <|
    gd (wk w a1 == 8) <|
    gd (wk w (wr w a1 0) == 101) <|
    gd (inb x2 (wn w (wr w a1 0))) <|
    gd (inb x2 (wn w (wr w a0 0))) <|
    let w8 : AW := upJ w (wr w a0 0) (Int32.toNatClampNeg x2) ((wj w (wr w a0 0) (Int32.toNatClampNeg x2)) &&& (wj w (wr w a1 0) (Int32.toNatClampNeg x2)))
    let v9 : Int32 := (x2 + (1 : Int32))
    rec2 a0 a1 v9 w8
theorem P_Dy_meet_2_B {X : AX} {l : Launch} {G : AG} {rec2 : Nat → Nat → Int32 → AW → Option (AW)} (hX : XOK X b_Dy_meet "RedSky$Days" 3) (hM : XM X l G { frames := 0, cells := 0, slots := 0, locals := 0 }) {o : AW} (hR : XR X none 0 0 none o) (hrec2 : ∀ (a0 : Nat) (a1 : Nat) (x2 : Int32) (w : AW), rec2 a0 a1 x2 w = some o → RJ X 3 0 0 2 [(0, vr a0), (1, vr a1), (2, vi x2)] [] w) (a0 : Nat) (a1 : Nat) (x2 : Int32) (w : AW) (h : F_Dy_meet_2_B rec2 a0 a1 x2 w = some o) : RJ X 3 0 0 2 [(0, vr a0), (1, vr a1), (2, vi x2)] [] w := by
  unfold F_Dy_meet_2_B at h
  refine r_iload_n (i := 2) hX d_Dy_meet_2 2 rfl rfl ?_
  refine r_bipush (v := (23 : Int32)) hX d_Dy_meet_3 rfl ?_
  refine r_icmp_ge hX d_Dy_meet_5 rfl h (fun h => ?_) (fun h => ?_)
  · cases h; exact r_vret hX hR d_Dy_meet_29
  · refine r_aload_n (i := 0) hX d_Dy_meet_8 0 rfl rfl ?_
    obtain ⟨hk1, h⟩ := gd_e h
    refine r_getR (i := 7) (f := 0) hX ci_7 (by decide) rfl fl_Dy_11 hk1 d_Dy_meet_9 ?_
    refine r_iload_n (i := 2) hX d_Dy_meet_12 2 rfl rfl ?_
    refine r_dup2 hX d_Dy_meet_13 rfl rfl ?_
    obtain ⟨hk2, h⟩ := gd_e h
    obtain ⟨hg3, h⟩ := gd_e h
    refine r_lald hX hk2 hg3 d_Dy_meet_14 ?_
    refine r_aload_n (i := 1) hX d_Dy_meet_15 1 rfl rfl ?_
    obtain ⟨hk4, h⟩ := gd_e h
    refine r_getR (i := 7) (f := 0) hX ci_7 (by decide) rfl fl_Dy_11 hk4 d_Dy_meet_16 ?_
    refine r_iload_n (i := 2) hX d_Dy_meet_19 2 rfl rfl ?_
    obtain ⟨hk5, h⟩ := gd_e h
    obtain ⟨hg6, h⟩ := gd_e h
    refine r_lald hX hk5 hg6 d_Dy_meet_20 ?_
    refine r_land hX d_Dy_meet_21 ?_
    obtain ⟨hg7, h⟩ := gd_e h
    refine r_last hX hk2 hg7 d_Dy_meet_22 ?_
    refine r_iinc (i := 2) (v := (1 : Int32)) hX d_Dy_meet_23 2 rfl rfl (by decide) ?_
    refine r_goto hX d_Dy_meet_26 rfl ?_
    exact rj_sub [1, 2, 0] rfl (hrec2 _ _ _ _ h)
def F_Dy_meet_2 : Nat → Nat → Nat → Int32 → AW → Option (AW)
  | 0 => fun _ _ _ _ => none
  | n + 1 => fun a0 a1 x2 w => F_Dy_meet_2_B (F_Dy_meet_2 n) a0 a1 x2 w
theorem P_Dy_meet_2 {X : AX} {l : Launch} {G : AG} (hX : XOK X b_Dy_meet "RedSky$Days" 3) (hM : XM X l G { frames := 0, cells := 0, slots := 0, locals := 0 }) {o : AW} (hR : XR X none 0 0 none o) (fu : Nat) : ∀ (a0 : Nat) (a1 : Nat) (x2 : Int32) (w : AW), F_Dy_meet_2 fu a0 a1 x2 w = some o → RJ X 3 0 0 2 [(0, vr a0), (1, vr a1), (2, vi x2)] [] w := by
  induction fu with
  | zero => intro a0 a1 x2 w h; cases h
  | succ n9 ih => intro a0 a1 x2 w h; exact P_Dy_meet_2_B hX hM hR ih _ _ _ _ h
def F_Dy_meet (a0 : Nat) (a1 : Nat) (w : AW) : Option (AW) :=
  F_Dy_meet_2 FUEL a0 a1 (0 : Int32) w
theorem P_Dy_meet_0 {X : AX} {l : Launch} {G : AG} (hX : XOK X b_Dy_meet "RedSky$Days" 3) (hM : XM X l G { frames := 0, cells := 0, slots := 0, locals := 0 }) {o : AW} (hR : XR X none 0 0 none o) (a0 : Nat) (a1 : Nat) (w : AW) (h : F_Dy_meet a0 a1 w = some o) : RJ X 3 0 0 0 [(0, vr a0), (1, vr a1)] [] w := by
  unfold F_Dy_meet at h
  refine r_iconst (v := (0 : Int32)) hX d_Dy_meet_0 rfl ?_
  refine r_istore_n (i := 2) hX d_Dy_meet_1 rfl (by decide) ?_
  exact rj_sub [1, 2, 0] rfl (P_Dy_meet_2 hX hM hR FUEL _ _ _ _ h)
theorem T_Dy_meet {l : Launch} {G : AG} (a0 : Nat) (a1 : Nat) (w : AW) {o : AW} (h : F_Dy_meet a0 a1 w = some o) : Mt l G y_Dy_meet b_Dy_meet 3 none 0 0 0 0 [vr a0, vr a1] w none o := mt_of (by decide) (Nat.le_of_ble_eq_true rfl) (fun X hX hR hM hI => P_Dy_meet_0 hX hM hR _ _ _ h)
/-! RedSky$Days.join(LRedSky$Days;)V -/
theorem d_Dy_join_0 : decode b_Dy_join 0 = .ok (.iconst 0, 1) := by decide +kernel
theorem d_Dy_join_1 : decode b_Dy_join 1 = .ok (.istore_n 2, 1) := by decide +kernel
theorem d_Dy_join_2 : decode b_Dy_join 2 = .ok (.iload_n 2, 1) := by decide +kernel
theorem d_Dy_join_3 : decode b_Dy_join 3 = .ok (.bipush (23), 2) := by decide +kernel
theorem d_Dy_join_5 : decode b_Dy_join 5 = .ok (.if_icmp .ge (24), 3) := by decide +kernel
theorem d_Dy_join_8 : decode b_Dy_join 8 = .ok (.aload_n 0, 1) := by decide +kernel
theorem d_Dy_join_9 : decode b_Dy_join 9 = .ok (.getfield 11, 3) := by decide +kernel
theorem d_Dy_join_12 : decode b_Dy_join 12 = .ok (.iload_n 2, 1) := by decide +kernel
theorem d_Dy_join_13 : decode b_Dy_join 13 = .ok (.dup2, 1) := by decide +kernel
theorem d_Dy_join_14 : decode b_Dy_join 14 = .ok (.laload, 1) := by decide +kernel
theorem d_Dy_join_15 : decode b_Dy_join 15 = .ok (.aload_n 1, 1) := by decide +kernel
theorem d_Dy_join_16 : decode b_Dy_join 16 = .ok (.getfield 11, 3) := by decide +kernel
theorem d_Dy_join_19 : decode b_Dy_join 19 = .ok (.iload_n 2, 1) := by decide +kernel
theorem d_Dy_join_20 : decode b_Dy_join 20 = .ok (.laload, 1) := by decide +kernel
theorem d_Dy_join_21 : decode b_Dy_join 21 = .ok (.lor, 1) := by decide +kernel
theorem d_Dy_join_22 : decode b_Dy_join 22 = .ok (.lastore, 1) := by decide +kernel
theorem d_Dy_join_23 : decode b_Dy_join 23 = .ok (.iinc 2 (1), 3) := by decide +kernel
theorem d_Dy_join_26 : decode b_Dy_join 26 = .ok (.goto (-24), 3) := by decide +kernel
theorem d_Dy_join_29 : decode b_Dy_join 29 = .ok (.return_, 1) := by decide +kernel
def F_Dy_join_2_B (rec2 : Nat → Nat → Int32 → AW → Option (AW)) (a0 : Nat) (a1 : Nat) (x2 : Int32) (w : AW) : Option (AW) :=
  if (23 : Int32) ≤ x2 then
    some w
  else
    gd (wk w a0 == 8) <|
    gd (wk w (wr w a0 0) == 101) <|
    gd (inb x2 (wn w (wr w a0 0))) <|
    gd (wk w a1 == 8) <|
    gd (wk w (wr w a1 0) == 101) <|
    gd (inb x2 (wn w (wr w a1 0))) <|
    gd (inb x2 (wn w (wr w a0 0))) <|
    let w8 : AW := upJ w (wr w a0 0) (Int32.toNatClampNeg x2) ((wj w (wr w a0 0) (Int32.toNatClampNeg x2)) ||| (wj w (wr w a1 0) (Int32.toNatClampNeg x2)))
    let v9 : Int32 := (x2 + (1 : Int32))
    rec2 a0 a1 v9 w8
theorem P_Dy_join_2_B {X : AX} {l : Launch} {G : AG} {rec2 : Nat → Nat → Int32 → AW → Option (AW)} (hX : XOK X b_Dy_join "RedSky$Days" 3) (hM : XM X l G { frames := 0, cells := 0, slots := 0, locals := 0 }) {o : AW} (hR : XR X none 0 0 none o) (hrec2 : ∀ (a0 : Nat) (a1 : Nat) (x2 : Int32) (w : AW), rec2 a0 a1 x2 w = some o → RJ X 3 0 0 2 [(0, vr a0), (1, vr a1), (2, vi x2)] [] w) (a0 : Nat) (a1 : Nat) (x2 : Int32) (w : AW) (h : F_Dy_join_2_B rec2 a0 a1 x2 w = some o) : RJ X 3 0 0 2 [(0, vr a0), (1, vr a1), (2, vi x2)] [] w := by
  unfold F_Dy_join_2_B at h
  refine r_iload_n (i := 2) hX d_Dy_join_2 2 rfl rfl ?_
  refine r_bipush (v := (23 : Int32)) hX d_Dy_join_3 rfl ?_
  refine r_icmp_ge hX d_Dy_join_5 rfl h (fun h => ?_) (fun h => ?_)
  · cases h; exact r_vret hX hR d_Dy_join_29
  · refine r_aload_n (i := 0) hX d_Dy_join_8 0 rfl rfl ?_
    obtain ⟨hk1, h⟩ := gd_e h
    refine r_getR (i := 7) (f := 0) hX ci_7 (by decide) rfl fl_Dy_11 hk1 d_Dy_join_9 ?_
    refine r_iload_n (i := 2) hX d_Dy_join_12 2 rfl rfl ?_
    refine r_dup2 hX d_Dy_join_13 rfl rfl ?_
    obtain ⟨hk2, h⟩ := gd_e h
    obtain ⟨hg3, h⟩ := gd_e h
    refine r_lald hX hk2 hg3 d_Dy_join_14 ?_
    refine r_aload_n (i := 1) hX d_Dy_join_15 1 rfl rfl ?_
    obtain ⟨hk4, h⟩ := gd_e h
    refine r_getR (i := 7) (f := 0) hX ci_7 (by decide) rfl fl_Dy_11 hk4 d_Dy_join_16 ?_
    refine r_iload_n (i := 2) hX d_Dy_join_19 2 rfl rfl ?_
    obtain ⟨hk5, h⟩ := gd_e h
    obtain ⟨hg6, h⟩ := gd_e h
    refine r_lald hX hk5 hg6 d_Dy_join_20 ?_
    refine r_lor hX d_Dy_join_21 ?_
    obtain ⟨hg7, h⟩ := gd_e h
    refine r_last hX hk2 hg7 d_Dy_join_22 ?_
    refine r_iinc (i := 2) (v := (1 : Int32)) hX d_Dy_join_23 2 rfl rfl (by decide) ?_
    refine r_goto hX d_Dy_join_26 rfl ?_
    exact rj_sub [1, 2, 0] rfl (hrec2 _ _ _ _ h)
def F_Dy_join_2 : Nat → Nat → Nat → Int32 → AW → Option (AW)
  | 0 => fun _ _ _ _ => none
  | n + 1 => fun a0 a1 x2 w => F_Dy_join_2_B (F_Dy_join_2 n) a0 a1 x2 w
theorem P_Dy_join_2 {X : AX} {l : Launch} {G : AG} (hX : XOK X b_Dy_join "RedSky$Days" 3) (hM : XM X l G { frames := 0, cells := 0, slots := 0, locals := 0 }) {o : AW} (hR : XR X none 0 0 none o) (fu : Nat) : ∀ (a0 : Nat) (a1 : Nat) (x2 : Int32) (w : AW), F_Dy_join_2 fu a0 a1 x2 w = some o → RJ X 3 0 0 2 [(0, vr a0), (1, vr a1), (2, vi x2)] [] w := by
  induction fu with
  | zero => intro a0 a1 x2 w h; cases h
  | succ n9 ih => intro a0 a1 x2 w h; exact P_Dy_join_2_B hX hM hR ih _ _ _ _ h
def F_Dy_join (a0 : Nat) (a1 : Nat) (w : AW) : Option (AW) :=
  F_Dy_join_2 FUEL a0 a1 (0 : Int32) w
theorem P_Dy_join_0 {X : AX} {l : Launch} {G : AG} (hX : XOK X b_Dy_join "RedSky$Days" 3) (hM : XM X l G { frames := 0, cells := 0, slots := 0, locals := 0 }) {o : AW} (hR : XR X none 0 0 none o) (a0 : Nat) (a1 : Nat) (w : AW) (h : F_Dy_join a0 a1 w = some o) : RJ X 3 0 0 0 [(0, vr a0), (1, vr a1)] [] w := by
  unfold F_Dy_join at h
  refine r_iconst (v := (0 : Int32)) hX d_Dy_join_0 rfl ?_
  refine r_istore_n (i := 2) hX d_Dy_join_1 rfl (by decide) ?_
  exact rj_sub [1, 2, 0] rfl (P_Dy_join_2 hX hM hR FUEL _ _ _ _ h)
theorem T_Dy_join {l : Launch} {G : AG} (a0 : Nat) (a1 : Nat) (w : AW) {o : AW} (h : F_Dy_join a0 a1 w = some o) : Mt l G y_Dy_join b_Dy_join 3 none 0 0 0 0 [vr a0, vr a1] w none o := mt_of (by decide) (Nat.le_of_ble_eq_true rfl) (fun X hX hR hM hI => P_Dy_join_0 hX hM hR _ _ _ h)
/-! RedSky$Scales.take(IILRedSky$Diary;I)I -/
theorem d_Sc_take_0 : decode b_Sc_take 0 = .ok (.iload_n 1, 1) := by decide +kernel
theorem d_Sc_take_1 : decode b_Sc_take 1 = .ok (.bipush (12), 2) := by decide +kernel
theorem d_Sc_take_3 : decode b_Sc_take 3 = .ok (.if_icmp .ge (43), 3) := by decide +kernel
theorem d_Sc_take_6 : decode b_Sc_take 6 = .ok (.iload 4, 2) := by decide +kernel
theorem d_Sc_take_8 : decode b_Sc_take 8 = .ok (.ifCond .lt (10), 3) := by decide +kernel
theorem d_Sc_take_11 : decode b_Sc_take 11 = .ok (.iload 4, 2) := by decide +kernel
theorem d_Sc_take_13 : decode b_Sc_take 13 = .ok (.bipush (24), 2) := by decide +kernel
theorem d_Sc_take_15 : decode b_Sc_take 15 = .ok (.if_icmp .lt (6), 3) := by decide +kernel
theorem d_Sc_take_18 : decode b_Sc_take 18 = .ok (.iload 4, 2) := by decide +kernel
theorem d_Sc_take_20 : decode b_Sc_take 20 = .ok (.ireturn, 1) := by decide +kernel
theorem d_Sc_take_21 : decode b_Sc_take 21 = .ok (.aload_n 3, 1) := by decide +kernel
theorem d_Sc_take_22 : decode b_Sc_take 22 = .ok (.iload_n 1, 1) := by decide +kernel
theorem d_Sc_take_23 : decode b_Sc_take 23 = .ok (.invokestatic 48, 3) := by decide +kernel
theorem d_Sc_take_26 : decode b_Sc_take 26 = .ok (.iload_n 1, 1) := by decide +kernel
theorem d_Sc_take_27 : decode b_Sc_take 27 = .ok (.invokestatic 51, 3) := by decide +kernel
theorem d_Sc_take_30 : decode b_Sc_take 30 = .ok (.iload_n 2, 1) := by decide +kernel
theorem d_Sc_take_31 : decode b_Sc_take 31 = .ok (.aload_n 0, 1) := by decide +kernel
theorem d_Sc_take_32 : decode b_Sc_take 32 = .ok (.getfield 11, 3) := by decide +kernel
theorem d_Sc_take_35 : decode b_Sc_take 35 = .ok (.iload 4, 2) := by decide +kernel
theorem d_Sc_take_37 : decode b_Sc_take 37 = .ok (.aaload, 1) := by decide +kernel
theorem d_Sc_take_38 : decode b_Sc_take 38 = .ok (.invokevirtual 54, 3) := by decide +kernel
theorem d_Sc_take_41 : decode b_Sc_take 41 = .ok (.iload 4, 2) := by decide +kernel
theorem d_Sc_take_43 : decode b_Sc_take 43 = .ok (.iconst 1, 1) := by decide +kernel
theorem d_Sc_take_44 : decode b_Sc_take 44 = .ok (.iadd, 1) := by decide +kernel
theorem d_Sc_take_45 : decode b_Sc_take 45 = .ok (.ireturn, 1) := by decide +kernel
theorem d_Sc_take_46 : decode b_Sc_take 46 = .ok (.iload_n 1, 1) := by decide +kernel
theorem d_Sc_take_47 : decode b_Sc_take 47 = .ok (.bipush (12), 2) := by decide +kernel
theorem d_Sc_take_49 : decode b_Sc_take 49 = .ok (.if_icmp .ne (29), 3) := by decide +kernel
theorem d_Sc_take_52 : decode b_Sc_take 52 = .ok (.iload 4, 2) := by decide +kernel
theorem d_Sc_take_54 : decode b_Sc_take 54 = .ok (.iconst 1, 1) := by decide +kernel
theorem d_Sc_take_55 : decode b_Sc_take 55 = .ok (.bipush (24), 2) := by decide +kernel
theorem d_Sc_take_57 : decode b_Sc_take 57 = .ok (.invokestatic 58, 3) := by decide +kernel
theorem d_Sc_take_60 : decode b_Sc_take 60 = .ok (.ifCond .eq (15), 3) := by decide +kernel
theorem d_Sc_take_63 : decode b_Sc_take 63 = .ok (.aload_n 0, 1) := by decide +kernel
theorem d_Sc_take_64 : decode b_Sc_take 64 = .ok (.getfield 11, 3) := by decide +kernel
theorem d_Sc_take_67 : decode b_Sc_take 67 = .ok (.iload 4, 2) := by decide +kernel
theorem d_Sc_take_69 : decode b_Sc_take 69 = .ok (.iconst 1, 1) := by decide +kernel
theorem d_Sc_take_70 : decode b_Sc_take 70 = .ok (.isub, 1) := by decide +kernel
theorem d_Sc_take_71 : decode b_Sc_take 71 = .ok (.aaload, 1) := by decide +kernel
theorem d_Sc_take_72 : decode b_Sc_take 72 = .ok (.invokevirtual 64, 3) := by decide +kernel
theorem d_Sc_take_75 : decode b_Sc_take 75 = .ok (.iload 4, 2) := by decide +kernel
theorem d_Sc_take_77 : decode b_Sc_take 77 = .ok (.ireturn, 1) := by decide +kernel
theorem d_Sc_take_78 : decode b_Sc_take 78 = .ok (.iload 4, 2) := by decide +kernel
theorem d_Sc_take_80 : decode b_Sc_take 80 = .ok (.iconst 2, 1) := by decide +kernel
theorem d_Sc_take_81 : decode b_Sc_take 81 = .ok (.bipush (24), 2) := by decide +kernel
theorem d_Sc_take_83 : decode b_Sc_take 83 = .ok (.invokestatic 58, 3) := by decide +kernel
theorem d_Sc_take_86 : decode b_Sc_take 86 = .ok (.ifCond .ne (6), 3) := by decide +kernel
theorem d_Sc_take_89 : decode b_Sc_take 89 = .ok (.iload 4, 2) := by decide +kernel
theorem d_Sc_take_91 : decode b_Sc_take 91 = .ok (.ireturn, 1) := by decide +kernel
theorem d_Sc_take_92 : decode b_Sc_take 92 = .ok (.iload_n 1, 1) := by decide +kernel
theorem d_Sc_take_93 : decode b_Sc_take 93 = .ok (.bipush (13), 2) := by decide +kernel
theorem d_Sc_take_95 : decode b_Sc_take 95 = .ok (.if_icmp .ne (27), 3) := by decide +kernel
theorem d_Sc_take_98 : decode b_Sc_take 98 = .ok (.aload_n 0, 1) := by decide +kernel
theorem d_Sc_take_99 : decode b_Sc_take 99 = .ok (.getfield 11, 3) := by decide +kernel
theorem d_Sc_take_102 : decode b_Sc_take 102 = .ok (.iload 4, 2) := by decide +kernel
theorem d_Sc_take_104 : decode b_Sc_take 104 = .ok (.iconst 2, 1) := by decide +kernel
theorem d_Sc_take_105 : decode b_Sc_take 105 = .ok (.isub, 1) := by decide +kernel
theorem d_Sc_take_106 : decode b_Sc_take 106 = .ok (.aaload, 1) := by decide +kernel
theorem d_Sc_take_107 : decode b_Sc_take 107 = .ok (.aload_n 0, 1) := by decide +kernel
theorem d_Sc_take_108 : decode b_Sc_take 108 = .ok (.getfield 11, 3) := by decide +kernel
theorem d_Sc_take_111 : decode b_Sc_take 111 = .ok (.iload 4, 2) := by decide +kernel
theorem d_Sc_take_113 : decode b_Sc_take 113 = .ok (.iconst 1, 1) := by decide +kernel
theorem d_Sc_take_114 : decode b_Sc_take 114 = .ok (.isub, 1) := by decide +kernel
theorem d_Sc_take_115 : decode b_Sc_take 115 = .ok (.aaload, 1) := by decide +kernel
theorem d_Sc_take_116 : decode b_Sc_take 116 = .ok (.invokevirtual 45, 3) := by decide +kernel
theorem d_Sc_take_119 : decode b_Sc_take 119 = .ok (.goto (24), 3) := by decide +kernel
theorem d_Sc_take_122 : decode b_Sc_take 122 = .ok (.aload_n 0, 1) := by decide +kernel
theorem d_Sc_take_123 : decode b_Sc_take 123 = .ok (.getfield 11, 3) := by decide +kernel
theorem d_Sc_take_126 : decode b_Sc_take 126 = .ok (.iload 4, 2) := by decide +kernel
theorem d_Sc_take_128 : decode b_Sc_take 128 = .ok (.iconst 2, 1) := by decide +kernel
theorem d_Sc_take_129 : decode b_Sc_take 129 = .ok (.isub, 1) := by decide +kernel
theorem d_Sc_take_130 : decode b_Sc_take 130 = .ok (.aaload, 1) := by decide +kernel
theorem d_Sc_take_131 : decode b_Sc_take 131 = .ok (.aload_n 0, 1) := by decide +kernel
theorem d_Sc_take_132 : decode b_Sc_take 132 = .ok (.getfield 11, 3) := by decide +kernel
theorem d_Sc_take_135 : decode b_Sc_take 135 = .ok (.iload 4, 2) := by decide +kernel
theorem d_Sc_take_137 : decode b_Sc_take 137 = .ok (.iconst 1, 1) := by decide +kernel
theorem d_Sc_take_138 : decode b_Sc_take 138 = .ok (.isub, 1) := by decide +kernel
theorem d_Sc_take_139 : decode b_Sc_take 139 = .ok (.aaload, 1) := by decide +kernel
theorem d_Sc_take_140 : decode b_Sc_take 140 = .ok (.invokevirtual 67, 3) := by decide +kernel
theorem d_Sc_take_143 : decode b_Sc_take 143 = .ok (.iload 4, 2) := by decide +kernel
theorem d_Sc_take_145 : decode b_Sc_take 145 = .ok (.iconst 1, 1) := by decide +kernel
theorem d_Sc_take_146 : decode b_Sc_take 146 = .ok (.isub, 1) := by decide +kernel
theorem d_Sc_take_147 : decode b_Sc_take 147 = .ok (.ireturn, 1) := by decide +kernel
def F_Sc_take (a0 : Nat) (x1 : Int32) (x2 : Int32) (a3 : Nat) (x4 : Int32) (w : AW) : Option (Int32 × AW) :=
  if (12 : Int32) ≤ x1 then
    if x1 = (12 : Int32) then
      if (F_A_within x4 (1 : Int32) (24 : Int32)) = 0 then
        some (x4, w)
      else
        gd (wk w a0 == 7) <|
        gd (wk w (wr w a0 0) == 105) <|
        gd (inb (x4 - (1 : Int32)) (wn w (wr w a0 0))) <|
        gd (wk w (wr w (wr w a0 0) (Int32.toNatClampNeg (x4 - (1 : Int32)))) == 8) <|
        (F_Dy_turnOver (wr w (wr w a0 0) (Int32.toNatClampNeg (x4 - (1 : Int32)))) w).bind fun r19 =>
        some (x4, r19)
    else
      if (F_A_within x4 (2 : Int32) (24 : Int32)) = 0 then
        some (x4, w)
      else
        if x1 = (13 : Int32) then
          gd (wk w a0 == 7) <|
          gd (wk w (wr w a0 0) == 105) <|
          gd (inb (x4 - (2 : Int32)) (wn w (wr w a0 0))) <|
          gd (inb (x4 - (1 : Int32)) (wn w (wr w a0 0))) <|
          gd (wk w (wr w (wr w a0 0) (Int32.toNatClampNeg (x4 - (2 : Int32)))) == 8) <|
          (F_Dy_meet (wr w (wr w a0 0) (Int32.toNatClampNeg (x4 - (2 : Int32)))) (wr w (wr w a0 0) (Int32.toNatClampNeg (x4 - (1 : Int32)))) w).bind fun r13 =>
          some ((x4 - (1 : Int32)), r13)
        else
          gd (wk w a0 == 7) <|
          gd (wk w (wr w a0 0) == 105) <|
          gd (inb (x4 - (2 : Int32)) (wn w (wr w a0 0))) <|
          gd (inb (x4 - (1 : Int32)) (wn w (wr w a0 0))) <|
          gd (wk w (wr w (wr w a0 0) (Int32.toNatClampNeg (x4 - (2 : Int32)))) == 8) <|
          (F_Dy_join (wr w (wr w a0 0) (Int32.toNatClampNeg (x4 - (2 : Int32)))) (wr w (wr w a0 0) (Int32.toNatClampNeg (x4 - (1 : Int32)))) w).bind fun r6 =>
          some ((x4 - (1 : Int32)), r6)
  else
    if x4 < 0 then
      some (x4, w)
    else
      if x4 < (24 : Int32) then
        gd (wk w a0 == 7) <|
        gd (wk w (wr w a0 0) == 105) <|
        gd (inb x4 (wn w (wr w a0 0))) <|
        gd (wk w a3 == 3) <|
        (F_Di_findCompared a3 (F_Co_fieldOf x1) (F_Co_orderOf x1) x2 (wr w (wr w a0 0) (Int32.toNatClampNeg x4)) w).bind fun r25 =>
        some ((x4 + (1 : Int32)), r25)
      else
        some (x4, w)
theorem P_Sc_take_0 {X : AX} {l : Launch} {G : AG} (hX : XOK X b_Sc_take "RedSky$Scales" 5) (hM : XM X l G { frames := 3, cells := 0, slots := 0, locals := 73 }) {o : Int32 × AW} (hR : XR X (some .int) 0 0 (some (vi o.1)) o.2) (a0 : Nat) (x1 : Int32) (x2 : Int32) (a3 : Nat) (x4 : Int32) (w : AW) (h : F_Sc_take a0 x1 x2 a3 x4 w = some o) : RJ X 5 0 0 0 [(0, vr a0), (1, vi x1), (2, vi x2), (3, vr a3), (4, vi x4)] [] w := by
  unfold F_Sc_take at h
  refine r_iload_n (i := 1) hX d_Sc_take_0 1 rfl rfl ?_
  refine r_bipush (v := (12 : Int32)) hX d_Sc_take_1 rfl ?_
  refine r_icmp_ge hX d_Sc_take_3 rfl h (fun h => ?_) (fun h => ?_)
  · refine r_iload_n (i := 1) hX d_Sc_take_46 1 rfl rfl ?_
    refine r_bipush (v := (12 : Int32)) hX d_Sc_take_47 rfl ?_
    refine r_icmp_ne hX d_Sc_take_49 rfl h (fun h => ?_) (fun h => ?_)
    · refine r_iload (i := 4) hX d_Sc_take_78 4  rfl ?_
      refine r_iconst (v := (2 : Int32)) hX d_Sc_take_80 rfl ?_
      refine r_bipush (v := (24 : Int32)) hX d_Sc_take_81 rfl ?_
      refine r_callSN1 (As := [_, _, _]) hX hM mw_Sc_58 (T_A_within _ _ _ _) rfl rfl ⟨Nat.le_refl _, Nat.le_refl _⟩ rfl rfl d_Sc_take_83 ?_
      refine r_if_ne hX d_Sc_take_86 rfl h (fun h => ?_) (fun h => ?_)
      · refine r_iload_n (i := 1) hX d_Sc_take_92 1 rfl rfl ?_
        refine r_bipush (v := (13 : Int32)) hX d_Sc_take_93 rfl ?_
        refine r_icmp_ne hX d_Sc_take_95 rfl h (fun h => ?_) (fun h => ?_)
        · refine r_aload_n (i := 0) hX d_Sc_take_122 0 rfl rfl ?_
          obtain ⟨hk1, h⟩ := gd_e h
          refine r_getR (i := 6) (f := 0) hX ci_6 (by decide) rfl fl_Sc_11 hk1 d_Sc_take_123 ?_
          refine r_iload (i := 4) hX d_Sc_take_126 4  rfl ?_
          refine r_iconst (v := (2 : Int32)) hX d_Sc_take_128 rfl ?_
          refine r_isub hX d_Sc_take_129 ?_
          obtain ⟨hk2, h⟩ := gd_e h
          obtain ⟨hg3, h⟩ := gd_e h
          refine r_aald (t := 0) (kd := 105) hX (by decide) (fun G => rfl) hk2 hg3 d_Sc_take_130 ?_
          refine r_aload_n (i := 0) hX d_Sc_take_131 0 rfl rfl ?_
          refine r_getR (i := 6) (f := 0) hX ci_6 (by decide) rfl fl_Sc_11 hk1 d_Sc_take_132 ?_
          refine r_iload (i := 4) hX d_Sc_take_135 4  rfl ?_
          refine r_iconst (v := (1 : Int32)) hX d_Sc_take_137 rfl ?_
          refine r_isub hX d_Sc_take_138 ?_
          obtain ⟨hg4, h⟩ := gd_e h
          refine r_aald (t := 0) (kd := 105) hX (by decide) (fun G => rfl) hk2 hg4 d_Sc_take_139 ?_
          obtain ⟨hk5, h⟩ := gd_e h
          obtain ⟨r6, hr7, h⟩ := bd_e h
          refine r_callV0 (As := [_]) hX hM mw_Sc_67 (T_Dy_join _ _ _ hr7) (rc_of ci_7 hk5) rfl rfl ⟨Nat.le_refl _, Nat.le_refl _⟩ rfl rfl d_Sc_take_140 ?_
          refine r_iload (i := 4) hX d_Sc_take_143 4  rfl ?_
          refine r_iconst (v := (1 : Int32)) hX d_Sc_take_145 rfl ?_
          refine r_isub hX d_Sc_take_146 ?_
          cases h; exact r_iret hX hR d_Sc_take_147
        · refine r_aload_n (i := 0) hX d_Sc_take_98 0 rfl rfl ?_
          obtain ⟨hk8, h⟩ := gd_e h
          refine r_getR (i := 6) (f := 0) hX ci_6 (by decide) rfl fl_Sc_11 hk8 d_Sc_take_99 ?_
          refine r_iload (i := 4) hX d_Sc_take_102 4  rfl ?_
          refine r_iconst (v := (2 : Int32)) hX d_Sc_take_104 rfl ?_
          refine r_isub hX d_Sc_take_105 ?_
          obtain ⟨hk9, h⟩ := gd_e h
          obtain ⟨hg10, h⟩ := gd_e h
          refine r_aald (t := 0) (kd := 105) hX (by decide) (fun G => rfl) hk9 hg10 d_Sc_take_106 ?_
          refine r_aload_n (i := 0) hX d_Sc_take_107 0 rfl rfl ?_
          refine r_getR (i := 6) (f := 0) hX ci_6 (by decide) rfl fl_Sc_11 hk8 d_Sc_take_108 ?_
          refine r_iload (i := 4) hX d_Sc_take_111 4  rfl ?_
          refine r_iconst (v := (1 : Int32)) hX d_Sc_take_113 rfl ?_
          refine r_isub hX d_Sc_take_114 ?_
          obtain ⟨hg11, h⟩ := gd_e h
          refine r_aald (t := 0) (kd := 105) hX (by decide) (fun G => rfl) hk9 hg11 d_Sc_take_115 ?_
          obtain ⟨hk12, h⟩ := gd_e h
          obtain ⟨r13, hr14, h⟩ := bd_e h
          refine r_callV0 (As := [_]) hX hM mw_Sc_45 (T_Dy_meet _ _ _ hr14) (rc_of ci_7 hk12) rfl rfl ⟨Nat.le_refl _, Nat.le_refl _⟩ rfl rfl d_Sc_take_116 ?_
          refine r_goto hX d_Sc_take_119 rfl ?_
          refine r_iload (i := 4) hX d_Sc_take_143 4  rfl ?_
          refine r_iconst (v := (1 : Int32)) hX d_Sc_take_145 rfl ?_
          refine r_isub hX d_Sc_take_146 ?_
          cases h; exact r_iret hX hR d_Sc_take_147
      · refine r_iload (i := 4) hX d_Sc_take_89 4  rfl ?_
        cases h; exact r_iret hX hR d_Sc_take_91
    · refine r_iload (i := 4) hX d_Sc_take_52 4  rfl ?_
      refine r_iconst (v := (1 : Int32)) hX d_Sc_take_54 rfl ?_
      refine r_bipush (v := (24 : Int32)) hX d_Sc_take_55 rfl ?_
      refine r_callSN1 (As := [_, _, _]) hX hM mw_Sc_58 (T_A_within _ _ _ _) rfl rfl ⟨Nat.le_refl _, Nat.le_refl _⟩ rfl rfl d_Sc_take_57 ?_
      refine r_if_eq hX d_Sc_take_60 rfl h (fun h => ?_) (fun h => ?_)
      · refine r_iload (i := 4) hX d_Sc_take_75 4  rfl ?_
        cases h; exact r_iret hX hR d_Sc_take_77
      · refine r_aload_n (i := 0) hX d_Sc_take_63 0 rfl rfl ?_
        obtain ⟨hk15, h⟩ := gd_e h
        refine r_getR (i := 6) (f := 0) hX ci_6 (by decide) rfl fl_Sc_11 hk15 d_Sc_take_64 ?_
        refine r_iload (i := 4) hX d_Sc_take_67 4  rfl ?_
        refine r_iconst (v := (1 : Int32)) hX d_Sc_take_69 rfl ?_
        refine r_isub hX d_Sc_take_70 ?_
        obtain ⟨hk16, h⟩ := gd_e h
        obtain ⟨hg17, h⟩ := gd_e h
        refine r_aald (t := 0) (kd := 105) hX (by decide) (fun G => rfl) hk16 hg17 d_Sc_take_71 ?_
        obtain ⟨hk18, h⟩ := gd_e h
        obtain ⟨r19, hr20, h⟩ := bd_e h
        refine r_callV0 (As := []) hX hM mw_Sc_64 (T_Dy_turnOver _ _ hr20) (rc_of ci_7 hk18) rfl rfl ⟨Nat.le_refl _, Nat.le_refl _⟩ rfl rfl d_Sc_take_72 ?_
        refine r_iload (i := 4) hX d_Sc_take_75 4  rfl ?_
        cases h; exact r_iret hX hR d_Sc_take_77
  · refine r_iload (i := 4) hX d_Sc_take_6 4  rfl ?_
    refine r_if_lt hX d_Sc_take_8 rfl h (fun h => ?_) (fun h => ?_)
    · refine r_iload (i := 4) hX d_Sc_take_18 4  rfl ?_
      cases h; exact r_iret hX hR d_Sc_take_20
    · refine r_iload (i := 4) hX d_Sc_take_11 4  rfl ?_
      refine r_bipush (v := (24 : Int32)) hX d_Sc_take_13 rfl ?_
      refine r_icmp_lt hX d_Sc_take_15 rfl h (fun h => ?_) (fun h => ?_)
      · refine r_aload_n (i := 3) hX d_Sc_take_21 3 rfl rfl ?_
        refine r_iload_n (i := 1) hX d_Sc_take_22 1 rfl rfl ?_
        refine r_callS1 (As := [_]) hX hM mw_Sc_48 (T_Co_fieldOf _ _) rfl rfl ⟨Nat.le_refl _, Nat.le_refl _⟩ rfl rfl d_Sc_take_23 ?_
        refine r_iload_n (i := 1) hX d_Sc_take_26 1 rfl rfl ?_
        refine r_callS1 (As := [_]) hX hM mw_Sc_51 (T_Co_orderOf _ _) rfl rfl ⟨Nat.le_refl _, Nat.le_refl _⟩ rfl rfl d_Sc_take_27 ?_
        refine r_iload_n (i := 2) hX d_Sc_take_30 2 rfl rfl ?_
        refine r_aload_n (i := 0) hX d_Sc_take_31 0 rfl rfl ?_
        obtain ⟨hk21, h⟩ := gd_e h
        refine r_getR (i := 6) (f := 0) hX ci_6 (by decide) rfl fl_Sc_11 hk21 d_Sc_take_32 ?_
        refine r_iload (i := 4) hX d_Sc_take_35 4  rfl ?_
        obtain ⟨hk22, h⟩ := gd_e h
        obtain ⟨hg23, h⟩ := gd_e h
        refine r_aald (t := 0) (kd := 105) hX (by decide) (fun G => rfl) hk22 hg23 d_Sc_take_37 ?_
        obtain ⟨hk24, h⟩ := gd_e h
        obtain ⟨r25, hr26, h⟩ := bd_e h
        refine r_callV0 (As := [_, _, _, _]) hX hM mw_Sc_54 (T_Di_findCompared _ _ _ _ _ _ hr26) (rc_of ci_2 hk24) rfl rfl ⟨Nat.le_refl _, Nat.le_refl _⟩ rfl rfl d_Sc_take_38 ?_
        refine r_iload (i := 4) hX d_Sc_take_41 4  rfl ?_
        refine r_iconst (v := (1 : Int32)) hX d_Sc_take_43 rfl ?_
        refine r_iadd hX d_Sc_take_44 ?_
        cases h; exact r_iret hX hR d_Sc_take_45
      · refine r_iload (i := 4) hX d_Sc_take_18 4  rfl ?_
        cases h; exact r_iret hX hR d_Sc_take_20
theorem T_Sc_take {l : Launch} {G : AG} (a0 : Nat) (x1 : Int32) (x2 : Int32) (a3 : Nat) (x4 : Int32) (w : AW) {o : Int32 × AW} (h : F_Sc_take a0 x1 x2 a3 x4 w = some o) : Mt l G y_Sc_take b_Sc_take 5 (some (.int)) 3 73 0 0 [vr a0, vi x1, vi x2, vr a3, vi x4] w (some (vi o.1)) o.2 := mt_of (by decide) (Nat.le_of_ble_eq_true rfl) (fun X hX hR hM hI => P_Sc_take_0 hX hM hR _ _ _ _ _ _ h)
/-! RedSky$Days.remove(I)V -/
theorem d_Dy_remove_0 : decode b_Dy_remove 0 = .ok (.iload_n 1, 1) := by decide +kernel
theorem d_Dy_remove_1 : decode b_Dy_remove 1 = .ok (.ifCond .lt (32), 3) := by decide +kernel
theorem d_Dy_remove_4 : decode b_Dy_remove 4 = .ok (.iload_n 1, 1) := by decide +kernel
theorem d_Dy_remove_5 : decode b_Dy_remove 5 = .ok (.sipush (1461), 3) := by decide +kernel
theorem d_Dy_remove_8 : decode b_Dy_remove 8 = .ok (.if_icmp .ge (25), 3) := by decide +kernel
theorem d_Dy_remove_11 : decode b_Dy_remove 11 = .ok (.aload_n 0, 1) := by decide +kernel
theorem d_Dy_remove_12 : decode b_Dy_remove 12 = .ok (.getfield 11, 3) := by decide +kernel
theorem d_Dy_remove_15 : decode b_Dy_remove 15 = .ok (.iload_n 1, 1) := by decide +kernel
theorem d_Dy_remove_16 : decode b_Dy_remove 16 = .ok (.bipush (6), 2) := by decide +kernel
theorem d_Dy_remove_18 : decode b_Dy_remove 18 = .ok (.ishr, 1) := by decide +kernel
theorem d_Dy_remove_19 : decode b_Dy_remove 19 = .ok (.dup2, 1) := by decide +kernel
theorem d_Dy_remove_20 : decode b_Dy_remove 20 = .ok (.laload, 1) := by decide +kernel
theorem d_Dy_remove_21 : decode b_Dy_remove 21 = .ok (.lconst 1, 1) := by decide +kernel
theorem d_Dy_remove_22 : decode b_Dy_remove 22 = .ok (.iload_n 1, 1) := by decide +kernel
theorem d_Dy_remove_23 : decode b_Dy_remove 23 = .ok (.bipush (63), 2) := by decide +kernel
theorem d_Dy_remove_25 : decode b_Dy_remove 25 = .ok (.iand, 1) := by decide +kernel
theorem d_Dy_remove_26 : decode b_Dy_remove 26 = .ok (.lshl, 1) := by decide +kernel
theorem d_Dy_remove_27 : decode b_Dy_remove 27 = .ok (.ldc2_w 27, 3) := by decide +kernel
theorem d_Dy_remove_30 : decode b_Dy_remove 30 = .ok (.lxor, 1) := by decide +kernel
theorem d_Dy_remove_31 : decode b_Dy_remove 31 = .ok (.land, 1) := by decide +kernel
theorem d_Dy_remove_32 : decode b_Dy_remove 32 = .ok (.lastore, 1) := by decide +kernel
theorem d_Dy_remove_33 : decode b_Dy_remove 33 = .ok (.return_, 1) := by decide +kernel
def F_Dy_remove (a0 : Nat) (x1 : Int32) (w : AW) : Option (AW) :=
  if x1 < 0 then
    some w
  else
    if (1461 : Int32) ≤ x1 then
      some w
    else
      gd (wk w a0 == 8) <|
      gd (wk w (wr w a0 0) == 101) <|
      gd (inb (x1 >>> ((6 : Int32) &&& 31)) (wn w (wr w a0 0))) <|
      gd (inb (x1 >>> ((6 : Int32) &&& 31)) (wn w (wr w a0 0))) <|
      let w5 : AW := upJ w (wr w a0 0) (Int32.toNatClampNeg (x1 >>> ((6 : Int32) &&& 31))) ((wj w (wr w a0 0) (Int32.toNatClampNeg (x1 >>> ((6 : Int32) &&& 31)))) &&& (((1 : Int64) <<< (Int32.toInt64 (x1 &&& (63 : Int32)) &&& 63)) ^^^ (-1 : Int64)))
      some w5
theorem P_Dy_remove_0 {X : AX} {l : Launch} {G : AG} (hX : XOK X b_Dy_remove "RedSky$Days" 2) (hM : XM X l G { frames := 0, cells := 0, slots := 0, locals := 0 }) {o : AW} (hR : XR X none 0 0 none o) (a0 : Nat) (x1 : Int32) (w : AW) (h : F_Dy_remove a0 x1 w = some o) : RJ X 2 0 0 0 [(0, vr a0), (1, vi x1)] [] w := by
  unfold F_Dy_remove at h
  refine r_iload_n (i := 1) hX d_Dy_remove_0 1 rfl rfl ?_
  refine r_if_lt hX d_Dy_remove_1 rfl h (fun h => ?_) (fun h => ?_)
  · cases h; exact r_vret hX hR d_Dy_remove_33
  · refine r_iload_n (i := 1) hX d_Dy_remove_4 1 rfl rfl ?_
    refine r_sipush (v := (1461 : Int32)) hX d_Dy_remove_5 rfl ?_
    refine r_icmp_ge hX d_Dy_remove_8 rfl h (fun h => ?_) (fun h => ?_)
    · cases h; exact r_vret hX hR d_Dy_remove_33
    · refine r_aload_n (i := 0) hX d_Dy_remove_11 0 rfl rfl ?_
      obtain ⟨hk1, h⟩ := gd_e h
      refine r_getR (i := 7) (f := 0) hX ci_7 (by decide) rfl fl_Dy_11 hk1 d_Dy_remove_12 ?_
      refine r_iload_n (i := 1) hX d_Dy_remove_15 1 rfl rfl ?_
      refine r_bipush (v := (6 : Int32)) hX d_Dy_remove_16 rfl ?_
      refine r_ishr hX d_Dy_remove_18 ?_
      refine r_dup2 hX d_Dy_remove_19 rfl rfl ?_
      obtain ⟨hk2, h⟩ := gd_e h
      obtain ⟨hg3, h⟩ := gd_e h
      refine r_lald hX hk2 hg3 d_Dy_remove_20 ?_
      refine r_lconst (v := (1 : Int64)) hX d_Dy_remove_21 rfl ?_
      refine r_iload_n (i := 1) hX d_Dy_remove_22 1 rfl rfl ?_
      refine r_bipush (v := (63 : Int32)) hX d_Dy_remove_23 rfl ?_
      refine r_iand hX d_Dy_remove_25 ?_
      refine r_lshl hX d_Dy_remove_26 ?_
      refine r_ldc2 hX d_Dy_remove_27 cw_Dy_27 ?_
      refine r_lxor hX d_Dy_remove_30 ?_
      refine r_land hX d_Dy_remove_31 ?_
      obtain ⟨hg4, h⟩ := gd_e h
      refine r_last hX hk2 hg4 d_Dy_remove_32 ?_
      cases h; exact r_vret hX hR d_Dy_remove_33
theorem T_Dy_remove {l : Launch} {G : AG} (a0 : Nat) (x1 : Int32) (w : AW) {o : AW} (h : F_Dy_remove a0 x1 w = some o) : Mt l G y_Dy_remove b_Dy_remove 2 none 0 0 0 0 [vr a0, vi x1] w none o := mt_of (by decide) (Nat.le_of_ble_eq_true rfl) (fun X hX hR hM hI => P_Dy_remove_0 hX hM hR _ _ _ h)
/-! RedSky$Diary.findKnown(ILRedSky$Days;)V -/
theorem d_Di_findKnown_0 : decode b_Di_findKnown 0 = .ok (.aload_n 2, 1) := by decide +kernel
theorem d_Di_findKnown_1 : decode b_Di_findKnown 1 = .ok (.invokevirtual 53, 3) := by decide +kernel
theorem d_Di_findKnown_4 : decode b_Di_findKnown 4 = .ok (.iconst 0, 1) := by decide +kernel
theorem d_Di_findKnown_5 : decode b_Di_findKnown 5 = .ok (.istore_n 3, 1) := by decide +kernel
theorem d_Di_findKnown_6 : decode b_Di_findKnown 6 = .ok (.iload_n 3, 1) := by decide +kernel
theorem d_Di_findKnown_7 : decode b_Di_findKnown 7 = .ok (.iconst 4, 1) := by decide +kernel
theorem d_Di_findKnown_8 : decode b_Di_findKnown 8 = .ok (.if_icmp .ge (69), 3) := by decide +kernel
theorem d_Di_findKnown_11 : decode b_Di_findKnown 11 = .ok (.iload_n 1, 1) := by decide +kernel
theorem d_Di_findKnown_12 : decode b_Di_findKnown 12 = .ok (.iload_n 3, 1) := by decide +kernel
theorem d_Di_findKnown_13 : decode b_Di_findKnown 13 = .ok (.ishr, 1) := by decide +kernel
theorem d_Di_findKnown_14 : decode b_Di_findKnown 14 = .ok (.iconst 1, 1) := by decide +kernel
theorem d_Di_findKnown_15 : decode b_Di_findKnown 15 = .ok (.iand, 1) := by decide +kernel
theorem d_Di_findKnown_16 : decode b_Di_findKnown 16 = .ok (.ifCond .ne (6), 3) := by decide +kernel
theorem d_Di_findKnown_19 : decode b_Di_findKnown 19 = .ok (.goto (52), 3) := by decide +kernel
theorem d_Di_findKnown_22 : decode b_Di_findKnown 22 = .ok (.getstatic 31, 3) := by decide +kernel
theorem d_Di_findKnown_25 : decode b_Di_findKnown 25 = .ok (.iload_n 3, 1) := by decide +kernel
theorem d_Di_findKnown_26 : decode b_Di_findKnown 26 = .ok (.iaload, 1) := by decide +kernel
theorem d_Di_findKnown_27 : decode b_Di_findKnown 27 = .ok (.getstatic 28, 3) := by decide +kernel
theorem d_Di_findKnown_30 : decode b_Di_findKnown 30 = .ok (.iload_n 3, 1) := by decide +kernel
theorem d_Di_findKnown_31 : decode b_Di_findKnown 31 = .ok (.iaload, 1) := by decide +kernel
theorem d_Di_findKnown_32 : decode b_Di_findKnown 32 = .ok (.ishl, 1) := by decide +kernel
theorem d_Di_findKnown_33 : decode b_Di_findKnown 33 = .ok (.istore 4, 2) := by decide +kernel
theorem d_Di_findKnown_35 : decode b_Di_findKnown 35 = .ok (.iconst 0, 1) := by decide +kernel
theorem d_Di_findKnown_36 : decode b_Di_findKnown 36 = .ok (.istore 5, 2) := by decide +kernel
theorem d_Di_findKnown_38 : decode b_Di_findKnown 38 = .ok (.iload 5, 2) := by decide +kernel
theorem d_Di_findKnown_40 : decode b_Di_findKnown 40 = .ok (.sipush (1461), 3) := by decide +kernel
theorem d_Di_findKnown_43 : decode b_Di_findKnown 43 = .ok (.if_icmp .ge (28), 3) := by decide +kernel
theorem d_Di_findKnown_46 : decode b_Di_findKnown 46 = .ok (.aload_n 0, 1) := by decide +kernel
theorem d_Di_findKnown_47 : decode b_Di_findKnown 47 = .ok (.getfield 9, 3) := by decide +kernel
theorem d_Di_findKnown_50 : decode b_Di_findKnown 50 = .ok (.iload 5, 2) := by decide +kernel
theorem d_Di_findKnown_52 : decode b_Di_findKnown 52 = .ok (.iaload, 1) := by decide +kernel
theorem d_Di_findKnown_53 : decode b_Di_findKnown 53 = .ok (.iload 4, 2) := by decide +kernel
theorem d_Di_findKnown_55 : decode b_Di_findKnown 55 = .ok (.iand, 1) := by decide +kernel
theorem d_Di_findKnown_56 : decode b_Di_findKnown 56 = .ok (.ifCond .ne (9), 3) := by decide +kernel
theorem d_Di_findKnown_59 : decode b_Di_findKnown 59 = .ok (.aload_n 2, 1) := by decide +kernel
theorem d_Di_findKnown_60 : decode b_Di_findKnown 60 = .ok (.iload 5, 2) := by decide +kernel
theorem d_Di_findKnown_62 : decode b_Di_findKnown 62 = .ok (.invokevirtual 57, 3) := by decide +kernel
theorem d_Di_findKnown_65 : decode b_Di_findKnown 65 = .ok (.iinc 5 (1), 3) := by decide +kernel
theorem d_Di_findKnown_68 : decode b_Di_findKnown 68 = .ok (.goto (-30), 3) := by decide +kernel
theorem d_Di_findKnown_71 : decode b_Di_findKnown 71 = .ok (.iinc 3 (1), 3) := by decide +kernel
theorem d_Di_findKnown_74 : decode b_Di_findKnown 74 = .ok (.goto (-68), 3) := by decide +kernel
theorem d_Di_findKnown_77 : decode b_Di_findKnown 77 = .ok (.return_, 1) := by decide +kernel
def F_Di_findKnown_38_B (rec6 : Nat → Int32 → Nat → Int32 → AW → Option (AW)) (rec38 : Nat → Int32 → Nat → Int32 → Int32 → Int32 → AW → Option (AW)) (a0 : Nat) (x1 : Int32) (a2 : Nat) (x3 : Int32) (x4 : Int32) (x5 : Int32) (w : AW) : Option (AW) :=
  if (1461 : Int32) ≤ x5 then
    let v1 : Int32 := (x3 + (1 : Int32))
    rec6 a0 x1 a2 v1 w
  else
    gd (wk w a0 == 3) <|
    gd (wk w (wr w a0 0) == 100) <|
    gd (inb x5 (wn w (wr w a0 0))) <|
    if ((wi w (wr w a0 0) (Int32.toNatClampNeg x5)) &&& x4) = 0 then
      gd (wk w a2 == 8) <|
      (F_Dy_remove a2 x5 w).bind fun r7 =>
      let v9 : Int32 := (x5 + (1 : Int32))
      rec38 a0 x1 a2 x3 x4 v9 r7
    else
      let v5 : Int32 := (x5 + (1 : Int32))
      rec38 a0 x1 a2 x3 x4 v5 w
theorem P_Di_findKnown_38_B {X : AX} {l : Launch} {G : AG} {rec6 : Nat → Int32 → Nat → Int32 → AW → Option (AW)} {rec38 : Nat → Int32 → Nat → Int32 → Int32 → Int32 → AW → Option (AW)} (hX : XOK X b_Di_findKnown "RedSky$Diary" 6) (hM : XM X l G { frames := 3, cells := 0, slots := 0, locals := 64 }) {o : AW} (hR : XR X none 0 0 none o) (hrec6 : ∀ (a0 : Nat) (x1 : Int32) (a2 : Nat) (x3 : Int32) (w : AW), rec6 a0 x1 a2 x3 w = some o → RJ X 6 0 0 6 [(0, vr a0), (1, vi x1), (2, vr a2), (3, vi x3)] [] w) (hrec38 : ∀ (a0 : Nat) (x1 : Int32) (a2 : Nat) (x3 : Int32) (x4 : Int32) (x5 : Int32) (w : AW), rec38 a0 x1 a2 x3 x4 x5 w = some o → RJ X 6 0 0 38 [(0, vr a0), (1, vi x1), (2, vr a2), (3, vi x3), (4, vi x4), (5, vi x5)] [] w) (a0 : Nat) (x1 : Int32) (a2 : Nat) (x3 : Int32) (x4 : Int32) (x5 : Int32) (w : AW) (h : F_Di_findKnown_38_B rec6 rec38 a0 x1 a2 x3 x4 x5 w = some o) : RJ X 6 0 0 38 [(0, vr a0), (1, vi x1), (2, vr a2), (3, vi x3), (4, vi x4), (5, vi x5)] [] w := by
  unfold F_Di_findKnown_38_B at h
  refine r_iload (i := 5) hX d_Di_findKnown_38 5  rfl ?_
  refine r_sipush (v := (1461 : Int32)) hX d_Di_findKnown_40 rfl ?_
  refine r_icmp_ge hX d_Di_findKnown_43 rfl h (fun h => ?_) (fun h => ?_)
  · refine r_iinc (i := 3) (v := (1 : Int32)) hX d_Di_findKnown_71 3 rfl rfl (by decide) ?_
    refine r_goto hX d_Di_findKnown_74 rfl ?_
    exact rj_sub [1, 2, 3, 0] rfl (hrec6 _ _ _ _ _ h)
  · refine r_aload_n (i := 0) hX d_Di_findKnown_46 0 rfl rfl ?_
    obtain ⟨hk2, h⟩ := gd_e h
    refine r_getR (i := 2) (f := 0) hX ci_2 (by decide) rfl fl_Di_9 hk2 d_Di_findKnown_47 ?_
    refine r_iload (i := 5) hX d_Di_findKnown_50 5  rfl ?_
    obtain ⟨hk3, h⟩ := gd_e h
    obtain ⟨hg4, h⟩ := gd_e h
    refine r_iald hX hk3 hg4 d_Di_findKnown_52 ?_
    refine r_iload (i := 4) hX d_Di_findKnown_53 4  rfl ?_
    refine r_iand hX d_Di_findKnown_55 ?_
    refine r_if_ne hX d_Di_findKnown_56 rfl h (fun h => ?_) (fun h => ?_)
    · refine r_iinc (i := 5) (v := (1 : Int32)) hX d_Di_findKnown_65 5 rfl rfl (by decide) ?_
      refine r_goto hX d_Di_findKnown_68 rfl ?_
      exact rj_sub [1, 2, 3, 4, 5, 0] rfl (hrec38 _ _ _ _ _ _ _ h)
    · refine r_aload_n (i := 2) hX d_Di_findKnown_59 2 rfl rfl ?_
      refine r_iload (i := 5) hX d_Di_findKnown_60 5  rfl ?_
      obtain ⟨hk6, h⟩ := gd_e h
      obtain ⟨r7, hr8, h⟩ := bd_e h
      refine r_callV0 (As := [_]) hX hM mw_Di_57 (T_Dy_remove _ _ _ hr8) (rc_of ci_7 hk6) rfl rfl ⟨Nat.le_refl _, Nat.le_refl _⟩ rfl rfl d_Di_findKnown_62 ?_
      refine r_iinc (i := 5) (v := (1 : Int32)) hX d_Di_findKnown_65 5 rfl rfl (by decide) ?_
      refine r_goto hX d_Di_findKnown_68 rfl ?_
      exact rj_sub [1, 2, 3, 4, 5, 0] rfl (hrec38 _ _ _ _ _ _ _ h)
def F_Di_findKnown_38 (rec6 : Nat → Int32 → Nat → Int32 → AW → Option (AW)) : Nat → Nat → Int32 → Nat → Int32 → Int32 → Int32 → AW → Option (AW)
  | 0 => fun _ _ _ _ _ _ _ => none
  | n + 1 => fun a0 x1 a2 x3 x4 x5 w => F_Di_findKnown_38_B rec6 (F_Di_findKnown_38 rec6 n) a0 x1 a2 x3 x4 x5 w
theorem P_Di_findKnown_38 {X : AX} {l : Launch} {G : AG} {rec6 : Nat → Int32 → Nat → Int32 → AW → Option (AW)} (hX : XOK X b_Di_findKnown "RedSky$Diary" 6) (hM : XM X l G { frames := 3, cells := 0, slots := 0, locals := 64 }) {o : AW} (hR : XR X none 0 0 none o) (hrec6 : ∀ (a0 : Nat) (x1 : Int32) (a2 : Nat) (x3 : Int32) (w : AW), rec6 a0 x1 a2 x3 w = some o → RJ X 6 0 0 6 [(0, vr a0), (1, vi x1), (2, vr a2), (3, vi x3)] [] w) (fu : Nat) : ∀ (a0 : Nat) (x1 : Int32) (a2 : Nat) (x3 : Int32) (x4 : Int32) (x5 : Int32) (w : AW), F_Di_findKnown_38 rec6 fu a0 x1 a2 x3 x4 x5 w = some o → RJ X 6 0 0 38 [(0, vr a0), (1, vi x1), (2, vr a2), (3, vi x3), (4, vi x4), (5, vi x5)] [] w := by
  induction fu with
  | zero => intro a0 x1 a2 x3 x4 x5 w h; cases h
  | succ n9 ih => intro a0 x1 a2 x3 x4 x5 w h; exact P_Di_findKnown_38_B hX hM hR hrec6 ih _ _ _ _ _ _ _ h
def F_Di_findKnown_6_B (rec6 : Nat → Int32 → Nat → Int32 → AW → Option (AW)) (a0 : Nat) (x1 : Int32) (a2 : Nat) (x3 : Int32) (w : AW) : Option (AW) :=
  if (4 : Int32) ≤ x3 then
    some w
  else
    if ((x1 >>> (x3 &&& 31)) &&& (1 : Int32)) = 0 then
      let v6 : Int32 := (x3 + (1 : Int32))
      rec6 a0 x1 a2 v6 w
    else
      gd (wk w 6 == 110) <|
      gd (inb x3 (wn w 6)) <|
      gd (wk w 5 == 110) <|
      gd (inb x3 (wn w 5)) <|
      let v5 : Int32 := ((wi w 6 (Int32.toNatClampNeg x3)) <<< ((wi w 5 (Int32.toNatClampNeg x3)) &&& 31))
      F_Di_findKnown_38 rec6 FUEL a0 x1 a2 x3 v5 (0 : Int32) w
theorem P_Di_findKnown_6_B {X : AX} {l : Launch} {G : AG} {rec6 : Nat → Int32 → Nat → Int32 → AW → Option (AW)} (hX : XOK X b_Di_findKnown "RedSky$Diary" 6) (hM : XM X l G { frames := 3, cells := 0, slots := 0, locals := 64 }) {o : AW} (hR : XR X none 0 0 none o) (hrec6 : ∀ (a0 : Nat) (x1 : Int32) (a2 : Nat) (x3 : Int32) (w : AW), rec6 a0 x1 a2 x3 w = some o → RJ X 6 0 0 6 [(0, vr a0), (1, vi x1), (2, vr a2), (3, vi x3)] [] w) (a0 : Nat) (x1 : Int32) (a2 : Nat) (x3 : Int32) (w : AW) (h : F_Di_findKnown_6_B rec6 a0 x1 a2 x3 w = some o) : RJ X 6 0 0 6 [(0, vr a0), (1, vi x1), (2, vr a2), (3, vi x3)] [] w := by
  unfold F_Di_findKnown_6_B at h
  refine r_iload_n (i := 3) hX d_Di_findKnown_6 3 rfl rfl ?_
  refine r_iconst (v := (4 : Int32)) hX d_Di_findKnown_7 rfl ?_
  refine r_icmp_ge hX d_Di_findKnown_8 rfl h (fun h => ?_) (fun h => ?_)
  · cases h; exact r_vret hX hR d_Di_findKnown_77
  · refine r_iload_n (i := 1) hX d_Di_findKnown_11 1 rfl rfl ?_
    refine r_iload_n (i := 3) hX d_Di_findKnown_12 3 rfl rfl ?_
    refine r_ishr hX d_Di_findKnown_13 ?_
    refine r_iconst (v := (1 : Int32)) hX d_Di_findKnown_14 rfl ?_
    refine r_iand hX d_Di_findKnown_15 ?_
    refine r_if_ne hX d_Di_findKnown_16 rfl h (fun h => ?_) (fun h => ?_)
    · refine r_gets (v := vr 6) hX (List.mem_of_getElem? (i := 4) rfl) fl_Di_31 d_Di_findKnown_22 ?_
      refine r_iload_n (i := 3) hX d_Di_findKnown_25 3 rfl rfl ?_
      obtain ⟨hk1, h⟩ := gd_e h
      obtain ⟨hg2, h⟩ := gd_e h
      refine r_xald hX hk1 hg2 d_Di_findKnown_26 ?_
      refine r_gets (v := vr 5) hX (List.mem_of_getElem? (i := 3) rfl) fl_Di_28 d_Di_findKnown_27 ?_
      refine r_iload_n (i := 3) hX d_Di_findKnown_30 3 rfl rfl ?_
      obtain ⟨hk3, h⟩ := gd_e h
      obtain ⟨hg4, h⟩ := gd_e h
      refine r_xald hX hk3 hg4 d_Di_findKnown_31 ?_
      refine r_ishl hX d_Di_findKnown_32 ?_
      refine r_istore (i := 4) hX d_Di_findKnown_33  (by decide) ?_
      refine r_iconst (v := (0 : Int32)) hX d_Di_findKnown_35 rfl ?_
      refine r_istore (i := 5) hX d_Di_findKnown_36  (by decide) ?_
      exact rj_sub [2, 3, 4, 5, 1, 0] rfl (P_Di_findKnown_38 hX hM hR hrec6 FUEL _ _ _ _ _ _ _ h)
    · refine r_goto hX d_Di_findKnown_19 rfl ?_
      refine r_iinc (i := 3) (v := (1 : Int32)) hX d_Di_findKnown_71 3 rfl rfl (by decide) ?_
      refine r_goto hX d_Di_findKnown_74 rfl ?_
      exact rj_sub [1, 2, 3, 0] rfl (hrec6 _ _ _ _ _ h)
def F_Di_findKnown_6 : Nat → Nat → Int32 → Nat → Int32 → AW → Option (AW)
  | 0 => fun _ _ _ _ _ => none
  | n + 1 => fun a0 x1 a2 x3 w => F_Di_findKnown_6_B (F_Di_findKnown_6 n) a0 x1 a2 x3 w
theorem P_Di_findKnown_6 {X : AX} {l : Launch} {G : AG} (hX : XOK X b_Di_findKnown "RedSky$Diary" 6) (hM : XM X l G { frames := 3, cells := 0, slots := 0, locals := 64 }) {o : AW} (hR : XR X none 0 0 none o) (fu : Nat) : ∀ (a0 : Nat) (x1 : Int32) (a2 : Nat) (x3 : Int32) (w : AW), F_Di_findKnown_6 fu a0 x1 a2 x3 w = some o → RJ X 6 0 0 6 [(0, vr a0), (1, vi x1), (2, vr a2), (3, vi x3)] [] w := by
  induction fu with
  | zero => intro a0 x1 a2 x3 w h; cases h
  | succ n9 ih => intro a0 x1 a2 x3 w h; exact P_Di_findKnown_6_B hX hM hR ih _ _ _ _ _ h
def F_Di_findKnown (a0 : Nat) (x1 : Int32) (a2 : Nat) (w : AW) : Option (AW) :=
  gd (wk w a2 == 8) <|
  (F_Dy_fill a2 w).bind fun r2 =>
  F_Di_findKnown_6 FUEL a0 x1 a2 (0 : Int32) r2
theorem P_Di_findKnown_0 {X : AX} {l : Launch} {G : AG} (hX : XOK X b_Di_findKnown "RedSky$Diary" 6) (hM : XM X l G { frames := 3, cells := 0, slots := 0, locals := 64 }) {o : AW} (hR : XR X none 0 0 none o) (a0 : Nat) (x1 : Int32) (a2 : Nat) (w : AW) (h : F_Di_findKnown a0 x1 a2 w = some o) : RJ X 6 0 0 0 [(0, vr a0), (1, vi x1), (2, vr a2)] [] w := by
  unfold F_Di_findKnown at h
  refine r_aload_n (i := 2) hX d_Di_findKnown_0 2 rfl rfl ?_
  obtain ⟨hk1, h⟩ := gd_e h
  obtain ⟨r2, hr3, h⟩ := bd_e h
  refine r_callV0 (As := []) hX hM mw_Di_53 (T_Dy_fill _ _ hr3) (rc_of ci_7 hk1) rfl rfl ⟨Nat.le_refl _, Nat.le_refl _⟩ rfl rfl d_Di_findKnown_1 ?_
  refine r_iconst (v := (0 : Int32)) hX d_Di_findKnown_4 rfl ?_
  refine r_istore_n (i := 3) hX d_Di_findKnown_5 rfl (by decide) ?_
  exact rj_sub [1, 2, 3, 0] rfl (P_Di_findKnown_6 hX hM hR FUEL _ _ _ _ _ h)
theorem T_Di_findKnown {l : Launch} {G : AG} (a0 : Nat) (x1 : Int32) (a2 : Nat) (w : AW) {o : AW} (h : F_Di_findKnown a0 x1 a2 w = some o) : Mt l G y_Di_findKnown b_Di_findKnown 6 none 3 64 0 0 [vr a0, vi x1, vr a2] w none o := mt_of (by decide) (Nat.le_of_ble_eq_true rfl) (fun X hX hR hM hI => P_Di_findKnown_0 hX hM hR _ _ _ _ h)
/-! RedSky$Days.take(LRedSky$Days;)V -/
theorem d_Dy_take_0 : decode b_Dy_take 0 = .ok (.aload_n 1, 1) := by decide +kernel
theorem d_Dy_take_1 : decode b_Dy_take 1 = .ok (.getfield 11, 3) := by decide +kernel
theorem d_Dy_take_4 : decode b_Dy_take 4 = .ok (.iconst 0, 1) := by decide +kernel
theorem d_Dy_take_5 : decode b_Dy_take 5 = .ok (.aload_n 0, 1) := by decide +kernel
theorem d_Dy_take_6 : decode b_Dy_take 6 = .ok (.getfield 11, 3) := by decide +kernel
theorem d_Dy_take_9 : decode b_Dy_take 9 = .ok (.iconst 0, 1) := by decide +kernel
theorem d_Dy_take_10 : decode b_Dy_take 10 = .ok (.bipush (23), 2) := by decide +kernel
theorem d_Dy_take_12 : decode b_Dy_take 12 = .ok (.invokestatic 33, 3) := by decide +kernel
theorem d_Dy_take_15 : decode b_Dy_take 15 = .ok (.return_, 1) := by decide +kernel
def F_Dy_take (a0 : Nat) (a1 : Nat) (w : AW) : Option (AW) :=
  gd (wk w a1 == 8) <|
  gd (wk w a0 == 8) <|
  gd (wk w (wr w a1 0) == 101) <|
  gd (wk w (wr w a0 0) == 101) <|
  gd (cpok (0 : Int32) (0 : Int32) (23 : Int32) (wn w (wr w a1 0)) (wn w (wr w a0 0))) <|
  let w6 : AW := cpJ w (wr w a1 0) (wr w a0 0) (Int32.toNatClampNeg (0 : Int32)) (Int32.toNatClampNeg (0 : Int32)) (Int32.toNatClampNeg (23 : Int32))
  some w6
theorem P_Dy_take_0 {X : AX} {l : Launch} {G : AG} (hX : XOK X b_Dy_take "RedSky$Days" 2) (hM : XM X l G { frames := 1, cells := 0, slots := 0, locals := 40 }) {o : AW} (hR : XR X none 0 0 none o) (a0 : Nat) (a1 : Nat) (w : AW) (h : F_Dy_take a0 a1 w = some o) : RJ X 2 0 0 0 [(0, vr a0), (1, vr a1)] [] w := by
  unfold F_Dy_take at h
  refine r_aload_n (i := 1) hX d_Dy_take_0 1 rfl rfl ?_
  obtain ⟨hk1, h⟩ := gd_e h
  refine r_getR (i := 7) (f := 0) hX ci_7 (by decide) rfl fl_Dy_11 hk1 d_Dy_take_1 ?_
  refine r_iconst (v := (0 : Int32)) hX d_Dy_take_4 rfl ?_
  refine r_aload_n (i := 0) hX d_Dy_take_5 0 rfl rfl ?_
  obtain ⟨hk2, h⟩ := gd_e h
  refine r_getR (i := 7) (f := 0) hX ci_7 (by decide) rfl fl_Dy_11 hk2 d_Dy_take_6 ?_
  refine r_iconst (v := (0 : Int32)) hX d_Dy_take_9 rfl ?_
  refine r_bipush (v := (23 : Int32)) hX d_Dy_take_10 rfl ?_
  obtain ⟨hk3, h⟩ := gd_e h
  obtain ⟨hk4, h⟩ := gd_e h
  obtain ⟨hg5, h⟩ := gd_e h
  refine r_acopyJ hX hM acw_Dy_33 hk3 hk4 hg5 (by decide) (by decide) d_Dy_take_12 ?_
  cases h; exact r_vret hX hR d_Dy_take_15
theorem T_Dy_take {l : Launch} {G : AG} (a0 : Nat) (a1 : Nat) (w : AW) {o : AW} (h : F_Dy_take a0 a1 w = some o) : Mt l G y_Dy_take b_Dy_take 2 none 1 40 0 0 [vr a0, vr a1] w none o := mt_of (by decide) (Nat.le_of_ble_eq_true rfl) (fun X hX hR hM hI => P_Dy_take_0 hX hM hR _ _ _ h)
/-! RedSky$Scales.weigh(LRedSky$Condition;LRedSky$Diary;LRedSky$Days;LRedSky$Days;)V -/
theorem d_Sc_weigh_0 : decode b_Sc_weigh 0 = .ok (.iconst 0, 1) := by decide +kernel
theorem d_Sc_weigh_1 : decode b_Sc_weigh 1 = .ok (.istore 5, 2) := by decide +kernel
theorem d_Sc_weigh_3 : decode b_Sc_weigh 3 = .ok (.iconst 0, 1) := by decide +kernel
theorem d_Sc_weigh_4 : decode b_Sc_weigh 4 = .ok (.istore 6, 2) := by decide +kernel
theorem d_Sc_weigh_6 : decode b_Sc_weigh 6 = .ok (.iload 6, 2) := by decide +kernel
theorem d_Sc_weigh_8 : decode b_Sc_weigh 8 = .ok (.aload_n 1, 1) := by decide +kernel
theorem d_Sc_weigh_9 : decode b_Sc_weigh 9 = .ok (.getfield 16, 3) := by decide +kernel
theorem d_Sc_weigh_12 : decode b_Sc_weigh 12 = .ok (.if_icmp .ge (30), 3) := by decide +kernel
theorem d_Sc_weigh_15 : decode b_Sc_weigh 15 = .ok (.aload_n 0, 1) := by decide +kernel
theorem d_Sc_weigh_16 : decode b_Sc_weigh 16 = .ok (.aload_n 1, 1) := by decide +kernel
theorem d_Sc_weigh_17 : decode b_Sc_weigh 17 = .ok (.iload 6, 2) := by decide +kernel
theorem d_Sc_weigh_19 : decode b_Sc_weigh 19 = .ok (.invokevirtual 22, 3) := by decide +kernel
theorem d_Sc_weigh_22 : decode b_Sc_weigh 22 = .ok (.aload_n 1, 1) := by decide +kernel
theorem d_Sc_weigh_23 : decode b_Sc_weigh 23 = .ok (.iload 6, 2) := by decide +kernel
theorem d_Sc_weigh_25 : decode b_Sc_weigh 25 = .ok (.invokevirtual 26, 3) := by decide +kernel
theorem d_Sc_weigh_28 : decode b_Sc_weigh 28 = .ok (.aload_n 2, 1) := by decide +kernel
theorem d_Sc_weigh_29 : decode b_Sc_weigh 29 = .ok (.iload 5, 2) := by decide +kernel
theorem d_Sc_weigh_31 : decode b_Sc_weigh 31 = .ok (.invokevirtual 29, 3) := by decide +kernel
theorem d_Sc_weigh_34 : decode b_Sc_weigh 34 = .ok (.istore 5, 2) := by decide +kernel
theorem d_Sc_weigh_36 : decode b_Sc_weigh 36 = .ok (.iinc 6 (1), 3) := by decide +kernel
theorem d_Sc_weigh_39 : decode b_Sc_weigh 39 = .ok (.goto (-33), 3) := by decide +kernel
theorem d_Sc_weigh_42 : decode b_Sc_weigh 42 = .ok (.aload_n 2, 1) := by decide +kernel
theorem d_Sc_weigh_43 : decode b_Sc_weigh 43 = .ok (.aload_n 1, 1) := by decide +kernel
theorem d_Sc_weigh_44 : decode b_Sc_weigh 44 = .ok (.getfield 33, 3) := by decide +kernel
theorem d_Sc_weigh_47 : decode b_Sc_weigh 47 = .ok (.aload_n 3, 1) := by decide +kernel
theorem d_Sc_weigh_48 : decode b_Sc_weigh 48 = .ok (.invokevirtual 36, 3) := by decide +kernel
theorem d_Sc_weigh_51 : decode b_Sc_weigh 51 = .ok (.aload 4, 2) := by decide +kernel
theorem d_Sc_weigh_53 : decode b_Sc_weigh 53 = .ok (.aload_n 0, 1) := by decide +kernel
theorem d_Sc_weigh_54 : decode b_Sc_weigh 54 = .ok (.getfield 11, 3) := by decide +kernel
theorem d_Sc_weigh_57 : decode b_Sc_weigh 57 = .ok (.iconst 0, 1) := by decide +kernel
theorem d_Sc_weigh_58 : decode b_Sc_weigh 58 = .ok (.aaload, 1) := by decide +kernel
theorem d_Sc_weigh_59 : decode b_Sc_weigh 59 = .ok (.invokevirtual 42, 3) := by decide +kernel
theorem d_Sc_weigh_62 : decode b_Sc_weigh 62 = .ok (.aload 4, 2) := by decide +kernel
theorem d_Sc_weigh_64 : decode b_Sc_weigh 64 = .ok (.aload_n 3, 1) := by decide +kernel
theorem d_Sc_weigh_65 : decode b_Sc_weigh 65 = .ok (.invokevirtual 45, 3) := by decide +kernel
theorem d_Sc_weigh_68 : decode b_Sc_weigh 68 = .ok (.return_, 1) := by decide +kernel
def F_Sc_weigh_6_B (rec6 : Nat → Nat → Nat → Nat → Nat → Int32 → Int32 → AW → Option (AW)) (a0 : Nat) (a1 : Nat) (a2 : Nat) (a3 : Nat) (a4 : Nat) (x5 : Int32) (x6 : Int32) (w : AW) : Option (AW) :=
  gd (wk w a1 == 6) <|
  if (wi w a1 2) ≤ x6 then
    gd (wk w a2 == 3) <|
    (F_Di_findKnown a2 (wi w a1 3) a3 w).bind fun r3 =>
    gd (wk r3 a0 == 7) <|
    gd (wk r3 (wr r3 a0 0) == 105) <|
    gd (inb (0 : Int32) (wn r3 (wr r3 a0 0))) <|
    gd (wk r3 a4 == 8) <|
    (F_Dy_take a4 (wr r3 (wr r3 a0 0) (Int32.toNatClampNeg (0 : Int32))) r3).bind fun r9 =>
    gd (wk r9 a4 == 8) <|
    (F_Dy_meet a4 a3 r9).bind fun r12 =>
    some r12
  else
    (F_Co_stepAt w a1 x6).bind fun r14 =>
    (F_Co_numberAt w a1 x6).bind fun r16 =>
    gd (wk w a0 == 7) <|
    (F_Sc_take a0 r14 r16 a2 x5 w).bind fun r19 =>
    let v21 : Int32 := r19.1
    let v22 : Int32 := (x6 + (1 : Int32))
    rec6 a0 a1 a2 a3 a4 v21 v22 r19.2
theorem P_Sc_weigh_6_B {X : AX} {l : Launch} {G : AG} {rec6 : Nat → Nat → Nat → Nat → Nat → Int32 → Int32 → AW → Option (AW)} (hX : XOK X b_Sc_weigh "RedSky$Scales" 7) (hM : XM X l G { frames := 4, cells := 0, slots := 0, locals := 97 }) {o : AW} (hR : XR X none 0 0 none o) (hrec6 : ∀ (a0 : Nat) (a1 : Nat) (a2 : Nat) (a3 : Nat) (a4 : Nat) (x5 : Int32) (x6 : Int32) (w : AW), rec6 a0 a1 a2 a3 a4 x5 x6 w = some o → RJ X 7 0 0 6 [(0, vr a0), (1, vr a1), (2, vr a2), (3, vr a3), (4, vr a4), (5, vi x5), (6, vi x6)] [] w) (a0 : Nat) (a1 : Nat) (a2 : Nat) (a3 : Nat) (a4 : Nat) (x5 : Int32) (x6 : Int32) (w : AW) (h : F_Sc_weigh_6_B rec6 a0 a1 a2 a3 a4 x5 x6 w = some o) : RJ X 7 0 0 6 [(0, vr a0), (1, vr a1), (2, vr a2), (3, vr a3), (4, vr a4), (5, vi x5), (6, vi x6)] [] w := by
  unfold F_Sc_weigh_6_B at h
  refine r_iload (i := 6) hX d_Sc_weigh_6 6  rfl ?_
  refine r_aload_n (i := 1) hX d_Sc_weigh_8 1 rfl rfl ?_
  obtain ⟨hk1, h⟩ := gd_e h
  refine r_getI (i := 5) (f := 2) hX ci_5 (by decide) rfl fl_Sc_16 hk1 d_Sc_weigh_9 ?_
  refine r_icmp_ge hX d_Sc_weigh_12 rfl h (fun h => ?_) (fun h => ?_)
  · refine r_aload_n (i := 2) hX d_Sc_weigh_42 2 rfl rfl ?_
    refine r_aload_n (i := 1) hX d_Sc_weigh_43 1 rfl rfl ?_
    refine r_getI (i := 5) (f := 3) hX ci_5 (by decide) rfl fl_Sc_33 hk1 d_Sc_weigh_44 ?_
    refine r_aload_n (i := 3) hX d_Sc_weigh_47 3 rfl rfl ?_
    obtain ⟨hk2, h⟩ := gd_e h
    obtain ⟨r3, hr4, h⟩ := bd_e h
    refine r_callV0 (As := [_, _]) hX hM mw_Sc_36 (T_Di_findKnown _ _ _ _ hr4) (rc_of ci_2 hk2) rfl rfl ⟨Nat.le_refl _, Nat.le_refl _⟩ rfl rfl d_Sc_weigh_48 ?_
    refine r_aload (i := 4) hX d_Sc_weigh_51 4  rfl ?_
    refine r_aload_n (i := 0) hX d_Sc_weigh_53 0 rfl rfl ?_
    obtain ⟨hk5, h⟩ := gd_e h
    refine r_getR (i := 6) (f := 0) hX ci_6 (by decide) rfl fl_Sc_11 hk5 d_Sc_weigh_54 ?_
    refine r_iconst (v := (0 : Int32)) hX d_Sc_weigh_57 rfl ?_
    obtain ⟨hk6, h⟩ := gd_e h
    obtain ⟨hg7, h⟩ := gd_e h
    refine r_aald (t := 0) (kd := 105) hX (by decide) (fun G => rfl) hk6 hg7 d_Sc_weigh_58 ?_
    obtain ⟨hk8, h⟩ := gd_e h
    obtain ⟨r9, hr10, h⟩ := bd_e h
    refine r_callV0 (As := [_]) hX hM mw_Sc_42 (T_Dy_take _ _ _ hr10) (rc_of ci_7 hk8) rfl rfl ⟨Nat.le_refl _, Nat.le_refl _⟩ rfl rfl d_Sc_weigh_59 ?_
    refine r_aload (i := 4) hX d_Sc_weigh_62 4  rfl ?_
    refine r_aload_n (i := 3) hX d_Sc_weigh_64 3 rfl rfl ?_
    obtain ⟨hk11, h⟩ := gd_e h
    obtain ⟨r12, hr13, h⟩ := bd_e h
    refine r_callV0 (As := [_]) hX hM mw_Sc_45 (T_Dy_meet _ _ _ hr13) (rc_of ci_7 hk11) rfl rfl ⟨Nat.le_refl _, Nat.le_refl _⟩ rfl rfl d_Sc_weigh_65 ?_
    cases h; exact r_vret hX hR d_Sc_weigh_68
  · refine r_aload_n (i := 0) hX d_Sc_weigh_15 0 rfl rfl ?_
    refine r_aload_n (i := 1) hX d_Sc_weigh_16 1 rfl rfl ?_
    refine r_iload (i := 6) hX d_Sc_weigh_17 6  rfl ?_
    obtain ⟨r14, hr15, h⟩ := bd_e h
    refine r_callV1 (As := [_]) hX hM mw_Sc_22 (T_Co_stepAt _ _ _ hr15) (rc_of ci_5 hk1) rfl rfl ⟨Nat.le_refl _, Nat.le_refl _⟩ rfl rfl d_Sc_weigh_19 ?_
    refine r_aload_n (i := 1) hX d_Sc_weigh_22 1 rfl rfl ?_
    refine r_iload (i := 6) hX d_Sc_weigh_23 6  rfl ?_
    obtain ⟨r16, hr17, h⟩ := bd_e h
    refine r_callV1 (As := [_]) hX hM mw_Sc_26 (T_Co_numberAt _ _ _ hr17) (rc_of ci_5 hk1) rfl rfl ⟨Nat.le_refl _, Nat.le_refl _⟩ rfl rfl d_Sc_weigh_25 ?_
    refine r_aload_n (i := 2) hX d_Sc_weigh_28 2 rfl rfl ?_
    refine r_iload (i := 5) hX d_Sc_weigh_29 5  rfl ?_
    obtain ⟨hk18, h⟩ := gd_e h
    obtain ⟨r19, hr20, h⟩ := bd_e h
    refine r_callV1 (As := [_, _, _, _]) hX hM mw_Sc_29 (T_Sc_take _ _ _ _ _ _ hr20) (rc_of ci_6 hk18) rfl rfl ⟨Nat.le_refl _, Nat.le_refl _⟩ rfl rfl d_Sc_weigh_31 ?_
    refine r_istore (i := 5) hX d_Sc_weigh_34  (by decide) ?_
    refine r_iinc (i := 6) (v := (1 : Int32)) hX d_Sc_weigh_36 6 rfl rfl (by decide) ?_
    refine r_goto hX d_Sc_weigh_39 rfl ?_
    exact rj_sub [2, 3, 4, 5, 6, 1, 0] rfl (hrec6 _ _ _ _ _ _ _ _ h)
def F_Sc_weigh_6 : Nat → Nat → Nat → Nat → Nat → Nat → Int32 → Int32 → AW → Option (AW)
  | 0 => fun _ _ _ _ _ _ _ _ => none
  | n + 1 => fun a0 a1 a2 a3 a4 x5 x6 w => F_Sc_weigh_6_B (F_Sc_weigh_6 n) a0 a1 a2 a3 a4 x5 x6 w
theorem P_Sc_weigh_6 {X : AX} {l : Launch} {G : AG} (hX : XOK X b_Sc_weigh "RedSky$Scales" 7) (hM : XM X l G { frames := 4, cells := 0, slots := 0, locals := 97 }) {o : AW} (hR : XR X none 0 0 none o) (fu : Nat) : ∀ (a0 : Nat) (a1 : Nat) (a2 : Nat) (a3 : Nat) (a4 : Nat) (x5 : Int32) (x6 : Int32) (w : AW), F_Sc_weigh_6 fu a0 a1 a2 a3 a4 x5 x6 w = some o → RJ X 7 0 0 6 [(0, vr a0), (1, vr a1), (2, vr a2), (3, vr a3), (4, vr a4), (5, vi x5), (6, vi x6)] [] w := by
  induction fu with
  | zero => intro a0 a1 a2 a3 a4 x5 x6 w h; cases h
  | succ n9 ih => intro a0 a1 a2 a3 a4 x5 x6 w h; exact P_Sc_weigh_6_B hX hM hR ih _ _ _ _ _ _ _ _ h
def F_Sc_weigh (a0 : Nat) (a1 : Nat) (a2 : Nat) (a3 : Nat) (a4 : Nat) (w : AW) : Option (AW) :=
  F_Sc_weigh_6 FUEL a0 a1 a2 a3 a4 (0 : Int32) (0 : Int32) w
theorem P_Sc_weigh_0 {X : AX} {l : Launch} {G : AG} (hX : XOK X b_Sc_weigh "RedSky$Scales" 7) (hM : XM X l G { frames := 4, cells := 0, slots := 0, locals := 97 }) {o : AW} (hR : XR X none 0 0 none o) (a0 : Nat) (a1 : Nat) (a2 : Nat) (a3 : Nat) (a4 : Nat) (w : AW) (h : F_Sc_weigh a0 a1 a2 a3 a4 w = some o) : RJ X 7 0 0 0 [(0, vr a0), (1, vr a1), (2, vr a2), (3, vr a3), (4, vr a4)] [] w := by
  unfold F_Sc_weigh at h
  refine r_iconst (v := (0 : Int32)) hX d_Sc_weigh_0 rfl ?_
  refine r_istore (i := 5) hX d_Sc_weigh_1  (by decide) ?_
  refine r_iconst (v := (0 : Int32)) hX d_Sc_weigh_3 rfl ?_
  refine r_istore (i := 6) hX d_Sc_weigh_4  (by decide) ?_
  exact rj_sub [2, 3, 4, 5, 6, 1, 0] rfl (P_Sc_weigh_6 hX hM hR FUEL _ _ _ _ _ _ _ _ h)
theorem T_Sc_weigh {l : Launch} {G : AG} (a0 : Nat) (a1 : Nat) (a2 : Nat) (a3 : Nat) (a4 : Nat) (w : AW) {o : AW} (h : F_Sc_weigh a0 a1 a2 a3 a4 w = some o) : Mt l G y_Sc_weigh b_Sc_weigh 7 none 4 97 0 0 [vr a0, vr a1, vr a2, vr a3, vr a4] w none o := mt_of (by decide) (Nat.le_of_ble_eq_true rfl) (fun X hX hR hM hI => P_Sc_weigh_0 hX hM hR _ _ _ _ _ _ h)
/-! RedSky$Days.wordAhead(II)J -/
theorem d_Dy_wordAhead_0 : decode b_Dy_wordAhead 0 = .ok (.iload_n 1, 1) := by decide +kernel
theorem d_Dy_wordAhead_1 : decode b_Dy_wordAhead 1 = .ok (.ifCond .lt (9), 3) := by decide +kernel
theorem d_Dy_wordAhead_4 : decode b_Dy_wordAhead 4 = .ok (.iload_n 1, 1) := by decide +kernel
theorem d_Dy_wordAhead_5 : decode b_Dy_wordAhead 5 = .ok (.bipush (23), 2) := by decide +kernel
theorem d_Dy_wordAhead_7 : decode b_Dy_wordAhead 7 = .ok (.if_icmp .lt (5), 3) := by decide +kernel
theorem d_Dy_wordAhead_10 : decode b_Dy_wordAhead 10 = .ok (.lconst 0, 1) := by decide +kernel
theorem d_Dy_wordAhead_11 : decode b_Dy_wordAhead 11 = .ok (.lreturn, 1) := by decide +kernel
theorem d_Dy_wordAhead_12 : decode b_Dy_wordAhead 12 = .ok (.aload_n 0, 1) := by decide +kernel
theorem d_Dy_wordAhead_13 : decode b_Dy_wordAhead 13 = .ok (.getfield 11, 3) := by decide +kernel
theorem d_Dy_wordAhead_16 : decode b_Dy_wordAhead 16 = .ok (.iload_n 1, 1) := by decide +kernel
theorem d_Dy_wordAhead_17 : decode b_Dy_wordAhead 17 = .ok (.laload, 1) := by decide +kernel
theorem d_Dy_wordAhead_18 : decode b_Dy_wordAhead 18 = .ok (.iload_n 2, 1) := by decide +kernel
theorem d_Dy_wordAhead_19 : decode b_Dy_wordAhead 19 = .ok (.lushr, 1) := by decide +kernel
theorem d_Dy_wordAhead_20 : decode b_Dy_wordAhead 20 = .ok (.lstore_n 3, 1) := by decide +kernel
theorem d_Dy_wordAhead_21 : decode b_Dy_wordAhead 21 = .ok (.iload_n 2, 1) := by decide +kernel
theorem d_Dy_wordAhead_22 : decode b_Dy_wordAhead 22 = .ok (.ifCond .eq (11), 3) := by decide +kernel
theorem d_Dy_wordAhead_25 : decode b_Dy_wordAhead 25 = .ok (.iload_n 1, 1) := by decide +kernel
theorem d_Dy_wordAhead_26 : decode b_Dy_wordAhead 26 = .ok (.iconst 1, 1) := by decide +kernel
theorem d_Dy_wordAhead_27 : decode b_Dy_wordAhead 27 = .ok (.iadd, 1) := by decide +kernel
theorem d_Dy_wordAhead_28 : decode b_Dy_wordAhead 28 = .ok (.bipush (23), 2) := by decide +kernel
theorem d_Dy_wordAhead_30 : decode b_Dy_wordAhead 30 = .ok (.if_icmp .lt (7), 3) := by decide +kernel
theorem d_Dy_wordAhead_33 : decode b_Dy_wordAhead 33 = .ok (.lload_n 3, 1) := by decide +kernel
theorem d_Dy_wordAhead_34 : decode b_Dy_wordAhead 34 = .ok (.goto (18), 3) := by decide +kernel
theorem d_Dy_wordAhead_37 : decode b_Dy_wordAhead 37 = .ok (.lload_n 3, 1) := by decide +kernel
theorem d_Dy_wordAhead_38 : decode b_Dy_wordAhead 38 = .ok (.aload_n 0, 1) := by decide +kernel
theorem d_Dy_wordAhead_39 : decode b_Dy_wordAhead 39 = .ok (.getfield 11, 3) := by decide +kernel
theorem d_Dy_wordAhead_42 : decode b_Dy_wordAhead 42 = .ok (.iload_n 1, 1) := by decide +kernel
theorem d_Dy_wordAhead_43 : decode b_Dy_wordAhead 43 = .ok (.iconst 1, 1) := by decide +kernel
theorem d_Dy_wordAhead_44 : decode b_Dy_wordAhead 44 = .ok (.iadd, 1) := by decide +kernel
theorem d_Dy_wordAhead_45 : decode b_Dy_wordAhead 45 = .ok (.laload, 1) := by decide +kernel
theorem d_Dy_wordAhead_46 : decode b_Dy_wordAhead 46 = .ok (.bipush (64), 2) := by decide +kernel
theorem d_Dy_wordAhead_48 : decode b_Dy_wordAhead 48 = .ok (.iload_n 2, 1) := by decide +kernel
theorem d_Dy_wordAhead_49 : decode b_Dy_wordAhead 49 = .ok (.isub, 1) := by decide +kernel
theorem d_Dy_wordAhead_50 : decode b_Dy_wordAhead 50 = .ok (.lshl, 1) := by decide +kernel
theorem d_Dy_wordAhead_51 : decode b_Dy_wordAhead 51 = .ok (.lor, 1) := by decide +kernel
theorem d_Dy_wordAhead_52 : decode b_Dy_wordAhead 52 = .ok (.lreturn, 1) := by decide +kernel
def F_Dy_wordAhead (w : AW) (a0 : Nat) (x1 : Int32) (x2 : Int32) : Option (Int64) :=
  if x1 < 0 then
    some (0 : Int64)
  else
    if x1 < (23 : Int32) then
      gd (wk w a0 == 8) <|
      gd (wk w (wr w a0 0) == 101) <|
      gd (inb x1 (wn w (wr w a0 0))) <|
      let v4 : Int64 := (lshr6 (wj w (wr w a0 0) (Int32.toNatClampNeg x1)) x2)
      if x2 = 0 then
        some v4
      else
        if (x1 + (1 : Int32)) < (23 : Int32) then
          gd (inb (x1 + (1 : Int32)) (wn w (wr w a0 0))) <|
          some (v4 ||| ((wj w (wr w a0 0) (Int32.toNatClampNeg (x1 + (1 : Int32)))) <<< (Int32.toInt64 ((64 : Int32) - x2) &&& 63)))
        else
          some v4
    else
      some (0 : Int64)
theorem P_Dy_wordAhead_0 {X : AX} {l : Launch} {G : AG} {w : AW} (hX : XOK X b_Dy_wordAhead "RedSky$Days" 5) (hM : XM X l G { frames := 0, cells := 0, slots := 0, locals := 0 }) {o : Int64} (hR : XR X (some .long) 0 0 (some (vl o)) w) (a0 : Nat) (x1 : Int32) (x2 : Int32) (h : F_Dy_wordAhead w a0 x1 x2 = some o) : RJ X 5 0 0 0 [(0, vr a0), (1, vi x1), (2, vi x2)] [] w := by
  unfold F_Dy_wordAhead at h
  refine r_iload_n (i := 1) hX d_Dy_wordAhead_0 1 rfl rfl ?_
  refine r_if_lt hX d_Dy_wordAhead_1 rfl h (fun h => ?_) (fun h => ?_)
  · refine r_lconst (v := (0 : Int64)) hX d_Dy_wordAhead_10 rfl ?_
    cases h; exact r_lret hX hR d_Dy_wordAhead_11
  · refine r_iload_n (i := 1) hX d_Dy_wordAhead_4 1 rfl rfl ?_
    refine r_bipush (v := (23 : Int32)) hX d_Dy_wordAhead_5 rfl ?_
    refine r_icmp_lt hX d_Dy_wordAhead_7 rfl h (fun h => ?_) (fun h => ?_)
    · refine r_aload_n (i := 0) hX d_Dy_wordAhead_12 0 rfl rfl ?_
      obtain ⟨hk1, h⟩ := gd_e h
      refine r_getR (i := 7) (f := 0) hX ci_7 (by decide) rfl fl_Dy_11 hk1 d_Dy_wordAhead_13 ?_
      refine r_iload_n (i := 1) hX d_Dy_wordAhead_16 1 rfl rfl ?_
      obtain ⟨hk2, h⟩ := gd_e h
      obtain ⟨hg3, h⟩ := gd_e h
      refine r_lald hX hk2 hg3 d_Dy_wordAhead_17 ?_
      refine r_iload_n (i := 2) hX d_Dy_wordAhead_18 2 rfl rfl ?_
      refine r_lushr hX d_Dy_wordAhead_19 ?_
      refine r_lstore_n (i := 3) hX d_Dy_wordAhead_20 rfl (by decide) ?_
      refine r_iload_n (i := 2) hX d_Dy_wordAhead_21 3 rfl rfl ?_
      refine r_if_eq hX d_Dy_wordAhead_22 rfl h (fun h => ?_) (fun h => ?_)
      · refine r_lload_n (i := 3) hX d_Dy_wordAhead_33 0 rfl rfl ?_
        refine r_goto hX d_Dy_wordAhead_34 rfl ?_
        cases h; exact r_lret hX hR d_Dy_wordAhead_52
      · refine r_iload_n (i := 1) hX d_Dy_wordAhead_25 2 rfl rfl ?_
        refine r_iconst (v := (1 : Int32)) hX d_Dy_wordAhead_26 rfl ?_
        refine r_iadd hX d_Dy_wordAhead_27 ?_
        refine r_bipush (v := (23 : Int32)) hX d_Dy_wordAhead_28 rfl ?_
        refine r_icmp_lt hX d_Dy_wordAhead_30 rfl h (fun h => ?_) (fun h => ?_)
        · refine r_lload_n (i := 3) hX d_Dy_wordAhead_37 0 rfl rfl ?_
          refine r_aload_n (i := 0) hX d_Dy_wordAhead_38 1 rfl rfl ?_
          refine r_getR (i := 7) (f := 0) hX ci_7 (by decide) rfl fl_Dy_11 hk1 d_Dy_wordAhead_39 ?_
          refine r_iload_n (i := 1) hX d_Dy_wordAhead_42 2 rfl rfl ?_
          refine r_iconst (v := (1 : Int32)) hX d_Dy_wordAhead_43 rfl ?_
          refine r_iadd hX d_Dy_wordAhead_44 ?_
          obtain ⟨hg5, h⟩ := gd_e h
          refine r_lald hX hk2 hg5 d_Dy_wordAhead_45 ?_
          refine r_bipush (v := (64 : Int32)) hX d_Dy_wordAhead_46 rfl ?_
          refine r_iload_n (i := 2) hX d_Dy_wordAhead_48 3 rfl rfl ?_
          refine r_isub hX d_Dy_wordAhead_49 ?_
          refine r_lshl hX d_Dy_wordAhead_50 ?_
          refine r_lor hX d_Dy_wordAhead_51 ?_
          cases h; exact r_lret hX hR d_Dy_wordAhead_52
        · refine r_lload_n (i := 3) hX d_Dy_wordAhead_33 0 rfl rfl ?_
          refine r_goto hX d_Dy_wordAhead_34 rfl ?_
          cases h; exact r_lret hX hR d_Dy_wordAhead_52
    · refine r_lconst (v := (0 : Int64)) hX d_Dy_wordAhead_10 rfl ?_
      cases h; exact r_lret hX hR d_Dy_wordAhead_11
theorem T_Dy_wordAhead {l : Launch} {G : AG} (w : AW) (a0 : Nat) (x1 : Int32) (x2 : Int32) {o : Int64} (h : F_Dy_wordAhead w a0 x1 x2 = some o) : Mt l G y_Dy_wordAhead b_Dy_wordAhead 5 (some (.long)) 0 0 0 0 [vr a0, vi x1, vi x2] w (some (vl o)) w := mt_of (by decide) (Nat.le_of_ble_eq_true rfl) (fun X hX hR hM hI => P_Dy_wordAhead_0 hX hM hR _ _ _ h)
/-! RedSky$Days.meetAhead(LRedSky$Days;I)V -/
theorem d_Dy_meetAhead_0 : decode b_Dy_meetAhead 0 = .ok (.iconst 0, 1) := by decide +kernel
theorem d_Dy_meetAhead_1 : decode b_Dy_meetAhead 1 = .ok (.istore_n 3, 1) := by decide +kernel
theorem d_Dy_meetAhead_2 : decode b_Dy_meetAhead 2 = .ok (.iload_n 3, 1) := by decide +kernel
theorem d_Dy_meetAhead_3 : decode b_Dy_meetAhead 3 = .ok (.bipush (23), 2) := by decide +kernel
theorem d_Dy_meetAhead_5 : decode b_Dy_meetAhead 5 = .ok (.if_icmp .ge (24), 3) := by decide +kernel
theorem d_Dy_meetAhead_8 : decode b_Dy_meetAhead 8 = .ok (.aload_n 0, 1) := by decide +kernel
theorem d_Dy_meetAhead_9 : decode b_Dy_meetAhead 9 = .ok (.getfield 11, 3) := by decide +kernel
theorem d_Dy_meetAhead_12 : decode b_Dy_meetAhead 12 = .ok (.iload_n 3, 1) := by decide +kernel
theorem d_Dy_meetAhead_13 : decode b_Dy_meetAhead 13 = .ok (.dup2, 1) := by decide +kernel
theorem d_Dy_meetAhead_14 : decode b_Dy_meetAhead 14 = .ok (.laload, 1) := by decide +kernel
theorem d_Dy_meetAhead_15 : decode b_Dy_meetAhead 15 = .ok (.aload_n 1, 1) := by decide +kernel
theorem d_Dy_meetAhead_16 : decode b_Dy_meetAhead 16 = .ok (.iload_n 3, 1) := by decide +kernel
theorem d_Dy_meetAhead_17 : decode b_Dy_meetAhead 17 = .ok (.iload_n 2, 1) := by decide +kernel
theorem d_Dy_meetAhead_18 : decode b_Dy_meetAhead 18 = .ok (.invokevirtual 41, 3) := by decide +kernel
theorem d_Dy_meetAhead_21 : decode b_Dy_meetAhead 21 = .ok (.land, 1) := by decide +kernel
theorem d_Dy_meetAhead_22 : decode b_Dy_meetAhead 22 = .ok (.lastore, 1) := by decide +kernel
theorem d_Dy_meetAhead_23 : decode b_Dy_meetAhead 23 = .ok (.iinc 3 (1), 3) := by decide +kernel
theorem d_Dy_meetAhead_26 : decode b_Dy_meetAhead 26 = .ok (.goto (-24), 3) := by decide +kernel
theorem d_Dy_meetAhead_29 : decode b_Dy_meetAhead 29 = .ok (.return_, 1) := by decide +kernel
def F_Dy_meetAhead_2_B (rec2 : Nat → Nat → Int32 → Int32 → AW → Option (AW)) (a0 : Nat) (a1 : Nat) (x2 : Int32) (x3 : Int32) (w : AW) : Option (AW) :=
  if (23 : Int32) ≤ x3 then
    some w
  else
    gd (wk w a0 == 8) <|
    gd (wk w (wr w a0 0) == 101) <|
    gd (inb x3 (wn w (wr w a0 0))) <|
    gd (wk w a1 == 8) <|
    (F_Dy_wordAhead w a1 x3 x2).bind fun r5 =>
    gd (inb x3 (wn w (wr w a0 0))) <|
    let w8 : AW := upJ w (wr w a0 0) (Int32.toNatClampNeg x3) ((wj w (wr w a0 0) (Int32.toNatClampNeg x3)) &&& r5)
    let v9 : Int32 := (x3 + (1 : Int32))
    rec2 a0 a1 x2 v9 w8
theorem P_Dy_meetAhead_2_B {X : AX} {l : Launch} {G : AG} {rec2 : Nat → Nat → Int32 → Int32 → AW → Option (AW)} (hX : XOK X b_Dy_meetAhead "RedSky$Days" 4) (hM : XM X l G { frames := 1, cells := 0, slots := 0, locals := 24 }) {o : AW} (hR : XR X none 0 0 none o) (hrec2 : ∀ (a0 : Nat) (a1 : Nat) (x2 : Int32) (x3 : Int32) (w : AW), rec2 a0 a1 x2 x3 w = some o → RJ X 4 0 0 2 [(0, vr a0), (1, vr a1), (2, vi x2), (3, vi x3)] [] w) (a0 : Nat) (a1 : Nat) (x2 : Int32) (x3 : Int32) (w : AW) (h : F_Dy_meetAhead_2_B rec2 a0 a1 x2 x3 w = some o) : RJ X 4 0 0 2 [(0, vr a0), (1, vr a1), (2, vi x2), (3, vi x3)] [] w := by
  unfold F_Dy_meetAhead_2_B at h
  refine r_iload_n (i := 3) hX d_Dy_meetAhead_2 3 rfl rfl ?_
  refine r_bipush (v := (23 : Int32)) hX d_Dy_meetAhead_3 rfl ?_
  refine r_icmp_ge hX d_Dy_meetAhead_5 rfl h (fun h => ?_) (fun h => ?_)
  · cases h; exact r_vret hX hR d_Dy_meetAhead_29
  · refine r_aload_n (i := 0) hX d_Dy_meetAhead_8 0 rfl rfl ?_
    obtain ⟨hk1, h⟩ := gd_e h
    refine r_getR (i := 7) (f := 0) hX ci_7 (by decide) rfl fl_Dy_11 hk1 d_Dy_meetAhead_9 ?_
    refine r_iload_n (i := 3) hX d_Dy_meetAhead_12 3 rfl rfl ?_
    refine r_dup2 hX d_Dy_meetAhead_13 rfl rfl ?_
    obtain ⟨hk2, h⟩ := gd_e h
    obtain ⟨hg3, h⟩ := gd_e h
    refine r_lald hX hk2 hg3 d_Dy_meetAhead_14 ?_
    refine r_aload_n (i := 1) hX d_Dy_meetAhead_15 1 rfl rfl ?_
    refine r_iload_n (i := 3) hX d_Dy_meetAhead_16 3 rfl rfl ?_
    refine r_iload_n (i := 2) hX d_Dy_meetAhead_17 2 rfl rfl ?_
    obtain ⟨hk4, h⟩ := gd_e h
    obtain ⟨r5, hr6, h⟩ := bd_e h
    refine r_callV1 (As := [_, _]) hX hM mw_Dy_41 (T_Dy_wordAhead _ _ _ _ hr6) (rc_of ci_7 hk4) rfl rfl ⟨Nat.le_refl _, Nat.le_refl _⟩ rfl rfl d_Dy_meetAhead_18 ?_
    refine r_land hX d_Dy_meetAhead_21 ?_
    obtain ⟨hg7, h⟩ := gd_e h
    refine r_last hX hk2 hg7 d_Dy_meetAhead_22 ?_
    refine r_iinc (i := 3) (v := (1 : Int32)) hX d_Dy_meetAhead_23 3 rfl rfl (by decide) ?_
    refine r_goto hX d_Dy_meetAhead_26 rfl ?_
    exact rj_sub [1, 2, 3, 0] rfl (hrec2 _ _ _ _ _ h)
def F_Dy_meetAhead_2 : Nat → Nat → Nat → Int32 → Int32 → AW → Option (AW)
  | 0 => fun _ _ _ _ _ => none
  | n + 1 => fun a0 a1 x2 x3 w => F_Dy_meetAhead_2_B (F_Dy_meetAhead_2 n) a0 a1 x2 x3 w
theorem P_Dy_meetAhead_2 {X : AX} {l : Launch} {G : AG} (hX : XOK X b_Dy_meetAhead "RedSky$Days" 4) (hM : XM X l G { frames := 1, cells := 0, slots := 0, locals := 24 }) {o : AW} (hR : XR X none 0 0 none o) (fu : Nat) : ∀ (a0 : Nat) (a1 : Nat) (x2 : Int32) (x3 : Int32) (w : AW), F_Dy_meetAhead_2 fu a0 a1 x2 x3 w = some o → RJ X 4 0 0 2 [(0, vr a0), (1, vr a1), (2, vi x2), (3, vi x3)] [] w := by
  induction fu with
  | zero => intro a0 a1 x2 x3 w h; cases h
  | succ n9 ih => intro a0 a1 x2 x3 w h; exact P_Dy_meetAhead_2_B hX hM hR ih _ _ _ _ _ h
def F_Dy_meetAhead (a0 : Nat) (a1 : Nat) (x2 : Int32) (w : AW) : Option (AW) :=
  F_Dy_meetAhead_2 FUEL a0 a1 x2 (0 : Int32) w
theorem P_Dy_meetAhead_0 {X : AX} {l : Launch} {G : AG} (hX : XOK X b_Dy_meetAhead "RedSky$Days" 4) (hM : XM X l G { frames := 1, cells := 0, slots := 0, locals := 24 }) {o : AW} (hR : XR X none 0 0 none o) (a0 : Nat) (a1 : Nat) (x2 : Int32) (w : AW) (h : F_Dy_meetAhead a0 a1 x2 w = some o) : RJ X 4 0 0 0 [(0, vr a0), (1, vr a1), (2, vi x2)] [] w := by
  unfold F_Dy_meetAhead at h
  refine r_iconst (v := (0 : Int32)) hX d_Dy_meetAhead_0 rfl ?_
  refine r_istore_n (i := 3) hX d_Dy_meetAhead_1 rfl (by decide) ?_
  exact rj_sub [1, 2, 3, 0] rfl (P_Dy_meetAhead_2 hX hM hR FUEL _ _ _ _ _ h)
theorem T_Dy_meetAhead {l : Launch} {G : AG} (a0 : Nat) (a1 : Nat) (x2 : Int32) (w : AW) {o : AW} (h : F_Dy_meetAhead a0 a1 x2 w = some o) : Mt l G y_Dy_meetAhead b_Dy_meetAhead 4 none 1 24 0 0 [vr a0, vr a1, vi x2] w none o := mt_of (by decide) (Nat.le_of_ble_eq_true rfl) (fun X hX hR hM hI => P_Dy_meetAhead_0 hX hM hR _ _ _ _ h)
/-! RedSky$Days.joinAhead(LRedSky$Days;I)V -/
theorem d_Dy_joinAhead_0 : decode b_Dy_joinAhead 0 = .ok (.iconst 0, 1) := by decide +kernel
theorem d_Dy_joinAhead_1 : decode b_Dy_joinAhead 1 = .ok (.istore_n 3, 1) := by decide +kernel
theorem d_Dy_joinAhead_2 : decode b_Dy_joinAhead 2 = .ok (.iload_n 3, 1) := by decide +kernel
theorem d_Dy_joinAhead_3 : decode b_Dy_joinAhead 3 = .ok (.bipush (23), 2) := by decide +kernel
theorem d_Dy_joinAhead_5 : decode b_Dy_joinAhead 5 = .ok (.if_icmp .ge (24), 3) := by decide +kernel
theorem d_Dy_joinAhead_8 : decode b_Dy_joinAhead 8 = .ok (.aload_n 0, 1) := by decide +kernel
theorem d_Dy_joinAhead_9 : decode b_Dy_joinAhead 9 = .ok (.getfield 11, 3) := by decide +kernel
theorem d_Dy_joinAhead_12 : decode b_Dy_joinAhead 12 = .ok (.iload_n 3, 1) := by decide +kernel
theorem d_Dy_joinAhead_13 : decode b_Dy_joinAhead 13 = .ok (.dup2, 1) := by decide +kernel
theorem d_Dy_joinAhead_14 : decode b_Dy_joinAhead 14 = .ok (.laload, 1) := by decide +kernel
theorem d_Dy_joinAhead_15 : decode b_Dy_joinAhead 15 = .ok (.aload_n 1, 1) := by decide +kernel
theorem d_Dy_joinAhead_16 : decode b_Dy_joinAhead 16 = .ok (.iload_n 3, 1) := by decide +kernel
theorem d_Dy_joinAhead_17 : decode b_Dy_joinAhead 17 = .ok (.iload_n 2, 1) := by decide +kernel
theorem d_Dy_joinAhead_18 : decode b_Dy_joinAhead 18 = .ok (.invokevirtual 41, 3) := by decide +kernel
theorem d_Dy_joinAhead_21 : decode b_Dy_joinAhead 21 = .ok (.lor, 1) := by decide +kernel
theorem d_Dy_joinAhead_22 : decode b_Dy_joinAhead 22 = .ok (.lastore, 1) := by decide +kernel
theorem d_Dy_joinAhead_23 : decode b_Dy_joinAhead 23 = .ok (.iinc 3 (1), 3) := by decide +kernel
theorem d_Dy_joinAhead_26 : decode b_Dy_joinAhead 26 = .ok (.goto (-24), 3) := by decide +kernel
theorem d_Dy_joinAhead_29 : decode b_Dy_joinAhead 29 = .ok (.return_, 1) := by decide +kernel
def F_Dy_joinAhead_2_B (rec2 : Nat → Nat → Int32 → Int32 → AW → Option (AW)) (a0 : Nat) (a1 : Nat) (x2 : Int32) (x3 : Int32) (w : AW) : Option (AW) :=
  if (23 : Int32) ≤ x3 then
    some w
  else
    gd (wk w a0 == 8) <|
    gd (wk w (wr w a0 0) == 101) <|
    gd (inb x3 (wn w (wr w a0 0))) <|
    gd (wk w a1 == 8) <|
    (F_Dy_wordAhead w a1 x3 x2).bind fun r5 =>
    gd (inb x3 (wn w (wr w a0 0))) <|
    let w8 : AW := upJ w (wr w a0 0) (Int32.toNatClampNeg x3) ((wj w (wr w a0 0) (Int32.toNatClampNeg x3)) ||| r5)
    let v9 : Int32 := (x3 + (1 : Int32))
    rec2 a0 a1 x2 v9 w8
theorem P_Dy_joinAhead_2_B {X : AX} {l : Launch} {G : AG} {rec2 : Nat → Nat → Int32 → Int32 → AW → Option (AW)} (hX : XOK X b_Dy_joinAhead "RedSky$Days" 4) (hM : XM X l G { frames := 1, cells := 0, slots := 0, locals := 24 }) {o : AW} (hR : XR X none 0 0 none o) (hrec2 : ∀ (a0 : Nat) (a1 : Nat) (x2 : Int32) (x3 : Int32) (w : AW), rec2 a0 a1 x2 x3 w = some o → RJ X 4 0 0 2 [(0, vr a0), (1, vr a1), (2, vi x2), (3, vi x3)] [] w) (a0 : Nat) (a1 : Nat) (x2 : Int32) (x3 : Int32) (w : AW) (h : F_Dy_joinAhead_2_B rec2 a0 a1 x2 x3 w = some o) : RJ X 4 0 0 2 [(0, vr a0), (1, vr a1), (2, vi x2), (3, vi x3)] [] w := by
  unfold F_Dy_joinAhead_2_B at h
  refine r_iload_n (i := 3) hX d_Dy_joinAhead_2 3 rfl rfl ?_
  refine r_bipush (v := (23 : Int32)) hX d_Dy_joinAhead_3 rfl ?_
  refine r_icmp_ge hX d_Dy_joinAhead_5 rfl h (fun h => ?_) (fun h => ?_)
  · cases h; exact r_vret hX hR d_Dy_joinAhead_29
  · refine r_aload_n (i := 0) hX d_Dy_joinAhead_8 0 rfl rfl ?_
    obtain ⟨hk1, h⟩ := gd_e h
    refine r_getR (i := 7) (f := 0) hX ci_7 (by decide) rfl fl_Dy_11 hk1 d_Dy_joinAhead_9 ?_
    refine r_iload_n (i := 3) hX d_Dy_joinAhead_12 3 rfl rfl ?_
    refine r_dup2 hX d_Dy_joinAhead_13 rfl rfl ?_
    obtain ⟨hk2, h⟩ := gd_e h
    obtain ⟨hg3, h⟩ := gd_e h
    refine r_lald hX hk2 hg3 d_Dy_joinAhead_14 ?_
    refine r_aload_n (i := 1) hX d_Dy_joinAhead_15 1 rfl rfl ?_
    refine r_iload_n (i := 3) hX d_Dy_joinAhead_16 3 rfl rfl ?_
    refine r_iload_n (i := 2) hX d_Dy_joinAhead_17 2 rfl rfl ?_
    obtain ⟨hk4, h⟩ := gd_e h
    obtain ⟨r5, hr6, h⟩ := bd_e h
    refine r_callV1 (As := [_, _]) hX hM mw_Dy_41 (T_Dy_wordAhead _ _ _ _ hr6) (rc_of ci_7 hk4) rfl rfl ⟨Nat.le_refl _, Nat.le_refl _⟩ rfl rfl d_Dy_joinAhead_18 ?_
    refine r_lor hX d_Dy_joinAhead_21 ?_
    obtain ⟨hg7, h⟩ := gd_e h
    refine r_last hX hk2 hg7 d_Dy_joinAhead_22 ?_
    refine r_iinc (i := 3) (v := (1 : Int32)) hX d_Dy_joinAhead_23 3 rfl rfl (by decide) ?_
    refine r_goto hX d_Dy_joinAhead_26 rfl ?_
    exact rj_sub [1, 2, 3, 0] rfl (hrec2 _ _ _ _ _ h)
def F_Dy_joinAhead_2 : Nat → Nat → Nat → Int32 → Int32 → AW → Option (AW)
  | 0 => fun _ _ _ _ _ => none
  | n + 1 => fun a0 a1 x2 x3 w => F_Dy_joinAhead_2_B (F_Dy_joinAhead_2 n) a0 a1 x2 x3 w
theorem P_Dy_joinAhead_2 {X : AX} {l : Launch} {G : AG} (hX : XOK X b_Dy_joinAhead "RedSky$Days" 4) (hM : XM X l G { frames := 1, cells := 0, slots := 0, locals := 24 }) {o : AW} (hR : XR X none 0 0 none o) (fu : Nat) : ∀ (a0 : Nat) (a1 : Nat) (x2 : Int32) (x3 : Int32) (w : AW), F_Dy_joinAhead_2 fu a0 a1 x2 x3 w = some o → RJ X 4 0 0 2 [(0, vr a0), (1, vr a1), (2, vi x2), (3, vi x3)] [] w := by
  induction fu with
  | zero => intro a0 a1 x2 x3 w h; cases h
  | succ n9 ih => intro a0 a1 x2 x3 w h; exact P_Dy_joinAhead_2_B hX hM hR ih _ _ _ _ _ h
def F_Dy_joinAhead (a0 : Nat) (a1 : Nat) (x2 : Int32) (w : AW) : Option (AW) :=
  F_Dy_joinAhead_2 FUEL a0 a1 x2 (0 : Int32) w
theorem P_Dy_joinAhead_0 {X : AX} {l : Launch} {G : AG} (hX : XOK X b_Dy_joinAhead "RedSky$Days" 4) (hM : XM X l G { frames := 1, cells := 0, slots := 0, locals := 24 }) {o : AW} (hR : XR X none 0 0 none o) (a0 : Nat) (a1 : Nat) (x2 : Int32) (w : AW) (h : F_Dy_joinAhead a0 a1 x2 w = some o) : RJ X 4 0 0 0 [(0, vr a0), (1, vr a1), (2, vi x2)] [] w := by
  unfold F_Dy_joinAhead at h
  refine r_iconst (v := (0 : Int32)) hX d_Dy_joinAhead_0 rfl ?_
  refine r_istore_n (i := 3) hX d_Dy_joinAhead_1 rfl (by decide) ?_
  exact rj_sub [1, 2, 3, 0] rfl (P_Dy_joinAhead_2 hX hM hR FUEL _ _ _ _ _ h)
theorem T_Dy_joinAhead {l : Launch} {G : AG} (a0 : Nat) (a1 : Nat) (x2 : Int32) (w : AW) {o : AW} (h : F_Dy_joinAhead a0 a1 x2 w = some o) : Mt l G y_Dy_joinAhead b_Dy_joinAhead 4 none 1 24 0 0 [vr a0, vr a1, vi x2] w none o := mt_of (by decide) (Nat.le_of_ble_eq_true rfl) (fun X hX hR hM hI => P_Dy_joinAhead_0 hX hM hR _ _ _ _ h)
/-! RedSky$Reading.spread(LRedSky$Saying;)V -/
theorem d_Rd_spread_0 : decode b_Rd_spread 0 = .ok (.aload_n 0, 1) := by decide +kernel
theorem d_Rd_spread_1 : decode b_Rd_spread 1 = .ok (.getfield 24, 3) := by decide +kernel
theorem d_Rd_spread_4 : decode b_Rd_spread 4 = .ok (.invokevirtual 77, 3) := by decide +kernel
theorem d_Rd_spread_7 : decode b_Rd_spread 7 = .ok (.aload_n 0, 1) := by decide +kernel
theorem d_Rd_spread_8 : decode b_Rd_spread 8 = .ok (.getfield 27, 3) := by decide +kernel
theorem d_Rd_spread_11 : decode b_Rd_spread 11 = .ok (.invokevirtual 80, 3) := by decide +kernel
theorem d_Rd_spread_14 : decode b_Rd_spread 14 = .ok (.aload_n 1, 1) := by decide +kernel
theorem d_Rd_spread_15 : decode b_Rd_spread 15 = .ok (.getfield 83, 3) := by decide +kernel
theorem d_Rd_spread_18 : decode b_Rd_spread 18 = .ok (.ifCond .eq (10), 3) := by decide +kernel
theorem d_Rd_spread_21 : decode b_Rd_spread 21 = .ok (.aload_n 0, 1) := by decide +kernel
theorem d_Rd_spread_22 : decode b_Rd_spread 22 = .ok (.getfield 27, 3) := by decide +kernel
theorem d_Rd_spread_25 : decode b_Rd_spread 25 = .ok (.invokevirtual 77, 3) := by decide +kernel
theorem d_Rd_spread_28 : decode b_Rd_spread 28 = .ok (.aload_n 1, 1) := by decide +kernel
theorem d_Rd_spread_29 : decode b_Rd_spread 29 = .ok (.getfield 87, 3) := by decide +kernel
theorem d_Rd_spread_32 : decode b_Rd_spread 32 = .ok (.istore_n 2, 1) := by decide +kernel
theorem d_Rd_spread_33 : decode b_Rd_spread 33 = .ok (.iload_n 2, 1) := by decide +kernel
theorem d_Rd_spread_34 : decode b_Rd_spread 34 = .ok (.aload_n 1, 1) := by decide +kernel
theorem d_Rd_spread_35 : decode b_Rd_spread 35 = .ok (.getfield 91, 3) := by decide +kernel
theorem d_Rd_spread_38 : decode b_Rd_spread 38 = .ok (.if_icmp .gt (55), 3) := by decide +kernel
theorem d_Rd_spread_41 : decode b_Rd_spread 41 = .ok (.aload_n 0, 1) := by decide +kernel
theorem d_Rd_spread_42 : decode b_Rd_spread 42 = .ok (.getfield 24, 3) := by decide +kernel
theorem d_Rd_spread_45 : decode b_Rd_spread 45 = .ok (.aload_n 0, 1) := by decide +kernel
theorem d_Rd_spread_46 : decode b_Rd_spread 46 = .ok (.getfield 42, 3) := by decide +kernel
theorem d_Rd_spread_49 : decode b_Rd_spread 49 = .ok (.iload_n 2, 1) := by decide +kernel
theorem d_Rd_spread_50 : decode b_Rd_spread 50 = .ok (.invokevirtual 94, 3) := by decide +kernel
theorem d_Rd_spread_53 : decode b_Rd_spread 53 = .ok (.aload_n 1, 1) := by decide +kernel
theorem d_Rd_spread_54 : decode b_Rd_spread 54 = .ok (.getfield 83, 3) := by decide +kernel
theorem d_Rd_spread_57 : decode b_Rd_spread 57 = .ok (.ifCond .eq (18), 3) := by decide +kernel
theorem d_Rd_spread_60 : decode b_Rd_spread 60 = .ok (.aload_n 0, 1) := by decide +kernel
theorem d_Rd_spread_61 : decode b_Rd_spread 61 = .ok (.getfield 27, 3) := by decide +kernel
theorem d_Rd_spread_64 : decode b_Rd_spread 64 = .ok (.aload_n 0, 1) := by decide +kernel
theorem d_Rd_spread_65 : decode b_Rd_spread 65 = .ok (.getfield 45, 3) := by decide +kernel
theorem d_Rd_spread_68 : decode b_Rd_spread 68 = .ok (.iload_n 2, 1) := by decide +kernel
theorem d_Rd_spread_69 : decode b_Rd_spread 69 = .ok (.invokevirtual 94, 3) := by decide +kernel
theorem d_Rd_spread_72 : decode b_Rd_spread 72 = .ok (.goto (15), 3) := by decide +kernel
theorem d_Rd_spread_75 : decode b_Rd_spread 75 = .ok (.aload_n 0, 1) := by decide +kernel
theorem d_Rd_spread_76 : decode b_Rd_spread 76 = .ok (.getfield 27, 3) := by decide +kernel
theorem d_Rd_spread_79 : decode b_Rd_spread 79 = .ok (.aload_n 0, 1) := by decide +kernel
theorem d_Rd_spread_80 : decode b_Rd_spread 80 = .ok (.getfield 45, 3) := by decide +kernel
theorem d_Rd_spread_83 : decode b_Rd_spread 83 = .ok (.iload_n 2, 1) := by decide +kernel
theorem d_Rd_spread_84 : decode b_Rd_spread 84 = .ok (.invokevirtual 98, 3) := by decide +kernel
theorem d_Rd_spread_87 : decode b_Rd_spread 87 = .ok (.iinc 2 (1), 3) := by decide +kernel
theorem d_Rd_spread_90 : decode b_Rd_spread 90 = .ok (.goto (-57), 3) := by decide +kernel
theorem d_Rd_spread_93 : decode b_Rd_spread 93 = .ok (.aload_n 0, 1) := by decide +kernel
theorem d_Rd_spread_94 : decode b_Rd_spread 94 = .ok (.getfield 27, 3) := by decide +kernel
theorem d_Rd_spread_97 : decode b_Rd_spread 97 = .ok (.aload_n 0, 1) := by decide +kernel
theorem d_Rd_spread_98 : decode b_Rd_spread 98 = .ok (.getfield 24, 3) := by decide +kernel
theorem d_Rd_spread_101 : decode b_Rd_spread 101 = .ok (.invokevirtual 101, 3) := by decide +kernel
theorem d_Rd_spread_104 : decode b_Rd_spread 104 = .ok (.return_, 1) := by decide +kernel
def F_Rd_spread_33_B (rec33 : Nat → Nat → Int32 → AW → Option (AW)) (a0 : Nat) (a1 : Nat) (x2 : Int32) (w : AW) : Option (AW) :=
  gd (wk w a1 == 5) <|
  if (wi w a1 3) < x2 then
    gd (wk w a0 == 9) <|
    gd (wk w (wr w a0 4) == 8) <|
    (F_Dy_meet (wr w a0 4) (wr w a0 3) w).bind fun r4 =>
    some r4
  else
    gd (wk w a0 == 9) <|
    gd (wk w (wr w a0 3) == 8) <|
    (F_Dy_meetAhead (wr w a0 3) (wr w a0 9) x2 w).bind fun r8 =>
    gd (wk r8 a1 == 5) <|
    if (wi r8 a1 4) = 0 then
      gd (wk r8 a0 == 9) <|
      gd (wk r8 (wr r8 a0 4) == 8) <|
      (F_Dy_joinAhead (wr r8 a0 4) (wr r8 a0 10) x2 r8).bind fun r13 =>
      let v15 : Int32 := (x2 + (1 : Int32))
      rec33 a0 a1 v15 r13
    else
      gd (wk r8 a0 == 9) <|
      gd (wk r8 (wr r8 a0 4) == 8) <|
      (F_Dy_meetAhead (wr r8 a0 4) (wr r8 a0 10) x2 r8).bind fun r18 =>
      let v20 : Int32 := (x2 + (1 : Int32))
      rec33 a0 a1 v20 r18
theorem P_Rd_spread_33_B {X : AX} {l : Launch} {G : AG} {rec33 : Nat → Nat → Int32 → AW → Option (AW)} (hX : XOK X b_Rd_spread "RedSky$Reading" 3) (hM : XM X l G { frames := 3, cells := 0, slots := 0, locals := 64 }) {o : AW} (hR : XR X none 0 0 none o) (hrec33 : ∀ (a0 : Nat) (a1 : Nat) (x2 : Int32) (w : AW), rec33 a0 a1 x2 w = some o → RJ X 3 0 0 33 [(0, vr a0), (1, vr a1), (2, vi x2)] [] w) (a0 : Nat) (a1 : Nat) (x2 : Int32) (w : AW) (h : F_Rd_spread_33_B rec33 a0 a1 x2 w = some o) : RJ X 3 0 0 33 [(0, vr a0), (1, vr a1), (2, vi x2)] [] w := by
  unfold F_Rd_spread_33_B at h
  refine r_iload_n (i := 2) hX d_Rd_spread_33 2 rfl rfl ?_
  refine r_aload_n (i := 1) hX d_Rd_spread_34 1 rfl rfl ?_
  obtain ⟨hk1, h⟩ := gd_e h
  refine r_getI (i := 4) (f := 3) hX ci_4 (by decide) rfl fl_Rd_91 hk1 d_Rd_spread_35 ?_
  refine r_icmp_gt hX d_Rd_spread_38 rfl h (fun h => ?_) (fun h => ?_)
  · refine r_aload_n (i := 0) hX d_Rd_spread_93 0 rfl rfl ?_
    obtain ⟨hk2, h⟩ := gd_e h
    refine r_getR (i := 8) (f := 4) hX ci_8 (by decide) rfl fl_Rd_27 hk2 d_Rd_spread_94 ?_
    refine r_aload_n (i := 0) hX d_Rd_spread_97 0 rfl rfl ?_
    refine r_getR (i := 8) (f := 3) hX ci_8 (by decide) rfl fl_Rd_24 hk2 d_Rd_spread_98 ?_
    obtain ⟨hk3, h⟩ := gd_e h
    obtain ⟨r4, hr5, h⟩ := bd_e h
    refine r_callV0 (As := [_]) hX hM mw_Rd_101 (T_Dy_meet _ _ _ hr5) (rc_of ci_7 hk3) rfl rfl ⟨Nat.le_refl _, Nat.le_refl _⟩ rfl rfl d_Rd_spread_101 ?_
    cases h; exact r_vret hX hR d_Rd_spread_104
  · refine r_aload_n (i := 0) hX d_Rd_spread_41 0 rfl rfl ?_
    obtain ⟨hk6, h⟩ := gd_e h
    refine r_getR (i := 8) (f := 3) hX ci_8 (by decide) rfl fl_Rd_24 hk6 d_Rd_spread_42 ?_
    refine r_aload_n (i := 0) hX d_Rd_spread_45 0 rfl rfl ?_
    refine r_getR (i := 8) (f := 9) hX ci_8 (by decide) rfl fl_Rd_42 hk6 d_Rd_spread_46 ?_
    refine r_iload_n (i := 2) hX d_Rd_spread_49 2 rfl rfl ?_
    obtain ⟨hk7, h⟩ := gd_e h
    obtain ⟨r8, hr9, h⟩ := bd_e h
    refine r_callV0 (As := [_, _]) hX hM mw_Rd_94 (T_Dy_meetAhead _ _ _ _ hr9) (rc_of ci_7 hk7) rfl rfl ⟨Nat.le_refl _, Nat.le_refl _⟩ rfl rfl d_Rd_spread_50 ?_
    refine r_aload_n (i := 1) hX d_Rd_spread_53 1 rfl rfl ?_
    obtain ⟨hk10, h⟩ := gd_e h
    refine r_getI (i := 4) (f := 4) hX ci_4 (by decide) rfl fl_Rd_83 hk10 d_Rd_spread_54 ?_
    refine r_if_eq hX d_Rd_spread_57 rfl h (fun h => ?_) (fun h => ?_)
    · refine r_aload_n (i := 0) hX d_Rd_spread_75 0 rfl rfl ?_
      obtain ⟨hk11, h⟩ := gd_e h
      refine r_getR (i := 8) (f := 4) hX ci_8 (by decide) rfl fl_Rd_27 hk11 d_Rd_spread_76 ?_
      refine r_aload_n (i := 0) hX d_Rd_spread_79 0 rfl rfl ?_
      refine r_getR (i := 8) (f := 10) hX ci_8 (by decide) rfl fl_Rd_45 hk11 d_Rd_spread_80 ?_
      refine r_iload_n (i := 2) hX d_Rd_spread_83 2 rfl rfl ?_
      obtain ⟨hk12, h⟩ := gd_e h
      obtain ⟨r13, hr14, h⟩ := bd_e h
      refine r_callV0 (As := [_, _]) hX hM mw_Rd_98 (T_Dy_joinAhead _ _ _ _ hr14) (rc_of ci_7 hk12) rfl rfl ⟨Nat.le_refl _, Nat.le_refl _⟩ rfl rfl d_Rd_spread_84 ?_
      refine r_iinc (i := 2) (v := (1 : Int32)) hX d_Rd_spread_87 2 rfl rfl (by decide) ?_
      refine r_goto hX d_Rd_spread_90 rfl ?_
      exact rj_sub [1, 2, 0] rfl (hrec33 _ _ _ _ h)
    · refine r_aload_n (i := 0) hX d_Rd_spread_60 0 rfl rfl ?_
      obtain ⟨hk16, h⟩ := gd_e h
      refine r_getR (i := 8) (f := 4) hX ci_8 (by decide) rfl fl_Rd_27 hk16 d_Rd_spread_61 ?_
      refine r_aload_n (i := 0) hX d_Rd_spread_64 0 rfl rfl ?_
      refine r_getR (i := 8) (f := 10) hX ci_8 (by decide) rfl fl_Rd_45 hk16 d_Rd_spread_65 ?_
      refine r_iload_n (i := 2) hX d_Rd_spread_68 2 rfl rfl ?_
      obtain ⟨hk17, h⟩ := gd_e h
      obtain ⟨r18, hr19, h⟩ := bd_e h
      refine r_callV0 (As := [_, _]) hX hM mw_Rd_94 (T_Dy_meetAhead _ _ _ _ hr19) (rc_of ci_7 hk17) rfl rfl ⟨Nat.le_refl _, Nat.le_refl _⟩ rfl rfl d_Rd_spread_69 ?_
      refine r_goto hX d_Rd_spread_72 rfl ?_
      refine r_iinc (i := 2) (v := (1 : Int32)) hX d_Rd_spread_87 2 rfl rfl (by decide) ?_
      refine r_goto hX d_Rd_spread_90 rfl ?_
      exact rj_sub [1, 2, 0] rfl (hrec33 _ _ _ _ h)
def F_Rd_spread_33 : Nat → Nat → Nat → Int32 → AW → Option (AW)
  | 0 => fun _ _ _ _ => none
  | n + 1 => fun a0 a1 x2 w => F_Rd_spread_33_B (F_Rd_spread_33 n) a0 a1 x2 w
theorem P_Rd_spread_33 {X : AX} {l : Launch} {G : AG} (hX : XOK X b_Rd_spread "RedSky$Reading" 3) (hM : XM X l G { frames := 3, cells := 0, slots := 0, locals := 64 }) {o : AW} (hR : XR X none 0 0 none o) (fu : Nat) : ∀ (a0 : Nat) (a1 : Nat) (x2 : Int32) (w : AW), F_Rd_spread_33 fu a0 a1 x2 w = some o → RJ X 3 0 0 33 [(0, vr a0), (1, vr a1), (2, vi x2)] [] w := by
  induction fu with
  | zero => intro a0 a1 x2 w h; cases h
  | succ n9 ih => intro a0 a1 x2 w h; exact P_Rd_spread_33_B hX hM hR ih _ _ _ _ h
def F_Rd_spread (a0 : Nat) (a1 : Nat) (w : AW) : Option (AW) :=
  gd (wk w a0 == 9) <|
  gd (wk w (wr w a0 3) == 8) <|
  (F_Dy_fill (wr w a0 3) w).bind fun r3 =>
  gd (wk r3 a0 == 9) <|
  gd (wk r3 (wr r3 a0 4) == 8) <|
  (F_Dy_clear (wr r3 a0 4) r3).bind fun r7 =>
  gd (wk r7 a1 == 5) <|
  if (wi r7 a1 4) = 0 then
    let v10 : Int32 := (wi r7 a1 2)
    F_Rd_spread_33 FUEL a0 a1 v10 r7
  else
    gd (wk r7 a0 == 9) <|
    gd (wk r7 (wr r7 a0 4) == 8) <|
    (F_Dy_fill (wr r7 a0 4) r7).bind fun r13 =>
    gd (wk r13 a1 == 5) <|
    let v16 : Int32 := (wi r13 a1 2)
    F_Rd_spread_33 FUEL a0 a1 v16 r13
theorem P_Rd_spread_0 {X : AX} {l : Launch} {G : AG} (hX : XOK X b_Rd_spread "RedSky$Reading" 3) (hM : XM X l G { frames := 3, cells := 0, slots := 0, locals := 64 }) {o : AW} (hR : XR X none 0 0 none o) (a0 : Nat) (a1 : Nat) (w : AW) (h : F_Rd_spread a0 a1 w = some o) : RJ X 3 0 0 0 [(0, vr a0), (1, vr a1)] [] w := by
  unfold F_Rd_spread at h
  refine r_aload_n (i := 0) hX d_Rd_spread_0 0 rfl rfl ?_
  obtain ⟨hk1, h⟩ := gd_e h
  refine r_getR (i := 8) (f := 3) hX ci_8 (by decide) rfl fl_Rd_24 hk1 d_Rd_spread_1 ?_
  obtain ⟨hk2, h⟩ := gd_e h
  obtain ⟨r3, hr4, h⟩ := bd_e h
  refine r_callV0 (As := []) hX hM mw_Rd_77 (T_Dy_fill _ _ hr4) (rc_of ci_7 hk2) rfl rfl ⟨Nat.le_refl _, Nat.le_refl _⟩ rfl rfl d_Rd_spread_4 ?_
  refine r_aload_n (i := 0) hX d_Rd_spread_7 0 rfl rfl ?_
  obtain ⟨hk5, h⟩ := gd_e h
  refine r_getR (i := 8) (f := 4) hX ci_8 (by decide) rfl fl_Rd_27 hk5 d_Rd_spread_8 ?_
  obtain ⟨hk6, h⟩ := gd_e h
  obtain ⟨r7, hr8, h⟩ := bd_e h
  refine r_callV0 (As := []) hX hM mw_Rd_80 (T_Dy_clear _ _ hr8) (rc_of ci_7 hk6) rfl rfl ⟨Nat.le_refl _, Nat.le_refl _⟩ rfl rfl d_Rd_spread_11 ?_
  refine r_aload_n (i := 1) hX d_Rd_spread_14 1 rfl rfl ?_
  obtain ⟨hk9, h⟩ := gd_e h
  refine r_getI (i := 4) (f := 4) hX ci_4 (by decide) rfl fl_Rd_83 hk9 d_Rd_spread_15 ?_
  refine r_if_eq hX d_Rd_spread_18 rfl h (fun h => ?_) (fun h => ?_)
  · refine r_aload_n (i := 1) hX d_Rd_spread_28 1 rfl rfl ?_
    refine r_getI (i := 4) (f := 2) hX ci_4 (by decide) rfl fl_Rd_87 hk9 d_Rd_spread_29 ?_
    refine r_istore_n (i := 2) hX d_Rd_spread_32 rfl (by decide) ?_
    exact rj_sub [1, 2, 0] rfl (P_Rd_spread_33 hX hM hR FUEL _ _ _ _ h)
  · refine r_aload_n (i := 0) hX d_Rd_spread_21 0 rfl rfl ?_
    obtain ⟨hk11, h⟩ := gd_e h
    refine r_getR (i := 8) (f := 4) hX ci_8 (by decide) rfl fl_Rd_27 hk11 d_Rd_spread_22 ?_
    obtain ⟨hk12, h⟩ := gd_e h
    obtain ⟨r13, hr14, h⟩ := bd_e h
    refine r_callV0 (As := []) hX hM mw_Rd_77 (T_Dy_fill _ _ hr14) (rc_of ci_7 hk12) rfl rfl ⟨Nat.le_refl _, Nat.le_refl _⟩ rfl rfl d_Rd_spread_25 ?_
    refine r_aload_n (i := 1) hX d_Rd_spread_28 1 rfl rfl ?_
    obtain ⟨hk15, h⟩ := gd_e h
    refine r_getI (i := 4) (f := 2) hX ci_4 (by decide) rfl fl_Rd_87 hk15 d_Rd_spread_29 ?_
    refine r_istore_n (i := 2) hX d_Rd_spread_32 rfl (by decide) ?_
    exact rj_sub [1, 2, 0] rfl (P_Rd_spread_33 hX hM hR FUEL _ _ _ _ h)
theorem T_Rd_spread {l : Launch} {G : AG} (a0 : Nat) (a1 : Nat) (w : AW) {o : AW} (h : F_Rd_spread a0 a1 w = some o) : Mt l G y_Rd_spread b_Rd_spread 3 none 3 64 0 0 [vr a0, vr a1] w none o := mt_of (by decide) (Nat.le_of_ble_eq_true rfl) (fun X hX hR hM hI => P_Rd_spread_0 hX hM hR _ _ _ h)
/-! RedSky$Reading.tally(LRedSky$Days;LRedSky$Days;)V -/
theorem d_Rd_tally_0 : decode b_Rd_tally 0 = .ok (.aload_n 0, 1) := by decide +kernel
theorem d_Rd_tally_1 : decode b_Rd_tally 1 = .ok (.getfield 30, 3) := by decide +kernel
theorem d_Rd_tally_4 : decode b_Rd_tally 4 = .ok (.aload_n 0, 1) := by decide +kernel
theorem d_Rd_tally_5 : decode b_Rd_tally 5 = .ok (.getfield 12, 3) := by decide +kernel
theorem d_Rd_tally_8 : decode b_Rd_tally 8 = .ok (.invokevirtual 105, 3) := by decide +kernel
theorem d_Rd_tally_11 : decode b_Rd_tally 11 = .ok (.aload_n 0, 1) := by decide +kernel
theorem d_Rd_tally_12 : decode b_Rd_tally 12 = .ok (.getfield 30, 3) := by decide +kernel
theorem d_Rd_tally_15 : decode b_Rd_tally 15 = .ok (.aload_n 0, 1) := by decide +kernel
theorem d_Rd_tally_16 : decode b_Rd_tally 16 = .ok (.getfield 18, 3) := by decide +kernel
theorem d_Rd_tally_19 : decode b_Rd_tally 19 = .ok (.invokevirtual 101, 3) := by decide +kernel
theorem d_Rd_tally_22 : decode b_Rd_tally 22 = .ok (.aload_n 0, 1) := by decide +kernel
theorem d_Rd_tally_23 : decode b_Rd_tally 23 = .ok (.getfield 30, 3) := by decide +kernel
theorem d_Rd_tally_26 : decode b_Rd_tally 26 = .ok (.aload_n 1, 1) := by decide +kernel
theorem d_Rd_tally_27 : decode b_Rd_tally 27 = .ok (.invokevirtual 101, 3) := by decide +kernel
theorem d_Rd_tally_30 : decode b_Rd_tally 30 = .ok (.aload_n 0, 1) := by decide +kernel
theorem d_Rd_tally_31 : decode b_Rd_tally 31 = .ok (.getfield 33, 3) := by decide +kernel
theorem d_Rd_tally_34 : decode b_Rd_tally 34 = .ok (.aload_n 0, 1) := by decide +kernel
theorem d_Rd_tally_35 : decode b_Rd_tally 35 = .ok (.getfield 30, 3) := by decide +kernel
theorem d_Rd_tally_38 : decode b_Rd_tally 38 = .ok (.invokevirtual 105, 3) := by decide +kernel
theorem d_Rd_tally_41 : decode b_Rd_tally 41 = .ok (.aload_n 0, 1) := by decide +kernel
theorem d_Rd_tally_42 : decode b_Rd_tally 42 = .ok (.getfield 33, 3) := by decide +kernel
theorem d_Rd_tally_45 : decode b_Rd_tally 45 = .ok (.aload_n 0, 1) := by decide +kernel
theorem d_Rd_tally_46 : decode b_Rd_tally 46 = .ok (.getfield 21, 3) := by decide +kernel
theorem d_Rd_tally_49 : decode b_Rd_tally 49 = .ok (.invokevirtual 101, 3) := by decide +kernel
theorem d_Rd_tally_52 : decode b_Rd_tally 52 = .ok (.aload_n 0, 1) := by decide +kernel
theorem d_Rd_tally_53 : decode b_Rd_tally 53 = .ok (.getfield 36, 3) := by decide +kernel
theorem d_Rd_tally_56 : decode b_Rd_tally 56 = .ok (.aload_n 0, 1) := by decide +kernel
theorem d_Rd_tally_57 : decode b_Rd_tally 57 = .ok (.getfield 33, 3) := by decide +kernel
theorem d_Rd_tally_60 : decode b_Rd_tally 60 = .ok (.invokevirtual 105, 3) := by decide +kernel
theorem d_Rd_tally_63 : decode b_Rd_tally 63 = .ok (.aload_n 0, 1) := by decide +kernel
theorem d_Rd_tally_64 : decode b_Rd_tally 64 = .ok (.getfield 36, 3) := by decide +kernel
theorem d_Rd_tally_67 : decode b_Rd_tally 67 = .ok (.aload_n 2, 1) := by decide +kernel
theorem d_Rd_tally_68 : decode b_Rd_tally 68 = .ok (.invokevirtual 101, 3) := by decide +kernel
theorem d_Rd_tally_71 : decode b_Rd_tally 71 = .ok (.aload_n 0, 1) := by decide +kernel
theorem d_Rd_tally_72 : decode b_Rd_tally 72 = .ok (.getfield 39, 3) := by decide +kernel
theorem d_Rd_tally_75 : decode b_Rd_tally 75 = .ok (.aload_n 0, 1) := by decide +kernel
theorem d_Rd_tally_76 : decode b_Rd_tally 76 = .ok (.getfield 30, 3) := by decide +kernel
theorem d_Rd_tally_79 : decode b_Rd_tally 79 = .ok (.invokevirtual 105, 3) := by decide +kernel
theorem d_Rd_tally_82 : decode b_Rd_tally 82 = .ok (.aload_n 0, 1) := by decide +kernel
theorem d_Rd_tally_83 : decode b_Rd_tally 83 = .ok (.getfield 39, 3) := by decide +kernel
theorem d_Rd_tally_86 : decode b_Rd_tally 86 = .ok (.aload_n 2, 1) := by decide +kernel
theorem d_Rd_tally_87 : decode b_Rd_tally 87 = .ok (.invokevirtual 101, 3) := by decide +kernel
theorem d_Rd_tally_90 : decode b_Rd_tally 90 = .ok (.return_, 1) := by decide +kernel
def F_Rd_tally (a0 : Nat) (a1 : Nat) (a2 : Nat) (w : AW) : Option (AW) :=
  gd (wk w a0 == 9) <|
  gd (wk w (wr w a0 5) == 8) <|
  (F_Dy_take (wr w a0 5) (wr w a0 0) w).bind fun r3 =>
  gd (wk r3 a0 == 9) <|
  gd (wk r3 (wr r3 a0 5) == 8) <|
  (F_Dy_meet (wr r3 a0 5) (wr r3 a0 1) r3).bind fun r7 =>
  gd (wk r7 a0 == 9) <|
  gd (wk r7 (wr r7 a0 5) == 8) <|
  (F_Dy_meet (wr r7 a0 5) a1 r7).bind fun r11 =>
  gd (wk r11 a0 == 9) <|
  gd (wk r11 (wr r11 a0 6) == 8) <|
  (F_Dy_take (wr r11 a0 6) (wr r11 a0 5) r11).bind fun r15 =>
  gd (wk r15 a0 == 9) <|
  gd (wk r15 (wr r15 a0 6) == 8) <|
  (F_Dy_meet (wr r15 a0 6) (wr r15 a0 2) r15).bind fun r19 =>
  gd (wk r19 a0 == 9) <|
  gd (wk r19 (wr r19 a0 7) == 8) <|
  (F_Dy_take (wr r19 a0 7) (wr r19 a0 6) r19).bind fun r23 =>
  gd (wk r23 a0 == 9) <|
  gd (wk r23 (wr r23 a0 7) == 8) <|
  (F_Dy_meet (wr r23 a0 7) a2 r23).bind fun r27 =>
  gd (wk r27 a0 == 9) <|
  gd (wk r27 (wr r27 a0 8) == 8) <|
  (F_Dy_take (wr r27 a0 8) (wr r27 a0 5) r27).bind fun r31 =>
  gd (wk r31 a0 == 9) <|
  gd (wk r31 (wr r31 a0 8) == 8) <|
  (F_Dy_meet (wr r31 a0 8) a2 r31).bind fun r35 =>
  some r35
theorem P_Rd_tally_0 {X : AX} {l : Launch} {G : AG} (hX : XOK X b_Rd_tally "RedSky$Reading" 3) (hM : XM X l G { frames := 2, cells := 0, slots := 0, locals := 61 }) {o : AW} (hR : XR X none 0 0 none o) (a0 : Nat) (a1 : Nat) (a2 : Nat) (w : AW) (h : F_Rd_tally a0 a1 a2 w = some o) : RJ X 3 0 0 0 [(0, vr a0), (1, vr a1), (2, vr a2)] [] w := by
  unfold F_Rd_tally at h
  refine r_aload_n (i := 0) hX d_Rd_tally_0 0 rfl rfl ?_
  obtain ⟨hk1, h⟩ := gd_e h
  refine r_getR (i := 8) (f := 5) hX ci_8 (by decide) rfl fl_Rd_30 hk1 d_Rd_tally_1 ?_
  refine r_aload_n (i := 0) hX d_Rd_tally_4 0 rfl rfl ?_
  refine r_getR (i := 8) (f := 0) hX ci_8 (by decide) rfl fl_Rd_12 hk1 d_Rd_tally_5 ?_
  obtain ⟨hk2, h⟩ := gd_e h
  obtain ⟨r3, hr4, h⟩ := bd_e h
  refine r_callV0 (As := [_]) hX hM mw_Rd_105 (T_Dy_take _ _ _ hr4) (rc_of ci_7 hk2) rfl rfl ⟨Nat.le_refl _, Nat.le_refl _⟩ rfl rfl d_Rd_tally_8 ?_
  refine r_aload_n (i := 0) hX d_Rd_tally_11 0 rfl rfl ?_
  obtain ⟨hk5, h⟩ := gd_e h
  refine r_getR (i := 8) (f := 5) hX ci_8 (by decide) rfl fl_Rd_30 hk5 d_Rd_tally_12 ?_
  refine r_aload_n (i := 0) hX d_Rd_tally_15 0 rfl rfl ?_
  refine r_getR (i := 8) (f := 1) hX ci_8 (by decide) rfl fl_Rd_18 hk5 d_Rd_tally_16 ?_
  obtain ⟨hk6, h⟩ := gd_e h
  obtain ⟨r7, hr8, h⟩ := bd_e h
  refine r_callV0 (As := [_]) hX hM mw_Rd_101 (T_Dy_meet _ _ _ hr8) (rc_of ci_7 hk6) rfl rfl ⟨Nat.le_refl _, Nat.le_refl _⟩ rfl rfl d_Rd_tally_19 ?_
  refine r_aload_n (i := 0) hX d_Rd_tally_22 0 rfl rfl ?_
  obtain ⟨hk9, h⟩ := gd_e h
  refine r_getR (i := 8) (f := 5) hX ci_8 (by decide) rfl fl_Rd_30 hk9 d_Rd_tally_23 ?_
  refine r_aload_n (i := 1) hX d_Rd_tally_26 1 rfl rfl ?_
  obtain ⟨hk10, h⟩ := gd_e h
  obtain ⟨r11, hr12, h⟩ := bd_e h
  refine r_callV0 (As := [_]) hX hM mw_Rd_101 (T_Dy_meet _ _ _ hr12) (rc_of ci_7 hk10) rfl rfl ⟨Nat.le_refl _, Nat.le_refl _⟩ rfl rfl d_Rd_tally_27 ?_
  refine r_aload_n (i := 0) hX d_Rd_tally_30 0 rfl rfl ?_
  obtain ⟨hk13, h⟩ := gd_e h
  refine r_getR (i := 8) (f := 6) hX ci_8 (by decide) rfl fl_Rd_33 hk13 d_Rd_tally_31 ?_
  refine r_aload_n (i := 0) hX d_Rd_tally_34 0 rfl rfl ?_
  refine r_getR (i := 8) (f := 5) hX ci_8 (by decide) rfl fl_Rd_30 hk13 d_Rd_tally_35 ?_
  obtain ⟨hk14, h⟩ := gd_e h
  obtain ⟨r15, hr16, h⟩ := bd_e h
  refine r_callV0 (As := [_]) hX hM mw_Rd_105 (T_Dy_take _ _ _ hr16) (rc_of ci_7 hk14) rfl rfl ⟨Nat.le_refl _, Nat.le_refl _⟩ rfl rfl d_Rd_tally_38 ?_
  refine r_aload_n (i := 0) hX d_Rd_tally_41 0 rfl rfl ?_
  obtain ⟨hk17, h⟩ := gd_e h
  refine r_getR (i := 8) (f := 6) hX ci_8 (by decide) rfl fl_Rd_33 hk17 d_Rd_tally_42 ?_
  refine r_aload_n (i := 0) hX d_Rd_tally_45 0 rfl rfl ?_
  refine r_getR (i := 8) (f := 2) hX ci_8 (by decide) rfl fl_Rd_21 hk17 d_Rd_tally_46 ?_
  obtain ⟨hk18, h⟩ := gd_e h
  obtain ⟨r19, hr20, h⟩ := bd_e h
  refine r_callV0 (As := [_]) hX hM mw_Rd_101 (T_Dy_meet _ _ _ hr20) (rc_of ci_7 hk18) rfl rfl ⟨Nat.le_refl _, Nat.le_refl _⟩ rfl rfl d_Rd_tally_49 ?_
  refine r_aload_n (i := 0) hX d_Rd_tally_52 0 rfl rfl ?_
  obtain ⟨hk21, h⟩ := gd_e h
  refine r_getR (i := 8) (f := 7) hX ci_8 (by decide) rfl fl_Rd_36 hk21 d_Rd_tally_53 ?_
  refine r_aload_n (i := 0) hX d_Rd_tally_56 0 rfl rfl ?_
  refine r_getR (i := 8) (f := 6) hX ci_8 (by decide) rfl fl_Rd_33 hk21 d_Rd_tally_57 ?_
  obtain ⟨hk22, h⟩ := gd_e h
  obtain ⟨r23, hr24, h⟩ := bd_e h
  refine r_callV0 (As := [_]) hX hM mw_Rd_105 (T_Dy_take _ _ _ hr24) (rc_of ci_7 hk22) rfl rfl ⟨Nat.le_refl _, Nat.le_refl _⟩ rfl rfl d_Rd_tally_60 ?_
  refine r_aload_n (i := 0) hX d_Rd_tally_63 0 rfl rfl ?_
  obtain ⟨hk25, h⟩ := gd_e h
  refine r_getR (i := 8) (f := 7) hX ci_8 (by decide) rfl fl_Rd_36 hk25 d_Rd_tally_64 ?_
  refine r_aload_n (i := 2) hX d_Rd_tally_67 2 rfl rfl ?_
  obtain ⟨hk26, h⟩ := gd_e h
  obtain ⟨r27, hr28, h⟩ := bd_e h
  refine r_callV0 (As := [_]) hX hM mw_Rd_101 (T_Dy_meet _ _ _ hr28) (rc_of ci_7 hk26) rfl rfl ⟨Nat.le_refl _, Nat.le_refl _⟩ rfl rfl d_Rd_tally_68 ?_
  refine r_aload_n (i := 0) hX d_Rd_tally_71 0 rfl rfl ?_
  obtain ⟨hk29, h⟩ := gd_e h
  refine r_getR (i := 8) (f := 8) hX ci_8 (by decide) rfl fl_Rd_39 hk29 d_Rd_tally_72 ?_
  refine r_aload_n (i := 0) hX d_Rd_tally_75 0 rfl rfl ?_
  refine r_getR (i := 8) (f := 5) hX ci_8 (by decide) rfl fl_Rd_30 hk29 d_Rd_tally_76 ?_
  obtain ⟨hk30, h⟩ := gd_e h
  obtain ⟨r31, hr32, h⟩ := bd_e h
  refine r_callV0 (As := [_]) hX hM mw_Rd_105 (T_Dy_take _ _ _ hr32) (rc_of ci_7 hk30) rfl rfl ⟨Nat.le_refl _, Nat.le_refl _⟩ rfl rfl d_Rd_tally_79 ?_
  refine r_aload_n (i := 0) hX d_Rd_tally_82 0 rfl rfl ?_
  obtain ⟨hk33, h⟩ := gd_e h
  refine r_getR (i := 8) (f := 8) hX ci_8 (by decide) rfl fl_Rd_39 hk33 d_Rd_tally_83 ?_
  refine r_aload_n (i := 2) hX d_Rd_tally_86 2 rfl rfl ?_
  obtain ⟨hk34, h⟩ := gd_e h
  obtain ⟨r35, hr36, h⟩ := bd_e h
  refine r_callV0 (As := [_]) hX hM mw_Rd_101 (T_Dy_meet _ _ _ hr36) (rc_of ci_7 hk34) rfl rfl ⟨Nat.le_refl _, Nat.le_refl _⟩ rfl rfl d_Rd_tally_87 ?_
  cases h; exact r_vret hX hR d_Rd_tally_90
theorem T_Rd_tally {l : Launch} {G : AG} (a0 : Nat) (a1 : Nat) (a2 : Nat) (w : AW) {o : AW} (h : F_Rd_tally a0 a1 a2 w = some o) : Mt l G y_Rd_tally b_Rd_tally 3 none 2 61 0 0 [vr a0, vr a1, vr a2] w none o := mt_of (by decide) (Nat.le_of_ble_eq_true rfl) (fun X hX hR hM hI => P_Rd_tally_0 hX hM hR _ _ _ _ h)
/-! RedSky$Reading.read(LRedSky$Saying;LRedSky$Diary;LRedSky$Calendar;LRedSky$Scales;)V -/
theorem d_Rd_read_0 : decode b_Rd_read 0 = .ok (.aload_n 3, 1) := by decide +kernel
theorem d_Rd_read_1 : decode b_Rd_read 1 = .ok (.aload_n 1, 1) := by decide +kernel
theorem d_Rd_read_2 : decode b_Rd_read 2 = .ok (.aload_n 0, 1) := by decide +kernel
theorem d_Rd_read_3 : decode b_Rd_read 3 = .ok (.getfield 12, 3) := by decide +kernel
theorem d_Rd_read_6 : decode b_Rd_read 6 = .ok (.invokevirtual 48, 3) := by decide +kernel
theorem d_Rd_read_9 : decode b_Rd_read 9 = .ok (.aload 4, 2) := by decide +kernel
theorem d_Rd_read_11 : decode b_Rd_read 11 = .ok (.aload_n 1, 1) := by decide +kernel
theorem d_Rd_read_12 : decode b_Rd_read 12 = .ok (.getfield 54, 3) := by decide +kernel
theorem d_Rd_read_15 : decode b_Rd_read 15 = .ok (.aload_n 2, 1) := by decide +kernel
theorem d_Rd_read_16 : decode b_Rd_read 16 = .ok (.aload_n 0, 1) := by decide +kernel
theorem d_Rd_read_17 : decode b_Rd_read 17 = .ok (.getfield 18, 3) := by decide +kernel
theorem d_Rd_read_20 : decode b_Rd_read 20 = .ok (.aload_n 0, 1) := by decide +kernel
theorem d_Rd_read_21 : decode b_Rd_read 21 = .ok (.getfield 21, 3) := by decide +kernel
theorem d_Rd_read_24 : decode b_Rd_read 24 = .ok (.invokevirtual 60, 3) := by decide +kernel
theorem d_Rd_read_27 : decode b_Rd_read 27 = .ok (.aload 4, 2) := by decide +kernel
theorem d_Rd_read_29 : decode b_Rd_read 29 = .ok (.aload_n 1, 1) := by decide +kernel
theorem d_Rd_read_30 : decode b_Rd_read 30 = .ok (.getfield 66, 3) := by decide +kernel
theorem d_Rd_read_33 : decode b_Rd_read 33 = .ok (.aload_n 2, 1) := by decide +kernel
theorem d_Rd_read_34 : decode b_Rd_read 34 = .ok (.aload_n 0, 1) := by decide +kernel
theorem d_Rd_read_35 : decode b_Rd_read 35 = .ok (.getfield 42, 3) := by decide +kernel
theorem d_Rd_read_38 : decode b_Rd_read 38 = .ok (.aload_n 0, 1) := by decide +kernel
theorem d_Rd_read_39 : decode b_Rd_read 39 = .ok (.getfield 45, 3) := by decide +kernel
theorem d_Rd_read_42 : decode b_Rd_read 42 = .ok (.invokevirtual 60, 3) := by decide +kernel
theorem d_Rd_read_45 : decode b_Rd_read 45 = .ok (.aload_n 0, 1) := by decide +kernel
theorem d_Rd_read_46 : decode b_Rd_read 46 = .ok (.aload_n 1, 1) := by decide +kernel
theorem d_Rd_read_47 : decode b_Rd_read 47 = .ok (.invokevirtual 69, 3) := by decide +kernel
theorem d_Rd_read_50 : decode b_Rd_read 50 = .ok (.aload_n 0, 1) := by decide +kernel
theorem d_Rd_read_51 : decode b_Rd_read 51 = .ok (.aload_n 0, 1) := by decide +kernel
theorem d_Rd_read_52 : decode b_Rd_read 52 = .ok (.getfield 24, 3) := by decide +kernel
theorem d_Rd_read_55 : decode b_Rd_read 55 = .ok (.aload_n 0, 1) := by decide +kernel
theorem d_Rd_read_56 : decode b_Rd_read 56 = .ok (.getfield 27, 3) := by decide +kernel
theorem d_Rd_read_59 : decode b_Rd_read 59 = .ok (.invokevirtual 73, 3) := by decide +kernel
theorem d_Rd_read_62 : decode b_Rd_read 62 = .ok (.return_, 1) := by decide +kernel
def F_Rd_read (a0 : Nat) (a1 : Nat) (a2 : Nat) (a3 : Nat) (a4 : Nat) (w : AW) : Option (AW) :=
  gd (wk w a0 == 9) <|
  gd (wk w a3 == 2) <|
  (F_Ca_findSeason a3 a1 (wr w a0 0) w).bind fun r3 =>
  gd (wk r3 a1 == 5) <|
  gd (wk r3 a0 == 9) <|
  gd (wk r3 a4 == 7) <|
  (F_Sc_weigh a4 (wr r3 a1 0) a2 (wr r3 a0 1) (wr r3 a0 2) r3).bind fun r8 =>
  gd (wk r8 a1 == 5) <|
  gd (wk r8 a0 == 9) <|
  gd (wk r8 a4 == 7) <|
  (F_Sc_weigh a4 (wr r8 a1 1) a2 (wr r8 a0 9) (wr r8 a0 10) r8).bind fun r13 =>
  gd (wk r13 a0 == 9) <|
  (F_Rd_spread a0 a1 r13).bind fun r16 =>
  gd (wk r16 a0 == 9) <|
  (F_Rd_tally a0 (wr r16 a0 3) (wr r16 a0 4) r16).bind fun r19 =>
  some r19
theorem P_Rd_read_0 {X : AX} {l : Launch} {G : AG} (hX : XOK X b_Rd_read "RedSky$Reading" 5) (hM : XM X l G { frames := 5, cells := 0, slots := 0, locals := 123 }) {o : AW} (hR : XR X none 0 0 none o) (a0 : Nat) (a1 : Nat) (a2 : Nat) (a3 : Nat) (a4 : Nat) (w : AW) (h : F_Rd_read a0 a1 a2 a3 a4 w = some o) : RJ X 5 0 0 0 [(0, vr a0), (1, vr a1), (2, vr a2), (3, vr a3), (4, vr a4)] [] w := by
  unfold F_Rd_read at h
  refine r_aload_n (i := 3) hX d_Rd_read_0 3 rfl rfl ?_
  refine r_aload_n (i := 1) hX d_Rd_read_1 1 rfl rfl ?_
  refine r_aload_n (i := 0) hX d_Rd_read_2 0 rfl rfl ?_
  obtain ⟨hk1, h⟩ := gd_e h
  refine r_getR (i := 8) (f := 0) hX ci_8 (by decide) rfl fl_Rd_12 hk1 d_Rd_read_3 ?_
  obtain ⟨hk2, h⟩ := gd_e h
  obtain ⟨r3, hr4, h⟩ := bd_e h
  refine r_callV0 (As := [_, _]) hX hM mw_Rd_48 (T_Ca_findSeason _ _ _ _ hr4) (rc_of ci_1 hk2) rfl rfl ⟨Nat.le_refl _, Nat.le_refl _⟩ rfl rfl d_Rd_read_6 ?_
  refine r_aload (i := 4) hX d_Rd_read_9 4  rfl ?_
  refine r_aload_n (i := 1) hX d_Rd_read_11 1 rfl rfl ?_
  obtain ⟨hk5, h⟩ := gd_e h
  refine r_getR (i := 4) (f := 0) hX ci_4 (by decide) rfl fl_Rd_54 hk5 d_Rd_read_12 ?_
  refine r_aload_n (i := 2) hX d_Rd_read_15 2 rfl rfl ?_
  refine r_aload_n (i := 0) hX d_Rd_read_16 0 rfl rfl ?_
  obtain ⟨hk6, h⟩ := gd_e h
  refine r_getR (i := 8) (f := 1) hX ci_8 (by decide) rfl fl_Rd_18 hk6 d_Rd_read_17 ?_
  refine r_aload_n (i := 0) hX d_Rd_read_20 0 rfl rfl ?_
  refine r_getR (i := 8) (f := 2) hX ci_8 (by decide) rfl fl_Rd_21 hk6 d_Rd_read_21 ?_
  obtain ⟨hk7, h⟩ := gd_e h
  obtain ⟨r8, hr9, h⟩ := bd_e h
  refine r_callV0 (As := [_, _, _, _]) hX hM mw_Rd_60 (T_Sc_weigh _ _ _ _ _ _ hr9) (rc_of ci_6 hk7) rfl rfl ⟨Nat.le_refl _, Nat.le_refl _⟩ rfl rfl d_Rd_read_24 ?_
  refine r_aload (i := 4) hX d_Rd_read_27 4  rfl ?_
  refine r_aload_n (i := 1) hX d_Rd_read_29 1 rfl rfl ?_
  obtain ⟨hk10, h⟩ := gd_e h
  refine r_getR (i := 4) (f := 1) hX ci_4 (by decide) rfl fl_Rd_66 hk10 d_Rd_read_30 ?_
  refine r_aload_n (i := 2) hX d_Rd_read_33 2 rfl rfl ?_
  refine r_aload_n (i := 0) hX d_Rd_read_34 0 rfl rfl ?_
  obtain ⟨hk11, h⟩ := gd_e h
  refine r_getR (i := 8) (f := 9) hX ci_8 (by decide) rfl fl_Rd_42 hk11 d_Rd_read_35 ?_
  refine r_aload_n (i := 0) hX d_Rd_read_38 0 rfl rfl ?_
  refine r_getR (i := 8) (f := 10) hX ci_8 (by decide) rfl fl_Rd_45 hk11 d_Rd_read_39 ?_
  obtain ⟨hk12, h⟩ := gd_e h
  obtain ⟨r13, hr14, h⟩ := bd_e h
  refine r_callV0 (As := [_, _, _, _]) hX hM mw_Rd_60 (T_Sc_weigh _ _ _ _ _ _ hr14) (rc_of ci_6 hk12) rfl rfl ⟨Nat.le_refl _, Nat.le_refl _⟩ rfl rfl d_Rd_read_42 ?_
  refine r_aload_n (i := 0) hX d_Rd_read_45 0 rfl rfl ?_
  refine r_aload_n (i := 1) hX d_Rd_read_46 1 rfl rfl ?_
  obtain ⟨hk15, h⟩ := gd_e h
  obtain ⟨r16, hr17, h⟩ := bd_e h
  refine r_callV0 (As := [_]) hX hM mw_Rd_69 (T_Rd_spread _ _ _ hr17) (rc_of ci_8 hk15) rfl rfl ⟨Nat.le_refl _, Nat.le_refl _⟩ rfl rfl d_Rd_read_47 ?_
  refine r_aload_n (i := 0) hX d_Rd_read_50 0 rfl rfl ?_
  refine r_aload_n (i := 0) hX d_Rd_read_51 0 rfl rfl ?_
  obtain ⟨hk18, h⟩ := gd_e h
  refine r_getR (i := 8) (f := 3) hX ci_8 (by decide) rfl fl_Rd_24 hk18 d_Rd_read_52 ?_
  refine r_aload_n (i := 0) hX d_Rd_read_55 0 rfl rfl ?_
  refine r_getR (i := 8) (f := 4) hX ci_8 (by decide) rfl fl_Rd_27 hk18 d_Rd_read_56 ?_
  obtain ⟨r19, hr20, h⟩ := bd_e h
  refine r_callV0 (As := [_, _]) hX hM mw_Rd_73 (T_Rd_tally _ _ _ _ hr20) (rc_of ci_8 hk18) rfl rfl ⟨Nat.le_refl _, Nat.le_refl _⟩ rfl rfl d_Rd_read_59 ?_
  cases h; exact r_vret hX hR d_Rd_read_62
theorem T_Rd_read {l : Launch} {G : AG} (a0 : Nat) (a1 : Nat) (a2 : Nat) (a3 : Nat) (a4 : Nat) (w : AW) {o : AW} (h : F_Rd_read a0 a1 a2 a3 a4 w = some o) : Mt l G y_Rd_read b_Rd_read 5 none 5 123 0 0 [vr a0, vr a1, vr a2, vr a3, vr a4] w none o := mt_of (by decide) (Nat.le_of_ble_eq_true rfl) (fun X hX hR hM hI => P_Rd_read_0 hX hM hR _ _ _ _ _ _ h)
/-! RedSky$Days.has(I)Z -/
theorem d_Dy_has_0 : decode b_Dy_has 0 = .ok (.iload_n 1, 1) := by decide +kernel
theorem d_Dy_has_1 : decode b_Dy_has 1 = .ok (.ifCond .lt (35), 3) := by decide +kernel
theorem d_Dy_has_4 : decode b_Dy_has 4 = .ok (.iload_n 1, 1) := by decide +kernel
theorem d_Dy_has_5 : decode b_Dy_has 5 = .ok (.sipush (1461), 3) := by decide +kernel
theorem d_Dy_has_8 : decode b_Dy_has 8 = .ok (.if_icmp .ge (28), 3) := by decide +kernel
theorem d_Dy_has_11 : decode b_Dy_has 11 = .ok (.aload_n 0, 1) := by decide +kernel
theorem d_Dy_has_12 : decode b_Dy_has 12 = .ok (.getfield 11, 3) := by decide +kernel
theorem d_Dy_has_15 : decode b_Dy_has 15 = .ok (.iload_n 1, 1) := by decide +kernel
theorem d_Dy_has_16 : decode b_Dy_has 16 = .ok (.bipush (6), 2) := by decide +kernel
theorem d_Dy_has_18 : decode b_Dy_has 18 = .ok (.ishr, 1) := by decide +kernel
theorem d_Dy_has_19 : decode b_Dy_has 19 = .ok (.laload, 1) := by decide +kernel
theorem d_Dy_has_20 : decode b_Dy_has 20 = .ok (.iload_n 1, 1) := by decide +kernel
theorem d_Dy_has_21 : decode b_Dy_has 21 = .ok (.bipush (63), 2) := by decide +kernel
theorem d_Dy_has_23 : decode b_Dy_has 23 = .ok (.iand, 1) := by decide +kernel
theorem d_Dy_has_24 : decode b_Dy_has 24 = .ok (.lushr, 1) := by decide +kernel
theorem d_Dy_has_25 : decode b_Dy_has 25 = .ok (.lconst 1, 1) := by decide +kernel
theorem d_Dy_has_26 : decode b_Dy_has 26 = .ok (.land, 1) := by decide +kernel
theorem d_Dy_has_27 : decode b_Dy_has 27 = .ok (.lconst 1, 1) := by decide +kernel
theorem d_Dy_has_28 : decode b_Dy_has 28 = .ok (.lcmp, 1) := by decide +kernel
theorem d_Dy_has_29 : decode b_Dy_has 29 = .ok (.ifCond .ne (7), 3) := by decide +kernel
theorem d_Dy_has_32 : decode b_Dy_has 32 = .ok (.iconst 1, 1) := by decide +kernel
theorem d_Dy_has_33 : decode b_Dy_has 33 = .ok (.goto (4), 3) := by decide +kernel
theorem d_Dy_has_36 : decode b_Dy_has 36 = .ok (.iconst 0, 1) := by decide +kernel
theorem d_Dy_has_37 : decode b_Dy_has 37 = .ok (.ireturn, 1) := by decide +kernel
def F_Dy_has (w : AW) (a0 : Nat) (x1 : Int32) : Option (Int32) :=
  if x1 < 0 then
    some (0 : Int32)
  else
    if (1461 : Int32) ≤ x1 then
      some (0 : Int32)
    else
      gd (wk w a0 == 8) <|
      gd (wk w (wr w a0 0) == 101) <|
      gd (inb (x1 >>> ((6 : Int32) &&& 31)) (wn w (wr w a0 0))) <|
      if (lg_cmp ((lshr6 (wj w (wr w a0 0) (Int32.toNatClampNeg (x1 >>> ((6 : Int32) &&& 31)))) (x1 &&& (63 : Int32))) &&& (1 : Int64)) (1 : Int64)) = 0 then
        some (1 : Int32)
      else
        some (0 : Int32)
theorem P_Dy_has_0 {X : AX} {l : Launch} {G : AG} {w : AW} (hX : XOK X b_Dy_has "RedSky$Days" 2) (hM : XM X l G { frames := 0, cells := 0, slots := 0, locals := 0 }) {o : Int32} (hR : XR X (some .boolean) 0 0 (some (vi o)) w) (a0 : Nat) (x1 : Int32) (h : F_Dy_has w a0 x1 = some o) : RJ X 2 0 0 0 [(0, vr a0), (1, vi x1)] [] w := by
  unfold F_Dy_has at h
  refine r_iload_n (i := 1) hX d_Dy_has_0 1 rfl rfl ?_
  refine r_if_lt hX d_Dy_has_1 rfl h (fun h => ?_) (fun h => ?_)
  · refine r_iconst (v := (0 : Int32)) hX d_Dy_has_36 rfl ?_
    cases h; exact r_zret hX hR rfl d_Dy_has_37
  · refine r_iload_n (i := 1) hX d_Dy_has_4 1 rfl rfl ?_
    refine r_sipush (v := (1461 : Int32)) hX d_Dy_has_5 rfl ?_
    refine r_icmp_ge hX d_Dy_has_8 rfl h (fun h => ?_) (fun h => ?_)
    · refine r_iconst (v := (0 : Int32)) hX d_Dy_has_36 rfl ?_
      cases h; exact r_zret hX hR rfl d_Dy_has_37
    · refine r_aload_n (i := 0) hX d_Dy_has_11 0 rfl rfl ?_
      obtain ⟨hk1, h⟩ := gd_e h
      refine r_getR (i := 7) (f := 0) hX ci_7 (by decide) rfl fl_Dy_11 hk1 d_Dy_has_12 ?_
      refine r_iload_n (i := 1) hX d_Dy_has_15 1 rfl rfl ?_
      refine r_bipush (v := (6 : Int32)) hX d_Dy_has_16 rfl ?_
      refine r_ishr hX d_Dy_has_18 ?_
      obtain ⟨hk2, h⟩ := gd_e h
      obtain ⟨hg3, h⟩ := gd_e h
      refine r_lald hX hk2 hg3 d_Dy_has_19 ?_
      refine r_iload_n (i := 1) hX d_Dy_has_20 1 rfl rfl ?_
      refine r_bipush (v := (63 : Int32)) hX d_Dy_has_21 rfl ?_
      refine r_iand hX d_Dy_has_23 ?_
      refine r_lushr hX d_Dy_has_24 ?_
      refine r_lconst (v := (1 : Int64)) hX d_Dy_has_25 rfl ?_
      refine r_land hX d_Dy_has_26 ?_
      refine r_lconst (v := (1 : Int64)) hX d_Dy_has_27 rfl ?_
      refine r_lcmp hX d_Dy_has_28 ?_
      refine r_if_ne hX d_Dy_has_29 rfl h (fun h => ?_) (fun h => ?_)
      · refine r_iconst (v := (0 : Int32)) hX d_Dy_has_36 rfl ?_
        cases h; exact r_zret hX hR rfl d_Dy_has_37
      · refine r_iconst (v := (1 : Int32)) hX d_Dy_has_32 rfl ?_
        refine r_goto hX d_Dy_has_33 rfl ?_
        cases h; exact r_zret hX hR rfl d_Dy_has_37
theorem T_Dy_has {l : Launch} {G : AG} (w : AW) (a0 : Nat) (x1 : Int32) {o : Int32} (h : F_Dy_has w a0 x1 = some o) : Mt l G y_Dy_has b_Dy_has 2 (some (.boolean)) 0 0 0 0 [vr a0, vi x1] w (some (vi o)) w := mt_of (by decide) (Nat.le_of_ble_eq_true rfl) (fun X hX hR hM hI => P_Dy_has_0 hX hM hR _ _ h)
/-! RedSky$Reading.truthOn(II)I -/
theorem d_Rd_truthOn_0 : decode b_Rd_truthOn 0 = .ok (.iload_n 2, 1) := by decide +kernel
theorem d_Rd_truthOn_1 : decode b_Rd_truthOn 1 = .ok (.iconst 2, 1) := by decide +kernel
theorem d_Rd_truthOn_2 : decode b_Rd_truthOn 2 = .ok (.if_icmp .ne (20), 3) := by decide +kernel
theorem d_Rd_truthOn_5 : decode b_Rd_truthOn 5 = .ok (.aload_n 0, 1) := by decide +kernel
theorem d_Rd_truthOn_6 : decode b_Rd_truthOn 6 = .ok (.getfield 12, 3) := by decide +kernel
theorem d_Rd_truthOn_9 : decode b_Rd_truthOn 9 = .ok (.iload_n 1, 1) := by decide +kernel
theorem d_Rd_truthOn_10 : decode b_Rd_truthOn 10 = .ok (.invokevirtual 125, 3) := by decide +kernel
theorem d_Rd_truthOn_13 : decode b_Rd_truthOn 13 = .ok (.ifCond .eq (7), 3) := by decide +kernel
theorem d_Rd_truthOn_16 : decode b_Rd_truthOn 16 = .ok (.iconst 1, 1) := by decide +kernel
theorem d_Rd_truthOn_17 : decode b_Rd_truthOn 17 = .ok (.goto (4), 3) := by decide +kernel
theorem d_Rd_truthOn_20 : decode b_Rd_truthOn 20 = .ok (.iconst 0, 1) := by decide +kernel
theorem d_Rd_truthOn_21 : decode b_Rd_truthOn 21 = .ok (.ireturn, 1) := by decide +kernel
theorem d_Rd_truthOn_22 : decode b_Rd_truthOn 22 = .ok (.iload_n 2, 1) := by decide +kernel
theorem d_Rd_truthOn_23 : decode b_Rd_truthOn 23 = .ok (.ifCond .ne (14), 3) := by decide +kernel
theorem d_Rd_truthOn_26 : decode b_Rd_truthOn 26 = .ok (.aload_n 0, 1) := by decide +kernel
theorem d_Rd_truthOn_27 : decode b_Rd_truthOn 27 = .ok (.getfield 18, 3) := by decide +kernel
theorem d_Rd_truthOn_30 : decode b_Rd_truthOn 30 = .ok (.iload_n 1, 1) := by decide +kernel
theorem d_Rd_truthOn_31 : decode b_Rd_truthOn 31 = .ok (.invokevirtual 125, 3) := by decide +kernel
theorem d_Rd_truthOn_34 : decode b_Rd_truthOn 34 = .ok (.goto (11), 3) := by decide +kernel
theorem d_Rd_truthOn_37 : decode b_Rd_truthOn 37 = .ok (.aload_n 0, 1) := by decide +kernel
theorem d_Rd_truthOn_38 : decode b_Rd_truthOn 38 = .ok (.getfield 24, 3) := by decide +kernel
theorem d_Rd_truthOn_41 : decode b_Rd_truthOn 41 = .ok (.iload_n 1, 1) := by decide +kernel
theorem d_Rd_truthOn_42 : decode b_Rd_truthOn 42 = .ok (.invokevirtual 125, 3) := by decide +kernel
theorem d_Rd_truthOn_45 : decode b_Rd_truthOn 45 = .ok (.istore_n 3, 1) := by decide +kernel
theorem d_Rd_truthOn_46 : decode b_Rd_truthOn 46 = .ok (.iload_n 3, 1) := by decide +kernel
theorem d_Rd_truthOn_47 : decode b_Rd_truthOn 47 = .ok (.ifCond .ne (5), 3) := by decide +kernel
theorem d_Rd_truthOn_50 : decode b_Rd_truthOn 50 = .ok (.iconst (-1), 1) := by decide +kernel
theorem d_Rd_truthOn_51 : decode b_Rd_truthOn 51 = .ok (.ireturn, 1) := by decide +kernel
theorem d_Rd_truthOn_52 : decode b_Rd_truthOn 52 = .ok (.iload_n 2, 1) := by decide +kernel
theorem d_Rd_truthOn_53 : decode b_Rd_truthOn 53 = .ok (.ifCond .ne (14), 3) := by decide +kernel
theorem d_Rd_truthOn_56 : decode b_Rd_truthOn 56 = .ok (.aload_n 0, 1) := by decide +kernel
theorem d_Rd_truthOn_57 : decode b_Rd_truthOn 57 = .ok (.getfield 21, 3) := by decide +kernel
theorem d_Rd_truthOn_60 : decode b_Rd_truthOn 60 = .ok (.iload_n 1, 1) := by decide +kernel
theorem d_Rd_truthOn_61 : decode b_Rd_truthOn 61 = .ok (.invokevirtual 125, 3) := by decide +kernel
theorem d_Rd_truthOn_64 : decode b_Rd_truthOn 64 = .ok (.goto (11), 3) := by decide +kernel
theorem d_Rd_truthOn_67 : decode b_Rd_truthOn 67 = .ok (.aload_n 0, 1) := by decide +kernel
theorem d_Rd_truthOn_68 : decode b_Rd_truthOn 68 = .ok (.getfield 27, 3) := by decide +kernel
theorem d_Rd_truthOn_71 : decode b_Rd_truthOn 71 = .ok (.iload_n 1, 1) := by decide +kernel
theorem d_Rd_truthOn_72 : decode b_Rd_truthOn 72 = .ok (.invokevirtual 125, 3) := by decide +kernel
theorem d_Rd_truthOn_75 : decode b_Rd_truthOn 75 = .ok (.istore 4, 2) := by decide +kernel
theorem d_Rd_truthOn_77 : decode b_Rd_truthOn 77 = .ok (.iload 4, 2) := by decide +kernel
theorem d_Rd_truthOn_79 : decode b_Rd_truthOn 79 = .ok (.ifCond .eq (7), 3) := by decide +kernel
theorem d_Rd_truthOn_82 : decode b_Rd_truthOn 82 = .ok (.iconst 1, 1) := by decide +kernel
theorem d_Rd_truthOn_83 : decode b_Rd_truthOn 83 = .ok (.goto (4), 3) := by decide +kernel
theorem d_Rd_truthOn_86 : decode b_Rd_truthOn 86 = .ok (.iconst 0, 1) := by decide +kernel
theorem d_Rd_truthOn_87 : decode b_Rd_truthOn 87 = .ok (.ireturn, 1) := by decide +kernel
def F_Rd_truthOn_75 (w : AW) (s0 : Int32) : Option (Int32) :=
  if s0 = 0 then
    some (0 : Int32)
  else
    some (1 : Int32)
theorem P_Rd_truthOn_75 {X : AX} {l : Launch} {G : AG} {w : AW} (hX : XOK X b_Rd_truthOn "RedSky$Reading" 5) (hM : XM X l G { frames := 1, cells := 0, slots := 0, locals := 21 }) {o : Int32} (hR : XR X (some .int) 0 0 (some (vi o)) w) (s0 : Int32) (h : F_Rd_truthOn_75 w s0 = some o) : RJ X 5 0 0 75 [] [vi s0] w := by
  unfold F_Rd_truthOn_75 at h
  refine r_istore (i := 4) hX d_Rd_truthOn_75  (by decide) ?_
  refine r_iload (i := 4) hX d_Rd_truthOn_77 0  rfl ?_
  refine r_if_eq hX d_Rd_truthOn_79 rfl h (fun h => ?_) (fun h => ?_)
  · refine r_iconst (v := (0 : Int32)) hX d_Rd_truthOn_86 rfl ?_
    cases h; exact r_iret hX hR d_Rd_truthOn_87
  · refine r_iconst (v := (1 : Int32)) hX d_Rd_truthOn_82 rfl ?_
    refine r_goto hX d_Rd_truthOn_83 rfl ?_
    cases h; exact r_iret hX hR d_Rd_truthOn_87
def F_Rd_truthOn_45 (w : AW) (a0 : Nat) (x1 : Int32) (x2 : Int32) (s0 : Int32) : Option (Int32) :=
  if s0 = 0 then
    some (-1 : Int32)
  else
    if x2 = 0 then
      gd (wk w a0 == 9) <|
      gd (wk w (wr w a0 2) == 8) <|
      (F_Dy_has w (wr w a0 2) x1).bind fun r7 =>
      F_Rd_truthOn_75 w r7
    else
      gd (wk w a0 == 9) <|
      gd (wk w (wr w a0 4) == 8) <|
      (F_Dy_has w (wr w a0 4) x1).bind fun r3 =>
      F_Rd_truthOn_75 w r3
theorem P_Rd_truthOn_45 {X : AX} {l : Launch} {G : AG} {w : AW} (hX : XOK X b_Rd_truthOn "RedSky$Reading" 5) (hM : XM X l G { frames := 1, cells := 0, slots := 0, locals := 21 }) {o : Int32} (hR : XR X (some .int) 0 0 (some (vi o)) w) (a0 : Nat) (x1 : Int32) (x2 : Int32) (s0 : Int32) (h : F_Rd_truthOn_45 w a0 x1 x2 s0 = some o) : RJ X 5 0 0 45 [(0, vr a0), (1, vi x1), (2, vi x2)] [vi s0] w := by
  unfold F_Rd_truthOn_45 at h
  refine r_istore_n (i := 3) hX d_Rd_truthOn_45 rfl (by decide) ?_
  refine r_iload_n (i := 3) hX d_Rd_truthOn_46 0 rfl rfl ?_
  refine r_if_ne hX d_Rd_truthOn_47 rfl h (fun h => ?_) (fun h => ?_)
  · refine r_iload_n (i := 2) hX d_Rd_truthOn_52 3 rfl rfl ?_
    refine r_if_ne hX d_Rd_truthOn_53 rfl h (fun h => ?_) (fun h => ?_)
    · refine r_aload_n (i := 0) hX d_Rd_truthOn_67 1 rfl rfl ?_
      obtain ⟨hk1, h⟩ := gd_e h
      refine r_getR (i := 8) (f := 4) hX ci_8 (by decide) rfl fl_Rd_27 hk1 d_Rd_truthOn_68 ?_
      refine r_iload_n (i := 1) hX d_Rd_truthOn_71 2 rfl rfl ?_
      obtain ⟨hk2, h⟩ := gd_e h
      obtain ⟨r3, hr4, h⟩ := bd_e h
      refine r_callV1 (As := [_]) hX hM mw_Rd_125 (T_Dy_has _ _ _ hr4) (rc_of ci_7 hk2) rfl rfl ⟨Nat.le_refl _, Nat.le_refl _⟩ rfl rfl d_Rd_truthOn_72 ?_
      exact rj_sub [] rfl (P_Rd_truthOn_75 hX hM hR _ h)
    · refine r_aload_n (i := 0) hX d_Rd_truthOn_56 1 rfl rfl ?_
      obtain ⟨hk5, h⟩ := gd_e h
      refine r_getR (i := 8) (f := 2) hX ci_8 (by decide) rfl fl_Rd_21 hk5 d_Rd_truthOn_57 ?_
      refine r_iload_n (i := 1) hX d_Rd_truthOn_60 2 rfl rfl ?_
      obtain ⟨hk6, h⟩ := gd_e h
      obtain ⟨r7, hr8, h⟩ := bd_e h
      refine r_callV1 (As := [_]) hX hM mw_Rd_125 (T_Dy_has _ _ _ hr8) (rc_of ci_7 hk6) rfl rfl ⟨Nat.le_refl _, Nat.le_refl _⟩ rfl rfl d_Rd_truthOn_61 ?_
      refine r_goto hX d_Rd_truthOn_64 rfl ?_
      exact rj_sub [] rfl (P_Rd_truthOn_75 hX hM hR _ h)
  · refine r_iconst (v := (-1 : Int32)) hX d_Rd_truthOn_50 rfl ?_
    cases h; exact r_iret hX hR d_Rd_truthOn_51
def F_Rd_truthOn (w : AW) (a0 : Nat) (x1 : Int32) (x2 : Int32) : Option (Int32) :=
  if x2 = (2 : Int32) then
    gd (wk w a0 == 9) <|
    gd (wk w (wr w a0 0) == 8) <|
    (F_Dy_has w (wr w a0 0) x1).bind fun r11 =>
    if r11 = 0 then
      some (0 : Int32)
    else
      some (1 : Int32)
  else
    if x2 = 0 then
      gd (wk w a0 == 9) <|
      gd (wk w (wr w a0 1) == 8) <|
      (F_Dy_has w (wr w a0 1) x1).bind fun r7 =>
      F_Rd_truthOn_45 w a0 x1 x2 r7
    else
      gd (wk w a0 == 9) <|
      gd (wk w (wr w a0 3) == 8) <|
      (F_Dy_has w (wr w a0 3) x1).bind fun r3 =>
      F_Rd_truthOn_45 w a0 x1 x2 r3
theorem P_Rd_truthOn_0 {X : AX} {l : Launch} {G : AG} {w : AW} (hX : XOK X b_Rd_truthOn "RedSky$Reading" 5) (hM : XM X l G { frames := 1, cells := 0, slots := 0, locals := 21 }) {o : Int32} (hR : XR X (some .int) 0 0 (some (vi o)) w) (a0 : Nat) (x1 : Int32) (x2 : Int32) (h : F_Rd_truthOn w a0 x1 x2 = some o) : RJ X 5 0 0 0 [(0, vr a0), (1, vi x1), (2, vi x2)] [] w := by
  unfold F_Rd_truthOn at h
  refine r_iload_n (i := 2) hX d_Rd_truthOn_0 2 rfl rfl ?_
  refine r_iconst (v := (2 : Int32)) hX d_Rd_truthOn_1 rfl ?_
  refine r_icmp_ne hX d_Rd_truthOn_2 rfl h (fun h => ?_) (fun h => ?_)
  · refine r_iload_n (i := 2) hX d_Rd_truthOn_22 2 rfl rfl ?_
    refine r_if_ne hX d_Rd_truthOn_23 rfl h (fun h => ?_) (fun h => ?_)
    · refine r_aload_n (i := 0) hX d_Rd_truthOn_37 0 rfl rfl ?_
      obtain ⟨hk1, h⟩ := gd_e h
      refine r_getR (i := 8) (f := 3) hX ci_8 (by decide) rfl fl_Rd_24 hk1 d_Rd_truthOn_38 ?_
      refine r_iload_n (i := 1) hX d_Rd_truthOn_41 1 rfl rfl ?_
      obtain ⟨hk2, h⟩ := gd_e h
      obtain ⟨r3, hr4, h⟩ := bd_e h
      refine r_callV1 (As := [_]) hX hM mw_Rd_125 (T_Dy_has _ _ _ hr4) (rc_of ci_7 hk2) rfl rfl ⟨Nat.le_refl _, Nat.le_refl _⟩ rfl rfl d_Rd_truthOn_42 ?_
      exact rj_sub [0, 1, 2] rfl (P_Rd_truthOn_45 hX hM hR _ _ _ _ h)
    · refine r_aload_n (i := 0) hX d_Rd_truthOn_26 0 rfl rfl ?_
      obtain ⟨hk5, h⟩ := gd_e h
      refine r_getR (i := 8) (f := 1) hX ci_8 (by decide) rfl fl_Rd_18 hk5 d_Rd_truthOn_27 ?_
      refine r_iload_n (i := 1) hX d_Rd_truthOn_30 1 rfl rfl ?_
      obtain ⟨hk6, h⟩ := gd_e h
      obtain ⟨r7, hr8, h⟩ := bd_e h
      refine r_callV1 (As := [_]) hX hM mw_Rd_125 (T_Dy_has _ _ _ hr8) (rc_of ci_7 hk6) rfl rfl ⟨Nat.le_refl _, Nat.le_refl _⟩ rfl rfl d_Rd_truthOn_31 ?_
      refine r_goto hX d_Rd_truthOn_34 rfl ?_
      exact rj_sub [0, 1, 2] rfl (P_Rd_truthOn_45 hX hM hR _ _ _ _ h)
  · refine r_aload_n (i := 0) hX d_Rd_truthOn_5 0 rfl rfl ?_
    obtain ⟨hk9, h⟩ := gd_e h
    refine r_getR (i := 8) (f := 0) hX ci_8 (by decide) rfl fl_Rd_12 hk9 d_Rd_truthOn_6 ?_
    refine r_iload_n (i := 1) hX d_Rd_truthOn_9 1 rfl rfl ?_
    obtain ⟨hk10, h⟩ := gd_e h
    obtain ⟨r11, hr12, h⟩ := bd_e h
    refine r_callV1 (As := [_]) hX hM mw_Rd_125 (T_Dy_has _ _ _ hr12) (rc_of ci_7 hk10) rfl rfl ⟨Nat.le_refl _, Nat.le_refl _⟩ rfl rfl d_Rd_truthOn_10 ?_
    refine r_if_eq hX d_Rd_truthOn_13 rfl h (fun h => ?_) (fun h => ?_)
    · refine r_iconst (v := (0 : Int32)) hX d_Rd_truthOn_20 rfl ?_
      cases h; exact r_iret hX hR d_Rd_truthOn_21
    · refine r_iconst (v := (1 : Int32)) hX d_Rd_truthOn_16 rfl ?_
      refine r_goto hX d_Rd_truthOn_17 rfl ?_
      cases h; exact r_iret hX hR d_Rd_truthOn_21
theorem T_Rd_truthOn {l : Launch} {G : AG} (w : AW) (a0 : Nat) (x1 : Int32) (x2 : Int32) {o : Int32} (h : F_Rd_truthOn w a0 x1 x2 = some o) : Mt l G y_Rd_truthOn b_Rd_truthOn 5 (some (.int)) 1 21 0 0 [vr a0, vi x1, vi x2] w (some (vi o)) w := mt_of (by decide) (Nat.le_of_ble_eq_true rfl) (fun X hX hR hM hI => P_Rd_truthOn_0 hX hM hR _ _ _ h)
/-! RedSky.truth(IIII)I -/
theorem d_A_truth_0 : decode b_A_truth 0 = .ok (.aload_n 0, 1) := by decide +kernel
theorem d_A_truth_1 : decode b_A_truth 1 = .ok (.iload_n 1, 1) := by decide +kernel
theorem d_A_truth_2 : decode b_A_truth 2 = .ok (.invokevirtual 200, 3) := by decide +kernel
theorem d_A_truth_5 : decode b_A_truth 5 = .ok (.astore 5, 2) := by decide +kernel
theorem d_A_truth_7 : decode b_A_truth 7 = .ok (.aload_n 0, 1) := by decide +kernel
theorem d_A_truth_8 : decode b_A_truth 8 = .ok (.iload_n 2, 1) := by decide +kernel
theorem d_A_truth_9 : decode b_A_truth 9 = .ok (.invokevirtual 141, 3) := by decide +kernel
theorem d_A_truth_12 : decode b_A_truth 12 = .ok (.astore 6, 2) := by decide +kernel
theorem d_A_truth_14 : decode b_A_truth 14 = .ok (.aload 5, 2) := by decide +kernel
theorem d_A_truth_16 : decode b_A_truth 16 = .ok (.ifnull (15), 3) := by decide +kernel
theorem d_A_truth_19 : decode b_A_truth 19 = .ok (.aload 6, 2) := by decide +kernel
theorem d_A_truth_21 : decode b_A_truth 21 = .ok (.ifnull (10), 3) := by decide +kernel
theorem d_A_truth_24 : decode b_A_truth 24 = .ok (.iload_n 3, 1) := by decide +kernel
theorem d_A_truth_25 : decode b_A_truth 25 = .ok (.invokestatic 111, 3) := by decide +kernel
theorem d_A_truth_28 : decode b_A_truth 28 = .ok (.ifCond .ne (6), 3) := by decide +kernel
theorem d_A_truth_31 : decode b_A_truth 31 = .ok (.bipush (-101), 2) := by decide +kernel
theorem d_A_truth_33 : decode b_A_truth 33 = .ok (.ireturn, 1) := by decide +kernel
theorem d_A_truth_34 : decode b_A_truth 34 = .ok (.iload 4, 2) := by decide +kernel
theorem d_A_truth_36 : decode b_A_truth 36 = .ok (.iconst 0, 1) := by decide +kernel
theorem d_A_truth_37 : decode b_A_truth 37 = .ok (.iconst 2, 1) := by decide +kernel
theorem d_A_truth_38 : decode b_A_truth 38 = .ok (.invokestatic 86, 3) := by decide +kernel
theorem d_A_truth_41 : decode b_A_truth 41 = .ok (.ifCond .ne (6), 3) := by decide +kernel
theorem d_A_truth_44 : decode b_A_truth 44 = .ok (.bipush (-102), 2) := by decide +kernel
theorem d_A_truth_46 : decode b_A_truth 46 = .ok (.ireturn, 1) := by decide +kernel
theorem d_A_truth_47 : decode b_A_truth 47 = .ok (.aload_n 0, 1) := by decide +kernel
theorem d_A_truth_48 : decode b_A_truth 48 = .ok (.getfield 49, 3) := by decide +kernel
theorem d_A_truth_51 : decode b_A_truth 51 = .ok (.aload 5, 2) := by decide +kernel
theorem d_A_truth_53 : decode b_A_truth 53 = .ok (.aload 6, 2) := by decide +kernel
theorem d_A_truth_55 : decode b_A_truth 55 = .ok (.aload_n 0, 1) := by decide +kernel
theorem d_A_truth_56 : decode b_A_truth 56 = .ok (.getfield 10, 3) := by decide +kernel
theorem d_A_truth_59 : decode b_A_truth 59 = .ok (.aload_n 0, 1) := by decide +kernel
theorem d_A_truth_60 : decode b_A_truth 60 = .ok (.getfield 42, 3) := by decide +kernel
theorem d_A_truth_63 : decode b_A_truth 63 = .ok (.invokevirtual 207, 3) := by decide +kernel
theorem d_A_truth_66 : decode b_A_truth 66 = .ok (.aload_n 0, 1) := by decide +kernel
theorem d_A_truth_67 : decode b_A_truth 67 = .ok (.getfield 49, 3) := by decide +kernel
theorem d_A_truth_70 : decode b_A_truth 70 = .ok (.iload_n 3, 1) := by decide +kernel
theorem d_A_truth_71 : decode b_A_truth 71 = .ok (.iload 4, 2) := by decide +kernel
theorem d_A_truth_73 : decode b_A_truth 73 = .ok (.invokevirtual 211, 3) := by decide +kernel
theorem d_A_truth_76 : decode b_A_truth 76 = .ok (.ireturn, 1) := by decide +kernel
def F_A_truth (a0 : Nat) (x1 : Int32) (x2 : Int32) (x3 : Int32) (x4 : Int32) (w : AW) : Option (Int32 × AW) :=
  gd (wk w a0 == 1) <|
  (F_A_sayingOf w a0 x1).bind fun r2 =>
  (F_A_diaryOf w a0 x2).bind fun r4 =>
  if r2 = 0 then
    some ((-101 : Int32), w)
  else
    if r4 = 0 then
      some ((-101 : Int32), w)
    else
      if (F_A_isDay x3) = 0 then
        some ((-101 : Int32), w)
      else
        if (F_A_within x4 (0 : Int32) (2 : Int32)) = 0 then
          some ((-102 : Int32), w)
        else
          gd (wk w (wr w a0 6) == 9) <|
          (F_Rd_read (wr w a0 6) r2 r4 (wr w a0 0) (wr w a0 5) w).bind fun r7 =>
          gd (wk r7 a0 == 1) <|
          gd (wk r7 (wr r7 a0 6) == 9) <|
          (F_Rd_truthOn r7 (wr r7 a0 6) x3 x4).bind fun r11 =>
          some (r11, r7)
theorem P_A_truth_0 {X : AX} {l : Launch} {G : AG} (hX : XOK X b_A_truth "RedSky" 7) (hM : XM X l G { frames := 6, cells := 0, slots := 0, locals := 147 }) {o : Int32 × AW} (hR : XR X (some .int) 0 0 (some (vi o.1)) o.2) (a0 : Nat) (x1 : Int32) (x2 : Int32) (x3 : Int32) (x4 : Int32) (w : AW) (h : F_A_truth a0 x1 x2 x3 x4 w = some o) : RJ X 7 0 0 0 [(0, vr a0), (1, vi x1), (2, vi x2), (3, vi x3), (4, vi x4)] [] w := by
  unfold F_A_truth at h
  refine r_aload_n (i := 0) hX d_A_truth_0 0 rfl rfl ?_
  refine r_iload_n (i := 1) hX d_A_truth_1 1 rfl rfl ?_
  obtain ⟨hk1, h⟩ := gd_e h
  obtain ⟨r2, hr3, h⟩ := bd_e h
  refine r_callV1 (As := [_]) hX hM mw_A_200 (T_A_sayingOf _ _ _ hr3) (rc_of ci_0 hk1) rfl rfl ⟨Nat.le_refl _, Nat.le_refl _⟩ rfl rfl d_A_truth_2 ?_
  refine r_astore (i := 5) hX d_A_truth_5  (by decide) ?_
  refine r_aload_n (i := 0) hX d_A_truth_7 1 rfl rfl ?_
  refine r_iload_n (i := 2) hX d_A_truth_8 3 rfl rfl ?_
  obtain ⟨r4, hr5, h⟩ := bd_e h
  refine r_callV1 (As := [_]) hX hM mw_A_141 (T_A_diaryOf _ _ _ hr5) (rc_of ci_0 hk1) rfl rfl ⟨Nat.le_refl _, Nat.le_refl _⟩ rfl rfl d_A_truth_9 ?_
  refine r_astore (i := 6) hX d_A_truth_12  (by decide) ?_
  refine r_aload (i := 5) hX d_A_truth_14 1  rfl ?_
  refine r_ifnull hX d_A_truth_16 rfl h (fun h => ?_) (fun h => ?_)
  · refine r_bipush (v := (-101 : Int32)) hX d_A_truth_31 rfl ?_
    cases h; exact r_iret hX hR d_A_truth_33
  · refine r_aload (i := 6) hX d_A_truth_19 0  rfl ?_
    refine r_ifnull hX d_A_truth_21 rfl h (fun h => ?_) (fun h => ?_)
    · refine r_bipush (v := (-101 : Int32)) hX d_A_truth_31 rfl ?_
      cases h; exact r_iret hX hR d_A_truth_33
    · refine r_iload_n (i := 3) hX d_A_truth_24 5 rfl rfl ?_
      refine r_callS1 (As := [_]) hX hM mw_A_111 (T_A_isDay _ _) rfl rfl ⟨Nat.le_refl _, Nat.le_refl _⟩ rfl rfl d_A_truth_25 ?_
      refine r_if_ne hX d_A_truth_28 rfl h (fun h => ?_) (fun h => ?_)
      · refine r_iload (i := 4) hX d_A_truth_34 6  rfl ?_
        refine r_iconst (v := (0 : Int32)) hX d_A_truth_36 rfl ?_
        refine r_iconst (v := (2 : Int32)) hX d_A_truth_37 rfl ?_
        refine r_callS1 (As := [_, _, _]) hX hM mw_A_86 (T_A_within _ _ _ _) rfl rfl ⟨Nat.le_refl _, Nat.le_refl _⟩ rfl rfl d_A_truth_38 ?_
        refine r_if_ne hX d_A_truth_41 rfl h (fun h => ?_) (fun h => ?_)
        · refine r_aload_n (i := 0) hX d_A_truth_47 2 rfl rfl ?_
          refine r_getR (i := 0) (f := 6) hX ci_0 (by decide) rfl fl_A_49 hk1 d_A_truth_48 ?_
          refine r_aload (i := 5) hX d_A_truth_51 1  rfl ?_
          refine r_aload (i := 6) hX d_A_truth_53 0  rfl ?_
          refine r_aload_n (i := 0) hX d_A_truth_55 2 rfl rfl ?_
          refine r_getR (i := 0) (f := 0) hX ci_0 (by decide) rfl fl_A_10 hk1 d_A_truth_56 ?_
          refine r_aload_n (i := 0) hX d_A_truth_59 2 rfl rfl ?_
          refine r_getR (i := 0) (f := 5) hX ci_0 (by decide) rfl fl_A_42 hk1 d_A_truth_60 ?_
          obtain ⟨hk6, h⟩ := gd_e h
          obtain ⟨r7, hr8, h⟩ := bd_e h
          refine r_callV0 (As := [_, _, _, _]) hX hM mw_A_207 (T_Rd_read _ _ _ _ _ _ hr8) (rc_of ci_8 hk6) rfl rfl ⟨Nat.le_refl _, Nat.le_refl _⟩ rfl rfl d_A_truth_63 ?_
          refine r_aload_n (i := 0) hX d_A_truth_66 2 rfl rfl ?_
          obtain ⟨hk9, h⟩ := gd_e h
          refine r_getR (i := 0) (f := 6) hX ci_0 (by decide) rfl fl_A_49 hk9 d_A_truth_67 ?_
          refine r_iload_n (i := 3) hX d_A_truth_70 5 rfl rfl ?_
          refine r_iload (i := 4) hX d_A_truth_71 6  rfl ?_
          obtain ⟨hk10, h⟩ := gd_e h
          obtain ⟨r11, hr12, h⟩ := bd_e h
          refine r_callV1 (As := [_, _]) hX hM mw_A_211 (T_Rd_truthOn _ _ _ _ hr12) (rc_of ci_8 hk10) rfl rfl ⟨Nat.le_refl _, Nat.le_refl _⟩ rfl rfl d_A_truth_73 ?_
          cases h; exact r_iret hX hR d_A_truth_76
        · refine r_bipush (v := (-102 : Int32)) hX d_A_truth_44 rfl ?_
          cases h; exact r_iret hX hR d_A_truth_46
      · refine r_bipush (v := (-101 : Int32)) hX d_A_truth_31 rfl ?_
        cases h; exact r_iret hX hR d_A_truth_33
theorem T_A_truth {l : Launch} {G : AG} (a0 : Nat) (x1 : Int32) (x2 : Int32) (x3 : Int32) (x4 : Int32) (w : AW) {o : Int32 × AW} (h : F_A_truth a0 x1 x2 x3 x4 w = some o) : Mt l G y_A_truth b_A_truth 7 (some (.int)) 6 147 0 0 [vr a0, vi x1, vi x2, vi x3, vi x4] w (some (vi o.1)) o.2 := mt_of (by decide) (Nat.le_of_ble_eq_true rfl) (fun X hX hR hM hI => P_A_truth_0 hX hM hR _ _ _ _ _ _ h)
/-! RedSkyModel.isOpen(IIII)Z -/
theorem d_M_isOpen_0 : decode b_M_isOpen 0 = .ok (.iconst 0, 1) := by decide +kernel
theorem d_M_isOpen_1 : decode b_M_isOpen 1 = .ok (.istore 5, 2) := by decide +kernel
theorem d_M_isOpen_3 : decode b_M_isOpen 3 = .ok (.iconst 0, 1) := by decide +kernel
theorem d_M_isOpen_4 : decode b_M_isOpen 4 = .ok (.istore 6, 2) := by decide +kernel
theorem d_M_isOpen_6 : decode b_M_isOpen 6 = .ok (.iload 6, 2) := by decide +kernel
theorem d_M_isOpen_8 : decode b_M_isOpen 8 = .ok (.iconst 4, 1) := by decide +kernel
theorem d_M_isOpen_9 : decode b_M_isOpen 9 = .ok (.if_icmp .ge (60), 3) := by decide +kernel
theorem d_M_isOpen_12 : decode b_M_isOpen 12 = .ok (.iload 5, 2) := by decide +kernel
theorem d_M_isOpen_14 : decode b_M_isOpen 14 = .ok (.ifCond .ne (42), 3) := by decide +kernel
theorem d_M_isOpen_17 : decode b_M_isOpen 17 = .ok (.aload_n 0, 1) := by decide +kernel
theorem d_M_isOpen_18 : decode b_M_isOpen 18 = .ok (.getfield 46, 3) := by decide +kernel
theorem d_M_isOpen_21 : decode b_M_isOpen 21 = .ok (.bipush (12), 2) := by decide +kernel
theorem d_M_isOpen_23 : decode b_M_isOpen 23 = .ok (.iload_n 1, 1) := by decide +kernel
theorem d_M_isOpen_24 : decode b_M_isOpen 24 = .ok (.imul, 1) := by decide +kernel
theorem d_M_isOpen_25 : decode b_M_isOpen 25 = .ok (.iload_n 2, 1) := by decide +kernel
theorem d_M_isOpen_26 : decode b_M_isOpen 26 = .ok (.iadd, 1) := by decide +kernel
theorem d_M_isOpen_27 : decode b_M_isOpen 27 = .ok (.iaload, 1) := by decide +kernel
theorem d_M_isOpen_28 : decode b_M_isOpen 28 = .ok (.iload 6, 2) := by decide +kernel
theorem d_M_isOpen_30 : decode b_M_isOpen 30 = .ok (.ishr, 1) := by decide +kernel
theorem d_M_isOpen_31 : decode b_M_isOpen 31 = .ok (.iconst 1, 1) := by decide +kernel
theorem d_M_isOpen_32 : decode b_M_isOpen 32 = .ok (.iand, 1) := by decide +kernel
theorem d_M_isOpen_33 : decode b_M_isOpen 33 = .ok (.iconst 1, 1) := by decide +kernel
theorem d_M_isOpen_34 : decode b_M_isOpen 34 = .ok (.if_icmp .ne (26), 3) := by decide +kernel
theorem d_M_isOpen_37 : decode b_M_isOpen 37 = .ok (.aload_n 0, 1) := by decide +kernel
theorem d_M_isOpen_38 : decode b_M_isOpen 38 = .ok (.getfield 22, 3) := by decide +kernel
theorem d_M_isOpen_41 : decode b_M_isOpen 41 = .ok (.iload_n 3, 1) := by decide +kernel
theorem d_M_isOpen_42 : decode b_M_isOpen 42 = .ok (.iload 4, 2) := by decide +kernel
theorem d_M_isOpen_44 : decode b_M_isOpen 44 = .ok (.iload 6, 2) := by decide +kernel
theorem d_M_isOpen_46 : decode b_M_isOpen 46 = .ok (.invokestatic 167, 3) := by decide +kernel
theorem d_M_isOpen_49 : decode b_M_isOpen 49 = .ok (.iaload, 1) := by decide +kernel
theorem d_M_isOpen_50 : decode b_M_isOpen 50 = .ok (.sipush (-1000), 3) := by decide +kernel
theorem d_M_isOpen_53 : decode b_M_isOpen 53 = .ok (.if_icmp .ne (7), 3) := by decide +kernel
theorem d_M_isOpen_56 : decode b_M_isOpen 56 = .ok (.iconst 1, 1) := by decide +kernel
theorem d_M_isOpen_57 : decode b_M_isOpen 57 = .ok (.goto (4), 3) := by decide +kernel
theorem d_M_isOpen_60 : decode b_M_isOpen 60 = .ok (.iconst 0, 1) := by decide +kernel
theorem d_M_isOpen_61 : decode b_M_isOpen 61 = .ok (.istore 5, 2) := by decide +kernel
theorem d_M_isOpen_63 : decode b_M_isOpen 63 = .ok (.iinc 6 (1), 3) := by decide +kernel
theorem d_M_isOpen_66 : decode b_M_isOpen 66 = .ok (.goto (-60), 3) := by decide +kernel
theorem d_M_isOpen_69 : decode b_M_isOpen 69 = .ok (.iload 5, 2) := by decide +kernel
theorem d_M_isOpen_71 : decode b_M_isOpen 71 = .ok (.ireturn, 1) := by decide +kernel
def F_M_isOpen_56 (rec6 : Nat → Int32 → Int32 → Int32 → Int32 → Int32 → Int32 → Option (Int32)) (w : AW) (a0 : Nat) (x1 : Int32) (x2 : Int32) (x3 : Int32) (x4 : Int32) (x6 : Int32) : Option (Int32) :=
  let v1 : Int32 := (x6 + (1 : Int32))
  rec6 a0 x1 x2 x3 x4 (1 : Int32) v1
theorem P_M_isOpen_56 {X : AX} {l : Launch} {G : AG} {w : AW} {rec6 : Nat → Int32 → Int32 → Int32 → Int32 → Int32 → Int32 → Option (Int32)} (hX : XOK X b_M_isOpen "RedSkyModel" 7) (hM : XM X l G { frames := 1, cells := 0, slots := 0, locals := 22 }) {o : Int32} (hR : XR X (some .boolean) 0 0 (some (vi o)) w) (hrec6 : ∀ (a0 : Nat) (x1 : Int32) (x2 : Int32) (x3 : Int32) (x4 : Int32) (x5 : Int32) (x6 : Int32), rec6 a0 x1 x2 x3 x4 x5 x6 = some o → RJ X 7 0 0 6 [(0, vr a0), (1, vi x1), (2, vi x2), (3, vi x3), (4, vi x4), (5, vi x5), (6, vi x6)] [] w) (a0 : Nat) (x1 : Int32) (x2 : Int32) (x3 : Int32) (x4 : Int32) (x6 : Int32) (h : F_M_isOpen_56 rec6 w a0 x1 x2 x3 x4 x6 = some o) : RJ X 7 0 0 56 [(0, vr a0), (1, vi x1), (2, vi x2), (3, vi x3), (4, vi x4), (6, vi x6)] [] w := by
  unfold F_M_isOpen_56 at h
  refine r_iconst (v := (1 : Int32)) hX d_M_isOpen_56 rfl ?_
  refine r_goto hX d_M_isOpen_57 rfl ?_
  refine r_istore (i := 5) hX d_M_isOpen_61  (by decide) ?_
  refine r_iinc (i := 6) (v := (1 : Int32)) hX d_M_isOpen_63 6 rfl rfl (by decide) ?_
  refine r_goto hX d_M_isOpen_66 rfl ?_
  exact rj_sub [2, 3, 4, 5, 6, 1, 0] rfl (hrec6 _ _ _ _ _ _ _ h)
def F_M_isOpen_6_B (rec6 : Nat → Int32 → Int32 → Int32 → Int32 → Int32 → Int32 → Option (Int32)) (w : AW) (a0 : Nat) (x1 : Int32) (x2 : Int32) (x3 : Int32) (x4 : Int32) (x5 : Int32) (x6 : Int32) : Option (Int32) :=
  if (4 : Int32) ≤ x6 then
    gd (x5 == 0 || x5 == 1) <|
    some x5
  else
    if x5 = 0 then
      gd (wk w a0 == 13) <|
      gd (wk w (wr w a0 30) == 100) <|
      gd (inb (((12 : Int32) * x1) + x2) (wn w (wr w a0 30))) <|
      if (((wi w (wr w a0 30) (Int32.toNatClampNeg (((12 : Int32) * x1) + x2))) >>> (x6 &&& 31)) &&& (1 : Int32)) = (1 : Int32) then
        gd (wk w (wr w a0 5) == 100) <|
        gd (inb (F_M_at x3 x4 x6) (wn w (wr w a0 5))) <|
        if (wi w (wr w a0 5) (Int32.toNatClampNeg (F_M_at x3 x4 x6))) = (-1000 : Int32) then
          F_M_isOpen_56 rec6 w a0 x1 x2 x3 x4 x6
        else
          let v8 : Int32 := (x6 + (1 : Int32))
          rec6 a0 x1 x2 x3 x4 (0 : Int32) v8
      else
        let v5 : Int32 := (x6 + (1 : Int32))
        rec6 a0 x1 x2 x3 x4 (0 : Int32) v5
    else
      F_M_isOpen_56 rec6 w a0 x1 x2 x3 x4 x6
theorem P_M_isOpen_6_B {X : AX} {l : Launch} {G : AG} {w : AW} {rec6 : Nat → Int32 → Int32 → Int32 → Int32 → Int32 → Int32 → Option (Int32)} (hX : XOK X b_M_isOpen "RedSkyModel" 7) (hM : XM X l G { frames := 1, cells := 0, slots := 0, locals := 22 }) {o : Int32} (hR : XR X (some .boolean) 0 0 (some (vi o)) w) (hrec6 : ∀ (a0 : Nat) (x1 : Int32) (x2 : Int32) (x3 : Int32) (x4 : Int32) (x5 : Int32) (x6 : Int32), rec6 a0 x1 x2 x3 x4 x5 x6 = some o → RJ X 7 0 0 6 [(0, vr a0), (1, vi x1), (2, vi x2), (3, vi x3), (4, vi x4), (5, vi x5), (6, vi x6)] [] w) (a0 : Nat) (x1 : Int32) (x2 : Int32) (x3 : Int32) (x4 : Int32) (x5 : Int32) (x6 : Int32) (h : F_M_isOpen_6_B rec6 w a0 x1 x2 x3 x4 x5 x6 = some o) : RJ X 7 0 0 6 [(0, vr a0), (1, vi x1), (2, vi x2), (3, vi x3), (4, vi x4), (5, vi x5), (6, vi x6)] [] w := by
  unfold F_M_isOpen_6_B at h
  refine r_iload (i := 6) hX d_M_isOpen_6 6  rfl ?_
  refine r_iconst (v := (4 : Int32)) hX d_M_isOpen_8 rfl ?_
  refine r_icmp_ge hX d_M_isOpen_9 rfl h (fun h => ?_) (fun h => ?_)
  · refine r_iload (i := 5) hX d_M_isOpen_69 5  rfl ?_
    obtain ⟨hg1, h⟩ := gd_e h
    cases h; exact r_zret hX hR (zn_ok hg1) d_M_isOpen_71
  · refine r_iload (i := 5) hX d_M_isOpen_12 5  rfl ?_
    refine r_if_ne hX d_M_isOpen_14 rfl h (fun h => ?_) (fun h => ?_)
    · exact rj_sub [0, 1, 2, 3, 4, 6] rfl (P_M_isOpen_56 hX hM hR hrec6 _ _ _ _ _ _ h)
    · refine r_aload_n (i := 0) hX d_M_isOpen_17 0 rfl rfl ?_
      obtain ⟨hk2, h⟩ := gd_e h
      refine r_getR (i := 12) (f := 30) hX ci_12 (by decide) rfl fl_M_46 hk2 d_M_isOpen_18 ?_
      refine r_bipush (v := (12 : Int32)) hX d_M_isOpen_21 rfl ?_
      refine r_iload_n (i := 1) hX d_M_isOpen_23 1 rfl rfl ?_
      refine r_imul hX d_M_isOpen_24 ?_
      refine r_iload_n (i := 2) hX d_M_isOpen_25 2 rfl rfl ?_
      refine r_iadd hX d_M_isOpen_26 ?_
      obtain ⟨hk3, h⟩ := gd_e h
      obtain ⟨hg4, h⟩ := gd_e h
      refine r_iald hX hk3 hg4 d_M_isOpen_27 ?_
      refine r_iload (i := 6) hX d_M_isOpen_28 6  rfl ?_
      refine r_ishr hX d_M_isOpen_30 ?_
      refine r_iconst (v := (1 : Int32)) hX d_M_isOpen_31 rfl ?_
      refine r_iand hX d_M_isOpen_32 ?_
      refine r_iconst (v := (1 : Int32)) hX d_M_isOpen_33 rfl ?_
      refine r_icmp_ne hX d_M_isOpen_34 rfl h (fun h => ?_) (fun h => ?_)
      · refine r_iconst (v := (0 : Int32)) hX d_M_isOpen_60 rfl ?_
        refine r_istore (i := 5) hX d_M_isOpen_61  (by decide) ?_
        refine r_iinc (i := 6) (v := (1 : Int32)) hX d_M_isOpen_63 6 rfl rfl (by decide) ?_
        refine r_goto hX d_M_isOpen_66 rfl ?_
        exact rj_sub [2, 3, 4, 5, 6, 1, 0] rfl (hrec6 _ _ _ _ _ _ _ h)
      · refine r_aload_n (i := 0) hX d_M_isOpen_37 0 rfl rfl ?_
        refine r_getR (i := 12) (f := 5) hX ci_12 (by decide) rfl fl_M_22 hk2 d_M_isOpen_38 ?_
        refine r_iload_n (i := 3) hX d_M_isOpen_41 3 rfl rfl ?_
        refine r_iload (i := 4) hX d_M_isOpen_42 4  rfl ?_
        refine r_iload (i := 6) hX d_M_isOpen_44 6  rfl ?_
        refine r_callS1 (As := [_, _, _]) hX hM mw_M_167 (T_M_at _ _ _ _) rfl rfl ⟨Nat.le_refl _, Nat.le_refl _⟩ rfl rfl d_M_isOpen_46 ?_
        obtain ⟨hk6, h⟩ := gd_e h
        obtain ⟨hg7, h⟩ := gd_e h
        refine r_iald hX hk6 hg7 d_M_isOpen_49 ?_
        refine r_sipush (v := (-1000 : Int32)) hX d_M_isOpen_50 rfl ?_
        refine r_icmp_ne hX d_M_isOpen_53 rfl h (fun h => ?_) (fun h => ?_)
        · refine r_iconst (v := (0 : Int32)) hX d_M_isOpen_60 rfl ?_
          refine r_istore (i := 5) hX d_M_isOpen_61  (by decide) ?_
          refine r_iinc (i := 6) (v := (1 : Int32)) hX d_M_isOpen_63 6 rfl rfl (by decide) ?_
          refine r_goto hX d_M_isOpen_66 rfl ?_
          exact rj_sub [2, 3, 4, 5, 6, 1, 0] rfl (hrec6 _ _ _ _ _ _ _ h)
        · exact rj_sub [0, 1, 2, 3, 4, 6] rfl (P_M_isOpen_56 hX hM hR hrec6 _ _ _ _ _ _ h)
def F_M_isOpen_6 (w : AW) : Nat → Nat → Int32 → Int32 → Int32 → Int32 → Int32 → Int32 → Option (Int32)
  | 0 => fun _ _ _ _ _ _ _ => none
  | n + 1 => fun a0 x1 x2 x3 x4 x5 x6 => F_M_isOpen_6_B (F_M_isOpen_6 w n) w a0 x1 x2 x3 x4 x5 x6
theorem P_M_isOpen_6 {X : AX} {l : Launch} {G : AG} {w : AW} (hX : XOK X b_M_isOpen "RedSkyModel" 7) (hM : XM X l G { frames := 1, cells := 0, slots := 0, locals := 22 }) {o : Int32} (hR : XR X (some .boolean) 0 0 (some (vi o)) w) (fu : Nat) : ∀ (a0 : Nat) (x1 : Int32) (x2 : Int32) (x3 : Int32) (x4 : Int32) (x5 : Int32) (x6 : Int32), F_M_isOpen_6 w fu a0 x1 x2 x3 x4 x5 x6 = some o → RJ X 7 0 0 6 [(0, vr a0), (1, vi x1), (2, vi x2), (3, vi x3), (4, vi x4), (5, vi x5), (6, vi x6)] [] w := by
  induction fu with
  | zero => intro a0 x1 x2 x3 x4 x5 x6 h; cases h
  | succ n9 ih => intro a0 x1 x2 x3 x4 x5 x6 h; exact P_M_isOpen_6_B hX hM hR ih _ _ _ _ _ _ _ h
def F_M_isOpen (w : AW) (a0 : Nat) (x1 : Int32) (x2 : Int32) (x3 : Int32) (x4 : Int32) : Option (Int32) :=
  F_M_isOpen_6 w FUEL a0 x1 x2 x3 x4 (0 : Int32) (0 : Int32)
theorem P_M_isOpen_0 {X : AX} {l : Launch} {G : AG} {w : AW} (hX : XOK X b_M_isOpen "RedSkyModel" 7) (hM : XM X l G { frames := 1, cells := 0, slots := 0, locals := 22 }) {o : Int32} (hR : XR X (some .boolean) 0 0 (some (vi o)) w) (a0 : Nat) (x1 : Int32) (x2 : Int32) (x3 : Int32) (x4 : Int32) (h : F_M_isOpen w a0 x1 x2 x3 x4 = some o) : RJ X 7 0 0 0 [(0, vr a0), (1, vi x1), (2, vi x2), (3, vi x3), (4, vi x4)] [] w := by
  unfold F_M_isOpen at h
  refine r_iconst (v := (0 : Int32)) hX d_M_isOpen_0 rfl ?_
  refine r_istore (i := 5) hX d_M_isOpen_1  (by decide) ?_
  refine r_iconst (v := (0 : Int32)) hX d_M_isOpen_3 rfl ?_
  refine r_istore (i := 6) hX d_M_isOpen_4  (by decide) ?_
  exact rj_sub [2, 3, 4, 5, 6, 1, 0] rfl (P_M_isOpen_6 hX hM hR FUEL _ _ _ _ _ _ _ h)
theorem T_M_isOpen {l : Launch} {G : AG} (w : AW) (a0 : Nat) (x1 : Int32) (x2 : Int32) (x3 : Int32) (x4 : Int32) {o : Int32} (h : F_M_isOpen w a0 x1 x2 x3 x4 = some o) : Mt l G y_M_isOpen b_M_isOpen 7 (some (.boolean)) 1 22 0 0 [vr a0, vi x1, vi x2, vi x3, vi x4] w (some (vi o)) w := mt_of (by decide) (Nat.le_of_ble_eq_true rfl) (fun X hX hR hM hI => P_M_isOpen_0 hX hM hR _ _ _ _ _ h)
