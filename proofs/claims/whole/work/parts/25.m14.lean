/-! RedSky$Almanac.copyDays(LRedSky$Almanac;III)I -/
theorem d_Al_copyDays_0 : decode b_Al_copyDays 0 = .ok (.iconst 0, 1) := by decide +kernel
theorem d_Al_copyDays_1 : decode b_Al_copyDays 1 = .ok (.istore 5, 2) := by decide +kernel
theorem d_Al_copyDays_3 : decode b_Al_copyDays 3 = .ok (.iconst 0, 1) := by decide +kernel
theorem d_Al_copyDays_4 : decode b_Al_copyDays 4 = .ok (.istore 6, 2) := by decide +kernel
theorem d_Al_copyDays_6 : decode b_Al_copyDays 6 = .ok (.iload_n 2, 1) := by decide +kernel
theorem d_Al_copyDays_7 : decode b_Al_copyDays 7 = .ok (.istore 7, 2) := by decide +kernel
theorem d_Al_copyDays_9 : decode b_Al_copyDays 9 = .ok (.iload 7, 2) := by decide +kernel
theorem d_Al_copyDays_11 : decode b_Al_copyDays 11 = .ok (.iload_n 3, 1) := by decide +kernel
theorem d_Al_copyDays_12 : decode b_Al_copyDays 12 = .ok (.if_icmp .ge (63), 3) := by decide +kernel
theorem d_Al_copyDays_15 : decode b_Al_copyDays 15 = .ok (.iinc 6 (1), 3) := by decide +kernel
theorem d_Al_copyDays_18 : decode b_Al_copyDays 18 = .ok (.aload_n 1, 1) := by decide +kernel
theorem d_Al_copyDays_19 : decode b_Al_copyDays 19 = .ok (.iload 7, 2) := by decide +kernel
theorem d_Al_copyDays_21 : decode b_Al_copyDays 21 = .ok (.invokevirtual 48, 3) := by decide +kernel
theorem d_Al_copyDays_24 : decode b_Al_copyDays 24 = .ok (.istore 8, 2) := by decide +kernel
theorem d_Al_copyDays_26 : decode b_Al_copyDays 26 = .ok (.iload 6, 2) := by decide +kernel
theorem d_Al_copyDays_28 : decode b_Al_copyDays 28 = .ok (.iload 4, 2) := by decide +kernel
theorem d_Al_copyDays_30 : decode b_Al_copyDays 30 = .ok (.if_icmp .ne (22), 3) := by decide +kernel
theorem d_Al_copyDays_33 : decode b_Al_copyDays 33 = .ok (.iconst 0, 1) := by decide +kernel
theorem d_Al_copyDays_34 : decode b_Al_copyDays 34 = .ok (.istore 6, 2) := by decide +kernel
theorem d_Al_copyDays_36 : decode b_Al_copyDays 36 = .ok (.iload 8, 2) := by decide +kernel
theorem d_Al_copyDays_38 : decode b_Al_copyDays 38 = .ok (.iconst (-1), 1) := by decide +kernel
theorem d_Al_copyDays_39 : decode b_Al_copyDays 39 = .ok (.if_icmp .ne (7), 3) := by decide +kernel
theorem d_Al_copyDays_42 : decode b_Al_copyDays 42 = .ok (.iconst (-1), 1) := by decide +kernel
theorem d_Al_copyDays_43 : decode b_Al_copyDays 43 = .ok (.goto (7), 3) := by decide +kernel
theorem d_Al_copyDays_46 : decode b_Al_copyDays 46 = .ok (.iconst 1, 1) := by decide +kernel
theorem d_Al_copyDays_47 : decode b_Al_copyDays 47 = .ok (.iload 8, 2) := by decide +kernel
theorem d_Al_copyDays_49 : decode b_Al_copyDays 49 = .ok (.isub, 1) := by decide +kernel
theorem d_Al_copyDays_50 : decode b_Al_copyDays 50 = .ok (.istore 8, 2) := by decide +kernel
theorem d_Al_copyDays_52 : decode b_Al_copyDays 52 = .ok (.aload_n 0, 1) := by decide +kernel
theorem d_Al_copyDays_53 : decode b_Al_copyDays 53 = .ok (.iload 7, 2) := by decide +kernel
theorem d_Al_copyDays_55 : decode b_Al_copyDays 55 = .ok (.iload 8, 2) := by decide +kernel
theorem d_Al_copyDays_57 : decode b_Al_copyDays 57 = .ok (.invokevirtual 44, 3) := by decide +kernel
theorem d_Al_copyDays_60 : decode b_Al_copyDays 60 = .ok (.iload 8, 2) := by decide +kernel
theorem d_Al_copyDays_62 : decode b_Al_copyDays 62 = .ok (.iconst (-1), 1) := by decide +kernel
theorem d_Al_copyDays_63 : decode b_Al_copyDays 63 = .ok (.if_icmp .eq (6), 3) := by decide +kernel
theorem d_Al_copyDays_66 : decode b_Al_copyDays 66 = .ok (.iinc 5 (1), 3) := by decide +kernel
theorem d_Al_copyDays_69 : decode b_Al_copyDays 69 = .ok (.iinc 7 (1), 3) := by decide +kernel
theorem d_Al_copyDays_72 : decode b_Al_copyDays 72 = .ok (.goto (-63), 3) := by decide +kernel
theorem d_Al_copyDays_75 : decode b_Al_copyDays 75 = .ok (.iload 5, 2) := by decide +kernel
theorem d_Al_copyDays_77 : decode b_Al_copyDays 77 = .ok (.ireturn, 1) := by decide +kernel
def F_Al_copyDays_52 (rec9 : Nat → Nat → Int32 → Int32 → Int32 → Int32 → Int32 → AW → Option (Int32 × AW)) (a0 : Nat) (a1 : Nat) (x3 : Int32) (x4 : Int32) (x5 : Int32) (x6 : Int32) (x7 : Int32) (x8 : Int32) (w : AW) : Option (Int32 × AW) :=
  gd (wk w a0 == 11) <|
  (F_Al_put a0 x7 x8 w).bind fun r2 =>
  if x8 = (-1 : Int32) then
    let v4 : Int32 := (x7 + (1 : Int32))
    rec9 a0 a1 x3 x4 x5 x6 v4 r2
  else
    let v5 : Int32 := (x5 + (1 : Int32))
    let v6 : Int32 := (x7 + (1 : Int32))
    rec9 a0 a1 x3 x4 v5 x6 v6 r2
theorem P_Al_copyDays_52 {X : AX} {l : Launch} {G : AG} {rec9 : Nat → Nat → Int32 → Int32 → Int32 → Int32 → Int32 → AW → Option (Int32 × AW)} (hX : XOK X b_Al_copyDays "RedSky$Almanac" 9) (hM : XM X l G { frames := 2, cells := 0, slots := 0, locals := 43 }) {o : Int32 × AW} (hR : XR X (some .int) 0 0 (some (vi o.1)) o.2) (hrec9 : ∀ (a0 : Nat) (a1 : Nat) (x3 : Int32) (x4 : Int32) (x5 : Int32) (x6 : Int32) (x7 : Int32) (w : AW), rec9 a0 a1 x3 x4 x5 x6 x7 w = some o → RJ X 9 0 0 9 [(0, vr a0), (1, vr a1), (3, vi x3), (4, vi x4), (5, vi x5), (6, vi x6), (7, vi x7)] [] w) (a0 : Nat) (a1 : Nat) (x3 : Int32) (x4 : Int32) (x5 : Int32) (x6 : Int32) (x7 : Int32) (x8 : Int32) (w : AW) (h : F_Al_copyDays_52 rec9 a0 a1 x3 x4 x5 x6 x7 x8 w = some o) : RJ X 9 0 0 52 [(0, vr a0), (1, vr a1), (3, vi x3), (4, vi x4), (5, vi x5), (6, vi x6), (7, vi x7), (8, vi x8)] [] w := by
  unfold F_Al_copyDays_52 at h
  refine r_aload_n (i := 0) hX d_Al_copyDays_52 0 rfl rfl ?_
  refine r_iload (i := 7) hX d_Al_copyDays_53 6  rfl ?_
  refine r_iload (i := 8) hX d_Al_copyDays_55 7  rfl ?_
  obtain ⟨hk1, h⟩ := gd_e h
  obtain ⟨r2, hr3, h⟩ := bd_e h
  refine r_callV0 (As := [_, _]) hX hM mw_Al_44 (T_Al_put _ _ _ _ hr3) (rc_of ci_10 hk1) rfl rfl ⟨Nat.le_refl _, Nat.le_refl _⟩ rfl rfl d_Al_copyDays_57 ?_
  refine r_iload (i := 8) hX d_Al_copyDays_60 7  rfl ?_
  refine r_iconst (v := (-1 : Int32)) hX d_Al_copyDays_62 rfl ?_
  refine r_icmp_eq hX d_Al_copyDays_63 rfl h (fun h => ?_) (fun h => ?_)
  · refine r_iinc (i := 7) (v := (1 : Int32)) hX d_Al_copyDays_69 6 rfl rfl (by decide) ?_
    refine r_goto hX d_Al_copyDays_72 rfl ?_
    exact rj_sub [1, 2, 3, 4, 5, 6, 0] rfl (hrec9 _ _ _ _ _ _ _ _ h)
  · refine r_iinc (i := 5) (v := (1 : Int32)) hX d_Al_copyDays_66 4 rfl rfl (by decide) ?_
    refine r_iinc (i := 7) (v := (1 : Int32)) hX d_Al_copyDays_69 6 rfl rfl (by decide) ?_
    refine r_goto hX d_Al_copyDays_72 rfl ?_
    exact rj_sub [2, 3, 4, 5, 1, 6, 0] rfl (hrec9 _ _ _ _ _ _ _ _ h)
def F_Al_copyDays_9_B (rec9 : Nat → Nat → Int32 → Int32 → Int32 → Int32 → Int32 → AW → Option (Int32 × AW)) (a0 : Nat) (a1 : Nat) (x3 : Int32) (x4 : Int32) (x5 : Int32) (x6 : Int32) (x7 : Int32) (w : AW) : Option (Int32 × AW) :=
  if x3 ≤ x7 then
    some (x5, w)
  else
    let v1 : Int32 := (x6 + (1 : Int32))
    gd (wk w a1 == 11) <|
    (F_Al_foretoldFor w a1 x7).bind fun r3 =>
    if v1 = x4 then
      if r3 = (-1 : Int32) then
        F_Al_copyDays_52 rec9 a0 a1 x3 x4 x5 (0 : Int32) x7 (-1 : Int32) w
      else
        let v5 : Int32 := ((1 : Int32) - r3)
        F_Al_copyDays_52 rec9 a0 a1 x3 x4 x5 (0 : Int32) x7 v5 w
    else
      F_Al_copyDays_52 rec9 a0 a1 x3 x4 x5 v1 x7 r3 w
theorem P_Al_copyDays_9_B {X : AX} {l : Launch} {G : AG} {rec9 : Nat → Nat → Int32 → Int32 → Int32 → Int32 → Int32 → AW → Option (Int32 × AW)} (hX : XOK X b_Al_copyDays "RedSky$Almanac" 9) (hM : XM X l G { frames := 2, cells := 0, slots := 0, locals := 43 }) {o : Int32 × AW} (hR : XR X (some .int) 0 0 (some (vi o.1)) o.2) (hrec9 : ∀ (a0 : Nat) (a1 : Nat) (x3 : Int32) (x4 : Int32) (x5 : Int32) (x6 : Int32) (x7 : Int32) (w : AW), rec9 a0 a1 x3 x4 x5 x6 x7 w = some o → RJ X 9 0 0 9 [(0, vr a0), (1, vr a1), (3, vi x3), (4, vi x4), (5, vi x5), (6, vi x6), (7, vi x7)] [] w) (a0 : Nat) (a1 : Nat) (x3 : Int32) (x4 : Int32) (x5 : Int32) (x6 : Int32) (x7 : Int32) (w : AW) (h : F_Al_copyDays_9_B rec9 a0 a1 x3 x4 x5 x6 x7 w = some o) : RJ X 9 0 0 9 [(0, vr a0), (1, vr a1), (3, vi x3), (4, vi x4), (5, vi x5), (6, vi x6), (7, vi x7)] [] w := by
  unfold F_Al_copyDays_9_B at h
  refine r_iload (i := 7) hX d_Al_copyDays_9 6  rfl ?_
  refine r_iload_n (i := 3) hX d_Al_copyDays_11 2 rfl rfl ?_
  refine r_icmp_ge hX d_Al_copyDays_12 rfl h (fun h => ?_) (fun h => ?_)
  · refine r_iload (i := 5) hX d_Al_copyDays_75 4  rfl ?_
    cases h; exact r_iret hX hR d_Al_copyDays_77
  · refine r_iinc (i := 6) (v := (1 : Int32)) hX d_Al_copyDays_15 5 rfl rfl (by decide) ?_
    refine r_aload_n (i := 1) hX d_Al_copyDays_18 2 rfl rfl ?_
    refine r_iload (i := 7) hX d_Al_copyDays_19 6  rfl ?_
    obtain ⟨hk2, h⟩ := gd_e h
    obtain ⟨r3, hr4, h⟩ := bd_e h
    refine r_callV1 (As := [_]) hX hM mw_Al_48 (T_Al_foretoldFor _ _ _ hr4) (rc_of ci_10 hk2) rfl rfl ⟨Nat.le_refl _, Nat.le_refl _⟩ rfl rfl d_Al_copyDays_21 ?_
    refine r_istore (i := 8) hX d_Al_copyDays_24  (by decide) ?_
    refine r_iload (i := 6) hX d_Al_copyDays_26 1  rfl ?_
    refine r_iload (i := 4) hX d_Al_copyDays_28 5  rfl ?_
    refine r_icmp_ne hX d_Al_copyDays_30 rfl h (fun h => ?_) (fun h => ?_)
    · exact rj_sub [2, 3, 4, 5, 6, 1, 7, 0] rfl (P_Al_copyDays_52 hX hM hR hrec9 _ _ _ _ _ _ _ _ _ h)
    · refine r_iconst (v := (0 : Int32)) hX d_Al_copyDays_33 rfl ?_
      refine r_istore (i := 6) hX d_Al_copyDays_34  (by decide) ?_
      refine r_iload (i := 8) hX d_Al_copyDays_36 1  rfl ?_
      refine r_iconst (v := (-1 : Int32)) hX d_Al_copyDays_38 rfl ?_
      refine r_icmp_ne hX d_Al_copyDays_39 rfl h (fun h => ?_) (fun h => ?_)
      · refine r_iconst (v := (1 : Int32)) hX d_Al_copyDays_46 rfl ?_
        refine r_iload (i := 8) hX d_Al_copyDays_47 1  rfl ?_
        refine r_isub hX d_Al_copyDays_49 ?_
        refine r_istore (i := 8) hX d_Al_copyDays_50  (by decide) ?_
        exact rj_sub [2, 3, 4, 5, 6, 1, 7, 0] rfl (P_Al_copyDays_52 hX hM hR hrec9 _ _ _ _ _ _ _ _ _ h)
      · refine r_iconst (v := (-1 : Int32)) hX d_Al_copyDays_42 rfl ?_
        refine r_goto hX d_Al_copyDays_43 rfl ?_
        refine r_istore (i := 8) hX d_Al_copyDays_50  (by decide) ?_
        exact rj_sub [2, 3, 4, 5, 6, 1, 7, 0] rfl (P_Al_copyDays_52 hX hM hR hrec9 _ _ _ _ _ _ _ _ _ h)
def F_Al_copyDays_9 : Nat → Nat → Nat → Int32 → Int32 → Int32 → Int32 → Int32 → AW → Option (Int32 × AW)
  | 0 => fun _ _ _ _ _ _ _ _ => none
  | n + 1 => fun a0 a1 x3 x4 x5 x6 x7 w => F_Al_copyDays_9_B (F_Al_copyDays_9 n) a0 a1 x3 x4 x5 x6 x7 w
theorem P_Al_copyDays_9 {X : AX} {l : Launch} {G : AG} (hX : XOK X b_Al_copyDays "RedSky$Almanac" 9) (hM : XM X l G { frames := 2, cells := 0, slots := 0, locals := 43 }) {o : Int32 × AW} (hR : XR X (some .int) 0 0 (some (vi o.1)) o.2) (fu : Nat) : ∀ (a0 : Nat) (a1 : Nat) (x3 : Int32) (x4 : Int32) (x5 : Int32) (x6 : Int32) (x7 : Int32) (w : AW), F_Al_copyDays_9 fu a0 a1 x3 x4 x5 x6 x7 w = some o → RJ X 9 0 0 9 [(0, vr a0), (1, vr a1), (3, vi x3), (4, vi x4), (5, vi x5), (6, vi x6), (7, vi x7)] [] w := by
  induction fu with
  | zero => intro a0 a1 x3 x4 x5 x6 x7 w h; cases h
  | succ n9 ih => intro a0 a1 x3 x4 x5 x6 x7 w h; exact P_Al_copyDays_9_B hX hM hR ih _ _ _ _ _ _ _ _ h
def F_Al_copyDays (a0 : Nat) (a1 : Nat) (x2 : Int32) (x3 : Int32) (x4 : Int32) (w : AW) : Option (Int32 × AW) :=
  F_Al_copyDays_9 FUEL a0 a1 x3 x4 (0 : Int32) (0 : Int32) x2 w
theorem P_Al_copyDays_0 {X : AX} {l : Launch} {G : AG} (hX : XOK X b_Al_copyDays "RedSky$Almanac" 9) (hM : XM X l G { frames := 2, cells := 0, slots := 0, locals := 43 }) {o : Int32 × AW} (hR : XR X (some .int) 0 0 (some (vi o.1)) o.2) (a0 : Nat) (a1 : Nat) (x2 : Int32) (x3 : Int32) (x4 : Int32) (w : AW) (h : F_Al_copyDays a0 a1 x2 x3 x4 w = some o) : RJ X 9 0 0 0 [(0, vr a0), (1, vr a1), (2, vi x2), (3, vi x3), (4, vi x4)] [] w := by
  unfold F_Al_copyDays at h
  refine r_iconst (v := (0 : Int32)) hX d_Al_copyDays_0 rfl ?_
  refine r_istore (i := 5) hX d_Al_copyDays_1  (by decide) ?_
  refine r_iconst (v := (0 : Int32)) hX d_Al_copyDays_3 rfl ?_
  refine r_istore (i := 6) hX d_Al_copyDays_4  (by decide) ?_
  refine r_iload_n (i := 2) hX d_Al_copyDays_6 4 rfl rfl ?_
  refine r_istore (i := 7) hX d_Al_copyDays_7  (by decide) ?_
  exact rj_sub [3, 4, 6, 7, 2, 1, 0] rfl (P_Al_copyDays_9 hX hM hR FUEL _ _ _ _ _ _ _ _ h)
theorem T_Al_copyDays {l : Launch} {G : AG} (a0 : Nat) (a1 : Nat) (x2 : Int32) (x3 : Int32) (x4 : Int32) (w : AW) {o : Int32 × AW} (h : F_Al_copyDays a0 a1 x2 x3 x4 w = some o) : Mt l G y_Al_copyDays b_Al_copyDays 9 (some (.int)) 2 43 0 0 [vr a0, vr a1, vi x2, vi x3, vi x4] w (some (vi o.1)) o.2 := mt_of (by decide) (Nat.le_of_ble_eq_true rfl) (fun X hX hR hM hI => P_Al_copyDays_0 hX hM hR _ _ _ _ _ _ h)
/-! RedSky.copy(IIII)I -/
theorem d_A_copy_0 : decode b_A_copy 0 = .ok (.aload_n 0, 1) := by decide +kernel
theorem d_A_copy_1 : decode b_A_copy 1 = .ok (.iload_n 1, 1) := by decide +kernel
theorem d_A_copy_2 : decode b_A_copy 2 = .ok (.invokevirtual 295, 3) := by decide +kernel
theorem d_A_copy_5 : decode b_A_copy 5 = .ok (.astore 5, 2) := by decide +kernel
theorem d_A_copy_7 : decode b_A_copy 7 = .ok (.aload_n 0, 1) := by decide +kernel
theorem d_A_copy_8 : decode b_A_copy 8 = .ok (.iload_n 2, 1) := by decide +kernel
theorem d_A_copy_9 : decode b_A_copy 9 = .ok (.invokevirtual 295, 3) := by decide +kernel
theorem d_A_copy_12 : decode b_A_copy 12 = .ok (.astore 6, 2) := by decide +kernel
theorem d_A_copy_14 : decode b_A_copy 14 = .ok (.aload 5, 2) := by decide +kernel
theorem d_A_copy_16 : decode b_A_copy 16 = .ok (.ifnull (15), 3) := by decide +kernel
theorem d_A_copy_19 : decode b_A_copy 19 = .ok (.aload 6, 2) := by decide +kernel
theorem d_A_copy_21 : decode b_A_copy 21 = .ok (.ifnull (10), 3) := by decide +kernel
theorem d_A_copy_24 : decode b_A_copy 24 = .ok (.iload_n 3, 1) := by decide +kernel
theorem d_A_copy_25 : decode b_A_copy 25 = .ok (.invokestatic 97, 3) := by decide +kernel
theorem d_A_copy_28 : decode b_A_copy 28 = .ok (.ifCond .ne (6), 3) := by decide +kernel
theorem d_A_copy_31 : decode b_A_copy 31 = .ok (.bipush (-101), 2) := by decide +kernel
theorem d_A_copy_33 : decode b_A_copy 33 = .ok (.ireturn, 1) := by decide +kernel
theorem d_A_copy_34 : decode b_A_copy 34 = .ok (.iload 4, 2) := by decide +kernel
theorem d_A_copy_36 : decode b_A_copy 36 = .ok (.iconst 1, 1) := by decide +kernel
theorem d_A_copy_37 : decode b_A_copy 37 = .ok (.sipush (400), 3) := by decide +kernel
theorem d_A_copy_40 : decode b_A_copy 40 = .ok (.invokestatic 86, 3) := by decide +kernel
theorem d_A_copy_43 : decode b_A_copy 43 = .ok (.ifCond .eq (8), 3) := by decide +kernel
theorem d_A_copy_46 : decode b_A_copy 46 = .ok (.iload_n 1, 1) := by decide +kernel
theorem d_A_copy_47 : decode b_A_copy 47 = .ok (.iload_n 2, 1) := by decide +kernel
theorem d_A_copy_48 : decode b_A_copy 48 = .ok (.if_icmp .ne (6), 3) := by decide +kernel
theorem d_A_copy_51 : decode b_A_copy 51 = .ok (.bipush (-102), 2) := by decide +kernel
theorem d_A_copy_53 : decode b_A_copy 53 = .ok (.ireturn, 1) := by decide +kernel
theorem d_A_copy_54 : decode b_A_copy 54 = .ok (.aload 5, 2) := by decide +kernel
theorem d_A_copy_56 : decode b_A_copy 56 = .ok (.aload 6, 2) := by decide +kernel
theorem d_A_copy_58 : decode b_A_copy 58 = .ok (.aload_n 0, 1) := by decide +kernel
theorem d_A_copy_59 : decode b_A_copy 59 = .ok (.getfield 10, 3) := by decide +kernel
theorem d_A_copy_62 : decode b_A_copy 62 = .ok (.iload_n 3, 1) := by decide +kernel
theorem d_A_copy_63 : decode b_A_copy 63 = .ok (.invokevirtual 145, 3) := by decide +kernel
theorem d_A_copy_66 : decode b_A_copy 66 = .ok (.aload_n 0, 1) := by decide +kernel
theorem d_A_copy_67 : decode b_A_copy 67 = .ok (.getfield 10, 3) := by decide +kernel
theorem d_A_copy_70 : decode b_A_copy 70 = .ok (.iload_n 3, 1) := by decide +kernel
theorem d_A_copy_71 : decode b_A_copy 71 = .ok (.invokevirtual 148, 3) := by decide +kernel
theorem d_A_copy_74 : decode b_A_copy 74 = .ok (.iload 4, 2) := by decide +kernel
theorem d_A_copy_76 : decode b_A_copy 76 = .ok (.invokevirtual 305, 3) := by decide +kernel
theorem d_A_copy_79 : decode b_A_copy 79 = .ok (.ireturn, 1) := by decide +kernel
def F_A_copy (a0 : Nat) (x1 : Int32) (x2 : Int32) (x3 : Int32) (x4 : Int32) (w : AW) : Option (Int32 × AW) :=
  gd (wk w a0 == 1) <|
  (F_A_almanacOf w a0 x1).bind fun r2 =>
  (F_A_almanacOf w a0 x2).bind fun r4 =>
  if r2 = 0 then
    some ((-101 : Int32), w)
  else
    if r4 = 0 then
      some ((-101 : Int32), w)
    else
      if (F_A_isYear x3) = 0 then
        some ((-101 : Int32), w)
      else
        if (F_A_within x4 (1 : Int32) (400 : Int32)) = 0 then
          some ((-102 : Int32), w)
        else
          if x1 = x2 then
            some ((-102 : Int32), w)
          else
            gd (wk w (wr w a0 0) == 2) <|
            (F_Ca_startOf w (wr w a0 0) x3).bind fun r7 =>
            (F_Ca_endOf w (wr w a0 0) x3).bind fun r9 =>
            gd (wk w r2 == 11) <|
            (F_Al_copyDays r2 r4 r7 r9 x4 w).bind fun r12 =>
            some (r12.1, r12.2)
theorem P_A_copy_0 {X : AX} {l : Launch} {G : AG} (hX : XOK X b_A_copy "RedSky" 7) (hM : XM X l G { frames := 3, cells := 0, slots := 0, locals := 71 }) {o : Int32 × AW} (hR : XR X (some .int) 0 0 (some (vi o.1)) o.2) (a0 : Nat) (x1 : Int32) (x2 : Int32) (x3 : Int32) (x4 : Int32) (w : AW) (h : F_A_copy a0 x1 x2 x3 x4 w = some o) : RJ X 7 0 0 0 [(0, vr a0), (1, vi x1), (2, vi x2), (3, vi x3), (4, vi x4)] [] w := by
  unfold F_A_copy at h
  refine r_aload_n (i := 0) hX d_A_copy_0 0 rfl rfl ?_
  refine r_iload_n (i := 1) hX d_A_copy_1 1 rfl rfl ?_
  obtain ⟨hk1, h⟩ := gd_e h
  obtain ⟨r2, hr3, h⟩ := bd_e h
  refine r_callV1 (As := [_]) hX hM mw_A_295 (T_A_almanacOf _ _ _ hr3) (rc_of ci_0 hk1) rfl rfl ⟨Nat.le_refl _, Nat.le_refl _⟩ rfl rfl d_A_copy_2 ?_
  refine r_astore (i := 5) hX d_A_copy_5  (by decide) ?_
  refine r_aload_n (i := 0) hX d_A_copy_7 1 rfl rfl ?_
  refine r_iload_n (i := 2) hX d_A_copy_8 3 rfl rfl ?_
  obtain ⟨r4, hr5, h⟩ := bd_e h
  refine r_callV1 (As := [_]) hX hM mw_A_295 (T_A_almanacOf _ _ _ hr5) (rc_of ci_0 hk1) rfl rfl ⟨Nat.le_refl _, Nat.le_refl _⟩ rfl rfl d_A_copy_9 ?_
  refine r_astore (i := 6) hX d_A_copy_12  (by decide) ?_
  refine r_aload (i := 5) hX d_A_copy_14 1  rfl ?_
  refine r_ifnull hX d_A_copy_16 rfl h (fun h => ?_) (fun h => ?_)
  · refine r_bipush (v := (-101 : Int32)) hX d_A_copy_31 rfl ?_
    cases h; exact r_iret hX hR d_A_copy_33
  · refine r_aload (i := 6) hX d_A_copy_19 0  rfl ?_
    refine r_ifnull hX d_A_copy_21 rfl h (fun h => ?_) (fun h => ?_)
    · refine r_bipush (v := (-101 : Int32)) hX d_A_copy_31 rfl ?_
      cases h; exact r_iret hX hR d_A_copy_33
    · refine r_iload_n (i := 3) hX d_A_copy_24 5 rfl rfl ?_
      refine r_callS1 (As := [_]) hX hM mw_A_97 (T_A_isYear _ _) rfl rfl ⟨Nat.le_refl _, Nat.le_refl _⟩ rfl rfl d_A_copy_25 ?_
      refine r_if_ne hX d_A_copy_28 rfl h (fun h => ?_) (fun h => ?_)
      · refine r_iload (i := 4) hX d_A_copy_34 6  rfl ?_
        refine r_iconst (v := (1 : Int32)) hX d_A_copy_36 rfl ?_
        refine r_sipush (v := (400 : Int32)) hX d_A_copy_37 rfl ?_
        refine r_callS1 (As := [_, _, _]) hX hM mw_A_86 (T_A_within _ _ _ _) rfl rfl ⟨Nat.le_refl _, Nat.le_refl _⟩ rfl rfl d_A_copy_40 ?_
        refine r_if_eq hX d_A_copy_43 rfl h (fun h => ?_) (fun h => ?_)
        · refine r_bipush (v := (-102 : Int32)) hX d_A_copy_51 rfl ?_
          cases h; exact r_iret hX hR d_A_copy_53
        · refine r_iload_n (i := 1) hX d_A_copy_46 3 rfl rfl ?_
          refine r_iload_n (i := 2) hX d_A_copy_47 4 rfl rfl ?_
          refine r_icmp_ne hX d_A_copy_48 rfl h (fun h => ?_) (fun h => ?_)
          · refine r_aload (i := 5) hX d_A_copy_54 1  rfl ?_
            refine r_aload (i := 6) hX d_A_copy_56 0  rfl ?_
            refine r_aload_n (i := 0) hX d_A_copy_58 2 rfl rfl ?_
            refine r_getR (i := 0) (f := 0) hX ci_0 (by decide) rfl fl_A_10 hk1 d_A_copy_59 ?_
            refine r_iload_n (i := 3) hX d_A_copy_62 5 rfl rfl ?_
            obtain ⟨hk6, h⟩ := gd_e h
            obtain ⟨r7, hr8, h⟩ := bd_e h
            refine r_callV1 (As := [_]) hX hM mw_A_145 (T_Ca_startOf _ _ _ hr8) (rc_of ci_1 hk6) rfl rfl ⟨Nat.le_refl _, Nat.le_refl _⟩ rfl rfl d_A_copy_63 ?_
            refine r_aload_n (i := 0) hX d_A_copy_66 2 rfl rfl ?_
            refine r_getR (i := 0) (f := 0) hX ci_0 (by decide) rfl fl_A_10 hk1 d_A_copy_67 ?_
            refine r_iload_n (i := 3) hX d_A_copy_70 5 rfl rfl ?_
            obtain ⟨r9, hr10, h⟩ := bd_e h
            refine r_callV1 (As := [_]) hX hM mw_A_148 (T_Ca_endOf _ _ _ hr10) (rc_of ci_1 hk6) rfl rfl ⟨Nat.le_refl _, Nat.le_refl _⟩ rfl rfl d_A_copy_71 ?_
            refine r_iload (i := 4) hX d_A_copy_74 6  rfl ?_
            obtain ⟨hk11, h⟩ := gd_e h
            obtain ⟨r12, hr13, h⟩ := bd_e h
            refine r_callV1 (As := [_, _, _, _]) hX hM mw_A_305 (T_Al_copyDays _ _ _ _ _ _ hr13) (rc_of ci_10 hk11) rfl rfl ⟨Nat.le_refl _, Nat.le_refl _⟩ rfl rfl d_A_copy_76 ?_
            cases h; exact r_iret hX hR d_A_copy_79
          · refine r_bipush (v := (-102 : Int32)) hX d_A_copy_51 rfl ?_
            cases h; exact r_iret hX hR d_A_copy_53
      · refine r_bipush (v := (-101 : Int32)) hX d_A_copy_31 rfl ?_
        cases h; exact r_iret hX hR d_A_copy_33
theorem T_A_copy {l : Launch} {G : AG} (a0 : Nat) (x1 : Int32) (x2 : Int32) (x3 : Int32) (x4 : Int32) (w : AW) {o : Int32 × AW} (h : F_A_copy a0 x1 x2 x3 x4 w = some o) : Mt l G y_A_copy b_A_copy 7 (some (.int)) 3 71 0 0 [vr a0, vi x1, vi x2, vi x3, vi x4] w (some (vi o.1)) o.2 := mt_of (by decide) (Nat.le_of_ble_eq_true rfl) (fun X hX hR hM hI => P_A_copy_0 hX hM hR _ _ _ _ _ _ h)
/-! RedSkyModel.copy(IIII)I -/
theorem d_M_copy_0 : decode b_M_copy 0 = .ok (.iload_n 1, 1) := by decide +kernel
theorem d_M_copy_1 : decode b_M_copy 1 = .ok (.invokestatic 372, 3) := by decide +kernel
theorem d_M_copy_4 : decode b_M_copy 4 = .ok (.ifCond .eq (22), 3) := by decide +kernel
theorem d_M_copy_7 : decode b_M_copy 7 = .ok (.iload_n 2, 1) := by decide +kernel
theorem d_M_copy_8 : decode b_M_copy 8 = .ok (.invokestatic 372, 3) := by decide +kernel
theorem d_M_copy_11 : decode b_M_copy 11 = .ok (.ifCond .eq (15), 3) := by decide +kernel
theorem d_M_copy_14 : decode b_M_copy 14 = .ok (.iload_n 3, 1) := by decide +kernel
theorem d_M_copy_15 : decode b_M_copy 15 = .ok (.i2l, 1) := by decide +kernel
theorem d_M_copy_16 : decode b_M_copy 16 = .ok (.lconst 0, 1) := by decide +kernel
theorem d_M_copy_17 : decode b_M_copy 17 = .ok (.ldc2_w 126, 3) := by decide +kernel
theorem d_M_copy_20 : decode b_M_copy 20 = .ok (.invokestatic 122, 3) := by decide +kernel
theorem d_M_copy_23 : decode b_M_copy 23 = .ok (.ifCond .ne (6), 3) := by decide +kernel
theorem d_M_copy_26 : decode b_M_copy 26 = .ok (.bipush (-101), 2) := by decide +kernel
theorem d_M_copy_28 : decode b_M_copy 28 = .ok (.ireturn, 1) := by decide +kernel
theorem d_M_copy_29 : decode b_M_copy 29 = .ok (.iload 4, 2) := by decide +kernel
theorem d_M_copy_31 : decode b_M_copy 31 = .ok (.i2l, 1) := by decide +kernel
theorem d_M_copy_32 : decode b_M_copy 32 = .ok (.lconst 1, 1) := by decide +kernel
theorem d_M_copy_33 : decode b_M_copy 33 = .ok (.ldc2_w 377, 3) := by decide +kernel
theorem d_M_copy_36 : decode b_M_copy 36 = .ok (.invokestatic 122, 3) := by decide +kernel
theorem d_M_copy_39 : decode b_M_copy 39 = .ok (.ifCond .eq (8), 3) := by decide +kernel
theorem d_M_copy_42 : decode b_M_copy 42 = .ok (.iload_n 1, 1) := by decide +kernel
theorem d_M_copy_43 : decode b_M_copy 43 = .ok (.iload_n 2, 1) := by decide +kernel
theorem d_M_copy_44 : decode b_M_copy 44 = .ok (.if_icmp .ne (6), 3) := by decide +kernel
theorem d_M_copy_47 : decode b_M_copy 47 = .ok (.bipush (-102), 2) := by decide +kernel
theorem d_M_copy_49 : decode b_M_copy 49 = .ok (.ireturn, 1) := by decide +kernel
theorem d_M_copy_50 : decode b_M_copy 50 = .ok (.iconst 0, 1) := by decide +kernel
theorem d_M_copy_51 : decode b_M_copy 51 = .ok (.istore 5, 2) := by decide +kernel
theorem d_M_copy_53 : decode b_M_copy 53 = .ok (.aload_n 0, 1) := by decide +kernel
theorem d_M_copy_54 : decode b_M_copy 54 = .ok (.iload_n 3, 1) := by decide +kernel
theorem d_M_copy_55 : decode b_M_copy 55 = .ok (.iconst 1, 1) := by decide +kernel
theorem d_M_copy_56 : decode b_M_copy 56 = .ok (.invokevirtual 110, 3) := by decide +kernel
theorem d_M_copy_59 : decode b_M_copy 59 = .ok (.istore 6, 2) := by decide +kernel
theorem d_M_copy_61 : decode b_M_copy 61 = .ok (.iload 6, 2) := by decide +kernel
theorem d_M_copy_63 : decode b_M_copy 63 = .ok (.istore 7, 2) := by decide +kernel
theorem d_M_copy_65 : decode b_M_copy 65 = .ok (.iload 7, 2) := by decide +kernel
theorem d_M_copy_67 : decode b_M_copy 67 = .ok (.aload_n 0, 1) := by decide +kernel
theorem d_M_copy_68 : decode b_M_copy 68 = .ok (.iload_n 3, 1) := by decide +kernel
theorem d_M_copy_69 : decode b_M_copy 69 = .ok (.invokevirtual 160, 3) := by decide +kernel
theorem d_M_copy_72 : decode b_M_copy 72 = .ok (.if_icmp .ge (85), 3) := by decide +kernel
theorem d_M_copy_75 : decode b_M_copy 75 = .ok (.aload_n 0, 1) := by decide +kernel
theorem d_M_copy_76 : decode b_M_copy 76 = .ok (.getfield 28, 3) := by decide +kernel
theorem d_M_copy_79 : decode b_M_copy 79 = .ok (.sipush (1461), 3) := by decide +kernel
theorem d_M_copy_82 : decode b_M_copy 82 = .ok (.iload_n 2, 1) := by decide +kernel
theorem d_M_copy_83 : decode b_M_copy 83 = .ok (.imul, 1) := by decide +kernel
theorem d_M_copy_84 : decode b_M_copy 84 = .ok (.iload 7, 2) := by decide +kernel
theorem d_M_copy_86 : decode b_M_copy 86 = .ok (.iadd, 1) := by decide +kernel
theorem d_M_copy_87 : decode b_M_copy 87 = .ok (.iaload, 1) := by decide +kernel
theorem d_M_copy_88 : decode b_M_copy 88 = .ok (.istore 8, 2) := by decide +kernel
theorem d_M_copy_90 : decode b_M_copy 90 = .ok (.iload 8, 2) := by decide +kernel
theorem d_M_copy_92 : decode b_M_copy 92 = .ok (.iconst (-1), 1) := by decide +kernel
theorem d_M_copy_93 : decode b_M_copy 93 = .ok (.if_icmp .eq (23), 3) := by decide +kernel
theorem d_M_copy_96 : decode b_M_copy 96 = .ok (.iload 7, 2) := by decide +kernel
theorem d_M_copy_98 : decode b_M_copy 98 = .ok (.iload 6, 2) := by decide +kernel
theorem d_M_copy_100 : decode b_M_copy 100 = .ok (.isub, 1) := by decide +kernel
theorem d_M_copy_101 : decode b_M_copy 101 = .ok (.iconst 1, 1) := by decide +kernel
theorem d_M_copy_102 : decode b_M_copy 102 = .ok (.iadd, 1) := by decide +kernel
theorem d_M_copy_103 : decode b_M_copy 103 = .ok (.iload 4, 2) := by decide +kernel
theorem d_M_copy_105 : decode b_M_copy 105 = .ok (.irem, 1) := by decide +kernel
theorem d_M_copy_106 : decode b_M_copy 106 = .ok (.ifCond .ne (10), 3) := by decide +kernel
theorem d_M_copy_109 : decode b_M_copy 109 = .ok (.iconst 1, 1) := by decide +kernel
theorem d_M_copy_110 : decode b_M_copy 110 = .ok (.iload 8, 2) := by decide +kernel
theorem d_M_copy_112 : decode b_M_copy 112 = .ok (.isub, 1) := by decide +kernel
theorem d_M_copy_113 : decode b_M_copy 113 = .ok (.goto (5), 3) := by decide +kernel
theorem d_M_copy_116 : decode b_M_copy 116 = .ok (.iload 8, 2) := by decide +kernel
theorem d_M_copy_118 : decode b_M_copy 118 = .ok (.istore 8, 2) := by decide +kernel
theorem d_M_copy_120 : decode b_M_copy 120 = .ok (.aload_n 0, 1) := by decide +kernel
theorem d_M_copy_121 : decode b_M_copy 121 = .ok (.getfield 28, 3) := by decide +kernel
theorem d_M_copy_124 : decode b_M_copy 124 = .ok (.sipush (1461), 3) := by decide +kernel
theorem d_M_copy_127 : decode b_M_copy 127 = .ok (.iload_n 1, 1) := by decide +kernel
theorem d_M_copy_128 : decode b_M_copy 128 = .ok (.imul, 1) := by decide +kernel
theorem d_M_copy_129 : decode b_M_copy 129 = .ok (.iload 7, 2) := by decide +kernel
theorem d_M_copy_131 : decode b_M_copy 131 = .ok (.iadd, 1) := by decide +kernel
theorem d_M_copy_132 : decode b_M_copy 132 = .ok (.iload 8, 2) := by decide +kernel
theorem d_M_copy_134 : decode b_M_copy 134 = .ok (.iastore, 1) := by decide +kernel
theorem d_M_copy_135 : decode b_M_copy 135 = .ok (.iload 5, 2) := by decide +kernel
theorem d_M_copy_137 : decode b_M_copy 137 = .ok (.iload 8, 2) := by decide +kernel
theorem d_M_copy_139 : decode b_M_copy 139 = .ok (.iconst (-1), 1) := by decide +kernel
theorem d_M_copy_140 : decode b_M_copy 140 = .ok (.if_icmp .ne (7), 3) := by decide +kernel
theorem d_M_copy_143 : decode b_M_copy 143 = .ok (.iconst 0, 1) := by decide +kernel
theorem d_M_copy_144 : decode b_M_copy 144 = .ok (.goto (4), 3) := by decide +kernel
theorem d_M_copy_147 : decode b_M_copy 147 = .ok (.iconst 1, 1) := by decide +kernel
theorem d_M_copy_148 : decode b_M_copy 148 = .ok (.iadd, 1) := by decide +kernel
theorem d_M_copy_149 : decode b_M_copy 149 = .ok (.istore 5, 2) := by decide +kernel
theorem d_M_copy_151 : decode b_M_copy 151 = .ok (.iinc 7 (1), 3) := by decide +kernel
theorem d_M_copy_154 : decode b_M_copy 154 = .ok (.goto (-89), 3) := by decide +kernel
theorem d_M_copy_157 : decode b_M_copy 157 = .ok (.iload 5, 2) := by decide +kernel
theorem d_M_copy_159 : decode b_M_copy 159 = .ok (.ireturn, 1) := by decide +kernel
def F_M_copy_118 (rec65 : Nat → Int32 → Int32 → Int32 → Int32 → Int32 → Int32 → Int32 → AW → Option (Int32 × AW)) (a0 : Nat) (x1 : Int32) (x2 : Int32) (x3 : Int32) (x4 : Int32) (x5 : Int32) (x6 : Int32) (x7 : Int32) (s0 : Int32) (w : AW) : Option (Int32 × AW) :=
  gd (wk w a0 == 13) <|
  gd (wk w (wr w a0 7) == 100) <|
  gd (inb (((1461 : Int32) * x1) + x7) (wn w (wr w a0 7))) <|
  let w4 : AW := upI w (wr w a0 7) (Int32.toNatClampNeg (((1461 : Int32) * x1) + x7)) s0
  if s0 = (-1 : Int32) then
    let v7 : Int32 := (x5 + (0 : Int32))
    let v8 : Int32 := (x7 + (1 : Int32))
    rec65 a0 x1 x2 x3 x4 v7 x6 v8 w4
  else
    let v5 : Int32 := (x5 + (1 : Int32))
    let v6 : Int32 := (x7 + (1 : Int32))
    rec65 a0 x1 x2 x3 x4 v5 x6 v6 w4
theorem P_M_copy_118 {X : AX} {l : Launch} {G : AG} {rec65 : Nat → Int32 → Int32 → Int32 → Int32 → Int32 → Int32 → Int32 → AW → Option (Int32 × AW)} (hX : XOK X b_M_copy "RedSkyModel" 9) (hM : XM X l G { frames := 4, cells := 0, slots := 0, locals := 88 }) {o : Int32 × AW} (hR : XR X (some .int) 0 0 (some (vi o.1)) o.2) (hrec65 : ∀ (a0 : Nat) (x1 : Int32) (x2 : Int32) (x3 : Int32) (x4 : Int32) (x5 : Int32) (x6 : Int32) (x7 : Int32) (w : AW), rec65 a0 x1 x2 x3 x4 x5 x6 x7 w = some o → RJ X 9 0 0 65 [(0, vr a0), (1, vi x1), (2, vi x2), (3, vi x3), (4, vi x4), (5, vi x5), (6, vi x6), (7, vi x7)] [] w) (a0 : Nat) (x1 : Int32) (x2 : Int32) (x3 : Int32) (x4 : Int32) (x5 : Int32) (x6 : Int32) (x7 : Int32) (s0 : Int32) (w : AW) (h : F_M_copy_118 rec65 a0 x1 x2 x3 x4 x5 x6 x7 s0 w = some o) : RJ X 9 0 0 118 [(0, vr a0), (1, vi x1), (2, vi x2), (3, vi x3), (4, vi x4), (5, vi x5), (6, vi x6), (7, vi x7)] [vi s0] w := by
  unfold F_M_copy_118 at h
  refine r_istore (i := 8) hX d_M_copy_118  (by decide) ?_
  refine r_aload_n (i := 0) hX d_M_copy_120 1 rfl rfl ?_
  obtain ⟨hk1, h⟩ := gd_e h
  refine r_getR (i := 12) (f := 7) hX ci_12 (by decide) rfl fl_M_28 hk1 d_M_copy_121 ?_
  refine r_sipush (v := (1461 : Int32)) hX d_M_copy_124 rfl ?_
  refine r_iload_n (i := 1) hX d_M_copy_127 2 rfl rfl ?_
  refine r_imul hX d_M_copy_128 ?_
  refine r_iload (i := 7) hX d_M_copy_129 8  rfl ?_
  refine r_iadd hX d_M_copy_131 ?_
  refine r_iload (i := 8) hX d_M_copy_132 0  rfl ?_
  obtain ⟨hk2, h⟩ := gd_e h
  obtain ⟨hg3, h⟩ := gd_e h
  refine r_iast hX hk2 hg3 d_M_copy_134 ?_
  refine r_iload (i := 5) hX d_M_copy_135 6  rfl ?_
  refine r_iload (i := 8) hX d_M_copy_137 0  rfl ?_
  refine r_iconst (v := (-1 : Int32)) hX d_M_copy_139 rfl ?_
  refine r_icmp_ne hX d_M_copy_140 rfl h (fun h => ?_) (fun h => ?_)
  · refine r_iconst (v := (1 : Int32)) hX d_M_copy_147 rfl ?_
    refine r_iadd hX d_M_copy_148 ?_
    refine r_istore (i := 5) hX d_M_copy_149  (by decide) ?_
    refine r_iinc (i := 7) (v := (1 : Int32)) hX d_M_copy_151 8 rfl rfl (by decide) ?_
    refine r_goto hX d_M_copy_154 rfl ?_
    exact rj_sub [3, 4, 5, 6, 7, 1, 8, 0] rfl (hrec65 _ _ _ _ _ _ _ _ _ h)
  · refine r_iconst (v := (0 : Int32)) hX d_M_copy_143 rfl ?_
    refine r_goto hX d_M_copy_144 rfl ?_
    refine r_iadd hX d_M_copy_148 ?_
    refine r_istore (i := 5) hX d_M_copy_149  (by decide) ?_
    refine r_iinc (i := 7) (v := (1 : Int32)) hX d_M_copy_151 8 rfl rfl (by decide) ?_
    refine r_goto hX d_M_copy_154 rfl ?_
    exact rj_sub [3, 4, 5, 6, 7, 1, 8, 0] rfl (hrec65 _ _ _ _ _ _ _ _ _ h)
def F_M_copy_65_B (rec65 : Nat → Int32 → Int32 → Int32 → Int32 → Int32 → Int32 → Int32 → AW → Option (Int32 × AW)) (a0 : Nat) (x1 : Int32) (x2 : Int32) (x3 : Int32) (x4 : Int32) (x5 : Int32) (x6 : Int32) (x7 : Int32) (w : AW) : Option (Int32 × AW) :=
  gd (wk w a0 == 13) <|
  (F_M_yearEnd w a0 x3).bind fun r2 =>
  if r2 ≤ x7 then
    some (x5, w)
  else
    gd (wk w (wr w a0 7) == 100) <|
    gd (inb (((1461 : Int32) * x2) + x7) (wn w (wr w a0 7))) <|
    let v6 : Int32 := (wi w (wr w a0 7) (Int32.toNatClampNeg (((1461 : Int32) * x2) + x7)))
    if v6 = (-1 : Int32) then
      F_M_copy_118 rec65 a0 x1 x2 x3 x4 x5 x6 x7 v6 w
    else
      gd (decide (¬ x4 = 0)) <|
      if (irem ((x7 - x6) + (1 : Int32)) x4) = 0 then
        F_M_copy_118 rec65 a0 x1 x2 x3 x4 x5 x6 x7 ((1 : Int32) - v6) w
      else
        F_M_copy_118 rec65 a0 x1 x2 x3 x4 x5 x6 x7 v6 w
theorem P_M_copy_65_B {X : AX} {l : Launch} {G : AG} {rec65 : Nat → Int32 → Int32 → Int32 → Int32 → Int32 → Int32 → Int32 → AW → Option (Int32 × AW)} (hX : XOK X b_M_copy "RedSkyModel" 9) (hM : XM X l G { frames := 4, cells := 0, slots := 0, locals := 88 }) {o : Int32 × AW} (hR : XR X (some .int) 0 0 (some (vi o.1)) o.2) (hrec65 : ∀ (a0 : Nat) (x1 : Int32) (x2 : Int32) (x3 : Int32) (x4 : Int32) (x5 : Int32) (x6 : Int32) (x7 : Int32) (w : AW), rec65 a0 x1 x2 x3 x4 x5 x6 x7 w = some o → RJ X 9 0 0 65 [(0, vr a0), (1, vi x1), (2, vi x2), (3, vi x3), (4, vi x4), (5, vi x5), (6, vi x6), (7, vi x7)] [] w) (a0 : Nat) (x1 : Int32) (x2 : Int32) (x3 : Int32) (x4 : Int32) (x5 : Int32) (x6 : Int32) (x7 : Int32) (w : AW) (h : F_M_copy_65_B rec65 a0 x1 x2 x3 x4 x5 x6 x7 w = some o) : RJ X 9 0 0 65 [(0, vr a0), (1, vi x1), (2, vi x2), (3, vi x3), (4, vi x4), (5, vi x5), (6, vi x6), (7, vi x7)] [] w := by
  unfold F_M_copy_65_B at h
  refine r_iload (i := 7) hX d_M_copy_65 7  rfl ?_
  refine r_aload_n (i := 0) hX d_M_copy_67 0 rfl rfl ?_
  refine r_iload_n (i := 3) hX d_M_copy_68 3 rfl rfl ?_
  obtain ⟨hk1, h⟩ := gd_e h
  obtain ⟨r2, hr3, h⟩ := bd_e h
  refine r_callV1 (As := [_]) hX hM mw_M_160 (T_M_yearEnd _ _ _ hr3) (rc_of ci_12 hk1) rfl rfl ⟨Nat.le_refl _, Nat.le_refl _⟩ rfl rfl d_M_copy_69 ?_
  refine r_icmp_ge hX d_M_copy_72 rfl h (fun h => ?_) (fun h => ?_)
  · refine r_iload (i := 5) hX d_M_copy_157 5  rfl ?_
    cases h; exact r_iret hX hR d_M_copy_159
  · refine r_aload_n (i := 0) hX d_M_copy_75 0 rfl rfl ?_
    refine r_getR (i := 12) (f := 7) hX ci_12 (by decide) rfl fl_M_28 hk1 d_M_copy_76 ?_
    refine r_sipush (v := (1461 : Int32)) hX d_M_copy_79 rfl ?_
    refine r_iload_n (i := 2) hX d_M_copy_82 2 rfl rfl ?_
    refine r_imul hX d_M_copy_83 ?_
    refine r_iload (i := 7) hX d_M_copy_84 7  rfl ?_
    refine r_iadd hX d_M_copy_86 ?_
    obtain ⟨hk4, h⟩ := gd_e h
    obtain ⟨hg5, h⟩ := gd_e h
    refine r_iald hX hk4 hg5 d_M_copy_87 ?_
    refine r_istore (i := 8) hX d_M_copy_88  (by decide) ?_
    refine r_iload (i := 8) hX d_M_copy_90 0  rfl ?_
    refine r_iconst (v := (-1 : Int32)) hX d_M_copy_92 rfl ?_
    refine r_icmp_eq hX d_M_copy_93 rfl h (fun h => ?_) (fun h => ?_)
    · refine r_iload (i := 8) hX d_M_copy_116 0  rfl ?_
      exact rj_sub [1, 2, 3, 4, 5, 6, 7, 8] rfl (P_M_copy_118 hX hM hR hrec65 _ _ _ _ _ _ _ _ _ _ h)
    · refine r_iload (i := 7) hX d_M_copy_96 8  rfl ?_
      refine r_iload (i := 6) hX d_M_copy_98 7  rfl ?_
      refine r_isub hX d_M_copy_100 ?_
      refine r_iconst (v := (1 : Int32)) hX d_M_copy_101 rfl ?_
      refine r_iadd hX d_M_copy_102 ?_
      refine r_iload (i := 4) hX d_M_copy_103 5  rfl ?_
      obtain ⟨hg7, h⟩ := gd_e h
      refine r_irem hX d_M_copy_105 (of_decide_eq_true hg7) ?_
      refine r_if_ne hX d_M_copy_106 rfl h (fun h => ?_) (fun h => ?_)
      · refine r_iload (i := 8) hX d_M_copy_116 0  rfl ?_
        exact rj_sub [1, 2, 3, 4, 5, 6, 7, 8] rfl (P_M_copy_118 hX hM hR hrec65 _ _ _ _ _ _ _ _ _ _ h)
      · refine r_iconst (v := (1 : Int32)) hX d_M_copy_109 rfl ?_
        refine r_iload (i := 8) hX d_M_copy_110 0  rfl ?_
        refine r_isub hX d_M_copy_112 ?_
        refine r_goto hX d_M_copy_113 rfl ?_
        exact rj_sub [1, 2, 3, 4, 5, 6, 7, 8] rfl (P_M_copy_118 hX hM hR hrec65 _ _ _ _ _ _ _ _ _ _ h)
def F_M_copy_65 : Nat → Nat → Int32 → Int32 → Int32 → Int32 → Int32 → Int32 → Int32 → AW → Option (Int32 × AW)
  | 0 => fun _ _ _ _ _ _ _ _ _ => none
  | n + 1 => fun a0 x1 x2 x3 x4 x5 x6 x7 w => F_M_copy_65_B (F_M_copy_65 n) a0 x1 x2 x3 x4 x5 x6 x7 w
theorem P_M_copy_65 {X : AX} {l : Launch} {G : AG} (hX : XOK X b_M_copy "RedSkyModel" 9) (hM : XM X l G { frames := 4, cells := 0, slots := 0, locals := 88 }) {o : Int32 × AW} (hR : XR X (some .int) 0 0 (some (vi o.1)) o.2) (fu : Nat) : ∀ (a0 : Nat) (x1 : Int32) (x2 : Int32) (x3 : Int32) (x4 : Int32) (x5 : Int32) (x6 : Int32) (x7 : Int32) (w : AW), F_M_copy_65 fu a0 x1 x2 x3 x4 x5 x6 x7 w = some o → RJ X 9 0 0 65 [(0, vr a0), (1, vi x1), (2, vi x2), (3, vi x3), (4, vi x4), (5, vi x5), (6, vi x6), (7, vi x7)] [] w := by
  induction fu with
  | zero => intro a0 x1 x2 x3 x4 x5 x6 x7 w h; cases h
  | succ n9 ih => intro a0 x1 x2 x3 x4 x5 x6 x7 w h; exact P_M_copy_65_B hX hM hR ih _ _ _ _ _ _ _ _ _ h
def F_M_copy (a0 : Nat) (x1 : Int32) (x2 : Int32) (x3 : Int32) (x4 : Int32) (w : AW) : Option (Int32 × AW) :=
  if (F_M_isAlmanac x1) = 0 then
    some ((-101 : Int32), w)
  else
    if (F_M_isAlmanac x2) = 0 then
      some ((-101 : Int32), w)
    else
      if (F_M_in (Int32.toInt64 x3) (0 : Int64) (3 : Int64)) = 0 then
        some ((-101 : Int32), w)
      else
        if (F_M_in (Int32.toInt64 x4) (1 : Int64) (400 : Int64)) = 0 then
          some ((-102 : Int32), w)
        else
          if x1 = x2 then
            some ((-102 : Int32), w)
          else
            gd (wk w a0 == 13) <|
            (F_M_begin w a0 x3 (1 : Int32)).bind fun r2 =>
            F_M_copy_65 FUEL a0 x1 x2 x3 x4 (0 : Int32) r2 r2 w
theorem P_M_copy_0 {X : AX} {l : Launch} {G : AG} (hX : XOK X b_M_copy "RedSkyModel" 9) (hM : XM X l G { frames := 4, cells := 0, slots := 0, locals := 88 }) {o : Int32 × AW} (hR : XR X (some .int) 0 0 (some (vi o.1)) o.2) (a0 : Nat) (x1 : Int32) (x2 : Int32) (x3 : Int32) (x4 : Int32) (w : AW) (h : F_M_copy a0 x1 x2 x3 x4 w = some o) : RJ X 9 0 0 0 [(0, vr a0), (1, vi x1), (2, vi x2), (3, vi x3), (4, vi x4)] [] w := by
  unfold F_M_copy at h
  refine r_iload_n (i := 1) hX d_M_copy_0 1 rfl rfl ?_
  refine r_callS1 (As := [_]) hX hM mw_M_372 (T_M_isAlmanac _ _) rfl rfl ⟨Nat.le_refl _, Nat.le_refl _⟩ rfl rfl d_M_copy_1 ?_
  refine r_if_eq hX d_M_copy_4 rfl h (fun h => ?_) (fun h => ?_)
  · refine r_bipush (v := (-101 : Int32)) hX d_M_copy_26 rfl ?_
    cases h; exact r_iret hX hR d_M_copy_28
  · refine r_iload_n (i := 2) hX d_M_copy_7 2 rfl rfl ?_
    refine r_callS1 (As := [_]) hX hM mw_M_372 (T_M_isAlmanac _ _) rfl rfl ⟨Nat.le_refl _, Nat.le_refl _⟩ rfl rfl d_M_copy_8 ?_
    refine r_if_eq hX d_M_copy_11 rfl h (fun h => ?_) (fun h => ?_)
    · refine r_bipush (v := (-101 : Int32)) hX d_M_copy_26 rfl ?_
      cases h; exact r_iret hX hR d_M_copy_28
    · refine r_iload_n (i := 3) hX d_M_copy_14 3 rfl rfl ?_
      refine r_i2l hX d_M_copy_15 ?_
      refine r_lconst (v := (0 : Int64)) hX d_M_copy_16 rfl ?_
      refine r_ldc2 hX d_M_copy_17 cw_M_126 ?_
      refine r_callS1 (As := [_, _, _]) hX hM mw_M_122 (T_M_in _ _ _ _) rfl rfl ⟨Nat.le_refl _, Nat.le_refl _⟩ rfl rfl d_M_copy_20 ?_
      refine r_if_ne hX d_M_copy_23 rfl h (fun h => ?_) (fun h => ?_)
      · refine r_iload (i := 4) hX d_M_copy_29 4  rfl ?_
        refine r_i2l hX d_M_copy_31 ?_
        refine r_lconst (v := (1 : Int64)) hX d_M_copy_32 rfl ?_
        refine r_ldc2 hX d_M_copy_33 cw_M_377 ?_
        refine r_callS1 (As := [_, _, _]) hX hM mw_M_122 (T_M_in _ _ _ _) rfl rfl ⟨Nat.le_refl _, Nat.le_refl _⟩ rfl rfl d_M_copy_36 ?_
        refine r_if_eq hX d_M_copy_39 rfl h (fun h => ?_) (fun h => ?_)
        · refine r_bipush (v := (-102 : Int32)) hX d_M_copy_47 rfl ?_
          cases h; exact r_iret hX hR d_M_copy_49
        · refine r_iload_n (i := 1) hX d_M_copy_42 1 rfl rfl ?_
          refine r_iload_n (i := 2) hX d_M_copy_43 2 rfl rfl ?_
          refine r_icmp_ne hX d_M_copy_44 rfl h (fun h => ?_) (fun h => ?_)
          · refine r_iconst (v := (0 : Int32)) hX d_M_copy_50 rfl ?_
            refine r_istore (i := 5) hX d_M_copy_51  (by decide) ?_
            refine r_aload_n (i := 0) hX d_M_copy_53 1 rfl rfl ?_
            refine r_iload_n (i := 3) hX d_M_copy_54 4 rfl rfl ?_
            refine r_iconst (v := (1 : Int32)) hX d_M_copy_55 rfl ?_
            obtain ⟨hk1, h⟩ := gd_e h
            obtain ⟨r2, hr3, h⟩ := bd_e h
            refine r_callV1 (As := [_, _]) hX hM mw_M_110 (T_M_begin _ _ _ _ hr3) (rc_of ci_12 hk1) rfl rfl ⟨Nat.le_refl _, Nat.le_refl _⟩ rfl rfl d_M_copy_56 ?_
            refine r_istore (i := 6) hX d_M_copy_59  (by decide) ?_
            refine r_iload (i := 6) hX d_M_copy_61 0  rfl ?_
            refine r_istore (i := 7) hX d_M_copy_63  (by decide) ?_
            exact rj_sub [3, 4, 5, 6, 7, 2, 1, 0] rfl (P_M_copy_65 hX hM hR FUEL _ _ _ _ _ _ _ _ _ h)
          · refine r_bipush (v := (-102 : Int32)) hX d_M_copy_47 rfl ?_
            cases h; exact r_iret hX hR d_M_copy_49
      · refine r_bipush (v := (-101 : Int32)) hX d_M_copy_26 rfl ?_
        cases h; exact r_iret hX hR d_M_copy_28
theorem T_M_copy {l : Launch} {G : AG} (a0 : Nat) (x1 : Int32) (x2 : Int32) (x3 : Int32) (x4 : Int32) (w : AW) {o : Int32 × AW} (h : F_M_copy a0 x1 x2 x3 x4 w = some o) : Mt l G y_M_copy b_M_copy 9 (some (.int)) 4 88 0 0 [vr a0, vi x1, vi x2, vi x3, vi x4] w (some (vi o.1)) o.2 := mt_of (by decide) (Nat.le_of_ble_eq_true rfl) (fun X hX hR hM hI => P_M_copy_0 hX hM hR _ _ _ _ _ _ h)
/-! RedSky.foretell(III)I -/
theorem d_A_foretell_0 : decode b_A_foretell 0 = .ok (.aload_n 0, 1) := by decide +kernel
theorem d_A_foretell_1 : decode b_A_foretell 1 = .ok (.iload_n 1, 1) := by decide +kernel
theorem d_A_foretell_2 : decode b_A_foretell 2 = .ok (.invokevirtual 295, 3) := by decide +kernel
theorem d_A_foretell_5 : decode b_A_foretell 5 = .ok (.astore 4, 2) := by decide +kernel
theorem d_A_foretell_7 : decode b_A_foretell 7 = .ok (.aload 4, 2) := by decide +kernel
theorem d_A_foretell_9 : decode b_A_foretell 9 = .ok (.ifnull (10), 3) := by decide +kernel
theorem d_A_foretell_12 : decode b_A_foretell 12 = .ok (.iload_n 2, 1) := by decide +kernel
theorem d_A_foretell_13 : decode b_A_foretell 13 = .ok (.invokestatic 111, 3) := by decide +kernel
theorem d_A_foretell_16 : decode b_A_foretell 16 = .ok (.ifCond .ne (6), 3) := by decide +kernel
theorem d_A_foretell_19 : decode b_A_foretell 19 = .ok (.bipush (-101), 2) := by decide +kernel
theorem d_A_foretell_21 : decode b_A_foretell 21 = .ok (.ireturn, 1) := by decide +kernel
theorem d_A_foretell_22 : decode b_A_foretell 22 = .ok (.iload_n 3, 1) := by decide +kernel
theorem d_A_foretell_23 : decode b_A_foretell 23 = .ok (.iconst (-1), 1) := by decide +kernel
theorem d_A_foretell_24 : decode b_A_foretell 24 = .ok (.iconst 1, 1) := by decide +kernel
theorem d_A_foretell_25 : decode b_A_foretell 25 = .ok (.invokestatic 86, 3) := by decide +kernel
theorem d_A_foretell_28 : decode b_A_foretell 28 = .ok (.ifCond .ne (6), 3) := by decide +kernel
theorem d_A_foretell_31 : decode b_A_foretell 31 = .ok (.bipush (-102), 2) := by decide +kernel
theorem d_A_foretell_33 : decode b_A_foretell 33 = .ok (.ireturn, 1) := by decide +kernel
theorem d_A_foretell_34 : decode b_A_foretell 34 = .ok (.aload 4, 2) := by decide +kernel
theorem d_A_foretell_36 : decode b_A_foretell 36 = .ok (.iload_n 2, 1) := by decide +kernel
theorem d_A_foretell_37 : decode b_A_foretell 37 = .ok (.invokevirtual 309, 3) := by decide +kernel
theorem d_A_foretell_40 : decode b_A_foretell 40 = .ok (.istore 5, 2) := by decide +kernel
theorem d_A_foretell_42 : decode b_A_foretell 42 = .ok (.aload 4, 2) := by decide +kernel
theorem d_A_foretell_44 : decode b_A_foretell 44 = .ok (.iload_n 2, 1) := by decide +kernel
theorem d_A_foretell_45 : decode b_A_foretell 45 = .ok (.iload_n 3, 1) := by decide +kernel
theorem d_A_foretell_46 : decode b_A_foretell 46 = .ok (.invokevirtual 312, 3) := by decide +kernel
theorem d_A_foretell_49 : decode b_A_foretell 49 = .ok (.iload 5, 2) := by decide +kernel
theorem d_A_foretell_51 : decode b_A_foretell 51 = .ok (.ireturn, 1) := by decide +kernel
def F_A_foretell (a0 : Nat) (x1 : Int32) (x2 : Int32) (x3 : Int32) (w : AW) : Option (Int32 × AW) :=
  gd (wk w a0 == 1) <|
  (F_A_almanacOf w a0 x1).bind fun r2 =>
  if r2 = 0 then
    some ((-101 : Int32), w)
  else
    if (F_A_isDay x2) = 0 then
      some ((-101 : Int32), w)
    else
      if (F_A_within x3 (-1 : Int32) (1 : Int32)) = 0 then
        some ((-102 : Int32), w)
      else
        gd (wk w r2 == 11) <|
        (F_Al_foretoldFor w r2 x2).bind fun r5 =>
        (F_Al_put r2 x2 x3 w).bind fun r7 =>
        some (r5, r7)
theorem P_A_foretell_0 {X : AX} {l : Launch} {G : AG} (hX : XOK X b_A_foretell "RedSky" 6) (hM : XM X l G { frames := 2, cells := 0, slots := 0, locals := 43 }) {o : Int32 × AW} (hR : XR X (some .int) 0 0 (some (vi o.1)) o.2) (a0 : Nat) (x1 : Int32) (x2 : Int32) (x3 : Int32) (w : AW) (h : F_A_foretell a0 x1 x2 x3 w = some o) : RJ X 6 0 0 0 [(0, vr a0), (1, vi x1), (2, vi x2), (3, vi x3)] [] w := by
  unfold F_A_foretell at h
  refine r_aload_n (i := 0) hX d_A_foretell_0 0 rfl rfl ?_
  refine r_iload_n (i := 1) hX d_A_foretell_1 1 rfl rfl ?_
  obtain ⟨hk1, h⟩ := gd_e h
  obtain ⟨r2, hr3, h⟩ := bd_e h
  refine r_callV1 (As := [_]) hX hM mw_A_295 (T_A_almanacOf _ _ _ hr3) (rc_of ci_0 hk1) rfl rfl ⟨Nat.le_refl _, Nat.le_refl _⟩ rfl rfl d_A_foretell_2 ?_
  refine r_astore (i := 4) hX d_A_foretell_5  (by decide) ?_
  refine r_aload (i := 4) hX d_A_foretell_7 0  rfl ?_
  refine r_ifnull hX d_A_foretell_9 rfl h (fun h => ?_) (fun h => ?_)
  · refine r_bipush (v := (-101 : Int32)) hX d_A_foretell_19 rfl ?_
    cases h; exact r_iret hX hR d_A_foretell_21
  · refine r_iload_n (i := 2) hX d_A_foretell_12 3 rfl rfl ?_
    refine r_callS1 (As := [_]) hX hM mw_A_111 (T_A_isDay _ _) rfl rfl ⟨Nat.le_refl _, Nat.le_refl _⟩ rfl rfl d_A_foretell_13 ?_
    refine r_if_ne hX d_A_foretell_16 rfl h (fun h => ?_) (fun h => ?_)
    · refine r_iload_n (i := 3) hX d_A_foretell_22 4 rfl rfl ?_
      refine r_iconst (v := (-1 : Int32)) hX d_A_foretell_23 rfl ?_
      refine r_iconst (v := (1 : Int32)) hX d_A_foretell_24 rfl ?_
      refine r_callS1 (As := [_, _, _]) hX hM mw_A_86 (T_A_within _ _ _ _) rfl rfl ⟨Nat.le_refl _, Nat.le_refl _⟩ rfl rfl d_A_foretell_25 ?_
      refine r_if_ne hX d_A_foretell_28 rfl h (fun h => ?_) (fun h => ?_)
      · refine r_aload (i := 4) hX d_A_foretell_34 0  rfl ?_
        refine r_iload_n (i := 2) hX d_A_foretell_36 3 rfl rfl ?_
        obtain ⟨hk4, h⟩ := gd_e h
        obtain ⟨r5, hr6, h⟩ := bd_e h
        refine r_callV1 (As := [_]) hX hM mw_A_309 (T_Al_foretoldFor _ _ _ hr6) (rc_of ci_10 hk4) rfl rfl ⟨Nat.le_refl _, Nat.le_refl _⟩ rfl rfl d_A_foretell_37 ?_
        refine r_istore (i := 5) hX d_A_foretell_40  (by decide) ?_
        refine r_aload (i := 4) hX d_A_foretell_42 1  rfl ?_
        refine r_iload_n (i := 2) hX d_A_foretell_44 4 rfl rfl ?_
        refine r_iload_n (i := 3) hX d_A_foretell_45 5 rfl rfl ?_
        obtain ⟨r7, hr8, h⟩ := bd_e h
        refine r_callV0 (As := [_, _]) hX hM mw_A_312 (T_Al_put _ _ _ _ hr8) (rc_of ci_10 hk4) rfl rfl ⟨Nat.le_refl _, Nat.le_refl _⟩ rfl rfl d_A_foretell_46 ?_
        refine r_iload (i := 5) hX d_A_foretell_49 0  rfl ?_
        cases h; exact r_iret hX hR d_A_foretell_51
      · refine r_bipush (v := (-102 : Int32)) hX d_A_foretell_31 rfl ?_
        cases h; exact r_iret hX hR d_A_foretell_33
    · refine r_bipush (v := (-101 : Int32)) hX d_A_foretell_19 rfl ?_
      cases h; exact r_iret hX hR d_A_foretell_21
theorem T_A_foretell {l : Launch} {G : AG} (a0 : Nat) (x1 : Int32) (x2 : Int32) (x3 : Int32) (w : AW) {o : Int32 × AW} (h : F_A_foretell a0 x1 x2 x3 w = some o) : Mt l G y_A_foretell b_A_foretell 6 (some (.int)) 2 43 0 0 [vr a0, vi x1, vi x2, vi x3] w (some (vi o.1)) o.2 := mt_of (by decide) (Nat.le_of_ble_eq_true rfl) (fun X hX hR hM hI => P_A_foretell_0 hX hM hR _ _ _ _ _ h)
/-! RedSkyModel.foretell(III)I -/
theorem d_M_foretell_0 : decode b_M_foretell 0 = .ok (.iload_n 1, 1) := by decide +kernel
theorem d_M_foretell_1 : decode b_M_foretell 1 = .ok (.invokestatic 372, 3) := by decide +kernel
theorem d_M_foretell_4 : decode b_M_foretell 4 = .ok (.ifCond .eq (10), 3) := by decide +kernel
theorem d_M_foretell_7 : decode b_M_foretell 7 = .ok (.iload_n 2, 1) := by decide +kernel
theorem d_M_foretell_8 : decode b_M_foretell 8 = .ok (.invokestatic 136, 3) := by decide +kernel
theorem d_M_foretell_11 : decode b_M_foretell 11 = .ok (.ifCond .ne (6), 3) := by decide +kernel
theorem d_M_foretell_14 : decode b_M_foretell 14 = .ok (.bipush (-101), 2) := by decide +kernel
theorem d_M_foretell_16 : decode b_M_foretell 16 = .ok (.ireturn, 1) := by decide +kernel
theorem d_M_foretell_17 : decode b_M_foretell 17 = .ok (.iload_n 3, 1) := by decide +kernel
theorem d_M_foretell_18 : decode b_M_foretell 18 = .ok (.i2l, 1) := by decide +kernel
theorem d_M_foretell_19 : decode b_M_foretell 19 = .ok (.ldc2_w 379, 3) := by decide +kernel
theorem d_M_foretell_22 : decode b_M_foretell 22 = .ok (.lconst 1, 1) := by decide +kernel
theorem d_M_foretell_23 : decode b_M_foretell 23 = .ok (.invokestatic 122, 3) := by decide +kernel
theorem d_M_foretell_26 : decode b_M_foretell 26 = .ok (.ifCond .ne (6), 3) := by decide +kernel
theorem d_M_foretell_29 : decode b_M_foretell 29 = .ok (.bipush (-102), 2) := by decide +kernel
theorem d_M_foretell_31 : decode b_M_foretell 31 = .ok (.ireturn, 1) := by decide +kernel
theorem d_M_foretell_32 : decode b_M_foretell 32 = .ok (.aload_n 0, 1) := by decide +kernel
theorem d_M_foretell_33 : decode b_M_foretell 33 = .ok (.getfield 28, 3) := by decide +kernel
theorem d_M_foretell_36 : decode b_M_foretell 36 = .ok (.sipush (1461), 3) := by decide +kernel
theorem d_M_foretell_39 : decode b_M_foretell 39 = .ok (.iload_n 1, 1) := by decide +kernel
theorem d_M_foretell_40 : decode b_M_foretell 40 = .ok (.imul, 1) := by decide +kernel
theorem d_M_foretell_41 : decode b_M_foretell 41 = .ok (.iload_n 2, 1) := by decide +kernel
theorem d_M_foretell_42 : decode b_M_foretell 42 = .ok (.iadd, 1) := by decide +kernel
theorem d_M_foretell_43 : decode b_M_foretell 43 = .ok (.iaload, 1) := by decide +kernel
theorem d_M_foretell_44 : decode b_M_foretell 44 = .ok (.istore 4, 2) := by decide +kernel
theorem d_M_foretell_46 : decode b_M_foretell 46 = .ok (.aload_n 0, 1) := by decide +kernel
theorem d_M_foretell_47 : decode b_M_foretell 47 = .ok (.getfield 28, 3) := by decide +kernel
theorem d_M_foretell_50 : decode b_M_foretell 50 = .ok (.sipush (1461), 3) := by decide +kernel
theorem d_M_foretell_53 : decode b_M_foretell 53 = .ok (.iload_n 1, 1) := by decide +kernel
theorem d_M_foretell_54 : decode b_M_foretell 54 = .ok (.imul, 1) := by decide +kernel
theorem d_M_foretell_55 : decode b_M_foretell 55 = .ok (.iload_n 2, 1) := by decide +kernel
theorem d_M_foretell_56 : decode b_M_foretell 56 = .ok (.iadd, 1) := by decide +kernel
theorem d_M_foretell_57 : decode b_M_foretell 57 = .ok (.iload_n 3, 1) := by decide +kernel
theorem d_M_foretell_58 : decode b_M_foretell 58 = .ok (.iastore, 1) := by decide +kernel
theorem d_M_foretell_59 : decode b_M_foretell 59 = .ok (.iload 4, 2) := by decide +kernel
theorem d_M_foretell_61 : decode b_M_foretell 61 = .ok (.ireturn, 1) := by decide +kernel
def F_M_foretell (a0 : Nat) (x1 : Int32) (x2 : Int32) (x3 : Int32) (w : AW) : Option (Int32 × AW) :=
  if (F_M_isAlmanac x1) = 0 then
    some ((-101 : Int32), w)
  else
    if (F_M_isDay x2) = 0 then
      some ((-101 : Int32), w)
    else
      if (F_M_in (Int32.toInt64 x3) (-1 : Int64) (1 : Int64)) = 0 then
        some ((-102 : Int32), w)
      else
        gd (wk w a0 == 13) <|
        gd (wk w (wr w a0 7) == 100) <|
        gd (inb (((1461 : Int32) * x1) + x2) (wn w (wr w a0 7))) <|
        let v4 : Int32 := (wi w (wr w a0 7) (Int32.toNatClampNeg (((1461 : Int32) * x1) + x2)))
        gd (inb (((1461 : Int32) * x1) + x2) (wn w (wr w a0 7))) <|
        let w6 : AW := upI w (wr w a0 7) (Int32.toNatClampNeg (((1461 : Int32) * x1) + x2)) x3
        some (v4, w6)
theorem P_M_foretell_0 {X : AX} {l : Launch} {G : AG} (hX : XOK X b_M_foretell "RedSkyModel" 5) (hM : XM X l G { frames := 2, cells := 0, slots := 0, locals := 45 }) {o : Int32 × AW} (hR : XR X (some .int) 0 0 (some (vi o.1)) o.2) (a0 : Nat) (x1 : Int32) (x2 : Int32) (x3 : Int32) (w : AW) (h : F_M_foretell a0 x1 x2 x3 w = some o) : RJ X 5 0 0 0 [(0, vr a0), (1, vi x1), (2, vi x2), (3, vi x3)] [] w := by
  unfold F_M_foretell at h
  refine r_iload_n (i := 1) hX d_M_foretell_0 1 rfl rfl ?_
  refine r_callS1 (As := [_]) hX hM mw_M_372 (T_M_isAlmanac _ _) rfl rfl ⟨Nat.le_refl _, Nat.le_refl _⟩ rfl rfl d_M_foretell_1 ?_
  refine r_if_eq hX d_M_foretell_4 rfl h (fun h => ?_) (fun h => ?_)
  · refine r_bipush (v := (-101 : Int32)) hX d_M_foretell_14 rfl ?_
    cases h; exact r_iret hX hR d_M_foretell_16
  · refine r_iload_n (i := 2) hX d_M_foretell_7 2 rfl rfl ?_
    refine r_callS1 (As := [_]) hX hM mw_M_136 (T_M_isDay _ _) rfl rfl ⟨Nat.le_refl _, Nat.le_refl _⟩ rfl rfl d_M_foretell_8 ?_
    refine r_if_ne hX d_M_foretell_11 rfl h (fun h => ?_) (fun h => ?_)
    · refine r_iload_n (i := 3) hX d_M_foretell_17 3 rfl rfl ?_
      refine r_i2l hX d_M_foretell_18 ?_
      refine r_ldc2 hX d_M_foretell_19 cw_M_379 ?_
      refine r_lconst (v := (1 : Int64)) hX d_M_foretell_22 rfl ?_
      refine r_callS1 (As := [_, _, _]) hX hM mw_M_122 (T_M_in _ _ _ _) rfl rfl ⟨Nat.le_refl _, Nat.le_refl _⟩ rfl rfl d_M_foretell_23 ?_
      refine r_if_ne hX d_M_foretell_26 rfl h (fun h => ?_) (fun h => ?_)
      · refine r_aload_n (i := 0) hX d_M_foretell_32 0 rfl rfl ?_
        obtain ⟨hk1, h⟩ := gd_e h
        refine r_getR (i := 12) (f := 7) hX ci_12 (by decide) rfl fl_M_28 hk1 d_M_foretell_33 ?_
        refine r_sipush (v := (1461 : Int32)) hX d_M_foretell_36 rfl ?_
        refine r_iload_n (i := 1) hX d_M_foretell_39 1 rfl rfl ?_
        refine r_imul hX d_M_foretell_40 ?_
        refine r_iload_n (i := 2) hX d_M_foretell_41 2 rfl rfl ?_
        refine r_iadd hX d_M_foretell_42 ?_
        obtain ⟨hk2, h⟩ := gd_e h
        obtain ⟨hg3, h⟩ := gd_e h
        refine r_iald hX hk2 hg3 d_M_foretell_43 ?_
        refine r_istore (i := 4) hX d_M_foretell_44  (by decide) ?_
        refine r_aload_n (i := 0) hX d_M_foretell_46 1 rfl rfl ?_
        refine r_getR (i := 12) (f := 7) hX ci_12 (by decide) rfl fl_M_28 hk1 d_M_foretell_47 ?_
        refine r_sipush (v := (1461 : Int32)) hX d_M_foretell_50 rfl ?_
        refine r_iload_n (i := 1) hX d_M_foretell_53 2 rfl rfl ?_
        refine r_imul hX d_M_foretell_54 ?_
        refine r_iload_n (i := 2) hX d_M_foretell_55 3 rfl rfl ?_
        refine r_iadd hX d_M_foretell_56 ?_
        refine r_iload_n (i := 3) hX d_M_foretell_57 4 rfl rfl ?_
        obtain ⟨hg5, h⟩ := gd_e h
        refine r_iast hX hk2 hg5 d_M_foretell_58 ?_
        refine r_iload (i := 4) hX d_M_foretell_59 0  rfl ?_
        cases h; exact r_iret hX hR d_M_foretell_61
      · refine r_bipush (v := (-102 : Int32)) hX d_M_foretell_29 rfl ?_
        cases h; exact r_iret hX hR d_M_foretell_31
    · refine r_bipush (v := (-101 : Int32)) hX d_M_foretell_14 rfl ?_
      cases h; exact r_iret hX hR d_M_foretell_16
theorem T_M_foretell {l : Launch} {G : AG} (a0 : Nat) (x1 : Int32) (x2 : Int32) (x3 : Int32) (w : AW) {o : Int32 × AW} (h : F_M_foretell a0 x1 x2 x3 w = some o) : Mt l G y_M_foretell b_M_foretell 5 (some (.int)) 2 45 0 0 [vr a0, vi x1, vi x2, vi x3] w (some (vi o.1)) o.2 := mt_of (by decide) (Nat.le_of_ble_eq_true rfl) (fun X hX hR hM hI => P_M_foretell_0 hX hM hR _ _ _ _ _ h)
/-! RedSky$Likeness.readRain(LRedSky$Diary;)V -/
theorem d_Li_readRain_0 : decode b_Li_readRain 0 = .ok (.aload_n 1, 1) := by decide +kernel
theorem d_Li_readRain_1 : decode b_Li_readRain 1 = .ok (.iconst 4, 1) := by decide +kernel
theorem d_Li_readRain_2 : decode b_Li_readRain 2 = .ok (.aload_n 0, 1) := by decide +kernel
theorem d_Li_readRain_3 : decode b_Li_readRain 3 = .ok (.getfield 27, 3) := by decide +kernel
theorem d_Li_readRain_6 : decode b_Li_readRain 6 = .ok (.invokevirtual 43, 3) := by decide +kernel
theorem d_Li_readRain_9 : decode b_Li_readRain 9 = .ok (.aload_n 1, 1) := by decide +kernel
theorem d_Li_readRain_10 : decode b_Li_readRain 10 = .ok (.iconst 2, 1) := by decide +kernel
theorem d_Li_readRain_11 : decode b_Li_readRain 11 = .ok (.iconst 1, 1) := by decide +kernel
theorem d_Li_readRain_12 : decode b_Li_readRain 12 = .ok (.iconst 0, 1) := by decide +kernel
theorem d_Li_readRain_13 : decode b_Li_readRain 13 = .ok (.aload_n 0, 1) := by decide +kernel
theorem d_Li_readRain_14 : decode b_Li_readRain 14 = .ok (.getfield 31, 3) := by decide +kernel
theorem d_Li_readRain_17 : decode b_Li_readRain 17 = .ok (.invokevirtual 49, 3) := by decide +kernel
theorem d_Li_readRain_20 : decode b_Li_readRain 20 = .ok (.return_, 1) := by decide +kernel
def F_Li_readRain (a0 : Nat) (a1 : Nat) (w : AW) : Option (AW) :=
  gd (wk w a0 == 12) <|
  gd (wk w a1 == 3) <|
  (F_Di_findKnown a1 (4 : Int32) (wr w a0 4) w).bind fun r3 =>
  gd (wk r3 a0 == 12) <|
  gd (wk r3 a1 == 3) <|
  (F_Di_findCompared a1 (2 : Int32) (1 : Int32) (0 : Int32) (wr r3 a0 5) r3).bind fun r7 =>
  some r7
theorem P_Li_readRain_0 {X : AX} {l : Launch} {G : AG} (hX : XOK X b_Li_readRain "RedSky$Likeness" 2) (hM : XM X l G { frames := 4, cells := 0, slots := 0, locals := 89 }) {o : AW} (hR : XR X none 0 0 none o) (a0 : Nat) (a1 : Nat) (w : AW) (h : F_Li_readRain a0 a1 w = some o) : RJ X 2 0 0 0 [(0, vr a0), (1, vr a1)] [] w := by
  unfold F_Li_readRain at h
  refine r_aload_n (i := 1) hX d_Li_readRain_0 1 rfl rfl ?_
  refine r_iconst (v := (4 : Int32)) hX d_Li_readRain_1 rfl ?_
  refine r_aload_n (i := 0) hX d_Li_readRain_2 0 rfl rfl ?_
  obtain ⟨hk1, h⟩ := gd_e h
  refine r_getR (i := 11) (f := 4) hX ci_11 (by decide) rfl fl_Li_27 hk1 d_Li_readRain_3 ?_
  obtain ⟨hk2, h⟩ := gd_e h
  obtain ⟨r3, hr4, h⟩ := bd_e h
  refine r_callV0 (As := [_, _]) hX hM mw_Li_43 (T_Di_findKnown _ _ _ _ hr4) (rc_of ci_2 hk2) rfl rfl ⟨Nat.le_refl _, Nat.le_refl _⟩ rfl rfl d_Li_readRain_6 ?_
  refine r_aload_n (i := 1) hX d_Li_readRain_9 1 rfl rfl ?_
  refine r_iconst (v := (2 : Int32)) hX d_Li_readRain_10 rfl ?_
  refine r_iconst (v := (1 : Int32)) hX d_Li_readRain_11 rfl ?_
  refine r_iconst (v := (0 : Int32)) hX d_Li_readRain_12 rfl ?_
  refine r_aload_n (i := 0) hX d_Li_readRain_13 0 rfl rfl ?_
  obtain ⟨hk5, h⟩ := gd_e h
  refine r_getR (i := 11) (f := 5) hX ci_11 (by decide) rfl fl_Li_31 hk5 d_Li_readRain_14 ?_
  obtain ⟨hk6, h⟩ := gd_e h
  obtain ⟨r7, hr8, h⟩ := bd_e h
  refine r_callV0 (As := [_, _, _, _]) hX hM mw_Li_49 (T_Di_findCompared _ _ _ _ _ _ hr8) (rc_of ci_2 hk6) rfl rfl ⟨Nat.le_refl _, Nat.le_refl _⟩ rfl rfl d_Li_readRain_17 ?_
  cases h; exact r_vret hX hR d_Li_readRain_20
theorem T_Li_readRain {l : Launch} {G : AG} (a0 : Nat) (a1 : Nat) (w : AW) {o : AW} (h : F_Li_readRain a0 a1 w = some o) : Mt l G y_Li_readRain b_Li_readRain 2 none 4 89 0 0 [vr a0, vr a1] w none o := mt_of (by decide) (Nat.le_of_ble_eq_true rfl) (fun X hX hR hM hI => P_Li_readRain_0 hX hM hR _ _ _ h)
/-! RedSky$Likeness.findWrong(LRedSky$Almanac;LRedSky$Days;)V -/
theorem d_Li_findWrong_0 : decode b_Li_findWrong 0 = .ok (.aload_n 2, 1) := by decide +kernel
theorem d_Li_findWrong_1 : decode b_Li_findWrong 1 = .ok (.aload_n 1, 1) := by decide +kernel
theorem d_Li_findWrong_2 : decode b_Li_findWrong 2 = .ok (.getfield 77, 3) := by decide +kernel
theorem d_Li_findWrong_5 : decode b_Li_findWrong 5 = .ok (.invokevirtual 53, 3) := by decide +kernel
theorem d_Li_findWrong_8 : decode b_Li_findWrong 8 = .ok (.aload_n 2, 1) := by decide +kernel
theorem d_Li_findWrong_9 : decode b_Li_findWrong 9 = .ok (.aload_n 0, 1) := by decide +kernel
theorem d_Li_findWrong_10 : decode b_Li_findWrong 10 = .ok (.getfield 31, 3) := by decide +kernel
theorem d_Li_findWrong_13 : decode b_Li_findWrong 13 = .ok (.invokevirtual 80, 3) := by decide +kernel
theorem d_Li_findWrong_16 : decode b_Li_findWrong 16 = .ok (.aload_n 2, 1) := by decide +kernel
theorem d_Li_findWrong_17 : decode b_Li_findWrong 17 = .ok (.aload_n 0, 1) := by decide +kernel
theorem d_Li_findWrong_18 : decode b_Li_findWrong 18 = .ok (.getfield 34, 3) := by decide +kernel
theorem d_Li_findWrong_21 : decode b_Li_findWrong 21 = .ok (.invokevirtual 62, 3) := by decide +kernel
theorem d_Li_findWrong_24 : decode b_Li_findWrong 24 = .ok (.return_, 1) := by decide +kernel
def F_Li_findWrong (a0 : Nat) (a1 : Nat) (a2 : Nat) (w : AW) : Option (AW) :=
  gd (wk w a1 == 11) <|
  gd (wk w a2 == 8) <|
  (F_Dy_take a2 (wr w a1 2) w).bind fun r3 =>
  gd (wk r3 a0 == 12) <|
  gd (wk r3 a2 == 8) <|
  (F_Dy_differ a2 (wr r3 a0 5) r3).bind fun r7 =>
  gd (wk r7 a0 == 12) <|
  gd (wk r7 a2 == 8) <|
  (F_Dy_meet a2 (wr r7 a0 6) r7).bind fun r11 =>
  some r11
theorem P_Li_findWrong_0 {X : AX} {l : Launch} {G : AG} (hX : XOK X b_Li_findWrong "RedSky$Likeness" 3) (hM : XM X l G { frames := 2, cells := 0, slots := 0, locals := 61 }) {o : AW} (hR : XR X none 0 0 none o) (a0 : Nat) (a1 : Nat) (a2 : Nat) (w : AW) (h : F_Li_findWrong a0 a1 a2 w = some o) : RJ X 3 0 0 0 [(0, vr a0), (1, vr a1), (2, vr a2)] [] w := by
  unfold F_Li_findWrong at h
  refine r_aload_n (i := 2) hX d_Li_findWrong_0 2 rfl rfl ?_
  refine r_aload_n (i := 1) hX d_Li_findWrong_1 1 rfl rfl ?_
  obtain ⟨hk1, h⟩ := gd_e h
  refine r_getR (i := 10) (f := 2) hX ci_10 (by decide) rfl fl_Li_77 hk1 d_Li_findWrong_2 ?_
  obtain ⟨hk2, h⟩ := gd_e h
  obtain ⟨r3, hr4, h⟩ := bd_e h
  refine r_callV0 (As := [_]) hX hM mw_Li_53 (T_Dy_take _ _ _ hr4) (rc_of ci_7 hk2) rfl rfl ⟨Nat.le_refl _, Nat.le_refl _⟩ rfl rfl d_Li_findWrong_5 ?_
  refine r_aload_n (i := 2) hX d_Li_findWrong_8 2 rfl rfl ?_
  refine r_aload_n (i := 0) hX d_Li_findWrong_9 0 rfl rfl ?_
  obtain ⟨hk5, h⟩ := gd_e h
  refine r_getR (i := 11) (f := 5) hX ci_11 (by decide) rfl fl_Li_31 hk5 d_Li_findWrong_10 ?_
  obtain ⟨hk6, h⟩ := gd_e h
  obtain ⟨r7, hr8, h⟩ := bd_e h
  refine r_callV0 (As := [_]) hX hM mw_Li_80 (T_Dy_differ _ _ _ hr8) (rc_of ci_7 hk6) rfl rfl ⟨Nat.le_refl _, Nat.le_refl _⟩ rfl rfl d_Li_findWrong_13 ?_
  refine r_aload_n (i := 2) hX d_Li_findWrong_16 2 rfl rfl ?_
  refine r_aload_n (i := 0) hX d_Li_findWrong_17 0 rfl rfl ?_
  obtain ⟨hk9, h⟩ := gd_e h
  refine r_getR (i := 11) (f := 6) hX ci_11 (by decide) rfl fl_Li_34 hk9 d_Li_findWrong_18 ?_
  obtain ⟨hk10, h⟩ := gd_e h
  obtain ⟨r11, hr12, h⟩ := bd_e h
  refine r_callV0 (As := [_]) hX hM mw_Li_62 (T_Dy_meet _ _ _ hr12) (rc_of ci_7 hk10) rfl rfl ⟨Nat.le_refl _, Nat.le_refl _⟩ rfl rfl d_Li_findWrong_21 ?_
  cases h; exact r_vret hX hR d_Li_findWrong_24
theorem T_Li_findWrong {l : Launch} {G : AG} (a0 : Nat) (a1 : Nat) (a2 : Nat) (w : AW) {o : AW} (h : F_Li_findWrong a0 a1 a2 w = some o) : Mt l G y_Li_findWrong b_Li_findWrong 3 none 2 61 0 0 [vr a0, vr a1, vr a2] w none o := mt_of (by decide) (Nat.le_of_ble_eq_true rfl) (fun X hX hR hM hI => P_Li_findWrong_0 hX hM hR _ _ _ _ h)
/-! RedSky$Likeness.compare(LRedSky$Almanac;LRedSky$Almanac;)V -/
theorem d_Li_compare_0 : decode b_Li_compare 0 = .ok (.aload_n 0, 1) := by decide +kernel
theorem d_Li_compare_1 : decode b_Li_compare 1 = .ok (.getfield 34, 3) := by decide +kernel
theorem d_Li_compare_4 : decode b_Li_compare 4 = .ok (.aload_n 0, 1) := by decide +kernel
theorem d_Li_compare_5 : decode b_Li_compare 5 = .ok (.getfield 27, 3) := by decide +kernel
theorem d_Li_compare_8 : decode b_Li_compare 8 = .ok (.invokevirtual 53, 3) := by decide +kernel
theorem d_Li_compare_11 : decode b_Li_compare 11 = .ok (.aload_n 0, 1) := by decide +kernel
theorem d_Li_compare_12 : decode b_Li_compare 12 = .ok (.getfield 34, 3) := by decide +kernel
theorem d_Li_compare_15 : decode b_Li_compare 15 = .ok (.aload_n 1, 1) := by decide +kernel
theorem d_Li_compare_16 : decode b_Li_compare 16 = .ok (.getfield 57, 3) := by decide +kernel
theorem d_Li_compare_19 : decode b_Li_compare 19 = .ok (.invokevirtual 62, 3) := by decide +kernel
theorem d_Li_compare_22 : decode b_Li_compare 22 = .ok (.aload_n 0, 1) := by decide +kernel
theorem d_Li_compare_23 : decode b_Li_compare 23 = .ok (.getfield 34, 3) := by decide +kernel
theorem d_Li_compare_26 : decode b_Li_compare 26 = .ok (.aload_n 2, 1) := by decide +kernel
theorem d_Li_compare_27 : decode b_Li_compare 27 = .ok (.getfield 57, 3) := by decide +kernel
theorem d_Li_compare_30 : decode b_Li_compare 30 = .ok (.invokevirtual 62, 3) := by decide +kernel
theorem d_Li_compare_33 : decode b_Li_compare 33 = .ok (.aload_n 0, 1) := by decide +kernel
theorem d_Li_compare_34 : decode b_Li_compare 34 = .ok (.aload_n 1, 1) := by decide +kernel
theorem d_Li_compare_35 : decode b_Li_compare 35 = .ok (.aload_n 0, 1) := by decide +kernel
theorem d_Li_compare_36 : decode b_Li_compare 36 = .ok (.getfield 37, 3) := by decide +kernel
theorem d_Li_compare_39 : decode b_Li_compare 39 = .ok (.invokevirtual 65, 3) := by decide +kernel
theorem d_Li_compare_42 : decode b_Li_compare 42 = .ok (.aload_n 0, 1) := by decide +kernel
theorem d_Li_compare_43 : decode b_Li_compare 43 = .ok (.aload_n 2, 1) := by decide +kernel
theorem d_Li_compare_44 : decode b_Li_compare 44 = .ok (.aload_n 0, 1) := by decide +kernel
theorem d_Li_compare_45 : decode b_Li_compare 45 = .ok (.getfield 40, 3) := by decide +kernel
theorem d_Li_compare_48 : decode b_Li_compare 48 = .ok (.invokevirtual 65, 3) := by decide +kernel
theorem d_Li_compare_51 : decode b_Li_compare 51 = .ok (.aload_n 0, 1) := by decide +kernel
theorem d_Li_compare_52 : decode b_Li_compare 52 = .ok (.aload_n 0, 1) := by decide +kernel
theorem d_Li_compare_53 : decode b_Li_compare 53 = .ok (.getfield 34, 3) := by decide +kernel
theorem d_Li_compare_56 : decode b_Li_compare 56 = .ok (.invokevirtual 69, 3) := by decide +kernel
theorem d_Li_compare_59 : decode b_Li_compare 59 = .ok (.putfield 9, 3) := by decide +kernel
theorem d_Li_compare_62 : decode b_Li_compare 62 = .ok (.aload_n 0, 1) := by decide +kernel
theorem d_Li_compare_63 : decode b_Li_compare 63 = .ok (.aload_n 0, 1) := by decide +kernel
theorem d_Li_compare_64 : decode b_Li_compare 64 = .ok (.getfield 37, 3) := by decide +kernel
theorem d_Li_compare_67 : decode b_Li_compare 67 = .ok (.aload_n 0, 1) := by decide +kernel
theorem d_Li_compare_68 : decode b_Li_compare 68 = .ok (.getfield 40, 3) := by decide +kernel
theorem d_Li_compare_71 : decode b_Li_compare 71 = .ok (.invokevirtual 73, 3) := by decide +kernel
theorem d_Li_compare_74 : decode b_Li_compare 74 = .ok (.putfield 15, 3) := by decide +kernel
theorem d_Li_compare_77 : decode b_Li_compare 77 = .ok (.aload_n 0, 1) := by decide +kernel
theorem d_Li_compare_78 : decode b_Li_compare 78 = .ok (.aload_n 0, 1) := by decide +kernel
theorem d_Li_compare_79 : decode b_Li_compare 79 = .ok (.getfield 37, 3) := by decide +kernel
theorem d_Li_compare_82 : decode b_Li_compare 82 = .ok (.invokevirtual 69, 3) := by decide +kernel
theorem d_Li_compare_85 : decode b_Li_compare 85 = .ok (.putfield 18, 3) := by decide +kernel
theorem d_Li_compare_88 : decode b_Li_compare 88 = .ok (.aload_n 0, 1) := by decide +kernel
theorem d_Li_compare_89 : decode b_Li_compare 89 = .ok (.aload_n 0, 1) := by decide +kernel
theorem d_Li_compare_90 : decode b_Li_compare 90 = .ok (.getfield 40, 3) := by decide +kernel
theorem d_Li_compare_93 : decode b_Li_compare 93 = .ok (.invokevirtual 69, 3) := by decide +kernel
theorem d_Li_compare_96 : decode b_Li_compare 96 = .ok (.putfield 21, 3) := by decide +kernel
theorem d_Li_compare_99 : decode b_Li_compare 99 = .ok (.return_, 1) := by decide +kernel
def F_Li_compare (a0 : Nat) (a1 : Nat) (a2 : Nat) (w : AW) : Option (AW) :=
  gd (wk w a0 == 12) <|
  gd (wk w (wr w a0 6) == 8) <|
  (F_Dy_take (wr w a0 6) (wr w a0 4) w).bind fun r3 =>
  gd (wk r3 a0 == 12) <|
  gd (wk r3 a1 == 11) <|
  gd (wk r3 (wr r3 a0 6) == 8) <|
  (F_Dy_meet (wr r3 a0 6) (wr r3 a1 1) r3).bind fun r8 =>
  gd (wk r8 a0 == 12) <|
  gd (wk r8 a2 == 11) <|
  gd (wk r8 (wr r8 a0 6) == 8) <|
  (F_Dy_meet (wr r8 a0 6) (wr r8 a2 1) r8).bind fun r13 =>
  gd (wk r13 a0 == 12) <|
  (F_Li_findWrong a0 a1 (wr r13 a0 7) r13).bind fun r16 =>
  gd (wk r16 a0 == 12) <|
  (F_Li_findWrong a0 a2 (wr r16 a0 8) r16).bind fun r19 =>
  gd (wk r19 a0 == 12) <|
  gd (wk r19 (wr r19 a0 6) == 8) <|
  (F_Dy_size r19 (wr r19 a0 6)).bind fun r23 =>
  let w25 : AW := upI r19 a0 0 r23
  gd (wk w25 (wr w25 a0 7) == 8) <|
  (F_Dy_sizeWith w25 (wr w25 a0 7) (wr w25 a0 8)).bind fun r27 =>
  let w29 : AW := upI w25 a0 1 r27
  gd (wk w29 (wr w29 a0 7) == 8) <|
  (F_Dy_size w29 (wr w29 a0 7)).bind fun r31 =>
  let w33 : AW := upI w29 a0 2 r31
  gd (wk w33 (wr w33 a0 8) == 8) <|
  (F_Dy_size w33 (wr w33 a0 8)).bind fun r35 =>
  let w37 : AW := upI w33 a0 3 r35
  some w37
theorem P_Li_compare_0 {X : AX} {l : Launch} {G : AG} (hX : XOK X b_Li_compare "RedSky$Likeness" 3) (hM : XM X l G { frames := 3, cells := 0, slots := 0, locals := 83 }) {o : AW} (hR : XR X none 0 0 none o) (a0 : Nat) (a1 : Nat) (a2 : Nat) (w : AW) (h : F_Li_compare a0 a1 a2 w = some o) : RJ X 3 0 0 0 [(0, vr a0), (1, vr a1), (2, vr a2)] [] w := by
  unfold F_Li_compare at h
  refine r_aload_n (i := 0) hX d_Li_compare_0 0 rfl rfl ?_
  obtain ⟨hk1, h⟩ := gd_e h
  refine r_getR (i := 11) (f := 6) hX ci_11 (by decide) rfl fl_Li_34 hk1 d_Li_compare_1 ?_
  refine r_aload_n (i := 0) hX d_Li_compare_4 0 rfl rfl ?_
  refine r_getR (i := 11) (f := 4) hX ci_11 (by decide) rfl fl_Li_27 hk1 d_Li_compare_5 ?_
  obtain ⟨hk2, h⟩ := gd_e h
  obtain ⟨r3, hr4, h⟩ := bd_e h
  refine r_callV0 (As := [_]) hX hM mw_Li_53 (T_Dy_take _ _ _ hr4) (rc_of ci_7 hk2) rfl rfl ⟨Nat.le_refl _, Nat.le_refl _⟩ rfl rfl d_Li_compare_8 ?_
  refine r_aload_n (i := 0) hX d_Li_compare_11 0 rfl rfl ?_
  obtain ⟨hk5, h⟩ := gd_e h
  refine r_getR (i := 11) (f := 6) hX ci_11 (by decide) rfl fl_Li_34 hk5 d_Li_compare_12 ?_
  refine r_aload_n (i := 1) hX d_Li_compare_15 1 rfl rfl ?_
  obtain ⟨hk6, h⟩ := gd_e h
  refine r_getR (i := 10) (f := 1) hX ci_10 (by decide) rfl fl_Li_57 hk6 d_Li_compare_16 ?_
  obtain ⟨hk7, h⟩ := gd_e h
  obtain ⟨r8, hr9, h⟩ := bd_e h
  refine r_callV0 (As := [_]) hX hM mw_Li_62 (T_Dy_meet _ _ _ hr9) (rc_of ci_7 hk7) rfl rfl ⟨Nat.le_refl _, Nat.le_refl _⟩ rfl rfl d_Li_compare_19 ?_
  refine r_aload_n (i := 0) hX d_Li_compare_22 0 rfl rfl ?_
  obtain ⟨hk10, h⟩ := gd_e h
  refine r_getR (i := 11) (f := 6) hX ci_11 (by decide) rfl fl_Li_34 hk10 d_Li_compare_23 ?_
  refine r_aload_n (i := 2) hX d_Li_compare_26 2 rfl rfl ?_
  obtain ⟨hk11, h⟩ := gd_e h
  refine r_getR (i := 10) (f := 1) hX ci_10 (by decide) rfl fl_Li_57 hk11 d_Li_compare_27 ?_
  obtain ⟨hk12, h⟩ := gd_e h
  obtain ⟨r13, hr14, h⟩ := bd_e h
  refine r_callV0 (As := [_]) hX hM mw_Li_62 (T_Dy_meet _ _ _ hr14) (rc_of ci_7 hk12) rfl rfl ⟨Nat.le_refl _, Nat.le_refl _⟩ rfl rfl d_Li_compare_30 ?_
  refine r_aload_n (i := 0) hX d_Li_compare_33 0 rfl rfl ?_
  refine r_aload_n (i := 1) hX d_Li_compare_34 1 rfl rfl ?_
  refine r_aload_n (i := 0) hX d_Li_compare_35 0 rfl rfl ?_
  obtain ⟨hk15, h⟩ := gd_e h
  refine r_getR (i := 11) (f := 7) hX ci_11 (by decide) rfl fl_Li_37 hk15 d_Li_compare_36 ?_
  obtain ⟨r16, hr17, h⟩ := bd_e h
  refine r_callV0 (As := [_, _]) hX hM mw_Li_65 (T_Li_findWrong _ _ _ _ hr17) (rc_of ci_11 hk15) rfl rfl ⟨Nat.le_refl _, Nat.le_refl _⟩ rfl rfl d_Li_compare_39 ?_
  refine r_aload_n (i := 0) hX d_Li_compare_42 0 rfl rfl ?_
  refine r_aload_n (i := 2) hX d_Li_compare_43 2 rfl rfl ?_
  refine r_aload_n (i := 0) hX d_Li_compare_44 0 rfl rfl ?_
  obtain ⟨hk18, h⟩ := gd_e h
  refine r_getR (i := 11) (f := 8) hX ci_11 (by decide) rfl fl_Li_40 hk18 d_Li_compare_45 ?_
  obtain ⟨r19, hr20, h⟩ := bd_e h
  refine r_callV0 (As := [_, _]) hX hM mw_Li_65 (T_Li_findWrong _ _ _ _ hr20) (rc_of ci_11 hk18) rfl rfl ⟨Nat.le_refl _, Nat.le_refl _⟩ rfl rfl d_Li_compare_48 ?_
  refine r_aload_n (i := 0) hX d_Li_compare_51 0 rfl rfl ?_
  refine r_aload_n (i := 0) hX d_Li_compare_52 0 rfl rfl ?_
  obtain ⟨hk21, h⟩ := gd_e h
  refine r_getR (i := 11) (f := 6) hX ci_11 (by decide) rfl fl_Li_34 hk21 d_Li_compare_53 ?_
  obtain ⟨hk22, h⟩ := gd_e h
  obtain ⟨r23, hr24, h⟩ := bd_e h
  refine r_callV1 (As := []) hX hM mw_Li_69 (T_Dy_size _ _ hr24) (rc_of ci_7 hk22) rfl rfl ⟨Nat.le_refl _, Nat.le_refl _⟩ rfl rfl d_Li_compare_56 ?_
  refine r_putI (i := 11) (f := 0) hX ci_11 (by decide) rfl rfl (fun G => rfl) (fun G => rfl) fl_Li_9 hk21 d_Li_compare_59 ?_
  refine r_aload_n (i := 0) hX d_Li_compare_62 0 rfl rfl ?_
  refine r_aload_n (i := 0) hX d_Li_compare_63 0 rfl rfl ?_
  refine r_getR (i := 11) (f := 7) hX ci_11 (by decide) rfl fl_Li_37 (kI hk21) d_Li_compare_64 ?_
  refine r_aload_n (i := 0) hX d_Li_compare_67 0 rfl rfl ?_
  refine r_getR (i := 11) (f := 8) hX ci_11 (by decide) rfl fl_Li_40 (kI hk21) d_Li_compare_68 ?_
  obtain ⟨hk26, h⟩ := gd_e h
  obtain ⟨r27, hr28, h⟩ := bd_e h
  refine r_callV1 (As := [_]) hX hM mw_Li_73 (T_Dy_sizeWith _ _ _ hr28) (rc_of ci_7 hk26) rfl rfl ⟨Nat.le_refl _, Nat.le_refl _⟩ rfl rfl d_Li_compare_71 ?_
  refine r_putI (i := 11) (f := 1) hX ci_11 (by decide) rfl rfl (fun G => rfl) (fun G => rfl) fl_Li_15 (kI hk21) d_Li_compare_74 ?_
  refine r_aload_n (i := 0) hX d_Li_compare_77 0 rfl rfl ?_
  refine r_aload_n (i := 0) hX d_Li_compare_78 0 rfl rfl ?_
  refine r_getR (i := 11) (f := 7) hX ci_11 (by decide) rfl fl_Li_37 (kI (kI hk21)) d_Li_compare_79 ?_
  obtain ⟨hk30, h⟩ := gd_e h
  obtain ⟨r31, hr32, h⟩ := bd_e h
  refine r_callV1 (As := []) hX hM mw_Li_69 (T_Dy_size _ _ hr32) (rc_of ci_7 hk30) rfl rfl ⟨Nat.le_refl _, Nat.le_refl _⟩ rfl rfl d_Li_compare_82 ?_
  refine r_putI (i := 11) (f := 2) hX ci_11 (by decide) rfl rfl (fun G => rfl) (fun G => rfl) fl_Li_18 (kI (kI hk21)) d_Li_compare_85 ?_
  refine r_aload_n (i := 0) hX d_Li_compare_88 0 rfl rfl ?_
  refine r_aload_n (i := 0) hX d_Li_compare_89 0 rfl rfl ?_
  refine r_getR (i := 11) (f := 8) hX ci_11 (by decide) rfl fl_Li_40 (kI (kI (kI hk21))) d_Li_compare_90 ?_
  obtain ⟨hk34, h⟩ := gd_e h
  obtain ⟨r35, hr36, h⟩ := bd_e h
  refine r_callV1 (As := []) hX hM mw_Li_69 (T_Dy_size _ _ hr36) (rc_of ci_7 hk34) rfl rfl ⟨Nat.le_refl _, Nat.le_refl _⟩ rfl rfl d_Li_compare_93 ?_
  refine r_putI (i := 11) (f := 3) hX ci_11 (by decide) rfl rfl (fun G => rfl) (fun G => rfl) fl_Li_21 (kI (kI (kI hk21))) d_Li_compare_96 ?_
  cases h; exact r_vret hX hR d_Li_compare_99
theorem T_Li_compare {l : Launch} {G : AG} (a0 : Nat) (a1 : Nat) (a2 : Nat) (w : AW) {o : AW} (h : F_Li_compare a0 a1 a2 w = some o) : Mt l G y_Li_compare b_Li_compare 3 none 3 83 0 0 [vr a0, vr a1, vr a2] w none o := mt_of (by decide) (Nat.le_of_ble_eq_true rfl) (fun X hX hR hM hI => P_Li_compare_0 hX hM hR _ _ _ _ h)
/-! RedSky.wrong(II)I -/
theorem d_A_wrong_0 : decode b_A_wrong 0 = .ok (.aload_n 0, 1) := by decide +kernel
theorem d_A_wrong_1 : decode b_A_wrong 1 = .ok (.iload_n 1, 1) := by decide +kernel
theorem d_A_wrong_2 : decode b_A_wrong 2 = .ok (.invokevirtual 295, 3) := by decide +kernel
theorem d_A_wrong_5 : decode b_A_wrong 5 = .ok (.astore_n 3, 1) := by decide +kernel
theorem d_A_wrong_6 : decode b_A_wrong 6 = .ok (.aload_n 0, 1) := by decide +kernel
theorem d_A_wrong_7 : decode b_A_wrong 7 = .ok (.iload_n 2, 1) := by decide +kernel
theorem d_A_wrong_8 : decode b_A_wrong 8 = .ok (.invokevirtual 141, 3) := by decide +kernel
theorem d_A_wrong_11 : decode b_A_wrong 11 = .ok (.astore 4, 2) := by decide +kernel
theorem d_A_wrong_13 : decode b_A_wrong 13 = .ok (.aload_n 3, 1) := by decide +kernel
theorem d_A_wrong_14 : decode b_A_wrong 14 = .ok (.ifnull (8), 3) := by decide +kernel
theorem d_A_wrong_17 : decode b_A_wrong 17 = .ok (.aload 4, 2) := by decide +kernel
theorem d_A_wrong_19 : decode b_A_wrong 19 = .ok (.ifnonnull (6), 3) := by decide +kernel
theorem d_A_wrong_22 : decode b_A_wrong 22 = .ok (.bipush (-101), 2) := by decide +kernel
theorem d_A_wrong_24 : decode b_A_wrong 24 = .ok (.ireturn, 1) := by decide +kernel
theorem d_A_wrong_25 : decode b_A_wrong 25 = .ok (.aload_n 0, 1) := by decide +kernel
theorem d_A_wrong_26 : decode b_A_wrong 26 = .ok (.getfield 79, 3) := by decide +kernel
theorem d_A_wrong_29 : decode b_A_wrong 29 = .ok (.aload 4, 2) := by decide +kernel
theorem d_A_wrong_31 : decode b_A_wrong 31 = .ok (.invokevirtual 315, 3) := by decide +kernel
theorem d_A_wrong_34 : decode b_A_wrong 34 = .ok (.aload_n 0, 1) := by decide +kernel
theorem d_A_wrong_35 : decode b_A_wrong 35 = .ok (.getfield 79, 3) := by decide +kernel
theorem d_A_wrong_38 : decode b_A_wrong 38 = .ok (.aload_n 3, 1) := by decide +kernel
theorem d_A_wrong_39 : decode b_A_wrong 39 = .ok (.aload_n 3, 1) := by decide +kernel
theorem d_A_wrong_40 : decode b_A_wrong 40 = .ok (.invokevirtual 319, 3) := by decide +kernel
theorem d_A_wrong_43 : decode b_A_wrong 43 = .ok (.aload_n 0, 1) := by decide +kernel
theorem d_A_wrong_44 : decode b_A_wrong 44 = .ok (.getfield 79, 3) := by decide +kernel
theorem d_A_wrong_47 : decode b_A_wrong 47 = .ok (.getfield 323, 3) := by decide +kernel
theorem d_A_wrong_50 : decode b_A_wrong 50 = .ok (.ireturn, 1) := by decide +kernel
def F_A_wrong (a0 : Nat) (x1 : Int32) (x2 : Int32) (w : AW) : Option (Int32 × AW) :=
  gd (wk w a0 == 1) <|
  (F_A_almanacOf w a0 x1).bind fun r2 =>
  (F_A_diaryOf w a0 x2).bind fun r4 =>
  if r2 = 0 then
    some ((-101 : Int32), w)
  else
    if r4 = 0 then
      some ((-101 : Int32), w)
    else
      gd (wk w (wr w a0 11) == 12) <|
      (F_Li_readRain (wr w a0 11) r4 w).bind fun r7 =>
      gd (wk r7 a0 == 1) <|
      gd (wk r7 (wr r7 a0 11) == 12) <|
      (F_Li_compare (wr r7 a0 11) r2 r2 r7).bind fun r11 =>
      gd (wk r11 a0 == 1) <|
      gd (wk r11 (wr r11 a0 11) == 12) <|
      some ((wi r11 (wr r11 a0 11) 2), r11)
theorem P_A_wrong_0 {X : AX} {l : Launch} {G : AG} (hX : XOK X b_A_wrong "RedSky" 5) (hM : XM X l G { frames := 5, cells := 0, slots := 0, locals := 110 }) {o : Int32 × AW} (hR : XR X (some .int) 0 0 (some (vi o.1)) o.2) (a0 : Nat) (x1 : Int32) (x2 : Int32) (w : AW) (h : F_A_wrong a0 x1 x2 w = some o) : RJ X 5 0 0 0 [(0, vr a0), (1, vi x1), (2, vi x2)] [] w := by
  unfold F_A_wrong at h
  refine r_aload_n (i := 0) hX d_A_wrong_0 0 rfl rfl ?_
  refine r_iload_n (i := 1) hX d_A_wrong_1 1 rfl rfl ?_
  obtain ⟨hk1, h⟩ := gd_e h
  obtain ⟨r2, hr3, h⟩ := bd_e h
  refine r_callV1 (As := [_]) hX hM mw_A_295 (T_A_almanacOf _ _ _ hr3) (rc_of ci_0 hk1) rfl rfl ⟨Nat.le_refl _, Nat.le_refl _⟩ rfl rfl d_A_wrong_2 ?_
  refine r_astore_n (i := 3) hX d_A_wrong_5 rfl (by decide) ?_
  refine r_aload_n (i := 0) hX d_A_wrong_6 1 rfl rfl ?_
  refine r_iload_n (i := 2) hX d_A_wrong_7 3 rfl rfl ?_
  obtain ⟨r4, hr5, h⟩ := bd_e h
  refine r_callV1 (As := [_]) hX hM mw_A_141 (T_A_diaryOf _ _ _ hr5) (rc_of ci_0 hk1) rfl rfl ⟨Nat.le_refl _, Nat.le_refl _⟩ rfl rfl d_A_wrong_8 ?_
  refine r_astore (i := 4) hX d_A_wrong_11  (by decide) ?_
  refine r_aload_n (i := 3) hX d_A_wrong_13 1 rfl rfl ?_
  refine r_ifnull hX d_A_wrong_14 rfl h (fun h => ?_) (fun h => ?_)
  · refine r_bipush (v := (-101 : Int32)) hX d_A_wrong_22 rfl ?_
    cases h; exact r_iret hX hR d_A_wrong_24
  · refine r_aload (i := 4) hX d_A_wrong_17 0  rfl ?_
    refine r_ifnonnull hX d_A_wrong_19 rfl h (fun h => ?_) (fun h => ?_)
    · refine r_aload_n (i := 0) hX d_A_wrong_25 2 rfl rfl ?_
      refine r_getR (i := 0) (f := 11) hX ci_0 (by decide) rfl fl_A_79 hk1 d_A_wrong_26 ?_
      refine r_aload (i := 4) hX d_A_wrong_29 0  rfl ?_
      obtain ⟨hk6, h⟩ := gd_e h
      obtain ⟨r7, hr8, h⟩ := bd_e h
      refine r_callV0 (As := [_]) hX hM mw_A_315 (T_Li_readRain _ _ _ hr8) (rc_of ci_11 hk6) rfl rfl ⟨Nat.le_refl _, Nat.le_refl _⟩ rfl rfl d_A_wrong_31 ?_
      refine r_aload_n (i := 0) hX d_A_wrong_34 2 rfl rfl ?_
      obtain ⟨hk9, h⟩ := gd_e h
      refine r_getR (i := 0) (f := 11) hX ci_0 (by decide) rfl fl_A_79 hk9 d_A_wrong_35 ?_
      refine r_aload_n (i := 3) hX d_A_wrong_38 1 rfl rfl ?_
      refine r_aload_n (i := 3) hX d_A_wrong_39 1 rfl rfl ?_
      obtain ⟨hk10, h⟩ := gd_e h
      obtain ⟨r11, hr12, h⟩ := bd_e h
      refine r_callV0 (As := [_, _]) hX hM mw_A_319 (T_Li_compare _ _ _ _ hr12) (rc_of ci_11 hk10) rfl rfl ⟨Nat.le_refl _, Nat.le_refl _⟩ rfl rfl d_A_wrong_40 ?_
      refine r_aload_n (i := 0) hX d_A_wrong_43 2 rfl rfl ?_
      obtain ⟨hk13, h⟩ := gd_e h
      refine r_getR (i := 0) (f := 11) hX ci_0 (by decide) rfl fl_A_79 hk13 d_A_wrong_44 ?_
      obtain ⟨hk14, h⟩ := gd_e h
      refine r_getI (i := 11) (f := 2) hX ci_11 (by decide) rfl fl_A_323 hk14 d_A_wrong_47 ?_
      cases h; exact r_iret hX hR d_A_wrong_50
    · refine r_bipush (v := (-101 : Int32)) hX d_A_wrong_22 rfl ?_
      cases h; exact r_iret hX hR d_A_wrong_24
theorem T_A_wrong {l : Launch} {G : AG} (a0 : Nat) (x1 : Int32) (x2 : Int32) (w : AW) {o : Int32 × AW} (h : F_A_wrong a0 x1 x2 w = some o) : Mt l G y_A_wrong b_A_wrong 5 (some (.int)) 5 110 0 0 [vr a0, vi x1, vi x2] w (some (vi o.1)) o.2 := mt_of (by decide) (Nat.le_of_ble_eq_true rfl) (fun X hX hR hM hI => P_A_wrong_0 hX hM hR _ _ _ _ h)
/-! RedSkyModel.wrongOn(III)I -/
theorem d_M_wrongOn_0 : decode b_M_wrongOn 0 = .ok (.aload_n 0, 1) := by decide +kernel
theorem d_M_wrongOn_1 : decode b_M_wrongOn 1 = .ok (.getfield 28, 3) := by decide +kernel
theorem d_M_wrongOn_4 : decode b_M_wrongOn 4 = .ok (.sipush (1461), 3) := by decide +kernel
theorem d_M_wrongOn_7 : decode b_M_wrongOn 7 = .ok (.iload_n 1, 1) := by decide +kernel
theorem d_M_wrongOn_8 : decode b_M_wrongOn 8 = .ok (.imul, 1) := by decide +kernel
theorem d_M_wrongOn_9 : decode b_M_wrongOn 9 = .ok (.iload_n 3, 1) := by decide +kernel
theorem d_M_wrongOn_10 : decode b_M_wrongOn 10 = .ok (.iadd, 1) := by decide +kernel
theorem d_M_wrongOn_11 : decode b_M_wrongOn 11 = .ok (.iaload, 1) := by decide +kernel
theorem d_M_wrongOn_12 : decode b_M_wrongOn 12 = .ok (.istore 4, 2) := by decide +kernel
theorem d_M_wrongOn_14 : decode b_M_wrongOn 14 = .ok (.aload_n 0, 1) := by decide +kernel
theorem d_M_wrongOn_15 : decode b_M_wrongOn 15 = .ok (.getfield 22, 3) := by decide +kernel
theorem d_M_wrongOn_18 : decode b_M_wrongOn 18 = .ok (.iload_n 2, 1) := by decide +kernel
theorem d_M_wrongOn_19 : decode b_M_wrongOn 19 = .ok (.iload_n 3, 1) := by decide +kernel
theorem d_M_wrongOn_20 : decode b_M_wrongOn 20 = .ok (.iconst 2, 1) := by decide +kernel
theorem d_M_wrongOn_21 : decode b_M_wrongOn 21 = .ok (.invokestatic 167, 3) := by decide +kernel
theorem d_M_wrongOn_24 : decode b_M_wrongOn 24 = .ok (.iaload, 1) := by decide +kernel
theorem d_M_wrongOn_25 : decode b_M_wrongOn 25 = .ok (.istore 5, 2) := by decide +kernel
theorem d_M_wrongOn_27 : decode b_M_wrongOn 27 = .ok (.iload 4, 2) := by decide +kernel
theorem d_M_wrongOn_29 : decode b_M_wrongOn 29 = .ok (.iconst (-1), 1) := by decide +kernel
theorem d_M_wrongOn_30 : decode b_M_wrongOn 30 = .ok (.if_icmp .eq (11), 3) := by decide +kernel
theorem d_M_wrongOn_33 : decode b_M_wrongOn 33 = .ok (.iload 5, 2) := by decide +kernel
theorem d_M_wrongOn_35 : decode b_M_wrongOn 35 = .ok (.sipush (-1000), 3) := by decide +kernel
theorem d_M_wrongOn_38 : decode b_M_wrongOn 38 = .ok (.if_icmp .ne (5), 3) := by decide +kernel
theorem d_M_wrongOn_41 : decode b_M_wrongOn 41 = .ok (.iconst (-1), 1) := by decide +kernel
theorem d_M_wrongOn_42 : decode b_M_wrongOn 42 = .ok (.ireturn, 1) := by decide +kernel
theorem d_M_wrongOn_43 : decode b_M_wrongOn 43 = .ok (.iload 4, 2) := by decide +kernel
theorem d_M_wrongOn_45 : decode b_M_wrongOn 45 = .ok (.iconst 1, 1) := by decide +kernel
theorem d_M_wrongOn_46 : decode b_M_wrongOn 46 = .ok (.if_icmp .ne (7), 3) := by decide +kernel
theorem d_M_wrongOn_49 : decode b_M_wrongOn 49 = .ok (.iconst 1, 1) := by decide +kernel
theorem d_M_wrongOn_50 : decode b_M_wrongOn 50 = .ok (.goto (4), 3) := by decide +kernel
theorem d_M_wrongOn_53 : decode b_M_wrongOn 53 = .ok (.iconst 0, 1) := by decide +kernel
theorem d_M_wrongOn_54 : decode b_M_wrongOn 54 = .ok (.iload 5, 2) := by decide +kernel
theorem d_M_wrongOn_56 : decode b_M_wrongOn 56 = .ok (.ifCond .le (7), 3) := by decide +kernel
theorem d_M_wrongOn_59 : decode b_M_wrongOn 59 = .ok (.iconst 1, 1) := by decide +kernel
theorem d_M_wrongOn_60 : decode b_M_wrongOn 60 = .ok (.goto (4), 3) := by decide +kernel
theorem d_M_wrongOn_63 : decode b_M_wrongOn 63 = .ok (.iconst 0, 1) := by decide +kernel
theorem d_M_wrongOn_64 : decode b_M_wrongOn 64 = .ok (.if_icmp .ne (7), 3) := by decide +kernel
theorem d_M_wrongOn_67 : decode b_M_wrongOn 67 = .ok (.iconst 0, 1) := by decide +kernel
theorem d_M_wrongOn_68 : decode b_M_wrongOn 68 = .ok (.goto (4), 3) := by decide +kernel
theorem d_M_wrongOn_71 : decode b_M_wrongOn 71 = .ok (.iconst 1, 1) := by decide +kernel
theorem d_M_wrongOn_72 : decode b_M_wrongOn 72 = .ok (.ireturn, 1) := by decide +kernel
def F_M_wrongOn_64 (w : AW) (s1 : Int32) (s0 : Int32) : Option (Int32) :=
  if s0 = s1 then
    some (0 : Int32)
  else
    some (1 : Int32)
theorem P_M_wrongOn_64 {X : AX} {l : Launch} {G : AG} {w : AW} (hX : XOK X b_M_wrongOn "RedSkyModel" 6) (hM : XM X l G { frames := 1, cells := 0, slots := 0, locals := 22 }) {o : Int32} (hR : XR X (some .int) 0 0 (some (vi o)) w) (s1 : Int32) (s0 : Int32) (h : F_M_wrongOn_64 w s1 s0 = some o) : RJ X 6 0 0 64 [] [vi s1, vi s0] w := by
  unfold F_M_wrongOn_64 at h
  refine r_icmp_ne hX d_M_wrongOn_64 rfl h (fun h => ?_) (fun h => ?_)
  · refine r_iconst (v := (1 : Int32)) hX d_M_wrongOn_71 rfl ?_
    cases h; exact r_iret hX hR d_M_wrongOn_72
  · refine r_iconst (v := (0 : Int32)) hX d_M_wrongOn_67 rfl ?_
    refine r_goto hX d_M_wrongOn_68 rfl ?_
    cases h; exact r_iret hX hR d_M_wrongOn_72
def F_M_wrongOn_54 (w : AW) (x5 : Int32) (s0 : Int32) : Option (Int32) :=
  if x5 ≤ 0 then
    F_M_wrongOn_64 w (0 : Int32) s0
  else
    F_M_wrongOn_64 w (1 : Int32) s0
theorem P_M_wrongOn_54 {X : AX} {l : Launch} {G : AG} {w : AW} (hX : XOK X b_M_wrongOn "RedSkyModel" 6) (hM : XM X l G { frames := 1, cells := 0, slots := 0, locals := 22 }) {o : Int32} (hR : XR X (some .int) 0 0 (some (vi o)) w) (x5 : Int32) (s0 : Int32) (h : F_M_wrongOn_54 w x5 s0 = some o) : RJ X 6 0 0 54 [(5, vi x5)] [vi s0] w := by
  unfold F_M_wrongOn_54 at h
  refine r_iload (i := 5) hX d_M_wrongOn_54 0  rfl ?_
  refine r_if_le hX d_M_wrongOn_56 rfl h (fun h => ?_) (fun h => ?_)
  · refine r_iconst (v := (0 : Int32)) hX d_M_wrongOn_63 rfl ?_
    exact rj_sub [] rfl (P_M_wrongOn_64 hX hM hR _ _ h)
  · refine r_iconst (v := (1 : Int32)) hX d_M_wrongOn_59 rfl ?_
    refine r_goto hX d_M_wrongOn_60 rfl ?_
    exact rj_sub [] rfl (P_M_wrongOn_64 hX hM hR _ _ h)
def F_M_wrongOn (w : AW) (a0 : Nat) (x1 : Int32) (x2 : Int32) (x3 : Int32) : Option (Int32) :=
  gd (wk w a0 == 13) <|
  gd (wk w (wr w a0 7) == 100) <|
  gd (inb (((1461 : Int32) * x1) + x3) (wn w (wr w a0 7))) <|
  let v4 : Int32 := (wi w (wr w a0 7) (Int32.toNatClampNeg (((1461 : Int32) * x1) + x3)))
  gd (wk w (wr w a0 5) == 100) <|
  gd (inb (F_M_at x2 x3 (2 : Int32)) (wn w (wr w a0 5))) <|
  let v7 : Int32 := (wi w (wr w a0 5) (Int32.toNatClampNeg (F_M_at x2 x3 (2 : Int32))))
  if v4 = (-1 : Int32) then
    some (-1 : Int32)
  else
    if v7 = (-1000 : Int32) then
      some (-1 : Int32)
    else
      if v4 = (1 : Int32) then
        F_M_wrongOn_54 w v7 (1 : Int32)
      else
        F_M_wrongOn_54 w v7 (0 : Int32)
theorem P_M_wrongOn_0 {X : AX} {l : Launch} {G : AG} {w : AW} (hX : XOK X b_M_wrongOn "RedSkyModel" 6) (hM : XM X l G { frames := 1, cells := 0, slots := 0, locals := 22 }) {o : Int32} (hR : XR X (some .int) 0 0 (some (vi o)) w) (a0 : Nat) (x1 : Int32) (x2 : Int32) (x3 : Int32) (h : F_M_wrongOn w a0 x1 x2 x3 = some o) : RJ X 6 0 0 0 [(0, vr a0), (1, vi x1), (2, vi x2), (3, vi x3)] [] w := by
  unfold F_M_wrongOn at h
  refine r_aload_n (i := 0) hX d_M_wrongOn_0 0 rfl rfl ?_
  obtain ⟨hk1, h⟩ := gd_e h
  refine r_getR (i := 12) (f := 7) hX ci_12 (by decide) rfl fl_M_28 hk1 d_M_wrongOn_1 ?_
  refine r_sipush (v := (1461 : Int32)) hX d_M_wrongOn_4 rfl ?_
  refine r_iload_n (i := 1) hX d_M_wrongOn_7 1 rfl rfl ?_
  refine r_imul hX d_M_wrongOn_8 ?_
  refine r_iload_n (i := 3) hX d_M_wrongOn_9 3 rfl rfl ?_
  refine r_iadd hX d_M_wrongOn_10 ?_
  obtain ⟨hk2, h⟩ := gd_e h
  obtain ⟨hg3, h⟩ := gd_e h
  refine r_iald hX hk2 hg3 d_M_wrongOn_11 ?_
  refine r_istore (i := 4) hX d_M_wrongOn_12  (by decide) ?_
  refine r_aload_n (i := 0) hX d_M_wrongOn_14 1 rfl rfl ?_
  refine r_getR (i := 12) (f := 5) hX ci_12 (by decide) rfl fl_M_22 hk1 d_M_wrongOn_15 ?_
  refine r_iload_n (i := 2) hX d_M_wrongOn_18 3 rfl rfl ?_
  refine r_iload_n (i := 3) hX d_M_wrongOn_19 4 rfl rfl ?_
  refine r_iconst (v := (2 : Int32)) hX d_M_wrongOn_20 rfl ?_
  refine r_callS1 (As := [_, _, _]) hX hM mw_M_167 (T_M_at _ _ _ _) rfl rfl ⟨Nat.le_refl _, Nat.le_refl _⟩ rfl rfl d_M_wrongOn_21 ?_
  obtain ⟨hk5, h⟩ := gd_e h
  obtain ⟨hg6, h⟩ := gd_e h
  refine r_iald hX hk5 hg6 d_M_wrongOn_24 ?_
  refine r_istore (i := 5) hX d_M_wrongOn_25  (by decide) ?_
  refine r_iload (i := 4) hX d_M_wrongOn_27 1  rfl ?_
  refine r_iconst (v := (-1 : Int32)) hX d_M_wrongOn_29 rfl ?_
  refine r_icmp_eq hX d_M_wrongOn_30 rfl h (fun h => ?_) (fun h => ?_)
  · refine r_iconst (v := (-1 : Int32)) hX d_M_wrongOn_41 rfl ?_
    cases h; exact r_iret hX hR d_M_wrongOn_42
  · refine r_iload (i := 5) hX d_M_wrongOn_33 0  rfl ?_
    refine r_sipush (v := (-1000 : Int32)) hX d_M_wrongOn_35 rfl ?_
    refine r_icmp_ne hX d_M_wrongOn_38 rfl h (fun h => ?_) (fun h => ?_)
    · refine r_iload (i := 4) hX d_M_wrongOn_43 1  rfl ?_
      refine r_iconst (v := (1 : Int32)) hX d_M_wrongOn_45 rfl ?_
      refine r_icmp_ne hX d_M_wrongOn_46 rfl h (fun h => ?_) (fun h => ?_)
      · refine r_iconst (v := (0 : Int32)) hX d_M_wrongOn_53 rfl ?_
        exact rj_sub [0] rfl (P_M_wrongOn_54 hX hM hR _ _ h)
      · refine r_iconst (v := (1 : Int32)) hX d_M_wrongOn_49 rfl ?_
        refine r_goto hX d_M_wrongOn_50 rfl ?_
        exact rj_sub [0] rfl (P_M_wrongOn_54 hX hM hR _ _ h)
    · refine r_iconst (v := (-1 : Int32)) hX d_M_wrongOn_41 rfl ?_
      cases h; exact r_iret hX hR d_M_wrongOn_42
theorem T_M_wrongOn {l : Launch} {G : AG} (w : AW) (a0 : Nat) (x1 : Int32) (x2 : Int32) (x3 : Int32) {o : Int32} (h : F_M_wrongOn w a0 x1 x2 x3 = some o) : Mt l G y_M_wrongOn b_M_wrongOn 6 (some (.int)) 1 22 0 0 [vr a0, vi x1, vi x2, vi x3] w (some (vi o)) w := mt_of (by decide) (Nat.le_of_ble_eq_true rfl) (fun X hX hR hM hI => P_M_wrongOn_0 hX hM hR _ _ _ _ h)
/-! RedSkyModel.wrong(II)I -/
theorem d_M_wrong_0 : decode b_M_wrong 0 = .ok (.iload_n 1, 1) := by decide +kernel
theorem d_M_wrong_1 : decode b_M_wrong 1 = .ok (.invokestatic 372, 3) := by decide +kernel
theorem d_M_wrong_4 : decode b_M_wrong 4 = .ok (.ifCond .eq (10), 3) := by decide +kernel
theorem d_M_wrong_7 : decode b_M_wrong 7 = .ok (.iload_n 2, 1) := by decide +kernel
theorem d_M_wrong_8 : decode b_M_wrong 8 = .ok (.invokestatic 155, 3) := by decide +kernel
theorem d_M_wrong_11 : decode b_M_wrong 11 = .ok (.ifCond .ne (6), 3) := by decide +kernel
theorem d_M_wrong_14 : decode b_M_wrong 14 = .ok (.bipush (-101), 2) := by decide +kernel
theorem d_M_wrong_16 : decode b_M_wrong 16 = .ok (.ireturn, 1) := by decide +kernel
theorem d_M_wrong_17 : decode b_M_wrong 17 = .ok (.iconst 0, 1) := by decide +kernel
theorem d_M_wrong_18 : decode b_M_wrong 18 = .ok (.istore_n 3, 1) := by decide +kernel
theorem d_M_wrong_19 : decode b_M_wrong 19 = .ok (.iconst 0, 1) := by decide +kernel
theorem d_M_wrong_20 : decode b_M_wrong 20 = .ok (.istore 4, 2) := by decide +kernel
theorem d_M_wrong_22 : decode b_M_wrong 22 = .ok (.iload 4, 2) := by decide +kernel
theorem d_M_wrong_24 : decode b_M_wrong 24 = .ok (.sipush (1461), 3) := by decide +kernel
theorem d_M_wrong_27 : decode b_M_wrong 27 = .ok (.if_icmp .ge (29), 3) := by decide +kernel
theorem d_M_wrong_30 : decode b_M_wrong 30 = .ok (.iload_n 3, 1) := by decide +kernel
theorem d_M_wrong_31 : decode b_M_wrong 31 = .ok (.aload_n 0, 1) := by decide +kernel
theorem d_M_wrong_32 : decode b_M_wrong 32 = .ok (.iload_n 1, 1) := by decide +kernel
theorem d_M_wrong_33 : decode b_M_wrong 33 = .ok (.iload_n 2, 1) := by decide +kernel
theorem d_M_wrong_34 : decode b_M_wrong 34 = .ok (.iload 4, 2) := by decide +kernel
theorem d_M_wrong_36 : decode b_M_wrong 36 = .ok (.invokevirtual 381, 3) := by decide +kernel
theorem d_M_wrong_39 : decode b_M_wrong 39 = .ok (.iconst 1, 1) := by decide +kernel
theorem d_M_wrong_40 : decode b_M_wrong 40 = .ok (.if_icmp .ne (7), 3) := by decide +kernel
theorem d_M_wrong_43 : decode b_M_wrong 43 = .ok (.iconst 1, 1) := by decide +kernel
theorem d_M_wrong_44 : decode b_M_wrong 44 = .ok (.goto (4), 3) := by decide +kernel
theorem d_M_wrong_47 : decode b_M_wrong 47 = .ok (.iconst 0, 1) := by decide +kernel
theorem d_M_wrong_48 : decode b_M_wrong 48 = .ok (.iadd, 1) := by decide +kernel
theorem d_M_wrong_49 : decode b_M_wrong 49 = .ok (.istore_n 3, 1) := by decide +kernel
theorem d_M_wrong_50 : decode b_M_wrong 50 = .ok (.iinc 4 (1), 3) := by decide +kernel
theorem d_M_wrong_53 : decode b_M_wrong 53 = .ok (.goto (-31), 3) := by decide +kernel
theorem d_M_wrong_56 : decode b_M_wrong 56 = .ok (.iload_n 3, 1) := by decide +kernel
theorem d_M_wrong_57 : decode b_M_wrong 57 = .ok (.ireturn, 1) := by decide +kernel
def F_M_wrong_22_B (rec22 : Nat → Int32 → Int32 → Int32 → Int32 → Option (Int32)) (w : AW) (a0 : Nat) (x1 : Int32) (x2 : Int32) (x3 : Int32) (x4 : Int32) : Option (Int32) :=
  if (1461 : Int32) ≤ x4 then
    some x3
  else
    gd (wk w a0 == 13) <|
    (F_M_wrongOn w a0 x1 x2 x4).bind fun r2 =>
    if r2 = (1 : Int32) then
      let v6 : Int32 := (x3 + (1 : Int32))
      let v7 : Int32 := (x4 + (1 : Int32))
      rec22 a0 x1 x2 v6 v7
    else
      let v4 : Int32 := (x3 + (0 : Int32))
      let v5 : Int32 := (x4 + (1 : Int32))
      rec22 a0 x1 x2 v4 v5
theorem P_M_wrong_22_B {X : AX} {l : Launch} {G : AG} {w : AW} {rec22 : Nat → Int32 → Int32 → Int32 → Int32 → Option (Int32)} (hX : XOK X b_M_wrong "RedSkyModel" 5) (hM : XM X l G { frames := 2, cells := 0, slots := 0, locals := 47 }) {o : Int32} (hR : XR X (some .int) 0 0 (some (vi o)) w) (hrec22 : ∀ (a0 : Nat) (x1 : Int32) (x2 : Int32) (x3 : Int32) (x4 : Int32), rec22 a0 x1 x2 x3 x4 = some o → RJ X 5 0 0 22 [(0, vr a0), (1, vi x1), (2, vi x2), (3, vi x3), (4, vi x4)] [] w) (a0 : Nat) (x1 : Int32) (x2 : Int32) (x3 : Int32) (x4 : Int32) (h : F_M_wrong_22_B rec22 w a0 x1 x2 x3 x4 = some o) : RJ X 5 0 0 22 [(0, vr a0), (1, vi x1), (2, vi x2), (3, vi x3), (4, vi x4)] [] w := by
  unfold F_M_wrong_22_B at h
  refine r_iload (i := 4) hX d_M_wrong_22 4  rfl ?_
  refine r_sipush (v := (1461 : Int32)) hX d_M_wrong_24 rfl ?_
  refine r_icmp_ge hX d_M_wrong_27 rfl h (fun h => ?_) (fun h => ?_)
  · refine r_iload_n (i := 3) hX d_M_wrong_56 3 rfl rfl ?_
    cases h; exact r_iret hX hR d_M_wrong_57
  · refine r_iload_n (i := 3) hX d_M_wrong_30 3 rfl rfl ?_
    refine r_aload_n (i := 0) hX d_M_wrong_31 0 rfl rfl ?_
    refine r_iload_n (i := 1) hX d_M_wrong_32 1 rfl rfl ?_
    refine r_iload_n (i := 2) hX d_M_wrong_33 2 rfl rfl ?_
    refine r_iload (i := 4) hX d_M_wrong_34 4  rfl ?_
    obtain ⟨hk1, h⟩ := gd_e h
    obtain ⟨r2, hr3, h⟩ := bd_e h
    refine r_callV1 (As := [_, _, _]) hX hM mw_M_381 (T_M_wrongOn _ _ _ _ _ hr3) (rc_of ci_12 hk1) rfl rfl ⟨Nat.le_refl _, Nat.le_refl _⟩ rfl rfl d_M_wrong_36 ?_
    refine r_iconst (v := (1 : Int32)) hX d_M_wrong_39 rfl ?_
    refine r_icmp_ne hX d_M_wrong_40 rfl h (fun h => ?_) (fun h => ?_)
    · refine r_iconst (v := (0 : Int32)) hX d_M_wrong_47 rfl ?_
      refine r_iadd hX d_M_wrong_48 ?_
      refine r_istore_n (i := 3) hX d_M_wrong_49 rfl (by decide) ?_
      refine r_iinc (i := 4) (v := (1 : Int32)) hX d_M_wrong_50 4 rfl rfl (by decide) ?_
      refine r_goto hX d_M_wrong_53 rfl ?_
      exact rj_sub [2, 3, 4, 1, 0] rfl (hrec22 _ _ _ _ _ h)
    · refine r_iconst (v := (1 : Int32)) hX d_M_wrong_43 rfl ?_
      refine r_goto hX d_M_wrong_44 rfl ?_
      refine r_iadd hX d_M_wrong_48 ?_
      refine r_istore_n (i := 3) hX d_M_wrong_49 rfl (by decide) ?_
      refine r_iinc (i := 4) (v := (1 : Int32)) hX d_M_wrong_50 4 rfl rfl (by decide) ?_
      refine r_goto hX d_M_wrong_53 rfl ?_
      exact rj_sub [2, 3, 4, 1, 0] rfl (hrec22 _ _ _ _ _ h)
def F_M_wrong_22 (w : AW) : Nat → Nat → Int32 → Int32 → Int32 → Int32 → Option (Int32)
  | 0 => fun _ _ _ _ _ => none
  | n + 1 => fun a0 x1 x2 x3 x4 => F_M_wrong_22_B (F_M_wrong_22 w n) w a0 x1 x2 x3 x4
theorem P_M_wrong_22 {X : AX} {l : Launch} {G : AG} {w : AW} (hX : XOK X b_M_wrong "RedSkyModel" 5) (hM : XM X l G { frames := 2, cells := 0, slots := 0, locals := 47 }) {o : Int32} (hR : XR X (some .int) 0 0 (some (vi o)) w) (fu : Nat) : ∀ (a0 : Nat) (x1 : Int32) (x2 : Int32) (x3 : Int32) (x4 : Int32), F_M_wrong_22 w fu a0 x1 x2 x3 x4 = some o → RJ X 5 0 0 22 [(0, vr a0), (1, vi x1), (2, vi x2), (3, vi x3), (4, vi x4)] [] w := by
  induction fu with
  | zero => intro a0 x1 x2 x3 x4 h; cases h
  | succ n9 ih => intro a0 x1 x2 x3 x4 h; exact P_M_wrong_22_B hX hM hR ih _ _ _ _ _ h
def F_M_wrong (w : AW) (a0 : Nat) (x1 : Int32) (x2 : Int32) : Option (Int32) :=
  if (F_M_isAlmanac x1) = 0 then
    some (-101 : Int32)
  else
    if (F_M_isValley x2) = 0 then
      some (-101 : Int32)
    else
      F_M_wrong_22 w FUEL a0 x1 x2 (0 : Int32) (0 : Int32)
theorem P_M_wrong_0 {X : AX} {l : Launch} {G : AG} {w : AW} (hX : XOK X b_M_wrong "RedSkyModel" 5) (hM : XM X l G { frames := 2, cells := 0, slots := 0, locals := 47 }) {o : Int32} (hR : XR X (some .int) 0 0 (some (vi o)) w) (a0 : Nat) (x1 : Int32) (x2 : Int32) (h : F_M_wrong w a0 x1 x2 = some o) : RJ X 5 0 0 0 [(0, vr a0), (1, vi x1), (2, vi x2)] [] w := by
  unfold F_M_wrong at h
  refine r_iload_n (i := 1) hX d_M_wrong_0 1 rfl rfl ?_
  refine r_callS1 (As := [_]) hX hM mw_M_372 (T_M_isAlmanac _ _) rfl rfl ⟨Nat.le_refl _, Nat.le_refl _⟩ rfl rfl d_M_wrong_1 ?_
  refine r_if_eq hX d_M_wrong_4 rfl h (fun h => ?_) (fun h => ?_)
  · refine r_bipush (v := (-101 : Int32)) hX d_M_wrong_14 rfl ?_
    cases h; exact r_iret hX hR d_M_wrong_16
  · refine r_iload_n (i := 2) hX d_M_wrong_7 2 rfl rfl ?_
    refine r_callS1 (As := [_]) hX hM mw_M_155 (T_M_isValley _ _) rfl rfl ⟨Nat.le_refl _, Nat.le_refl _⟩ rfl rfl d_M_wrong_8 ?_
    refine r_if_ne hX d_M_wrong_11 rfl h (fun h => ?_) (fun h => ?_)
    · refine r_iconst (v := (0 : Int32)) hX d_M_wrong_17 rfl ?_
      refine r_istore_n (i := 3) hX d_M_wrong_18 rfl (by decide) ?_
      refine r_iconst (v := (0 : Int32)) hX d_M_wrong_19 rfl ?_
      refine r_istore (i := 4) hX d_M_wrong_20  (by decide) ?_
      exact rj_sub [2, 3, 4, 1, 0] rfl (P_M_wrong_22 hX hM hR FUEL _ _ _ _ _ h)
    · refine r_bipush (v := (-101 : Int32)) hX d_M_wrong_14 rfl ?_
      cases h; exact r_iret hX hR d_M_wrong_16
theorem T_M_wrong {l : Launch} {G : AG} (w : AW) (a0 : Nat) (x1 : Int32) (x2 : Int32) {o : Int32} (h : F_M_wrong w a0 x1 x2 = some o) : Mt l G y_M_wrong b_M_wrong 5 (some (.int)) 2 47 0 0 [vr a0, vi x1, vi x2] w (some (vi o)) w := mt_of (by decide) (Nat.le_of_ble_eq_true rfl) (fun X hX hR hM hI => P_M_wrong_0 hX hM hR _ _ _ h)
/-! RedSky$Likeness.answer(I)I -/
theorem d_Li_answer_0 : decode b_Li_answer 0 = .ok (.iload_n 1, 1) := by decide +kernel
theorem d_Li_answer_1 : decode b_Li_answer 1 = .ok (.tableswitch (42) 0 2 #[27, 32, 37], 27) := by decide +kernel
theorem d_Li_answer_28 : decode b_Li_answer 28 = .ok (.aload_n 0, 1) := by decide +kernel
theorem d_Li_answer_29 : decode b_Li_answer 29 = .ok (.getfield 9, 3) := by decide +kernel
theorem d_Li_answer_32 : decode b_Li_answer 32 = .ok (.ireturn, 1) := by decide +kernel
theorem d_Li_answer_33 : decode b_Li_answer 33 = .ok (.aload_n 0, 1) := by decide +kernel
theorem d_Li_answer_34 : decode b_Li_answer 34 = .ok (.getfield 15, 3) := by decide +kernel
theorem d_Li_answer_37 : decode b_Li_answer 37 = .ok (.ireturn, 1) := by decide +kernel
theorem d_Li_answer_38 : decode b_Li_answer 38 = .ok (.aload_n 0, 1) := by decide +kernel
theorem d_Li_answer_39 : decode b_Li_answer 39 = .ok (.getfield 18, 3) := by decide +kernel
theorem d_Li_answer_42 : decode b_Li_answer 42 = .ok (.ireturn, 1) := by decide +kernel
theorem d_Li_answer_43 : decode b_Li_answer 43 = .ok (.aload_n 0, 1) := by decide +kernel
theorem d_Li_answer_44 : decode b_Li_answer 44 = .ok (.getfield 21, 3) := by decide +kernel
theorem d_Li_answer_47 : decode b_Li_answer 47 = .ok (.ireturn, 1) := by decide +kernel
def F_Li_answer (w : AW) (a0 : Nat) (x1 : Int32) : Option (Int32) :=
  if Int32.toInt x1 < 0 ∨ 2 < Int32.toInt x1 then
    gd (wk w a0 == 12) <|
    some (wi w a0 3)
  else if x1 = (0 : Int32) then
    gd (wk w a0 == 12) <|
    some (wi w a0 0)
  else if x1 = (1 : Int32) then
    gd (wk w a0 == 12) <|
    some (wi w a0 1)
  else if x1 = (2 : Int32) then
    gd (wk w a0 == 12) <|
    some (wi w a0 2)
  else none
theorem P_Li_answer_0 {X : AX} {l : Launch} {G : AG} {w : AW} (hX : XOK X b_Li_answer "RedSky$Likeness" 2) (hM : XM X l G { frames := 0, cells := 0, slots := 0, locals := 0 }) {o : Int32} (hR : XR X (some .int) 0 0 (some (vi o)) w) (a0 : Nat) (x1 : Int32) (h : F_Li_answer w a0 x1 = some o) : RJ X 2 0 0 0 [(0, vr a0), (1, vi x1)] [] w := by
  unfold F_Li_answer at h
  refine r_iload_n (i := 1) hX d_Li_answer_0 1 rfl rfl ?_
  rcases it_e h with ⟨hc, h⟩ | ⟨-, h⟩
  · refine r_tsOut hX hc d_Li_answer_1 rfl ?_
    refine r_aload_n (i := 0) hX d_Li_answer_43 0 rfl rfl ?_
    obtain ⟨hk1, h⟩ := gd_e h
    refine r_getI (i := 11) (f := 3) hX ci_11 (by decide) rfl fl_Li_21 hk1 d_Li_answer_44 ?_
    cases h; exact r_iret hX hR d_Li_answer_47
  rcases it_e h with ⟨hc, h⟩ | ⟨-, h⟩
  · refine r_tsIn (v := (0 : Int32)) hX hc d_Li_answer_1 (by decide) (by decide) rfl rfl ?_
    refine r_aload_n (i := 0) hX d_Li_answer_28 0 rfl rfl ?_
    obtain ⟨hk2, h⟩ := gd_e h
    refine r_getI (i := 11) (f := 0) hX ci_11 (by decide) rfl fl_Li_9 hk2 d_Li_answer_29 ?_
    cases h; exact r_iret hX hR d_Li_answer_32
  rcases it_e h with ⟨hc, h⟩ | ⟨-, h⟩
  · refine r_tsIn (v := (1 : Int32)) hX hc d_Li_answer_1 (by decide) (by decide) rfl rfl ?_
    refine r_aload_n (i := 0) hX d_Li_answer_33 0 rfl rfl ?_
    obtain ⟨hk3, h⟩ := gd_e h
    refine r_getI (i := 11) (f := 1) hX ci_11 (by decide) rfl fl_Li_15 hk3 d_Li_answer_34 ?_
    cases h; exact r_iret hX hR d_Li_answer_37
  rcases it_e h with ⟨hc, h⟩ | ⟨-, h⟩
  · refine r_tsIn (v := (2 : Int32)) hX hc d_Li_answer_1 (by decide) (by decide) rfl rfl ?_
    refine r_aload_n (i := 0) hX d_Li_answer_38 0 rfl rfl ?_
    obtain ⟨hk4, h⟩ := gd_e h
    refine r_getI (i := 11) (f := 2) hX ci_11 (by decide) rfl fl_Li_18 hk4 d_Li_answer_39 ?_
    cases h; exact r_iret hX hR d_Li_answer_42
  cases h
theorem T_Li_answer {l : Launch} {G : AG} (w : AW) (a0 : Nat) (x1 : Int32) {o : Int32} (h : F_Li_answer w a0 x1 = some o) : Mt l G y_Li_answer b_Li_answer 2 (some (.int)) 0 0 0 0 [vr a0, vi x1] w (some (vi o)) w := mt_of (by decide) (Nat.le_of_ble_eq_true rfl) (fun X hX hR hM hI => P_Li_answer_0 hX hM hR _ _ h)
/-! RedSky.shared(IIII)I -/
theorem d_A_shared_0 : decode b_A_shared 0 = .ok (.aload_n 0, 1) := by decide +kernel
theorem d_A_shared_1 : decode b_A_shared 1 = .ok (.iload_n 1, 1) := by decide +kernel
theorem d_A_shared_2 : decode b_A_shared 2 = .ok (.invokevirtual 295, 3) := by decide +kernel
theorem d_A_shared_5 : decode b_A_shared 5 = .ok (.astore 5, 2) := by decide +kernel
theorem d_A_shared_7 : decode b_A_shared 7 = .ok (.aload_n 0, 1) := by decide +kernel
theorem d_A_shared_8 : decode b_A_shared 8 = .ok (.iload_n 2, 1) := by decide +kernel
theorem d_A_shared_9 : decode b_A_shared 9 = .ok (.invokevirtual 295, 3) := by decide +kernel
theorem d_A_shared_12 : decode b_A_shared 12 = .ok (.astore 6, 2) := by decide +kernel
theorem d_A_shared_14 : decode b_A_shared 14 = .ok (.aload_n 0, 1) := by decide +kernel
theorem d_A_shared_15 : decode b_A_shared 15 = .ok (.iload_n 3, 1) := by decide +kernel
theorem d_A_shared_16 : decode b_A_shared 16 = .ok (.invokevirtual 141, 3) := by decide +kernel
theorem d_A_shared_19 : decode b_A_shared 19 = .ok (.astore 7, 2) := by decide +kernel
theorem d_A_shared_21 : decode b_A_shared 21 = .ok (.aload 5, 2) := by decide +kernel
theorem d_A_shared_23 : decode b_A_shared 23 = .ok (.ifnull (13), 3) := by decide +kernel
theorem d_A_shared_26 : decode b_A_shared 26 = .ok (.aload 6, 2) := by decide +kernel
theorem d_A_shared_28 : decode b_A_shared 28 = .ok (.ifnull (8), 3) := by decide +kernel
theorem d_A_shared_31 : decode b_A_shared 31 = .ok (.aload 7, 2) := by decide +kernel
theorem d_A_shared_33 : decode b_A_shared 33 = .ok (.ifnonnull (6), 3) := by decide +kernel
theorem d_A_shared_36 : decode b_A_shared 36 = .ok (.bipush (-101), 2) := by decide +kernel
theorem d_A_shared_38 : decode b_A_shared 38 = .ok (.ireturn, 1) := by decide +kernel
theorem d_A_shared_39 : decode b_A_shared 39 = .ok (.iload 4, 2) := by decide +kernel
theorem d_A_shared_41 : decode b_A_shared 41 = .ok (.iconst 0, 1) := by decide +kernel
theorem d_A_shared_42 : decode b_A_shared 42 = .ok (.iconst 3, 1) := by decide +kernel
theorem d_A_shared_43 : decode b_A_shared 43 = .ok (.invokestatic 86, 3) := by decide +kernel
theorem d_A_shared_46 : decode b_A_shared 46 = .ok (.ifCond .ne (6), 3) := by decide +kernel
theorem d_A_shared_49 : decode b_A_shared 49 = .ok (.bipush (-102), 2) := by decide +kernel
theorem d_A_shared_51 : decode b_A_shared 51 = .ok (.ireturn, 1) := by decide +kernel
theorem d_A_shared_52 : decode b_A_shared 52 = .ok (.aload_n 0, 1) := by decide +kernel
theorem d_A_shared_53 : decode b_A_shared 53 = .ok (.getfield 79, 3) := by decide +kernel
theorem d_A_shared_56 : decode b_A_shared 56 = .ok (.aload 7, 2) := by decide +kernel
theorem d_A_shared_58 : decode b_A_shared 58 = .ok (.invokevirtual 315, 3) := by decide +kernel
theorem d_A_shared_61 : decode b_A_shared 61 = .ok (.aload_n 0, 1) := by decide +kernel
theorem d_A_shared_62 : decode b_A_shared 62 = .ok (.getfield 79, 3) := by decide +kernel
theorem d_A_shared_65 : decode b_A_shared 65 = .ok (.aload 5, 2) := by decide +kernel
theorem d_A_shared_67 : decode b_A_shared 67 = .ok (.aload 6, 2) := by decide +kernel
theorem d_A_shared_69 : decode b_A_shared 69 = .ok (.invokevirtual 319, 3) := by decide +kernel
theorem d_A_shared_72 : decode b_A_shared 72 = .ok (.aload_n 0, 1) := by decide +kernel
theorem d_A_shared_73 : decode b_A_shared 73 = .ok (.getfield 79, 3) := by decide +kernel
theorem d_A_shared_76 : decode b_A_shared 76 = .ok (.iload 4, 2) := by decide +kernel
theorem d_A_shared_78 : decode b_A_shared 78 = .ok (.invokevirtual 326, 3) := by decide +kernel
theorem d_A_shared_81 : decode b_A_shared 81 = .ok (.ireturn, 1) := by decide +kernel
def F_A_shared (a0 : Nat) (x1 : Int32) (x2 : Int32) (x3 : Int32) (x4 : Int32) (w : AW) : Option (Int32 × AW) :=
  gd (wk w a0 == 1) <|
  (F_A_almanacOf w a0 x1).bind fun r2 =>
  (F_A_almanacOf w a0 x2).bind fun r4 =>
  (F_A_diaryOf w a0 x3).bind fun r6 =>
  if r2 = 0 then
    some ((-101 : Int32), w)
  else
    if r4 = 0 then
      some ((-101 : Int32), w)
    else
      if r6 = 0 then
        some ((-101 : Int32), w)
      else
        if (F_A_within x4 (0 : Int32) (3 : Int32)) = 0 then
          some ((-102 : Int32), w)
        else
          gd (wk w (wr w a0 11) == 12) <|
          (F_Li_readRain (wr w a0 11) r6 w).bind fun r9 =>
          gd (wk r9 a0 == 1) <|
          gd (wk r9 (wr r9 a0 11) == 12) <|
          (F_Li_compare (wr r9 a0 11) r2 r4 r9).bind fun r13 =>
          gd (wk r13 a0 == 1) <|
          gd (wk r13 (wr r13 a0 11) == 12) <|
          (F_Li_answer r13 (wr r13 a0 11) x4).bind fun r17 =>
          some (r17, r13)
theorem P_A_shared_0 {X : AX} {l : Launch} {G : AG} (hX : XOK X b_A_shared "RedSky" 8) (hM : XM X l G { frames := 5, cells := 0, slots := 0, locals := 110 }) {o : Int32 × AW} (hR : XR X (some .int) 0 0 (some (vi o.1)) o.2) (a0 : Nat) (x1 : Int32) (x2 : Int32) (x3 : Int32) (x4 : Int32) (w : AW) (h : F_A_shared a0 x1 x2 x3 x4 w = some o) : RJ X 8 0 0 0 [(0, vr a0), (1, vi x1), (2, vi x2), (3, vi x3), (4, vi x4)] [] w := by
  unfold F_A_shared at h
  refine r_aload_n (i := 0) hX d_A_shared_0 0 rfl rfl ?_
  refine r_iload_n (i := 1) hX d_A_shared_1 1 rfl rfl ?_
  obtain ⟨hk1, h⟩ := gd_e h
  obtain ⟨r2, hr3, h⟩ := bd_e h
  refine r_callV1 (As := [_]) hX hM mw_A_295 (T_A_almanacOf _ _ _ hr3) (rc_of ci_0 hk1) rfl rfl ⟨Nat.le_refl _, Nat.le_refl _⟩ rfl rfl d_A_shared_2 ?_
  refine r_astore (i := 5) hX d_A_shared_5  (by decide) ?_
  refine r_aload_n (i := 0) hX d_A_shared_7 1 rfl rfl ?_
  refine r_iload_n (i := 2) hX d_A_shared_8 3 rfl rfl ?_
  obtain ⟨r4, hr5, h⟩ := bd_e h
  refine r_callV1 (As := [_]) hX hM mw_A_295 (T_A_almanacOf _ _ _ hr5) (rc_of ci_0 hk1) rfl rfl ⟨Nat.le_refl _, Nat.le_refl _⟩ rfl rfl d_A_shared_9 ?_
  refine r_astore (i := 6) hX d_A_shared_12  (by decide) ?_
  refine r_aload_n (i := 0) hX d_A_shared_14 2 rfl rfl ?_
  refine r_iload_n (i := 3) hX d_A_shared_15 5 rfl rfl ?_
  obtain ⟨r6, hr7, h⟩ := bd_e h
  refine r_callV1 (As := [_]) hX hM mw_A_141 (T_A_diaryOf _ _ _ hr7) (rc_of ci_0 hk1) rfl rfl ⟨Nat.le_refl _, Nat.le_refl _⟩ rfl rfl d_A_shared_16 ?_
  refine r_astore (i := 7) hX d_A_shared_19  (by decide) ?_
  refine r_aload (i := 5) hX d_A_shared_21 2  rfl ?_
  refine r_ifnull hX d_A_shared_23 rfl h (fun h => ?_) (fun h => ?_)
  · refine r_bipush (v := (-101 : Int32)) hX d_A_shared_36 rfl ?_
    cases h; exact r_iret hX hR d_A_shared_38
  · refine r_aload (i := 6) hX d_A_shared_26 1  rfl ?_
    refine r_ifnull hX d_A_shared_28 rfl h (fun h => ?_) (fun h => ?_)
    · refine r_bipush (v := (-101 : Int32)) hX d_A_shared_36 rfl ?_
      cases h; exact r_iret hX hR d_A_shared_38
    · refine r_aload (i := 7) hX d_A_shared_31 0  rfl ?_
      refine r_ifnonnull hX d_A_shared_33 rfl h (fun h => ?_) (fun h => ?_)
      · refine r_iload (i := 4) hX d_A_shared_39 7  rfl ?_
        refine r_iconst (v := (0 : Int32)) hX d_A_shared_41 rfl ?_
        refine r_iconst (v := (3 : Int32)) hX d_A_shared_42 rfl ?_
        refine r_callS1 (As := [_, _, _]) hX hM mw_A_86 (T_A_within _ _ _ _) rfl rfl ⟨Nat.le_refl _, Nat.le_refl _⟩ rfl rfl d_A_shared_43 ?_
        refine r_if_ne hX d_A_shared_46 rfl h (fun h => ?_) (fun h => ?_)
        · refine r_aload_n (i := 0) hX d_A_shared_52 3 rfl rfl ?_
          refine r_getR (i := 0) (f := 11) hX ci_0 (by decide) rfl fl_A_79 hk1 d_A_shared_53 ?_
          refine r_aload (i := 7) hX d_A_shared_56 0  rfl ?_
          obtain ⟨hk8, h⟩ := gd_e h
          obtain ⟨r9, hr10, h⟩ := bd_e h
          refine r_callV0 (As := [_]) hX hM mw_A_315 (T_Li_readRain _ _ _ hr10) (rc_of ci_11 hk8) rfl rfl ⟨Nat.le_refl _, Nat.le_refl _⟩ rfl rfl d_A_shared_58 ?_
          refine r_aload_n (i := 0) hX d_A_shared_61 3 rfl rfl ?_
          obtain ⟨hk11, h⟩ := gd_e h
          refine r_getR (i := 0) (f := 11) hX ci_0 (by decide) rfl fl_A_79 hk11 d_A_shared_62 ?_
          refine r_aload (i := 5) hX d_A_shared_65 2  rfl ?_
          refine r_aload (i := 6) hX d_A_shared_67 1  rfl ?_
          obtain ⟨hk12, h⟩ := gd_e h
          obtain ⟨r13, hr14, h⟩ := bd_e h
          refine r_callV0 (As := [_, _]) hX hM mw_A_319 (T_Li_compare _ _ _ _ hr14) (rc_of ci_11 hk12) rfl rfl ⟨Nat.le_refl _, Nat.le_refl _⟩ rfl rfl d_A_shared_69 ?_
          refine r_aload_n (i := 0) hX d_A_shared_72 3 rfl rfl ?_
          obtain ⟨hk15, h⟩ := gd_e h
          refine r_getR (i := 0) (f := 11) hX ci_0 (by decide) rfl fl_A_79 hk15 d_A_shared_73 ?_
          refine r_iload (i := 4) hX d_A_shared_76 7  rfl ?_
          obtain ⟨hk16, h⟩ := gd_e h
          obtain ⟨r17, hr18, h⟩ := bd_e h
          refine r_callV1 (As := [_]) hX hM mw_A_326 (T_Li_answer _ _ _ hr18) (rc_of ci_11 hk16) rfl rfl ⟨Nat.le_refl _, Nat.le_refl _⟩ rfl rfl d_A_shared_78 ?_
          cases h; exact r_iret hX hR d_A_shared_81
        · refine r_bipush (v := (-102 : Int32)) hX d_A_shared_49 rfl ?_
          cases h; exact r_iret hX hR d_A_shared_51
      · refine r_bipush (v := (-101 : Int32)) hX d_A_shared_36 rfl ?_
        cases h; exact r_iret hX hR d_A_shared_38
theorem T_A_shared {l : Launch} {G : AG} (a0 : Nat) (x1 : Int32) (x2 : Int32) (x3 : Int32) (x4 : Int32) (w : AW) {o : Int32 × AW} (h : F_A_shared a0 x1 x2 x3 x4 w = some o) : Mt l G y_A_shared b_A_shared 8 (some (.int)) 5 110 0 0 [vr a0, vi x1, vi x2, vi x3, vi x4] w (some (vi o.1)) o.2 := mt_of (by decide) (Nat.le_of_ble_eq_true rfl) (fun X hX hR hM hI => P_A_shared_0 hX hM hR _ _ _ _ _ _ h)
/-! RedSkyModel.sharedOf(IIII)I -/
theorem d_M_sharedOf_0 : decode b_M_sharedOf 0 = .ok (.iconst 0, 1) := by decide +kernel
theorem d_M_sharedOf_1 : decode b_M_sharedOf 1 = .ok (.istore 5, 2) := by decide +kernel
theorem d_M_sharedOf_3 : decode b_M_sharedOf 3 = .ok (.iconst 0, 1) := by decide +kernel
theorem d_M_sharedOf_4 : decode b_M_sharedOf 4 = .ok (.istore 6, 2) := by decide +kernel
theorem d_M_sharedOf_6 : decode b_M_sharedOf 6 = .ok (.iload 6, 2) := by decide +kernel
theorem d_M_sharedOf_8 : decode b_M_sharedOf 8 = .ok (.sipush (1461), 3) := by decide +kernel
theorem d_M_sharedOf_11 : decode b_M_sharedOf 11 = .ok (.if_icmp .ge (82), 3) := by decide +kernel
theorem d_M_sharedOf_14 : decode b_M_sharedOf 14 = .ok (.aload_n 0, 1) := by decide +kernel
theorem d_M_sharedOf_15 : decode b_M_sharedOf 15 = .ok (.iload_n 1, 1) := by decide +kernel
theorem d_M_sharedOf_16 : decode b_M_sharedOf 16 = .ok (.iload_n 3, 1) := by decide +kernel
theorem d_M_sharedOf_17 : decode b_M_sharedOf 17 = .ok (.iload 6, 2) := by decide +kernel
theorem d_M_sharedOf_19 : decode b_M_sharedOf 19 = .ok (.invokevirtual 381, 3) := by decide +kernel
theorem d_M_sharedOf_22 : decode b_M_sharedOf 22 = .ok (.istore 7, 2) := by decide +kernel
theorem d_M_sharedOf_24 : decode b_M_sharedOf 24 = .ok (.aload_n 0, 1) := by decide +kernel
theorem d_M_sharedOf_25 : decode b_M_sharedOf 25 = .ok (.iload_n 2, 1) := by decide +kernel
theorem d_M_sharedOf_26 : decode b_M_sharedOf 26 = .ok (.iload_n 3, 1) := by decide +kernel
theorem d_M_sharedOf_27 : decode b_M_sharedOf 27 = .ok (.iload 6, 2) := by decide +kernel
theorem d_M_sharedOf_29 : decode b_M_sharedOf 29 = .ok (.invokevirtual 381, 3) := by decide +kernel
theorem d_M_sharedOf_32 : decode b_M_sharedOf 32 = .ok (.istore 8, 2) := by decide +kernel
theorem d_M_sharedOf_34 : decode b_M_sharedOf 34 = .ok (.iload 7, 2) := by decide +kernel
theorem d_M_sharedOf_36 : decode b_M_sharedOf 36 = .ok (.iconst (-1), 1) := by decide +kernel
theorem d_M_sharedOf_37 : decode b_M_sharedOf 37 = .ok (.if_icmp .eq (50), 3) := by decide +kernel
theorem d_M_sharedOf_40 : decode b_M_sharedOf 40 = .ok (.iload 8, 2) := by decide +kernel
theorem d_M_sharedOf_42 : decode b_M_sharedOf 42 = .ok (.iconst (-1), 1) := by decide +kernel
theorem d_M_sharedOf_43 : decode b_M_sharedOf 43 = .ok (.if_icmp .eq (44), 3) := by decide +kernel
theorem d_M_sharedOf_46 : decode b_M_sharedOf 46 = .ok (.iload 5, 2) := by decide +kernel
theorem d_M_sharedOf_48 : decode b_M_sharedOf 48 = .ok (.iload 4, 2) := by decide +kernel
theorem d_M_sharedOf_50 : decode b_M_sharedOf 50 = .ok (.ifCond .ne (7), 3) := by decide +kernel
theorem d_M_sharedOf_53 : decode b_M_sharedOf 53 = .ok (.iconst 1, 1) := by decide +kernel
theorem d_M_sharedOf_54 : decode b_M_sharedOf 54 = .ok (.goto (30), 3) := by decide +kernel
theorem d_M_sharedOf_57 : decode b_M_sharedOf 57 = .ok (.iload 4, 2) := by decide +kernel
theorem d_M_sharedOf_59 : decode b_M_sharedOf 59 = .ok (.iconst 1, 1) := by decide +kernel
theorem d_M_sharedOf_60 : decode b_M_sharedOf 60 = .ok (.if_icmp .ne (11), 3) := by decide +kernel
theorem d_M_sharedOf_63 : decode b_M_sharedOf 63 = .ok (.iload 7, 2) := by decide +kernel
theorem d_M_sharedOf_65 : decode b_M_sharedOf 65 = .ok (.iload 8, 2) := by decide +kernel
theorem d_M_sharedOf_67 : decode b_M_sharedOf 67 = .ok (.imul, 1) := by decide +kernel
theorem d_M_sharedOf_68 : decode b_M_sharedOf 68 = .ok (.goto (16), 3) := by decide +kernel
theorem d_M_sharedOf_71 : decode b_M_sharedOf 71 = .ok (.iload 4, 2) := by decide +kernel
theorem d_M_sharedOf_73 : decode b_M_sharedOf 73 = .ok (.iconst 2, 1) := by decide +kernel
theorem d_M_sharedOf_74 : decode b_M_sharedOf 74 = .ok (.if_icmp .ne (8), 3) := by decide +kernel
theorem d_M_sharedOf_77 : decode b_M_sharedOf 77 = .ok (.iload 7, 2) := by decide +kernel
theorem d_M_sharedOf_79 : decode b_M_sharedOf 79 = .ok (.goto (5), 3) := by decide +kernel
theorem d_M_sharedOf_82 : decode b_M_sharedOf 82 = .ok (.iload 8, 2) := by decide +kernel
theorem d_M_sharedOf_84 : decode b_M_sharedOf 84 = .ok (.iadd, 1) := by decide +kernel
theorem d_M_sharedOf_85 : decode b_M_sharedOf 85 = .ok (.istore 5, 2) := by decide +kernel
theorem d_M_sharedOf_87 : decode b_M_sharedOf 87 = .ok (.iinc 6 (1), 3) := by decide +kernel
theorem d_M_sharedOf_90 : decode b_M_sharedOf 90 = .ok (.goto (-84), 3) := by decide +kernel
theorem d_M_sharedOf_93 : decode b_M_sharedOf 93 = .ok (.iload 5, 2) := by decide +kernel
theorem d_M_sharedOf_95 : decode b_M_sharedOf 95 = .ok (.ireturn, 1) := by decide +kernel
def F_M_sharedOf_6_B (rec6 : Nat → Int32 → Int32 → Int32 → Int32 → Int32 → Int32 → Option (Int32)) (w : AW) (a0 : Nat) (x1 : Int32) (x2 : Int32) (x3 : Int32) (x4 : Int32) (x5 : Int32) (x6 : Int32) : Option (Int32) :=
  if (1461 : Int32) ≤ x6 then
    some x5
  else
    gd (wk w a0 == 13) <|
    (F_M_wrongOn w a0 x1 x3 x6).bind fun r2 =>
    (F_M_wrongOn w a0 x2 x3 x6).bind fun r4 =>
    if r2 = (-1 : Int32) then
      let v6 : Int32 := (x6 + (1 : Int32))
      rec6 a0 x1 x2 x3 x4 x5 v6
    else
      if r4 = (-1 : Int32) then
        let v7 : Int32 := (x6 + (1 : Int32))
        rec6 a0 x1 x2 x3 x4 x5 v7
      else
        if x4 = 0 then
          let v14 : Int32 := (x5 + (1 : Int32))
          let v15 : Int32 := (x6 + (1 : Int32))
          rec6 a0 x1 x2 x3 x4 v14 v15
        else
          if x4 = (1 : Int32) then
            let v12 : Int32 := (x5 + (r2 * r4))
            let v13 : Int32 := (x6 + (1 : Int32))
            rec6 a0 x1 x2 x3 x4 v12 v13
          else
            if x4 = (2 : Int32) then
              let v10 : Int32 := (x5 + r2)
              let v11 : Int32 := (x6 + (1 : Int32))
              rec6 a0 x1 x2 x3 x4 v10 v11
            else
              let v8 : Int32 := (x5 + r4)
              let v9 : Int32 := (x6 + (1 : Int32))
              rec6 a0 x1 x2 x3 x4 v8 v9
theorem P_M_sharedOf_6_B {X : AX} {l : Launch} {G : AG} {w : AW} {rec6 : Nat → Int32 → Int32 → Int32 → Int32 → Int32 → Int32 → Option (Int32)} (hX : XOK X b_M_sharedOf "RedSkyModel" 9) (hM : XM X l G { frames := 2, cells := 0, slots := 0, locals := 47 }) {o : Int32} (hR : XR X (some .int) 0 0 (some (vi o)) w) (hrec6 : ∀ (a0 : Nat) (x1 : Int32) (x2 : Int32) (x3 : Int32) (x4 : Int32) (x5 : Int32) (x6 : Int32), rec6 a0 x1 x2 x3 x4 x5 x6 = some o → RJ X 9 0 0 6 [(0, vr a0), (1, vi x1), (2, vi x2), (3, vi x3), (4, vi x4), (5, vi x5), (6, vi x6)] [] w) (a0 : Nat) (x1 : Int32) (x2 : Int32) (x3 : Int32) (x4 : Int32) (x5 : Int32) (x6 : Int32) (h : F_M_sharedOf_6_B rec6 w a0 x1 x2 x3 x4 x5 x6 = some o) : RJ X 9 0 0 6 [(0, vr a0), (1, vi x1), (2, vi x2), (3, vi x3), (4, vi x4), (5, vi x5), (6, vi x6)] [] w := by
  unfold F_M_sharedOf_6_B at h
  refine r_iload (i := 6) hX d_M_sharedOf_6 6  rfl ?_
  refine r_sipush (v := (1461 : Int32)) hX d_M_sharedOf_8 rfl ?_
  refine r_icmp_ge hX d_M_sharedOf_11 rfl h (fun h => ?_) (fun h => ?_)
  · refine r_iload (i := 5) hX d_M_sharedOf_93 5  rfl ?_
    cases h; exact r_iret hX hR d_M_sharedOf_95
  · refine r_aload_n (i := 0) hX d_M_sharedOf_14 0 rfl rfl ?_
    refine r_iload_n (i := 1) hX d_M_sharedOf_15 1 rfl rfl ?_
    refine r_iload_n (i := 3) hX d_M_sharedOf_16 3 rfl rfl ?_
    refine r_iload (i := 6) hX d_M_sharedOf_17 6  rfl ?_
    obtain ⟨hk1, h⟩ := gd_e h
    obtain ⟨r2, hr3, h⟩ := bd_e h
    refine r_callV1 (As := [_, _, _]) hX hM mw_M_381 (T_M_wrongOn _ _ _ _ _ hr3) (rc_of ci_12 hk1) rfl rfl ⟨Nat.le_refl _, Nat.le_refl _⟩ rfl rfl d_M_sharedOf_19 ?_
    refine r_istore (i := 7) hX d_M_sharedOf_22  (by decide) ?_
    refine r_aload_n (i := 0) hX d_M_sharedOf_24 1 rfl rfl ?_
    refine r_iload_n (i := 2) hX d_M_sharedOf_25 3 rfl rfl ?_
    refine r_iload_n (i := 3) hX d_M_sharedOf_26 4 rfl rfl ?_
    refine r_iload (i := 6) hX d_M_sharedOf_27 7  rfl ?_
    obtain ⟨r4, hr5, h⟩ := bd_e h
    refine r_callV1 (As := [_, _, _]) hX hM mw_M_381 (T_M_wrongOn _ _ _ _ _ hr5) (rc_of ci_12 hk1) rfl rfl ⟨Nat.le_refl _, Nat.le_refl _⟩ rfl rfl d_M_sharedOf_29 ?_
    refine r_istore (i := 8) hX d_M_sharedOf_32  (by decide) ?_
    refine r_iload (i := 7) hX d_M_sharedOf_34 1  rfl ?_
    refine r_iconst (v := (-1 : Int32)) hX d_M_sharedOf_36 rfl ?_
    refine r_icmp_eq hX d_M_sharedOf_37 rfl h (fun h => ?_) (fun h => ?_)
    · refine r_iinc (i := 6) (v := (1 : Int32)) hX d_M_sharedOf_87 8 rfl rfl (by decide) ?_
      refine r_goto hX d_M_sharedOf_90 rfl ?_
      exact rj_sub [3, 4, 5, 6, 7, 8, 0] rfl (hrec6 _ _ _ _ _ _ _ h)
    · refine r_iload (i := 8) hX d_M_sharedOf_40 0  rfl ?_
      refine r_iconst (v := (-1 : Int32)) hX d_M_sharedOf_42 rfl ?_
      refine r_icmp_eq hX d_M_sharedOf_43 rfl h (fun h => ?_) (fun h => ?_)
      · refine r_iinc (i := 6) (v := (1 : Int32)) hX d_M_sharedOf_87 8 rfl rfl (by decide) ?_
        refine r_goto hX d_M_sharedOf_90 rfl ?_
        exact rj_sub [3, 4, 5, 6, 7, 8, 0] rfl (hrec6 _ _ _ _ _ _ _ h)
      · refine r_iload (i := 5) hX d_M_sharedOf_46 7  rfl ?_
        refine r_iload (i := 4) hX d_M_sharedOf_48 6  rfl ?_
        refine r_if_ne hX d_M_sharedOf_50 rfl h (fun h => ?_) (fun h => ?_)
        · refine r_iload (i := 4) hX d_M_sharedOf_57 6  rfl ?_
          refine r_iconst (v := (1 : Int32)) hX d_M_sharedOf_59 rfl ?_
          refine r_icmp_ne hX d_M_sharedOf_60 rfl h (fun h => ?_) (fun h => ?_)
          · refine r_iload (i := 4) hX d_M_sharedOf_71 6  rfl ?_
            refine r_iconst (v := (2 : Int32)) hX d_M_sharedOf_73 rfl ?_
            refine r_icmp_ne hX d_M_sharedOf_74 rfl h (fun h => ?_) (fun h => ?_)
            · refine r_iload (i := 8) hX d_M_sharedOf_82 0  rfl ?_
              refine r_iadd hX d_M_sharedOf_84 ?_
              refine r_istore (i := 5) hX d_M_sharedOf_85  (by decide) ?_
              refine r_iinc (i := 6) (v := (1 : Int32)) hX d_M_sharedOf_87 8 rfl rfl (by decide) ?_
              refine r_goto hX d_M_sharedOf_90 rfl ?_
              exact rj_sub [4, 5, 6, 7, 8, 1, 0] rfl (hrec6 _ _ _ _ _ _ _ h)
            · refine r_iload (i := 7) hX d_M_sharedOf_77 1  rfl ?_
              refine r_goto hX d_M_sharedOf_79 rfl ?_
              refine r_iadd hX d_M_sharedOf_84 ?_
              refine r_istore (i := 5) hX d_M_sharedOf_85  (by decide) ?_
              refine r_iinc (i := 6) (v := (1 : Int32)) hX d_M_sharedOf_87 8 rfl rfl (by decide) ?_
              refine r_goto hX d_M_sharedOf_90 rfl ?_
              exact rj_sub [4, 5, 6, 7, 8, 1, 0] rfl (hrec6 _ _ _ _ _ _ _ h)
          · refine r_iload (i := 7) hX d_M_sharedOf_63 1  rfl ?_
            refine r_iload (i := 8) hX d_M_sharedOf_65 0  rfl ?_
            refine r_imul hX d_M_sharedOf_67 ?_
            refine r_goto hX d_M_sharedOf_68 rfl ?_
            refine r_iadd hX d_M_sharedOf_84 ?_
            refine r_istore (i := 5) hX d_M_sharedOf_85  (by decide) ?_
            refine r_iinc (i := 6) (v := (1 : Int32)) hX d_M_sharedOf_87 8 rfl rfl (by decide) ?_
            refine r_goto hX d_M_sharedOf_90 rfl ?_
            exact rj_sub [4, 5, 6, 7, 8, 1, 0] rfl (hrec6 _ _ _ _ _ _ _ h)
        · refine r_iconst (v := (1 : Int32)) hX d_M_sharedOf_53 rfl ?_
          refine r_goto hX d_M_sharedOf_54 rfl ?_
          refine r_iadd hX d_M_sharedOf_84 ?_
          refine r_istore (i := 5) hX d_M_sharedOf_85  (by decide) ?_
          refine r_iinc (i := 6) (v := (1 : Int32)) hX d_M_sharedOf_87 8 rfl rfl (by decide) ?_
          refine r_goto hX d_M_sharedOf_90 rfl ?_
          exact rj_sub [4, 5, 6, 7, 8, 1, 0] rfl (hrec6 _ _ _ _ _ _ _ h)
def F_M_sharedOf_6 (w : AW) : Nat → Nat → Int32 → Int32 → Int32 → Int32 → Int32 → Int32 → Option (Int32)
  | 0 => fun _ _ _ _ _ _ _ => none
  | n + 1 => fun a0 x1 x2 x3 x4 x5 x6 => F_M_sharedOf_6_B (F_M_sharedOf_6 w n) w a0 x1 x2 x3 x4 x5 x6
theorem P_M_sharedOf_6 {X : AX} {l : Launch} {G : AG} {w : AW} (hX : XOK X b_M_sharedOf "RedSkyModel" 9) (hM : XM X l G { frames := 2, cells := 0, slots := 0, locals := 47 }) {o : Int32} (hR : XR X (some .int) 0 0 (some (vi o)) w) (fu : Nat) : ∀ (a0 : Nat) (x1 : Int32) (x2 : Int32) (x3 : Int32) (x4 : Int32) (x5 : Int32) (x6 : Int32), F_M_sharedOf_6 w fu a0 x1 x2 x3 x4 x5 x6 = some o → RJ X 9 0 0 6 [(0, vr a0), (1, vi x1), (2, vi x2), (3, vi x3), (4, vi x4), (5, vi x5), (6, vi x6)] [] w := by
  induction fu with
  | zero => intro a0 x1 x2 x3 x4 x5 x6 h; cases h
  | succ n9 ih => intro a0 x1 x2 x3 x4 x5 x6 h; exact P_M_sharedOf_6_B hX hM hR ih _ _ _ _ _ _ _ h
def F_M_sharedOf (w : AW) (a0 : Nat) (x1 : Int32) (x2 : Int32) (x3 : Int32) (x4 : Int32) : Option (Int32) :=
  F_M_sharedOf_6 w FUEL a0 x1 x2 x3 x4 (0 : Int32) (0 : Int32)
theorem P_M_sharedOf_0 {X : AX} {l : Launch} {G : AG} {w : AW} (hX : XOK X b_M_sharedOf "RedSkyModel" 9) (hM : XM X l G { frames := 2, cells := 0, slots := 0, locals := 47 }) {o : Int32} (hR : XR X (some .int) 0 0 (some (vi o)) w) (a0 : Nat) (x1 : Int32) (x2 : Int32) (x3 : Int32) (x4 : Int32) (h : F_M_sharedOf w a0 x1 x2 x3 x4 = some o) : RJ X 9 0 0 0 [(0, vr a0), (1, vi x1), (2, vi x2), (3, vi x3), (4, vi x4)] [] w := by
  unfold F_M_sharedOf at h
  refine r_iconst (v := (0 : Int32)) hX d_M_sharedOf_0 rfl ?_
  refine r_istore (i := 5) hX d_M_sharedOf_1  (by decide) ?_
  refine r_iconst (v := (0 : Int32)) hX d_M_sharedOf_3 rfl ?_
  refine r_istore (i := 6) hX d_M_sharedOf_4  (by decide) ?_
  exact rj_sub [2, 3, 4, 5, 6, 1, 0] rfl (P_M_sharedOf_6 hX hM hR FUEL _ _ _ _ _ _ _ h)
theorem T_M_sharedOf {l : Launch} {G : AG} (w : AW) (a0 : Nat) (x1 : Int32) (x2 : Int32) (x3 : Int32) (x4 : Int32) {o : Int32} (h : F_M_sharedOf w a0 x1 x2 x3 x4 = some o) : Mt l G y_M_sharedOf b_M_sharedOf 9 (some (.int)) 2 47 0 0 [vr a0, vi x1, vi x2, vi x3, vi x4] w (some (vi o)) w := mt_of (by decide) (Nat.le_of_ble_eq_true rfl) (fun X hX hR hM hI => P_M_sharedOf_0 hX hM hR _ _ _ _ _ h)
/-! RedSkyModel.shared(IIII)I -/
theorem d_M_shared_0 : decode b_M_shared 0 = .ok (.iload_n 1, 1) := by decide +kernel
theorem d_M_shared_1 : decode b_M_shared 1 = .ok (.invokestatic 372, 3) := by decide +kernel
theorem d_M_shared_4 : decode b_M_shared 4 = .ok (.ifCond .eq (17), 3) := by decide +kernel
theorem d_M_shared_7 : decode b_M_shared 7 = .ok (.iload_n 2, 1) := by decide +kernel
theorem d_M_shared_8 : decode b_M_shared 8 = .ok (.invokestatic 372, 3) := by decide +kernel
theorem d_M_shared_11 : decode b_M_shared 11 = .ok (.ifCond .eq (10), 3) := by decide +kernel
theorem d_M_shared_14 : decode b_M_shared 14 = .ok (.iload_n 3, 1) := by decide +kernel
theorem d_M_shared_15 : decode b_M_shared 15 = .ok (.invokestatic 155, 3) := by decide +kernel
theorem d_M_shared_18 : decode b_M_shared 18 = .ok (.ifCond .ne (6), 3) := by decide +kernel
theorem d_M_shared_21 : decode b_M_shared 21 = .ok (.bipush (-101), 2) := by decide +kernel
theorem d_M_shared_23 : decode b_M_shared 23 = .ok (.ireturn, 1) := by decide +kernel
theorem d_M_shared_24 : decode b_M_shared 24 = .ok (.iload 4, 2) := by decide +kernel
theorem d_M_shared_26 : decode b_M_shared 26 = .ok (.i2l, 1) := by decide +kernel
theorem d_M_shared_27 : decode b_M_shared 27 = .ok (.lconst 0, 1) := by decide +kernel
theorem d_M_shared_28 : decode b_M_shared 28 = .ok (.ldc2_w 126, 3) := by decide +kernel
theorem d_M_shared_31 : decode b_M_shared 31 = .ok (.invokestatic 122, 3) := by decide +kernel
theorem d_M_shared_34 : decode b_M_shared 34 = .ok (.ifCond .eq (15), 3) := by decide +kernel
theorem d_M_shared_37 : decode b_M_shared 37 = .ok (.aload_n 0, 1) := by decide +kernel
theorem d_M_shared_38 : decode b_M_shared 38 = .ok (.iload_n 1, 1) := by decide +kernel
theorem d_M_shared_39 : decode b_M_shared 39 = .ok (.iload_n 2, 1) := by decide +kernel
theorem d_M_shared_40 : decode b_M_shared 40 = .ok (.iload_n 3, 1) := by decide +kernel
theorem d_M_shared_41 : decode b_M_shared 41 = .ok (.iload 4, 2) := by decide +kernel
theorem d_M_shared_43 : decode b_M_shared 43 = .ok (.invokevirtual 384, 3) := by decide +kernel
theorem d_M_shared_46 : decode b_M_shared 46 = .ok (.goto (5), 3) := by decide +kernel
theorem d_M_shared_49 : decode b_M_shared 49 = .ok (.bipush (-102), 2) := by decide +kernel
theorem d_M_shared_51 : decode b_M_shared 51 = .ok (.ireturn, 1) := by decide +kernel
def F_M_shared (w : AW) (a0 : Nat) (x1 : Int32) (x2 : Int32) (x3 : Int32) (x4 : Int32) : Option (Int32) :=
  if (F_M_isAlmanac x1) = 0 then
    some (-101 : Int32)
  else
    if (F_M_isAlmanac x2) = 0 then
      some (-101 : Int32)
    else
      if (F_M_isValley x3) = 0 then
        some (-101 : Int32)
      else
        if (F_M_in (Int32.toInt64 x4) (0 : Int64) (3 : Int64)) = 0 then
          some (-102 : Int32)
        else
          gd (wk w a0 == 13) <|
          (F_M_sharedOf w a0 x1 x2 x3 x4).bind fun r2 =>
          some r2
theorem P_M_shared_0 {X : AX} {l : Launch} {G : AG} {w : AW} (hX : XOK X b_M_shared "RedSkyModel" 5) (hM : XM X l G { frames := 3, cells := 0, slots := 0, locals := 75 }) {o : Int32} (hR : XR X (some .int) 0 0 (some (vi o)) w) (a0 : Nat) (x1 : Int32) (x2 : Int32) (x3 : Int32) (x4 : Int32) (h : F_M_shared w a0 x1 x2 x3 x4 = some o) : RJ X 5 0 0 0 [(0, vr a0), (1, vi x1), (2, vi x2), (3, vi x3), (4, vi x4)] [] w := by
  unfold F_M_shared at h
  refine r_iload_n (i := 1) hX d_M_shared_0 1 rfl rfl ?_
  refine r_callS1 (As := [_]) hX hM mw_M_372 (T_M_isAlmanac _ _) rfl rfl ⟨Nat.le_refl _, Nat.le_refl _⟩ rfl rfl d_M_shared_1 ?_
  refine r_if_eq hX d_M_shared_4 rfl h (fun h => ?_) (fun h => ?_)
  · refine r_bipush (v := (-101 : Int32)) hX d_M_shared_21 rfl ?_
    cases h; exact r_iret hX hR d_M_shared_23
  · refine r_iload_n (i := 2) hX d_M_shared_7 2 rfl rfl ?_
    refine r_callS1 (As := [_]) hX hM mw_M_372 (T_M_isAlmanac _ _) rfl rfl ⟨Nat.le_refl _, Nat.le_refl _⟩ rfl rfl d_M_shared_8 ?_
    refine r_if_eq hX d_M_shared_11 rfl h (fun h => ?_) (fun h => ?_)
    · refine r_bipush (v := (-101 : Int32)) hX d_M_shared_21 rfl ?_
      cases h; exact r_iret hX hR d_M_shared_23
    · refine r_iload_n (i := 3) hX d_M_shared_14 3 rfl rfl ?_
      refine r_callS1 (As := [_]) hX hM mw_M_155 (T_M_isValley _ _) rfl rfl ⟨Nat.le_refl _, Nat.le_refl _⟩ rfl rfl d_M_shared_15 ?_
      refine r_if_ne hX d_M_shared_18 rfl h (fun h => ?_) (fun h => ?_)
      · refine r_iload (i := 4) hX d_M_shared_24 4  rfl ?_
        refine r_i2l hX d_M_shared_26 ?_
        refine r_lconst (v := (0 : Int64)) hX d_M_shared_27 rfl ?_
        refine r_ldc2 hX d_M_shared_28 cw_M_126 ?_
        refine r_callS1 (As := [_, _, _]) hX hM mw_M_122 (T_M_in _ _ _ _) rfl rfl ⟨Nat.le_refl _, Nat.le_refl _⟩ rfl rfl d_M_shared_31 ?_
        refine r_if_eq hX d_M_shared_34 rfl h (fun h => ?_) (fun h => ?_)
        · refine r_bipush (v := (-102 : Int32)) hX d_M_shared_49 rfl ?_
          cases h; exact r_iret hX hR d_M_shared_51
        · refine r_aload_n (i := 0) hX d_M_shared_37 0 rfl rfl ?_
          refine r_iload_n (i := 1) hX d_M_shared_38 1 rfl rfl ?_
          refine r_iload_n (i := 2) hX d_M_shared_39 2 rfl rfl ?_
          refine r_iload_n (i := 3) hX d_M_shared_40 3 rfl rfl ?_
          refine r_iload (i := 4) hX d_M_shared_41 4  rfl ?_
          obtain ⟨hk1, h⟩ := gd_e h
          obtain ⟨r2, hr3, h⟩ := bd_e h
          refine r_callV1 (As := [_, _, _, _]) hX hM mw_M_384 (T_M_sharedOf _ _ _ _ _ _ hr3) (rc_of ci_12 hk1) rfl rfl ⟨Nat.le_refl _, Nat.le_refl _⟩ rfl rfl d_M_shared_43 ?_
          refine r_goto hX d_M_shared_46 rfl ?_
          cases h; exact r_iret hX hR d_M_shared_51
      · refine r_bipush (v := (-101 : Int32)) hX d_M_shared_21 rfl ?_
        cases h; exact r_iret hX hR d_M_shared_23
theorem T_M_shared {l : Launch} {G : AG} (w : AW) (a0 : Nat) (x1 : Int32) (x2 : Int32) (x3 : Int32) (x4 : Int32) {o : Int32} (h : F_M_shared w a0 x1 x2 x3 x4 = some o) : Mt l G y_M_shared b_M_shared 5 (some (.int)) 3 75 0 0 [vr a0, vi x1, vi x2, vi x3, vi x4] w (some (vi o)) w := mt_of (by decide) (Nat.le_of_ble_eq_true rfl) (fun X hX hR hM hI => P_M_shared_0 hX hM hR _ _ _ _ _ h)
/-! RedSky$Likeness.reaches(I)Z -/
theorem d_Li_reaches_0 : decode b_Li_reaches 0 = .ok (.aload_n 0, 1) := by decide +kernel
theorem d_Li_reaches_1 : decode b_Li_reaches 1 = .ok (.getfield 15, 3) := by decide +kernel
theorem d_Li_reaches_4 : decode b_Li_reaches 4 = .ok (.aload_n 0, 1) := by decide +kernel
theorem d_Li_reaches_5 : decode b_Li_reaches 5 = .ok (.getfield 9, 3) := by decide +kernel
theorem d_Li_reaches_8 : decode b_Li_reaches 8 = .ok (.imul, 1) := by decide +kernel
theorem d_Li_reaches_9 : decode b_Li_reaches 9 = .ok (.bipush (10), 2) := by decide +kernel
theorem d_Li_reaches_11 : decode b_Li_reaches 11 = .ok (.imul, 1) := by decide +kernel
theorem d_Li_reaches_12 : decode b_Li_reaches 12 = .ok (.iload_n 1, 1) := by decide +kernel
theorem d_Li_reaches_13 : decode b_Li_reaches 13 = .ok (.aload_n 0, 1) := by decide +kernel
theorem d_Li_reaches_14 : decode b_Li_reaches 14 = .ok (.getfield 18, 3) := by decide +kernel
theorem d_Li_reaches_17 : decode b_Li_reaches 17 = .ok (.imul, 1) := by decide +kernel
theorem d_Li_reaches_18 : decode b_Li_reaches 18 = .ok (.aload_n 0, 1) := by decide +kernel
theorem d_Li_reaches_19 : decode b_Li_reaches 19 = .ok (.getfield 21, 3) := by decide +kernel
theorem d_Li_reaches_22 : decode b_Li_reaches 22 = .ok (.imul, 1) := by decide +kernel
theorem d_Li_reaches_23 : decode b_Li_reaches 23 = .ok (.if_icmp .le (7), 3) := by decide +kernel
theorem d_Li_reaches_26 : decode b_Li_reaches 26 = .ok (.iconst 1, 1) := by decide +kernel
theorem d_Li_reaches_27 : decode b_Li_reaches 27 = .ok (.goto (4), 3) := by decide +kernel
theorem d_Li_reaches_30 : decode b_Li_reaches 30 = .ok (.iconst 0, 1) := by decide +kernel
theorem d_Li_reaches_31 : decode b_Li_reaches 31 = .ok (.ireturn, 1) := by decide +kernel
def F_Li_reaches (w : AW) (a0 : Nat) (x1 : Int32) : Option (Int32) :=
  gd (wk w a0 == 12) <|
  if (((wi w a0 1) * (wi w a0 0)) * (10 : Int32)) ≤ ((x1 * (wi w a0 2)) * (wi w a0 3)) then
    some (0 : Int32)
  else
    some (1 : Int32)
theorem P_Li_reaches_0 {X : AX} {l : Launch} {G : AG} {w : AW} (hX : XOK X b_Li_reaches "RedSky$Likeness" 2) (hM : XM X l G { frames := 0, cells := 0, slots := 0, locals := 0 }) {o : Int32} (hR : XR X (some .boolean) 0 0 (some (vi o)) w) (a0 : Nat) (x1 : Int32) (h : F_Li_reaches w a0 x1 = some o) : RJ X 2 0 0 0 [(0, vr a0), (1, vi x1)] [] w := by
  unfold F_Li_reaches at h
  refine r_aload_n (i := 0) hX d_Li_reaches_0 0 rfl rfl ?_
  obtain ⟨hk1, h⟩ := gd_e h
  refine r_getI (i := 11) (f := 1) hX ci_11 (by decide) rfl fl_Li_15 hk1 d_Li_reaches_1 ?_
  refine r_aload_n (i := 0) hX d_Li_reaches_4 0 rfl rfl ?_
  refine r_getI (i := 11) (f := 0) hX ci_11 (by decide) rfl fl_Li_9 hk1 d_Li_reaches_5 ?_
  refine r_imul hX d_Li_reaches_8 ?_
  refine r_bipush (v := (10 : Int32)) hX d_Li_reaches_9 rfl ?_
  refine r_imul hX d_Li_reaches_11 ?_
  refine r_iload_n (i := 1) hX d_Li_reaches_12 1 rfl rfl ?_
  refine r_aload_n (i := 0) hX d_Li_reaches_13 0 rfl rfl ?_
  refine r_getI (i := 11) (f := 2) hX ci_11 (by decide) rfl fl_Li_18 hk1 d_Li_reaches_14 ?_
  refine r_imul hX d_Li_reaches_17 ?_
  refine r_aload_n (i := 0) hX d_Li_reaches_18 0 rfl rfl ?_
  refine r_getI (i := 11) (f := 3) hX ci_11 (by decide) rfl fl_Li_21 hk1 d_Li_reaches_19 ?_
  refine r_imul hX d_Li_reaches_22 ?_
  refine r_icmp_le hX d_Li_reaches_23 rfl h (fun h => ?_) (fun h => ?_)
  · refine r_iconst (v := (0 : Int32)) hX d_Li_reaches_30 rfl ?_
    cases h; exact r_zret hX hR rfl d_Li_reaches_31
  · refine r_iconst (v := (1 : Int32)) hX d_Li_reaches_26 rfl ?_
    refine r_goto hX d_Li_reaches_27 rfl ?_
    cases h; exact r_zret hX hR rfl d_Li_reaches_31
theorem T_Li_reaches {l : Launch} {G : AG} (w : AW) (a0 : Nat) (x1 : Int32) {o : Int32} (h : F_Li_reaches w a0 x1 = some o) : Mt l G y_Li_reaches b_Li_reaches 2 (some (.boolean)) 0 0 0 0 [vr a0, vi x1] w (some (vi o)) w := mt_of (by decide) (Nat.le_of_ble_eq_true rfl) (fun X hX hR hM hI => P_Li_reaches_0 hX hM hR _ _ h)
/-! RedSky.alike(IIII)I -/
theorem d_A_alike_0 : decode b_A_alike 0 = .ok (.aload_n 0, 1) := by decide +kernel
theorem d_A_alike_1 : decode b_A_alike 1 = .ok (.iload_n 1, 1) := by decide +kernel
theorem d_A_alike_2 : decode b_A_alike 2 = .ok (.invokevirtual 295, 3) := by decide +kernel
theorem d_A_alike_5 : decode b_A_alike 5 = .ok (.astore 5, 2) := by decide +kernel
theorem d_A_alike_7 : decode b_A_alike 7 = .ok (.aload_n 0, 1) := by decide +kernel
theorem d_A_alike_8 : decode b_A_alike 8 = .ok (.iload_n 2, 1) := by decide +kernel
theorem d_A_alike_9 : decode b_A_alike 9 = .ok (.invokevirtual 295, 3) := by decide +kernel
theorem d_A_alike_12 : decode b_A_alike 12 = .ok (.astore 6, 2) := by decide +kernel
theorem d_A_alike_14 : decode b_A_alike 14 = .ok (.aload_n 0, 1) := by decide +kernel
theorem d_A_alike_15 : decode b_A_alike 15 = .ok (.iload_n 3, 1) := by decide +kernel
theorem d_A_alike_16 : decode b_A_alike 16 = .ok (.invokevirtual 141, 3) := by decide +kernel
theorem d_A_alike_19 : decode b_A_alike 19 = .ok (.astore 7, 2) := by decide +kernel
theorem d_A_alike_21 : decode b_A_alike 21 = .ok (.aload 5, 2) := by decide +kernel
theorem d_A_alike_23 : decode b_A_alike 23 = .ok (.ifnull (13), 3) := by decide +kernel
theorem d_A_alike_26 : decode b_A_alike 26 = .ok (.aload 6, 2) := by decide +kernel
theorem d_A_alike_28 : decode b_A_alike 28 = .ok (.ifnull (8), 3) := by decide +kernel
theorem d_A_alike_31 : decode b_A_alike 31 = .ok (.aload 7, 2) := by decide +kernel
theorem d_A_alike_33 : decode b_A_alike 33 = .ok (.ifnonnull (6), 3) := by decide +kernel
theorem d_A_alike_36 : decode b_A_alike 36 = .ok (.bipush (-101), 2) := by decide +kernel
theorem d_A_alike_38 : decode b_A_alike 38 = .ok (.ireturn, 1) := by decide +kernel
theorem d_A_alike_39 : decode b_A_alike 39 = .ok (.iload 4, 2) := by decide +kernel
theorem d_A_alike_41 : decode b_A_alike 41 = .ok (.iconst 1, 1) := by decide +kernel
theorem d_A_alike_42 : decode b_A_alike 42 = .ok (.bipush (100), 2) := by decide +kernel
theorem d_A_alike_44 : decode b_A_alike 44 = .ok (.invokestatic 86, 3) := by decide +kernel
theorem d_A_alike_47 : decode b_A_alike 47 = .ok (.ifCond .ne (6), 3) := by decide +kernel
theorem d_A_alike_50 : decode b_A_alike 50 = .ok (.bipush (-102), 2) := by decide +kernel
theorem d_A_alike_52 : decode b_A_alike 52 = .ok (.ireturn, 1) := by decide +kernel
theorem d_A_alike_53 : decode b_A_alike 53 = .ok (.aload_n 0, 1) := by decide +kernel
theorem d_A_alike_54 : decode b_A_alike 54 = .ok (.getfield 79, 3) := by decide +kernel
theorem d_A_alike_57 : decode b_A_alike 57 = .ok (.aload 7, 2) := by decide +kernel
theorem d_A_alike_59 : decode b_A_alike 59 = .ok (.invokevirtual 315, 3) := by decide +kernel
theorem d_A_alike_62 : decode b_A_alike 62 = .ok (.aload_n 0, 1) := by decide +kernel
theorem d_A_alike_63 : decode b_A_alike 63 = .ok (.getfield 79, 3) := by decide +kernel
theorem d_A_alike_66 : decode b_A_alike 66 = .ok (.aload 5, 2) := by decide +kernel
theorem d_A_alike_68 : decode b_A_alike 68 = .ok (.aload 6, 2) := by decide +kernel
theorem d_A_alike_70 : decode b_A_alike 70 = .ok (.invokevirtual 319, 3) := by decide +kernel
theorem d_A_alike_73 : decode b_A_alike 73 = .ok (.aload_n 0, 1) := by decide +kernel
theorem d_A_alike_74 : decode b_A_alike 74 = .ok (.getfield 79, 3) := by decide +kernel
theorem d_A_alike_77 : decode b_A_alike 77 = .ok (.iload 4, 2) := by decide +kernel
theorem d_A_alike_79 : decode b_A_alike 79 = .ok (.invokevirtual 327, 3) := by decide +kernel
theorem d_A_alike_82 : decode b_A_alike 82 = .ok (.ifCond .eq (7), 3) := by decide +kernel
theorem d_A_alike_85 : decode b_A_alike 85 = .ok (.iconst 1, 1) := by decide +kernel
theorem d_A_alike_86 : decode b_A_alike 86 = .ok (.goto (4), 3) := by decide +kernel
theorem d_A_alike_89 : decode b_A_alike 89 = .ok (.iconst 0, 1) := by decide +kernel
theorem d_A_alike_90 : decode b_A_alike 90 = .ok (.ireturn, 1) := by decide +kernel
def F_A_alike (a0 : Nat) (x1 : Int32) (x2 : Int32) (x3 : Int32) (x4 : Int32) (w : AW) : Option (Int32 × AW) :=
  gd (wk w a0 == 1) <|
  (F_A_almanacOf w a0 x1).bind fun r2 =>
  (F_A_almanacOf w a0 x2).bind fun r4 =>
  (F_A_diaryOf w a0 x3).bind fun r6 =>
  if r2 = 0 then
    some ((-101 : Int32), w)
  else
    if r4 = 0 then
      some ((-101 : Int32), w)
    else
      if r6 = 0 then
        some ((-101 : Int32), w)
      else
        if (F_A_within x4 (1 : Int32) (100 : Int32)) = 0 then
          some ((-102 : Int32), w)
        else
          gd (wk w (wr w a0 11) == 12) <|
          (F_Li_readRain (wr w a0 11) r6 w).bind fun r9 =>
          gd (wk r9 a0 == 1) <|
          gd (wk r9 (wr r9 a0 11) == 12) <|
          (F_Li_compare (wr r9 a0 11) r2 r4 r9).bind fun r13 =>
          gd (wk r13 a0 == 1) <|
          gd (wk r13 (wr r13 a0 11) == 12) <|
          (F_Li_reaches r13 (wr r13 a0 11) x4).bind fun r17 =>
          if r17 = 0 then
            some ((0 : Int32), r13)
          else
            some ((1 : Int32), r13)
theorem P_A_alike_0 {X : AX} {l : Launch} {G : AG} (hX : XOK X b_A_alike "RedSky" 8) (hM : XM X l G { frames := 5, cells := 0, slots := 0, locals := 110 }) {o : Int32 × AW} (hR : XR X (some .int) 0 0 (some (vi o.1)) o.2) (a0 : Nat) (x1 : Int32) (x2 : Int32) (x3 : Int32) (x4 : Int32) (w : AW) (h : F_A_alike a0 x1 x2 x3 x4 w = some o) : RJ X 8 0 0 0 [(0, vr a0), (1, vi x1), (2, vi x2), (3, vi x3), (4, vi x4)] [] w := by
  unfold F_A_alike at h
  refine r_aload_n (i := 0) hX d_A_alike_0 0 rfl rfl ?_
  refine r_iload_n (i := 1) hX d_A_alike_1 1 rfl rfl ?_
  obtain ⟨hk1, h⟩ := gd_e h
  obtain ⟨r2, hr3, h⟩ := bd_e h
  refine r_callV1 (As := [_]) hX hM mw_A_295 (T_A_almanacOf _ _ _ hr3) (rc_of ci_0 hk1) rfl rfl ⟨Nat.le_refl _, Nat.le_refl _⟩ rfl rfl d_A_alike_2 ?_
  refine r_astore (i := 5) hX d_A_alike_5  (by decide) ?_
  refine r_aload_n (i := 0) hX d_A_alike_7 1 rfl rfl ?_
  refine r_iload_n (i := 2) hX d_A_alike_8 3 rfl rfl ?_
  obtain ⟨r4, hr5, h⟩ := bd_e h
  refine r_callV1 (As := [_]) hX hM mw_A_295 (T_A_almanacOf _ _ _ hr5) (rc_of ci_0 hk1) rfl rfl ⟨Nat.le_refl _, Nat.le_refl _⟩ rfl rfl d_A_alike_9 ?_
  refine r_astore (i := 6) hX d_A_alike_12  (by decide) ?_
  refine r_aload_n (i := 0) hX d_A_alike_14 2 rfl rfl ?_
  refine r_iload_n (i := 3) hX d_A_alike_15 5 rfl rfl ?_
  obtain ⟨r6, hr7, h⟩ := bd_e h
  refine r_callV1 (As := [_]) hX hM mw_A_141 (T_A_diaryOf _ _ _ hr7) (rc_of ci_0 hk1) rfl rfl ⟨Nat.le_refl _, Nat.le_refl _⟩ rfl rfl d_A_alike_16 ?_
  refine r_astore (i := 7) hX d_A_alike_19  (by decide) ?_
  refine r_aload (i := 5) hX d_A_alike_21 2  rfl ?_
  refine r_ifnull hX d_A_alike_23 rfl h (fun h => ?_) (fun h => ?_)
  · refine r_bipush (v := (-101 : Int32)) hX d_A_alike_36 rfl ?_
    cases h; exact r_iret hX hR d_A_alike_38
  · refine r_aload (i := 6) hX d_A_alike_26 1  rfl ?_
    refine r_ifnull hX d_A_alike_28 rfl h (fun h => ?_) (fun h => ?_)
    · refine r_bipush (v := (-101 : Int32)) hX d_A_alike_36 rfl ?_
      cases h; exact r_iret hX hR d_A_alike_38
    · refine r_aload (i := 7) hX d_A_alike_31 0  rfl ?_
      refine r_ifnonnull hX d_A_alike_33 rfl h (fun h => ?_) (fun h => ?_)
      · refine r_iload (i := 4) hX d_A_alike_39 7  rfl ?_
        refine r_iconst (v := (1 : Int32)) hX d_A_alike_41 rfl ?_
        refine r_bipush (v := (100 : Int32)) hX d_A_alike_42 rfl ?_
        refine r_callS1 (As := [_, _, _]) hX hM mw_A_86 (T_A_within _ _ _ _) rfl rfl ⟨Nat.le_refl _, Nat.le_refl _⟩ rfl rfl d_A_alike_44 ?_
        refine r_if_ne hX d_A_alike_47 rfl h (fun h => ?_) (fun h => ?_)
        · refine r_aload_n (i := 0) hX d_A_alike_53 3 rfl rfl ?_
          refine r_getR (i := 0) (f := 11) hX ci_0 (by decide) rfl fl_A_79 hk1 d_A_alike_54 ?_
          refine r_aload (i := 7) hX d_A_alike_57 0  rfl ?_
          obtain ⟨hk8, h⟩ := gd_e h
          obtain ⟨r9, hr10, h⟩ := bd_e h
          refine r_callV0 (As := [_]) hX hM mw_A_315 (T_Li_readRain _ _ _ hr10) (rc_of ci_11 hk8) rfl rfl ⟨Nat.le_refl _, Nat.le_refl _⟩ rfl rfl d_A_alike_59 ?_
          refine r_aload_n (i := 0) hX d_A_alike_62 3 rfl rfl ?_
          obtain ⟨hk11, h⟩ := gd_e h
          refine r_getR (i := 0) (f := 11) hX ci_0 (by decide) rfl fl_A_79 hk11 d_A_alike_63 ?_
          refine r_aload (i := 5) hX d_A_alike_66 2  rfl ?_
          refine r_aload (i := 6) hX d_A_alike_68 1  rfl ?_
          obtain ⟨hk12, h⟩ := gd_e h
          obtain ⟨r13, hr14, h⟩ := bd_e h
          refine r_callV0 (As := [_, _]) hX hM mw_A_319 (T_Li_compare _ _ _ _ hr14) (rc_of ci_11 hk12) rfl rfl ⟨Nat.le_refl _, Nat.le_refl _⟩ rfl rfl d_A_alike_70 ?_
          refine r_aload_n (i := 0) hX d_A_alike_73 3 rfl rfl ?_
          obtain ⟨hk15, h⟩ := gd_e h
          refine r_getR (i := 0) (f := 11) hX ci_0 (by decide) rfl fl_A_79 hk15 d_A_alike_74 ?_
          refine r_iload (i := 4) hX d_A_alike_77 7  rfl ?_
          obtain ⟨hk16, h⟩ := gd_e h
          obtain ⟨r17, hr18, h⟩ := bd_e h
          refine r_callV1 (As := [_]) hX hM mw_A_327 (T_Li_reaches _ _ _ hr18) (rc_of ci_11 hk16) rfl rfl ⟨Nat.le_refl _, Nat.le_refl _⟩ rfl rfl d_A_alike_79 ?_
          refine r_if_eq hX d_A_alike_82 rfl h (fun h => ?_) (fun h => ?_)
          · refine r_iconst (v := (0 : Int32)) hX d_A_alike_89 rfl ?_
            cases h; exact r_iret hX hR d_A_alike_90
          · refine r_iconst (v := (1 : Int32)) hX d_A_alike_85 rfl ?_
            refine r_goto hX d_A_alike_86 rfl ?_
            cases h; exact r_iret hX hR d_A_alike_90
        · refine r_bipush (v := (-102 : Int32)) hX d_A_alike_50 rfl ?_
          cases h; exact r_iret hX hR d_A_alike_52
      · refine r_bipush (v := (-101 : Int32)) hX d_A_alike_36 rfl ?_
        cases h; exact r_iret hX hR d_A_alike_38
theorem T_A_alike {l : Launch} {G : AG} (a0 : Nat) (x1 : Int32) (x2 : Int32) (x3 : Int32) (x4 : Int32) (w : AW) {o : Int32 × AW} (h : F_A_alike a0 x1 x2 x3 x4 w = some o) : Mt l G y_A_alike b_A_alike 8 (some (.int)) 5 110 0 0 [vr a0, vi x1, vi x2, vi x3, vi x4] w (some (vi o.1)) o.2 := mt_of (by decide) (Nat.le_of_ble_eq_true rfl) (fun X hX hR hM hI => P_A_alike_0 hX hM hR _ _ _ _ _ _ h)
/-! RedSkyModel.areAlike(IIII)Z -/
theorem d_M_areAlike_0 : decode b_M_areAlike 0 = .ok (.aload_n 0, 1) := by decide +kernel
theorem d_M_areAlike_1 : decode b_M_areAlike 1 = .ok (.iload_n 1, 1) := by decide +kernel
theorem d_M_areAlike_2 : decode b_M_areAlike 2 = .ok (.iload_n 2, 1) := by decide +kernel
theorem d_M_areAlike_3 : decode b_M_areAlike 3 = .ok (.iload_n 3, 1) := by decide +kernel
theorem d_M_areAlike_4 : decode b_M_areAlike 4 = .ok (.iconst 1, 1) := by decide +kernel
theorem d_M_areAlike_5 : decode b_M_areAlike 5 = .ok (.invokevirtual 384, 3) := by decide +kernel
theorem d_M_areAlike_8 : decode b_M_areAlike 8 = .ok (.aload_n 0, 1) := by decide +kernel
theorem d_M_areAlike_9 : decode b_M_areAlike 9 = .ok (.iload_n 1, 1) := by decide +kernel
theorem d_M_areAlike_10 : decode b_M_areAlike 10 = .ok (.iload_n 2, 1) := by decide +kernel
theorem d_M_areAlike_11 : decode b_M_areAlike 11 = .ok (.iload_n 3, 1) := by decide +kernel
theorem d_M_areAlike_12 : decode b_M_areAlike 12 = .ok (.iconst 0, 1) := by decide +kernel
theorem d_M_areAlike_13 : decode b_M_areAlike 13 = .ok (.invokevirtual 384, 3) := by decide +kernel
theorem d_M_areAlike_16 : decode b_M_areAlike 16 = .ok (.imul, 1) := by decide +kernel
theorem d_M_areAlike_17 : decode b_M_areAlike 17 = .ok (.bipush (10), 2) := by decide +kernel
theorem d_M_areAlike_19 : decode b_M_areAlike 19 = .ok (.imul, 1) := by decide +kernel
theorem d_M_areAlike_20 : decode b_M_areAlike 20 = .ok (.iload 4, 2) := by decide +kernel
theorem d_M_areAlike_22 : decode b_M_areAlike 22 = .ok (.aload_n 0, 1) := by decide +kernel
theorem d_M_areAlike_23 : decode b_M_areAlike 23 = .ok (.iload_n 1, 1) := by decide +kernel
theorem d_M_areAlike_24 : decode b_M_areAlike 24 = .ok (.iload_n 2, 1) := by decide +kernel
theorem d_M_areAlike_25 : decode b_M_areAlike 25 = .ok (.iload_n 3, 1) := by decide +kernel
theorem d_M_areAlike_26 : decode b_M_areAlike 26 = .ok (.iconst 2, 1) := by decide +kernel
theorem d_M_areAlike_27 : decode b_M_areAlike 27 = .ok (.invokevirtual 384, 3) := by decide +kernel
theorem d_M_areAlike_30 : decode b_M_areAlike 30 = .ok (.imul, 1) := by decide +kernel
theorem d_M_areAlike_31 : decode b_M_areAlike 31 = .ok (.aload_n 0, 1) := by decide +kernel
theorem d_M_areAlike_32 : decode b_M_areAlike 32 = .ok (.iload_n 1, 1) := by decide +kernel
theorem d_M_areAlike_33 : decode b_M_areAlike 33 = .ok (.iload_n 2, 1) := by decide +kernel
theorem d_M_areAlike_34 : decode b_M_areAlike 34 = .ok (.iload_n 3, 1) := by decide +kernel
theorem d_M_areAlike_35 : decode b_M_areAlike 35 = .ok (.iconst 3, 1) := by decide +kernel
theorem d_M_areAlike_36 : decode b_M_areAlike 36 = .ok (.invokevirtual 384, 3) := by decide +kernel
theorem d_M_areAlike_39 : decode b_M_areAlike 39 = .ok (.imul, 1) := by decide +kernel
theorem d_M_areAlike_40 : decode b_M_areAlike 40 = .ok (.if_icmp .le (7), 3) := by decide +kernel
theorem d_M_areAlike_43 : decode b_M_areAlike 43 = .ok (.iconst 1, 1) := by decide +kernel
theorem d_M_areAlike_44 : decode b_M_areAlike 44 = .ok (.goto (4), 3) := by decide +kernel
theorem d_M_areAlike_47 : decode b_M_areAlike 47 = .ok (.iconst 0, 1) := by decide +kernel
theorem d_M_areAlike_48 : decode b_M_areAlike 48 = .ok (.ireturn, 1) := by decide +kernel
def F_M_areAlike (w : AW) (a0 : Nat) (x1 : Int32) (x2 : Int32) (x3 : Int32) (x4 : Int32) : Option (Int32) :=
  gd (wk w a0 == 13) <|
  (F_M_sharedOf w a0 x1 x2 x3 (1 : Int32)).bind fun r2 =>
  (F_M_sharedOf w a0 x1 x2 x3 (0 : Int32)).bind fun r4 =>
  (F_M_sharedOf w a0 x1 x2 x3 (2 : Int32)).bind fun r6 =>
  (F_M_sharedOf w a0 x1 x2 x3 (3 : Int32)).bind fun r8 =>
  if ((r2 * r4) * (10 : Int32)) ≤ ((x4 * r6) * r8) then
    some (0 : Int32)
  else
    some (1 : Int32)
theorem P_M_areAlike_0 {X : AX} {l : Launch} {G : AG} {w : AW} (hX : XOK X b_M_areAlike "RedSkyModel" 5) (hM : XM X l G { frames := 3, cells := 0, slots := 0, locals := 75 }) {o : Int32} (hR : XR X (some .boolean) 0 0 (some (vi o)) w) (a0 : Nat) (x1 : Int32) (x2 : Int32) (x3 : Int32) (x4 : Int32) (h : F_M_areAlike w a0 x1 x2 x3 x4 = some o) : RJ X 5 0 0 0 [(0, vr a0), (1, vi x1), (2, vi x2), (3, vi x3), (4, vi x4)] [] w := by
  unfold F_M_areAlike at h
  refine r_aload_n (i := 0) hX d_M_areAlike_0 0 rfl rfl ?_
  refine r_iload_n (i := 1) hX d_M_areAlike_1 1 rfl rfl ?_
  refine r_iload_n (i := 2) hX d_M_areAlike_2 2 rfl rfl ?_
  refine r_iload_n (i := 3) hX d_M_areAlike_3 3 rfl rfl ?_
  refine r_iconst (v := (1 : Int32)) hX d_M_areAlike_4 rfl ?_
  obtain ⟨hk1, h⟩ := gd_e h
  obtain ⟨r2, hr3, h⟩ := bd_e h
  refine r_callV1 (As := [_, _, _, _]) hX hM mw_M_384 (T_M_sharedOf _ _ _ _ _ _ hr3) (rc_of ci_12 hk1) rfl rfl ⟨Nat.le_refl _, Nat.le_refl _⟩ rfl rfl d_M_areAlike_5 ?_
  refine r_aload_n (i := 0) hX d_M_areAlike_8 0 rfl rfl ?_
  refine r_iload_n (i := 1) hX d_M_areAlike_9 1 rfl rfl ?_
  refine r_iload_n (i := 2) hX d_M_areAlike_10 2 rfl rfl ?_
  refine r_iload_n (i := 3) hX d_M_areAlike_11 3 rfl rfl ?_
  refine r_iconst (v := (0 : Int32)) hX d_M_areAlike_12 rfl ?_
  obtain ⟨r4, hr5, h⟩ := bd_e h
  refine r_callV1 (As := [_, _, _, _]) hX hM mw_M_384 (T_M_sharedOf _ _ _ _ _ _ hr5) (rc_of ci_12 hk1) rfl rfl ⟨Nat.le_refl _, Nat.le_refl _⟩ rfl rfl d_M_areAlike_13 ?_
  refine r_imul hX d_M_areAlike_16 ?_
  refine r_bipush (v := (10 : Int32)) hX d_M_areAlike_17 rfl ?_
  refine r_imul hX d_M_areAlike_19 ?_
  refine r_iload (i := 4) hX d_M_areAlike_20 4  rfl ?_
  refine r_aload_n (i := 0) hX d_M_areAlike_22 0 rfl rfl ?_
  refine r_iload_n (i := 1) hX d_M_areAlike_23 1 rfl rfl ?_
  refine r_iload_n (i := 2) hX d_M_areAlike_24 2 rfl rfl ?_
  refine r_iload_n (i := 3) hX d_M_areAlike_25 3 rfl rfl ?_
  refine r_iconst (v := (2 : Int32)) hX d_M_areAlike_26 rfl ?_
  obtain ⟨r6, hr7, h⟩ := bd_e h
  refine r_callV1 (As := [_, _, _, _]) hX hM mw_M_384 (T_M_sharedOf _ _ _ _ _ _ hr7) (rc_of ci_12 hk1) rfl rfl ⟨Nat.le_refl _, Nat.le_refl _⟩ rfl rfl d_M_areAlike_27 ?_
  refine r_imul hX d_M_areAlike_30 ?_
  refine r_aload_n (i := 0) hX d_M_areAlike_31 0 rfl rfl ?_
  refine r_iload_n (i := 1) hX d_M_areAlike_32 1 rfl rfl ?_
  refine r_iload_n (i := 2) hX d_M_areAlike_33 2 rfl rfl ?_
  refine r_iload_n (i := 3) hX d_M_areAlike_34 3 rfl rfl ?_
  refine r_iconst (v := (3 : Int32)) hX d_M_areAlike_35 rfl ?_
  obtain ⟨r8, hr9, h⟩ := bd_e h
  refine r_callV1 (As := [_, _, _, _]) hX hM mw_M_384 (T_M_sharedOf _ _ _ _ _ _ hr9) (rc_of ci_12 hk1) rfl rfl ⟨Nat.le_refl _, Nat.le_refl _⟩ rfl rfl d_M_areAlike_36 ?_
  refine r_imul hX d_M_areAlike_39 ?_
  refine r_icmp_le hX d_M_areAlike_40 rfl h (fun h => ?_) (fun h => ?_)
  · refine r_iconst (v := (0 : Int32)) hX d_M_areAlike_47 rfl ?_
    cases h; exact r_zret hX hR rfl d_M_areAlike_48
  · refine r_iconst (v := (1 : Int32)) hX d_M_areAlike_43 rfl ?_
    refine r_goto hX d_M_areAlike_44 rfl ?_
    cases h; exact r_zret hX hR rfl d_M_areAlike_48
theorem T_M_areAlike {l : Launch} {G : AG} (w : AW) (a0 : Nat) (x1 : Int32) (x2 : Int32) (x3 : Int32) (x4 : Int32) {o : Int32} (h : F_M_areAlike w a0 x1 x2 x3 x4 = some o) : Mt l G y_M_areAlike b_M_areAlike 5 (some (.boolean)) 3 75 0 0 [vr a0, vi x1, vi x2, vi x3, vi x4] w (some (vi o)) w := mt_of (by decide) (Nat.le_of_ble_eq_true rfl) (fun X hX hR hM hI => P_M_areAlike_0 hX hM hR _ _ _ _ _ h)
/-! RedSkyModel.alike(IIII)I -/
theorem d_M_alike_0 : decode b_M_alike 0 = .ok (.iload_n 1, 1) := by decide +kernel
theorem d_M_alike_1 : decode b_M_alike 1 = .ok (.invokestatic 372, 3) := by decide +kernel
theorem d_M_alike_4 : decode b_M_alike 4 = .ok (.ifCond .eq (17), 3) := by decide +kernel
theorem d_M_alike_7 : decode b_M_alike 7 = .ok (.iload_n 2, 1) := by decide +kernel
theorem d_M_alike_8 : decode b_M_alike 8 = .ok (.invokestatic 372, 3) := by decide +kernel
theorem d_M_alike_11 : decode b_M_alike 11 = .ok (.ifCond .eq (10), 3) := by decide +kernel
theorem d_M_alike_14 : decode b_M_alike 14 = .ok (.iload_n 3, 1) := by decide +kernel
theorem d_M_alike_15 : decode b_M_alike 15 = .ok (.invokestatic 155, 3) := by decide +kernel
theorem d_M_alike_18 : decode b_M_alike 18 = .ok (.ifCond .ne (6), 3) := by decide +kernel
theorem d_M_alike_21 : decode b_M_alike 21 = .ok (.bipush (-101), 2) := by decide +kernel
theorem d_M_alike_23 : decode b_M_alike 23 = .ok (.ireturn, 1) := by decide +kernel
theorem d_M_alike_24 : decode b_M_alike 24 = .ok (.iload 4, 2) := by decide +kernel
theorem d_M_alike_26 : decode b_M_alike 26 = .ok (.i2l, 1) := by decide +kernel
theorem d_M_alike_27 : decode b_M_alike 27 = .ok (.lconst 1, 1) := by decide +kernel
theorem d_M_alike_28 : decode b_M_alike 28 = .ok (.ldc2_w 387, 3) := by decide +kernel
theorem d_M_alike_31 : decode b_M_alike 31 = .ok (.invokestatic 122, 3) := by decide +kernel
theorem d_M_alike_34 : decode b_M_alike 34 = .ok (.ifCond .ne (8), 3) := by decide +kernel
theorem d_M_alike_37 : decode b_M_alike 37 = .ok (.bipush (-102), 2) := by decide +kernel
theorem d_M_alike_39 : decode b_M_alike 39 = .ok (.goto (20), 3) := by decide +kernel
theorem d_M_alike_42 : decode b_M_alike 42 = .ok (.aload_n 0, 1) := by decide +kernel
theorem d_M_alike_43 : decode b_M_alike 43 = .ok (.iload_n 1, 1) := by decide +kernel
theorem d_M_alike_44 : decode b_M_alike 44 = .ok (.iload_n 2, 1) := by decide +kernel
theorem d_M_alike_45 : decode b_M_alike 45 = .ok (.iload_n 3, 1) := by decide +kernel
theorem d_M_alike_46 : decode b_M_alike 46 = .ok (.iload 4, 2) := by decide +kernel
theorem d_M_alike_48 : decode b_M_alike 48 = .ok (.invokevirtual 389, 3) := by decide +kernel
theorem d_M_alike_51 : decode b_M_alike 51 = .ok (.ifCond .eq (7), 3) := by decide +kernel
theorem d_M_alike_54 : decode b_M_alike 54 = .ok (.iconst 1, 1) := by decide +kernel
theorem d_M_alike_55 : decode b_M_alike 55 = .ok (.goto (4), 3) := by decide +kernel
theorem d_M_alike_58 : decode b_M_alike 58 = .ok (.iconst 0, 1) := by decide +kernel
theorem d_M_alike_59 : decode b_M_alike 59 = .ok (.ireturn, 1) := by decide +kernel
def F_M_alike (w : AW) (a0 : Nat) (x1 : Int32) (x2 : Int32) (x3 : Int32) (x4 : Int32) : Option (Int32) :=
  if (F_M_isAlmanac x1) = 0 then
    some (-101 : Int32)
  else
    if (F_M_isAlmanac x2) = 0 then
      some (-101 : Int32)
    else
      if (F_M_isValley x3) = 0 then
        some (-101 : Int32)
      else
        if (F_M_in (Int32.toInt64 x4) (1 : Int64) (100 : Int64)) = 0 then
          some (-102 : Int32)
        else
          gd (wk w a0 == 13) <|
          (F_M_areAlike w a0 x1 x2 x3 x4).bind fun r2 =>
          if r2 = 0 then
            some (0 : Int32)
          else
            some (1 : Int32)
theorem P_M_alike_0 {X : AX} {l : Launch} {G : AG} {w : AW} (hX : XOK X b_M_alike "RedSkyModel" 5) (hM : XM X l G { frames := 4, cells := 0, slots := 0, locals := 99 }) {o : Int32} (hR : XR X (some .int) 0 0 (some (vi o)) w) (a0 : Nat) (x1 : Int32) (x2 : Int32) (x3 : Int32) (x4 : Int32) (h : F_M_alike w a0 x1 x2 x3 x4 = some o) : RJ X 5 0 0 0 [(0, vr a0), (1, vi x1), (2, vi x2), (3, vi x3), (4, vi x4)] [] w := by
  unfold F_M_alike at h
  refine r_iload_n (i := 1) hX d_M_alike_0 1 rfl rfl ?_
  refine r_callS1 (As := [_]) hX hM mw_M_372 (T_M_isAlmanac _ _) rfl rfl ⟨Nat.le_refl _, Nat.le_refl _⟩ rfl rfl d_M_alike_1 ?_
  refine r_if_eq hX d_M_alike_4 rfl h (fun h => ?_) (fun h => ?_)
  · refine r_bipush (v := (-101 : Int32)) hX d_M_alike_21 rfl ?_
    cases h; exact r_iret hX hR d_M_alike_23
  · refine r_iload_n (i := 2) hX d_M_alike_7 2 rfl rfl ?_
    refine r_callS1 (As := [_]) hX hM mw_M_372 (T_M_isAlmanac _ _) rfl rfl ⟨Nat.le_refl _, Nat.le_refl _⟩ rfl rfl d_M_alike_8 ?_
    refine r_if_eq hX d_M_alike_11 rfl h (fun h => ?_) (fun h => ?_)
    · refine r_bipush (v := (-101 : Int32)) hX d_M_alike_21 rfl ?_
      cases h; exact r_iret hX hR d_M_alike_23
    · refine r_iload_n (i := 3) hX d_M_alike_14 3 rfl rfl ?_
      refine r_callS1 (As := [_]) hX hM mw_M_155 (T_M_isValley _ _) rfl rfl ⟨Nat.le_refl _, Nat.le_refl _⟩ rfl rfl d_M_alike_15 ?_
      refine r_if_ne hX d_M_alike_18 rfl h (fun h => ?_) (fun h => ?_)
      · refine r_iload (i := 4) hX d_M_alike_24 4  rfl ?_
        refine r_i2l hX d_M_alike_26 ?_
        refine r_lconst (v := (1 : Int64)) hX d_M_alike_27 rfl ?_
        refine r_ldc2 hX d_M_alike_28 cw_M_387 ?_
        refine r_callS1 (As := [_, _, _]) hX hM mw_M_122 (T_M_in _ _ _ _) rfl rfl ⟨Nat.le_refl _, Nat.le_refl _⟩ rfl rfl d_M_alike_31 ?_
        refine r_if_ne hX d_M_alike_34 rfl h (fun h => ?_) (fun h => ?_)
        · refine r_aload_n (i := 0) hX d_M_alike_42 0 rfl rfl ?_
          refine r_iload_n (i := 1) hX d_M_alike_43 1 rfl rfl ?_
          refine r_iload_n (i := 2) hX d_M_alike_44 2 rfl rfl ?_
          refine r_iload_n (i := 3) hX d_M_alike_45 3 rfl rfl ?_
          refine r_iload (i := 4) hX d_M_alike_46 4  rfl ?_
          obtain ⟨hk1, h⟩ := gd_e h
          obtain ⟨r2, hr3, h⟩ := bd_e h
          refine r_callV1 (As := [_, _, _, _]) hX hM mw_M_389 (T_M_areAlike _ _ _ _ _ _ hr3) (rc_of ci_12 hk1) rfl rfl ⟨Nat.le_refl _, Nat.le_refl _⟩ rfl rfl d_M_alike_48 ?_
          refine r_if_eq hX d_M_alike_51 rfl h (fun h => ?_) (fun h => ?_)
          · refine r_iconst (v := (0 : Int32)) hX d_M_alike_58 rfl ?_
            cases h; exact r_iret hX hR d_M_alike_59
          · refine r_iconst (v := (1 : Int32)) hX d_M_alike_54 rfl ?_
            refine r_goto hX d_M_alike_55 rfl ?_
            cases h; exact r_iret hX hR d_M_alike_59
        · refine r_bipush (v := (-102 : Int32)) hX d_M_alike_37 rfl ?_
          refine r_goto hX d_M_alike_39 rfl ?_
          cases h; exact r_iret hX hR d_M_alike_59
      · refine r_bipush (v := (-101 : Int32)) hX d_M_alike_21 rfl ?_
        cases h; exact r_iret hX hR d_M_alike_23
theorem T_M_alike {l : Launch} {G : AG} (w : AW) (a0 : Nat) (x1 : Int32) (x2 : Int32) (x3 : Int32) (x4 : Int32) {o : Int32} (h : F_M_alike w a0 x1 x2 x3 x4 = some o) : Mt l G y_M_alike b_M_alike 5 (some (.int)) 4 99 0 0 [vr a0, vi x1, vi x2, vi x3, vi x4] w (some (vi o)) w := mt_of (by decide) (Nat.le_of_ble_eq_true rfl) (fun X hX hR hM hI => P_M_alike_0 hX hM hR _ _ _ _ _ h)
