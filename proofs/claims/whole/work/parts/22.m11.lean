/-! RedSkyModel.chance(II)I -/
theorem d_M_chance_0 : decode b_M_chance 0 = .ok (.aload_n 0, 1) := by decide +kernel
theorem d_M_chance_1 : decode b_M_chance 1 = .ok (.iload_n 1, 1) := by decide +kernel
theorem d_M_chance_2 : decode b_M_chance 2 = .ok (.invokevirtual 306, 3) := by decide +kernel
theorem d_M_chance_5 : decode b_M_chance 5 = .ok (.ifCond .eq (10), 3) := by decide +kernel
theorem d_M_chance_8 : decode b_M_chance 8 = .ok (.iload_n 2, 1) := by decide +kernel
theorem d_M_chance_9 : decode b_M_chance 9 = .ok (.invokestatic 155, 3) := by decide +kernel
theorem d_M_chance_12 : decode b_M_chance 12 = .ok (.ifCond .ne (6), 3) := by decide +kernel
theorem d_M_chance_15 : decode b_M_chance 15 = .ok (.bipush (-101), 2) := by decide +kernel
theorem d_M_chance_17 : decode b_M_chance 17 = .ok (.ireturn, 1) := by decide +kernel
theorem d_M_chance_18 : decode b_M_chance 18 = .ok (.aload_n 0, 1) := by decide +kernel
theorem d_M_chance_19 : decode b_M_chance 19 = .ok (.iload_n 1, 1) := by decide +kernel
theorem d_M_chance_20 : decode b_M_chance 20 = .ok (.iload_n 2, 1) := by decide +kernel
theorem d_M_chance_21 : decode b_M_chance 21 = .ok (.iconst 0, 1) := by decide +kernel
theorem d_M_chance_22 : decode b_M_chance 22 = .ok (.sipush (1461), 3) := by decide +kernel
theorem d_M_chance_25 : decode b_M_chance 25 = .ok (.iconst 1, 1) := by decide +kernel
theorem d_M_chance_26 : decode b_M_chance 26 = .ok (.invokevirtual 331, 3) := by decide +kernel
theorem d_M_chance_29 : decode b_M_chance 29 = .ok (.istore_n 3, 1) := by decide +kernel
theorem d_M_chance_30 : decode b_M_chance 30 = .ok (.aload_n 0, 1) := by decide +kernel
theorem d_M_chance_31 : decode b_M_chance 31 = .ok (.iload_n 1, 1) := by decide +kernel
theorem d_M_chance_32 : decode b_M_chance 32 = .ok (.iload_n 2, 1) := by decide +kernel
theorem d_M_chance_33 : decode b_M_chance 33 = .ok (.iconst 0, 1) := by decide +kernel
theorem d_M_chance_34 : decode b_M_chance 34 = .ok (.sipush (1461), 3) := by decide +kernel
theorem d_M_chance_37 : decode b_M_chance 37 = .ok (.iconst 2, 1) := by decide +kernel
theorem d_M_chance_38 : decode b_M_chance 38 = .ok (.invokevirtual 331, 3) := by decide +kernel
theorem d_M_chance_41 : decode b_M_chance 41 = .ok (.istore 4, 2) := by decide +kernel
theorem d_M_chance_43 : decode b_M_chance 43 = .ok (.iconst 0, 1) := by decide +kernel
theorem d_M_chance_44 : decode b_M_chance 44 = .ok (.istore 5, 2) := by decide +kernel
theorem d_M_chance_46 : decode b_M_chance 46 = .ok (.iconst 1, 1) := by decide +kernel
theorem d_M_chance_47 : decode b_M_chance 47 = .ok (.istore 6, 2) := by decide +kernel
theorem d_M_chance_49 : decode b_M_chance 49 = .ok (.iload 6, 2) := by decide +kernel
theorem d_M_chance_51 : decode b_M_chance 51 = .ok (.iconst 4, 1) := by decide +kernel
theorem d_M_chance_52 : decode b_M_chance 52 = .ok (.if_icmp .ge (62), 3) := by decide +kernel
theorem d_M_chance_55 : decode b_M_chance 55 = .ok (.aload_n 0, 1) := by decide +kernel
theorem d_M_chance_56 : decode b_M_chance 56 = .ok (.iload_n 1, 1) := by decide +kernel
theorem d_M_chance_57 : decode b_M_chance 57 = .ok (.iload_n 2, 1) := by decide +kernel
theorem d_M_chance_58 : decode b_M_chance 58 = .ok (.iload 6, 2) := by decide +kernel
theorem d_M_chance_60 : decode b_M_chance 60 = .ok (.iconst 1, 1) := by decide +kernel
theorem d_M_chance_61 : decode b_M_chance 61 = .ok (.invokevirtual 346, 3) := by decide +kernel
theorem d_M_chance_64 : decode b_M_chance 64 = .ok (.istore 7, 2) := by decide +kernel
theorem d_M_chance_66 : decode b_M_chance 66 = .ok (.aload_n 0, 1) := by decide +kernel
theorem d_M_chance_67 : decode b_M_chance 67 = .ok (.iload_n 1, 1) := by decide +kernel
theorem d_M_chance_68 : decode b_M_chance 68 = .ok (.iload_n 2, 1) := by decide +kernel
theorem d_M_chance_69 : decode b_M_chance 69 = .ok (.iload 6, 2) := by decide +kernel
theorem d_M_chance_71 : decode b_M_chance 71 = .ok (.iconst 0, 1) := by decide +kernel
theorem d_M_chance_72 : decode b_M_chance 72 = .ok (.invokevirtual 346, 3) := by decide +kernel
theorem d_M_chance_75 : decode b_M_chance 75 = .ok (.istore 8, 2) := by decide +kernel
theorem d_M_chance_77 : decode b_M_chance 77 = .ok (.iload 5, 2) := by decide +kernel
theorem d_M_chance_79 : decode b_M_chance 79 = .ok (.iload_n 3, 1) := by decide +kernel
theorem d_M_chance_80 : decode b_M_chance 80 = .ok (.ifCond .eq (20), 3) := by decide +kernel
theorem d_M_chance_83 : decode b_M_chance 83 = .ok (.iload 7, 2) := by decide +kernel
theorem d_M_chance_85 : decode b_M_chance 85 = .ok (.ifCond .eq (15), 3) := by decide +kernel
theorem d_M_chance_88 : decode b_M_chance 88 = .ok (.iload 8, 2) := by decide +kernel
theorem d_M_chance_90 : decode b_M_chance 90 = .ok (.iload_n 3, 1) := by decide +kernel
theorem d_M_chance_91 : decode b_M_chance 91 = .ok (.imul, 1) := by decide +kernel
theorem d_M_chance_92 : decode b_M_chance 92 = .ok (.iload 4, 2) := by decide +kernel
theorem d_M_chance_94 : decode b_M_chance 94 = .ok (.iload 7, 2) := by decide +kernel
theorem d_M_chance_96 : decode b_M_chance 96 = .ok (.imul, 1) := by decide +kernel
theorem d_M_chance_97 : decode b_M_chance 97 = .ok (.if_icmp .lt (7), 3) := by decide +kernel
theorem d_M_chance_100 : decode b_M_chance 100 = .ok (.iconst 1, 1) := by decide +kernel
theorem d_M_chance_101 : decode b_M_chance 101 = .ok (.goto (4), 3) := by decide +kernel
theorem d_M_chance_104 : decode b_M_chance 104 = .ok (.iconst 0, 1) := by decide +kernel
theorem d_M_chance_105 : decode b_M_chance 105 = .ok (.iadd, 1) := by decide +kernel
theorem d_M_chance_106 : decode b_M_chance 106 = .ok (.istore 5, 2) := by decide +kernel
theorem d_M_chance_108 : decode b_M_chance 108 = .ok (.iinc 6 (1), 3) := by decide +kernel
theorem d_M_chance_111 : decode b_M_chance 111 = .ok (.goto (-62), 3) := by decide +kernel
theorem d_M_chance_114 : decode b_M_chance 114 = .ok (.iload 5, 2) := by decide +kernel
theorem d_M_chance_116 : decode b_M_chance 116 = .ok (.ireturn, 1) := by decide +kernel
def F_M_chance_100 (rec49 : Nat → Int32 → Int32 → Int32 → Int32 → Int32 → Int32 → AW → Option (Int32 × AW)) (a0 : Nat) (x1 : Int32) (x2 : Int32) (x3 : Int32) (x4 : Int32) (x6 : Int32) (s0 : Int32) (w : AW) : Option (Int32 × AW) :=
  let v1 : Int32 := (s0 + (1 : Int32))
  let v2 : Int32 := (x6 + (1 : Int32))
  rec49 a0 x1 x2 x3 x4 v1 v2 w
theorem P_M_chance_100 {X : AX} {l : Launch} {G : AG} {rec49 : Nat → Int32 → Int32 → Int32 → Int32 → Int32 → Int32 → AW → Option (Int32 × AW)} (hX : XOK X b_M_chance "RedSkyModel" 9) (hM : XM X l G { frames := 8, cells := 0, slots := 0, locals := 193 }) {o : Int32 × AW} (hR : XR X (some .int) 0 0 (some (vi o.1)) o.2) (hrec49 : ∀ (a0 : Nat) (x1 : Int32) (x2 : Int32) (x3 : Int32) (x4 : Int32) (x5 : Int32) (x6 : Int32) (w : AW), rec49 a0 x1 x2 x3 x4 x5 x6 w = some o → RJ X 9 0 0 49 [(0, vr a0), (1, vi x1), (2, vi x2), (3, vi x3), (4, vi x4), (5, vi x5), (6, vi x6)] [] w) (a0 : Nat) (x1 : Int32) (x2 : Int32) (x3 : Int32) (x4 : Int32) (x6 : Int32) (s0 : Int32) (w : AW) (h : F_M_chance_100 rec49 a0 x1 x2 x3 x4 x6 s0 w = some o) : RJ X 9 0 0 100 [(0, vr a0), (1, vi x1), (2, vi x2), (3, vi x3), (4, vi x4), (6, vi x6)] [vi s0] w := by
  unfold F_M_chance_100 at h
  refine r_iconst (v := (1 : Int32)) hX d_M_chance_100 rfl ?_
  refine r_goto hX d_M_chance_101 rfl ?_
  refine r_iadd hX d_M_chance_105 ?_
  refine r_istore (i := 5) hX d_M_chance_106  (by decide) ?_
  refine r_iinc (i := 6) (v := (1 : Int32)) hX d_M_chance_108 6 rfl rfl (by decide) ?_
  refine r_goto hX d_M_chance_111 rfl ?_
  exact rj_sub [2, 3, 4, 5, 6, 1, 0] rfl (hrec49 _ _ _ _ _ _ _ _ h)
def F_M_chance_49_B (rec49 : Nat → Int32 → Int32 → Int32 → Int32 → Int32 → Int32 → AW → Option (Int32 × AW)) (a0 : Nat) (x1 : Int32) (x2 : Int32) (x3 : Int32) (x4 : Int32) (x5 : Int32) (x6 : Int32) (w : AW) : Option (Int32 × AW) :=
  if (4 : Int32) ≤ x6 then
    some (x5, w)
  else
    gd (wk w a0 == 13) <|
    (F_M_turnedCount a0 x1 x2 x6 (1 : Int32) w).bind fun r2 =>
    let v4 : Int32 := r2.1
    gd (wk r2.2 a0 == 13) <|
    (F_M_turnedCount a0 x1 x2 x6 (0 : Int32) r2.2).bind fun r6 =>
    let v8 : Int32 := r6.1
    if x3 = 0 then
      F_M_chance_100 rec49 a0 x1 x2 x3 x4 x6 x5 r6.2
    else
      if v4 = 0 then
        F_M_chance_100 rec49 a0 x1 x2 x3 x4 x6 x5 r6.2
      else
        if (v8 * x3) < (x4 * v4) then
          let v9 : Int32 := (x5 + (0 : Int32))
          let v10 : Int32 := (x6 + (1 : Int32))
          rec49 a0 x1 x2 x3 x4 v9 v10 r6.2
        else
          F_M_chance_100 rec49 a0 x1 x2 x3 x4 x6 x5 r6.2
theorem P_M_chance_49_B {X : AX} {l : Launch} {G : AG} {rec49 : Nat → Int32 → Int32 → Int32 → Int32 → Int32 → Int32 → AW → Option (Int32 × AW)} (hX : XOK X b_M_chance "RedSkyModel" 9) (hM : XM X l G { frames := 8, cells := 0, slots := 0, locals := 193 }) {o : Int32 × AW} (hR : XR X (some .int) 0 0 (some (vi o.1)) o.2) (hrec49 : ∀ (a0 : Nat) (x1 : Int32) (x2 : Int32) (x3 : Int32) (x4 : Int32) (x5 : Int32) (x6 : Int32) (w : AW), rec49 a0 x1 x2 x3 x4 x5 x6 w = some o → RJ X 9 0 0 49 [(0, vr a0), (1, vi x1), (2, vi x2), (3, vi x3), (4, vi x4), (5, vi x5), (6, vi x6)] [] w) (a0 : Nat) (x1 : Int32) (x2 : Int32) (x3 : Int32) (x4 : Int32) (x5 : Int32) (x6 : Int32) (w : AW) (h : F_M_chance_49_B rec49 a0 x1 x2 x3 x4 x5 x6 w = some o) : RJ X 9 0 0 49 [(0, vr a0), (1, vi x1), (2, vi x2), (3, vi x3), (4, vi x4), (5, vi x5), (6, vi x6)] [] w := by
  unfold F_M_chance_49_B at h
  refine r_iload (i := 6) hX d_M_chance_49 6  rfl ?_
  refine r_iconst (v := (4 : Int32)) hX d_M_chance_51 rfl ?_
  refine r_icmp_ge hX d_M_chance_52 rfl h (fun h => ?_) (fun h => ?_)
  · refine r_iload (i := 5) hX d_M_chance_114 5  rfl ?_
    cases h; exact r_iret hX hR d_M_chance_116
  · refine r_aload_n (i := 0) hX d_M_chance_55 0 rfl rfl ?_
    refine r_iload_n (i := 1) hX d_M_chance_56 1 rfl rfl ?_
    refine r_iload_n (i := 2) hX d_M_chance_57 2 rfl rfl ?_
    refine r_iload (i := 6) hX d_M_chance_58 6  rfl ?_
    refine r_iconst (v := (1 : Int32)) hX d_M_chance_60 rfl ?_
    obtain ⟨hk1, h⟩ := gd_e h
    obtain ⟨r2, hr3, h⟩ := bd_e h
    refine r_callV1 (As := [_, _, _, _]) hX hM mw_M_346 (T_M_turnedCount _ _ _ _ _ _ hr3) (rc_of ci_12 hk1) rfl rfl ⟨Nat.le_refl _, Nat.le_refl _⟩ rfl rfl d_M_chance_61 ?_
    refine r_istore (i := 7) hX d_M_chance_64  (by decide) ?_
    refine r_aload_n (i := 0) hX d_M_chance_66 1 rfl rfl ?_
    refine r_iload_n (i := 1) hX d_M_chance_67 2 rfl rfl ?_
    refine r_iload_n (i := 2) hX d_M_chance_68 3 rfl rfl ?_
    refine r_iload (i := 6) hX d_M_chance_69 7  rfl ?_
    refine r_iconst (v := (0 : Int32)) hX d_M_chance_71 rfl ?_
    obtain ⟨hk5, h⟩ := gd_e h
    obtain ⟨r6, hr7, h⟩ := bd_e h
    refine r_callV1 (As := [_, _, _, _]) hX hM mw_M_346 (T_M_turnedCount _ _ _ _ _ _ hr7) (rc_of ci_12 hk5) rfl rfl ⟨Nat.le_refl _, Nat.le_refl _⟩ rfl rfl d_M_chance_72 ?_
    refine r_istore (i := 8) hX d_M_chance_75  (by decide) ?_
    refine r_iload (i := 5) hX d_M_chance_77 7  rfl ?_
    refine r_iload_n (i := 3) hX d_M_chance_79 5 rfl rfl ?_
    refine r_if_eq hX d_M_chance_80 rfl h (fun h => ?_) (fun h => ?_)
    · exact rj_sub [2, 3, 4, 5, 6, 8] rfl (P_M_chance_100 hX hM hR hrec49 _ _ _ _ _ _ _ _ h)
    · refine r_iload (i := 7) hX d_M_chance_83 1  rfl ?_
      refine r_if_eq hX d_M_chance_85 rfl h (fun h => ?_) (fun h => ?_)
      · exact rj_sub [2, 3, 4, 5, 6, 8] rfl (P_M_chance_100 hX hM hR hrec49 _ _ _ _ _ _ _ _ h)
      · refine r_iload (i := 8) hX d_M_chance_88 0  rfl ?_
        refine r_iload_n (i := 3) hX d_M_chance_90 5 rfl rfl ?_
        refine r_imul hX d_M_chance_91 ?_
        refine r_iload (i := 4) hX d_M_chance_92 6  rfl ?_
        refine r_iload (i := 7) hX d_M_chance_94 1  rfl ?_
        refine r_imul hX d_M_chance_96 ?_
        refine r_icmp_lt hX d_M_chance_97 rfl h (fun h => ?_) (fun h => ?_)
        · refine r_iconst (v := (0 : Int32)) hX d_M_chance_104 rfl ?_
          refine r_iadd hX d_M_chance_105 ?_
          refine r_istore (i := 5) hX d_M_chance_106  (by decide) ?_
          refine r_iinc (i := 6) (v := (1 : Int32)) hX d_M_chance_108 8 rfl rfl (by decide) ?_
          refine r_goto hX d_M_chance_111 rfl ?_
          exact rj_sub [4, 5, 6, 7, 8, 1, 0] rfl (hrec49 _ _ _ _ _ _ _ _ h)
        · exact rj_sub [2, 3, 4, 5, 6, 8] rfl (P_M_chance_100 hX hM hR hrec49 _ _ _ _ _ _ _ _ h)
def F_M_chance_49 : Nat → Nat → Int32 → Int32 → Int32 → Int32 → Int32 → Int32 → AW → Option (Int32 × AW)
  | 0 => fun _ _ _ _ _ _ _ _ => none
  | n + 1 => fun a0 x1 x2 x3 x4 x5 x6 w => F_M_chance_49_B (F_M_chance_49 n) a0 x1 x2 x3 x4 x5 x6 w
theorem P_M_chance_49 {X : AX} {l : Launch} {G : AG} (hX : XOK X b_M_chance "RedSkyModel" 9) (hM : XM X l G { frames := 8, cells := 0, slots := 0, locals := 193 }) {o : Int32 × AW} (hR : XR X (some .int) 0 0 (some (vi o.1)) o.2) (fu : Nat) : ∀ (a0 : Nat) (x1 : Int32) (x2 : Int32) (x3 : Int32) (x4 : Int32) (x5 : Int32) (x6 : Int32) (w : AW), F_M_chance_49 fu a0 x1 x2 x3 x4 x5 x6 w = some o → RJ X 9 0 0 49 [(0, vr a0), (1, vi x1), (2, vi x2), (3, vi x3), (4, vi x4), (5, vi x5), (6, vi x6)] [] w := by
  induction fu with
  | zero => intro a0 x1 x2 x3 x4 x5 x6 w h; cases h
  | succ n9 ih => intro a0 x1 x2 x3 x4 x5 x6 w h; exact P_M_chance_49_B hX hM hR ih _ _ _ _ _ _ _ _ h
def F_M_chance (a0 : Nat) (x1 : Int32) (x2 : Int32) (w : AW) : Option (Int32 × AW) :=
  gd (wk w a0 == 13) <|
  (F_M_isSaying w a0 x1).bind fun r2 =>
  if r2 = 0 then
    some ((-101 : Int32), w)
  else
    if (F_M_isValley x2) = 0 then
      some ((-101 : Int32), w)
    else
      (F_M_countOf a0 x1 x2 (0 : Int32) (1461 : Int32) (1 : Int32) w).bind fun r4 =>
      let v6 : Int32 := r4.1
      gd (wk r4.2 a0 == 13) <|
      (F_M_countOf a0 x1 x2 (0 : Int32) (1461 : Int32) (2 : Int32) r4.2).bind fun r8 =>
      let v10 : Int32 := r8.1
      F_M_chance_49 FUEL a0 x1 x2 v6 v10 (0 : Int32) (1 : Int32) r8.2
theorem P_M_chance_0 {X : AX} {l : Launch} {G : AG} (hX : XOK X b_M_chance "RedSkyModel" 9) (hM : XM X l G { frames := 8, cells := 0, slots := 0, locals := 193 }) {o : Int32 × AW} (hR : XR X (some .int) 0 0 (some (vi o.1)) o.2) (a0 : Nat) (x1 : Int32) (x2 : Int32) (w : AW) (h : F_M_chance a0 x1 x2 w = some o) : RJ X 9 0 0 0 [(0, vr a0), (1, vi x1), (2, vi x2)] [] w := by
  unfold F_M_chance at h
  refine r_aload_n (i := 0) hX d_M_chance_0 0 rfl rfl ?_
  refine r_iload_n (i := 1) hX d_M_chance_1 1 rfl rfl ?_
  obtain ⟨hk1, h⟩ := gd_e h
  obtain ⟨r2, hr3, h⟩ := bd_e h
  refine r_callV1 (As := [_]) hX hM mw_M_306 (T_M_isSaying _ _ _ hr3) (rc_of ci_12 hk1) rfl rfl ⟨Nat.le_refl _, Nat.le_refl _⟩ rfl rfl d_M_chance_2 ?_
  refine r_if_eq hX d_M_chance_5 rfl h (fun h => ?_) (fun h => ?_)
  · refine r_bipush (v := (-101 : Int32)) hX d_M_chance_15 rfl ?_
    cases h; exact r_iret hX hR d_M_chance_17
  · refine r_iload_n (i := 2) hX d_M_chance_8 2 rfl rfl ?_
    refine r_callS1 (As := [_]) hX hM mw_M_155 (T_M_isValley _ _) rfl rfl ⟨Nat.le_refl _, Nat.le_refl _⟩ rfl rfl d_M_chance_9 ?_
    refine r_if_ne hX d_M_chance_12 rfl h (fun h => ?_) (fun h => ?_)
    · refine r_aload_n (i := 0) hX d_M_chance_18 0 rfl rfl ?_
      refine r_iload_n (i := 1) hX d_M_chance_19 1 rfl rfl ?_
      refine r_iload_n (i := 2) hX d_M_chance_20 2 rfl rfl ?_
      refine r_iconst (v := (0 : Int32)) hX d_M_chance_21 rfl ?_
      refine r_sipush (v := (1461 : Int32)) hX d_M_chance_22 rfl ?_
      refine r_iconst (v := (1 : Int32)) hX d_M_chance_25 rfl ?_
      obtain ⟨r4, hr5, h⟩ := bd_e h
      refine r_callV1 (As := [_, _, _, _, _]) hX hM mw_M_331 (T_M_countOf _ _ _ _ _ _ _ hr5) (rc_of ci_12 hk1) rfl rfl ⟨Nat.le_refl _, Nat.le_refl _⟩ rfl rfl d_M_chance_26 ?_
      refine r_istore_n (i := 3) hX d_M_chance_29 rfl (by decide) ?_
      refine r_aload_n (i := 0) hX d_M_chance_30 1 rfl rfl ?_
      refine r_iload_n (i := 1) hX d_M_chance_31 2 rfl rfl ?_
      refine r_iload_n (i := 2) hX d_M_chance_32 3 rfl rfl ?_
      refine r_iconst (v := (0 : Int32)) hX d_M_chance_33 rfl ?_
      refine r_sipush (v := (1461 : Int32)) hX d_M_chance_34 rfl ?_
      refine r_iconst (v := (2 : Int32)) hX d_M_chance_37 rfl ?_
      obtain ⟨hk7, h⟩ := gd_e h
      obtain ⟨r8, hr9, h⟩ := bd_e h
      refine r_callV1 (As := [_, _, _, _, _]) hX hM mw_M_331 (T_M_countOf _ _ _ _ _ _ _ hr9) (rc_of ci_12 hk7) rfl rfl ⟨Nat.le_refl _, Nat.le_refl _⟩ rfl rfl d_M_chance_38 ?_
      refine r_istore (i := 4) hX d_M_chance_41  (by decide) ?_
      refine r_iconst (v := (0 : Int32)) hX d_M_chance_43 rfl ?_
      refine r_istore (i := 5) hX d_M_chance_44  (by decide) ?_
      refine r_iconst (v := (1 : Int32)) hX d_M_chance_46 rfl ?_
      refine r_istore (i := 6) hX d_M_chance_47  (by decide) ?_
      exact rj_sub [4, 5, 6, 3, 2, 1, 0] rfl (P_M_chance_49 hX hM hR FUEL _ _ _ _ _ _ _ _ h)
    · refine r_bipush (v := (-101 : Int32)) hX d_M_chance_15 rfl ?_
      cases h; exact r_iret hX hR d_M_chance_17
theorem T_M_chance {l : Launch} {G : AG} (a0 : Nat) (x1 : Int32) (x2 : Int32) (w : AW) {o : Int32 × AW} (h : F_M_chance a0 x1 x2 w = some o) : Mt l G y_M_chance b_M_chance 9 (some (.int)) 8 193 0 0 [vr a0, vi x1, vi x2] w (some (vi o.1)) o.2 := mt_of (by decide) (Nat.le_of_ble_eq_true rfl) (fun X hX hR hM hI => P_M_chance_0 hX hM hR _ _ _ _ h)
/-! RedSky$Days.differ(LRedSky$Days;)V -/
theorem d_Dy_differ_0 : decode b_Dy_differ 0 = .ok (.iconst 0, 1) := by decide +kernel
theorem d_Dy_differ_1 : decode b_Dy_differ 1 = .ok (.istore_n 2, 1) := by decide +kernel
theorem d_Dy_differ_2 : decode b_Dy_differ 2 = .ok (.iload_n 2, 1) := by decide +kernel
theorem d_Dy_differ_3 : decode b_Dy_differ 3 = .ok (.bipush (23), 2) := by decide +kernel
theorem d_Dy_differ_5 : decode b_Dy_differ 5 = .ok (.if_icmp .ge (24), 3) := by decide +kernel
theorem d_Dy_differ_8 : decode b_Dy_differ 8 = .ok (.aload_n 0, 1) := by decide +kernel
theorem d_Dy_differ_9 : decode b_Dy_differ 9 = .ok (.getfield 11, 3) := by decide +kernel
theorem d_Dy_differ_12 : decode b_Dy_differ 12 = .ok (.iload_n 2, 1) := by decide +kernel
theorem d_Dy_differ_13 : decode b_Dy_differ 13 = .ok (.dup2, 1) := by decide +kernel
theorem d_Dy_differ_14 : decode b_Dy_differ 14 = .ok (.laload, 1) := by decide +kernel
theorem d_Dy_differ_15 : decode b_Dy_differ 15 = .ok (.aload_n 1, 1) := by decide +kernel
theorem d_Dy_differ_16 : decode b_Dy_differ 16 = .ok (.getfield 11, 3) := by decide +kernel
theorem d_Dy_differ_19 : decode b_Dy_differ 19 = .ok (.iload_n 2, 1) := by decide +kernel
theorem d_Dy_differ_20 : decode b_Dy_differ 20 = .ok (.laload, 1) := by decide +kernel
theorem d_Dy_differ_21 : decode b_Dy_differ 21 = .ok (.lxor, 1) := by decide +kernel
theorem d_Dy_differ_22 : decode b_Dy_differ 22 = .ok (.lastore, 1) := by decide +kernel
theorem d_Dy_differ_23 : decode b_Dy_differ 23 = .ok (.iinc 2 (1), 3) := by decide +kernel
theorem d_Dy_differ_26 : decode b_Dy_differ 26 = .ok (.goto (-24), 3) := by decide +kernel
theorem d_Dy_differ_29 : decode b_Dy_differ 29 = .ok (.return_, 1) := by decide +kernel
def F_Dy_differ_2_B (rec2 : Nat → Nat → Int32 → AW → Option (AW)) (a0 : Nat) (a1 : Nat) (x2 : Int32) (w : AW) : Option (AW) :=
  if (23 : Int32) ≤ x2 then
    some w
  else
    gd (wk w a0 == 8) <|
    gd (wk w (wr w a0 0) == 101) <|
    gd (inb x2 (wn w (wr w a0 0))) <|
    gd (wk w a1 == 8) <|
    gd (wk w (wr w a1 0) == 101) <|
    gd (inb x2 (wn w (wr w a1 0))) <|
    gd (inb x2 (wn w (wr w a0 0))) <|
    let w8 : AW := upJ w (wr w a0 0) (Int32.toNatClampNeg x2) ((wj w (wr w a0 0) (Int32.toNatClampNeg x2)) ^^^ (wj w (wr w a1 0) (Int32.toNatClampNeg x2)))
    let v9 : Int32 := (x2 + (1 : Int32))
    rec2 a0 a1 v9 w8
theorem P_Dy_differ_2_B {X : AX} {l : Launch} {G : AG} {rec2 : Nat → Nat → Int32 → AW → Option (AW)} (hX : XOK X b_Dy_differ "RedSky$Days" 3) (hM : XM X l G { frames := 0, cells := 0, slots := 0, locals := 0 }) {o : AW} (hR : XR X none 0 0 none o) (hrec2 : ∀ (a0 : Nat) (a1 : Nat) (x2 : Int32) (w : AW), rec2 a0 a1 x2 w = some o → RJ X 3 0 0 2 [(0, vr a0), (1, vr a1), (2, vi x2)] [] w) (a0 : Nat) (a1 : Nat) (x2 : Int32) (w : AW) (h : F_Dy_differ_2_B rec2 a0 a1 x2 w = some o) : RJ X 3 0 0 2 [(0, vr a0), (1, vr a1), (2, vi x2)] [] w := by
  unfold F_Dy_differ_2_B at h
  refine r_iload_n (i := 2) hX d_Dy_differ_2 2 rfl rfl ?_
  refine r_bipush (v := (23 : Int32)) hX d_Dy_differ_3 rfl ?_
  refine r_icmp_ge hX d_Dy_differ_5 rfl h (fun h => ?_) (fun h => ?_)
  · cases h; exact r_vret hX hR d_Dy_differ_29
  · refine r_aload_n (i := 0) hX d_Dy_differ_8 0 rfl rfl ?_
    obtain ⟨hk1, h⟩ := gd_e h
    refine r_getR (i := 7) (f := 0) hX ci_7 (by decide) rfl fl_Dy_11 hk1 d_Dy_differ_9 ?_
    refine r_iload_n (i := 2) hX d_Dy_differ_12 2 rfl rfl ?_
    refine r_dup2 hX d_Dy_differ_13 rfl rfl ?_
    obtain ⟨hk2, h⟩ := gd_e h
    obtain ⟨hg3, h⟩ := gd_e h
    refine r_lald hX hk2 hg3 d_Dy_differ_14 ?_
    refine r_aload_n (i := 1) hX d_Dy_differ_15 1 rfl rfl ?_
    obtain ⟨hk4, h⟩ := gd_e h
    refine r_getR (i := 7) (f := 0) hX ci_7 (by decide) rfl fl_Dy_11 hk4 d_Dy_differ_16 ?_
    refine r_iload_n (i := 2) hX d_Dy_differ_19 2 rfl rfl ?_
    obtain ⟨hk5, h⟩ := gd_e h
    obtain ⟨hg6, h⟩ := gd_e h
    refine r_lald hX hk5 hg6 d_Dy_differ_20 ?_
    refine r_lxor hX d_Dy_differ_21 ?_
    obtain ⟨hg7, h⟩ := gd_e h
    refine r_last hX hk2 hg7 d_Dy_differ_22 ?_
    refine r_iinc (i := 2) (v := (1 : Int32)) hX d_Dy_differ_23 2 rfl rfl (by decide) ?_
    refine r_goto hX d_Dy_differ_26 rfl ?_
    exact rj_sub [1, 2, 0] rfl (hrec2 _ _ _ _ h)
def F_Dy_differ_2 : Nat → Nat → Nat → Int32 → AW → Option (AW)
  | 0 => fun _ _ _ _ => none
  | n + 1 => fun a0 a1 x2 w => F_Dy_differ_2_B (F_Dy_differ_2 n) a0 a1 x2 w
theorem P_Dy_differ_2 {X : AX} {l : Launch} {G : AG} (hX : XOK X b_Dy_differ "RedSky$Days" 3) (hM : XM X l G { frames := 0, cells := 0, slots := 0, locals := 0 }) {o : AW} (hR : XR X none 0 0 none o) (fu : Nat) : ∀ (a0 : Nat) (a1 : Nat) (x2 : Int32) (w : AW), F_Dy_differ_2 fu a0 a1 x2 w = some o → RJ X 3 0 0 2 [(0, vr a0), (1, vr a1), (2, vi x2)] [] w := by
  induction fu with
  | zero => intro a0 a1 x2 w h; cases h
  | succ n9 ih => intro a0 a1 x2 w h; exact P_Dy_differ_2_B hX hM hR ih _ _ _ _ h
def F_Dy_differ (a0 : Nat) (a1 : Nat) (w : AW) : Option (AW) :=
  F_Dy_differ_2 FUEL a0 a1 (0 : Int32) w
theorem P_Dy_differ_0 {X : AX} {l : Launch} {G : AG} (hX : XOK X b_Dy_differ "RedSky$Days" 3) (hM : XM X l G { frames := 0, cells := 0, slots := 0, locals := 0 }) {o : AW} (hR : XR X none 0 0 none o) (a0 : Nat) (a1 : Nat) (w : AW) (h : F_Dy_differ a0 a1 w = some o) : RJ X 3 0 0 0 [(0, vr a0), (1, vr a1)] [] w := by
  unfold F_Dy_differ at h
  refine r_iconst (v := (0 : Int32)) hX d_Dy_differ_0 rfl ?_
  refine r_istore_n (i := 2) hX d_Dy_differ_1 rfl (by decide) ?_
  exact rj_sub [1, 2, 0] rfl (P_Dy_differ_2 hX hM hR FUEL _ _ _ _ h)
theorem T_Dy_differ {l : Launch} {G : AG} (a0 : Nat) (a1 : Nat) (w : AW) {o : AW} (h : F_Dy_differ a0 a1 w = some o) : Mt l G y_Dy_differ b_Dy_differ 3 none 0 0 0 0 [vr a0, vr a1] w none o := mt_of (by decide) (Nat.le_of_ble_eq_true rfl) (fun X hX hR hM hI => P_Dy_differ_0 hX hM hR _ _ _ h)
/-! RedSky.partedDays(LRedSky$Saying;LRedSky$Saying;LRedSky$Diary;)I -/
theorem d_A_partedDays_0 : decode b_A_partedDays 0 = .ok (.aload_n 0, 1) := by decide +kernel
theorem d_A_partedDays_1 : decode b_A_partedDays 1 = .ok (.getfield 49, 3) := by decide +kernel
theorem d_A_partedDays_4 : decode b_A_partedDays 4 = .ok (.aload_n 1, 1) := by decide +kernel
theorem d_A_partedDays_5 : decode b_A_partedDays 5 = .ok (.aload_n 3, 1) := by decide +kernel
theorem d_A_partedDays_6 : decode b_A_partedDays 6 = .ok (.aload_n 0, 1) := by decide +kernel
theorem d_A_partedDays_7 : decode b_A_partedDays 7 = .ok (.getfield 10, 3) := by decide +kernel
theorem d_A_partedDays_10 : decode b_A_partedDays 10 = .ok (.aload_n 0, 1) := by decide +kernel
theorem d_A_partedDays_11 : decode b_A_partedDays 11 = .ok (.getfield 42, 3) := by decide +kernel
theorem d_A_partedDays_14 : decode b_A_partedDays 14 = .ok (.invokevirtual 207, 3) := by decide +kernel
theorem d_A_partedDays_17 : decode b_A_partedDays 17 = .ok (.aload_n 0, 1) := by decide +kernel
theorem d_A_partedDays_18 : decode b_A_partedDays 18 = .ok (.getfield 53, 3) := by decide +kernel
theorem d_A_partedDays_21 : decode b_A_partedDays 21 = .ok (.aload_n 2, 1) := by decide +kernel
theorem d_A_partedDays_22 : decode b_A_partedDays 22 = .ok (.aload_n 3, 1) := by decide +kernel
theorem d_A_partedDays_23 : decode b_A_partedDays 23 = .ok (.aload_n 0, 1) := by decide +kernel
theorem d_A_partedDays_24 : decode b_A_partedDays 24 = .ok (.getfield 10, 3) := by decide +kernel
theorem d_A_partedDays_27 : decode b_A_partedDays 27 = .ok (.aload_n 0, 1) := by decide +kernel
theorem d_A_partedDays_28 : decode b_A_partedDays 28 = .ok (.getfield 42, 3) := by decide +kernel
theorem d_A_partedDays_31 : decode b_A_partedDays 31 = .ok (.invokevirtual 207, 3) := by decide +kernel
theorem d_A_partedDays_34 : decode b_A_partedDays 34 = .ok (.aload_n 0, 1) := by decide +kernel
theorem d_A_partedDays_35 : decode b_A_partedDays 35 = .ok (.getfield 59, 3) := by decide +kernel
theorem d_A_partedDays_38 : decode b_A_partedDays 38 = .ok (.aload_n 0, 1) := by decide +kernel
theorem d_A_partedDays_39 : decode b_A_partedDays 39 = .ok (.getfield 49, 3) := by decide +kernel
theorem d_A_partedDays_42 : decode b_A_partedDays 42 = .ok (.getfield 248, 3) := by decide +kernel
theorem d_A_partedDays_45 : decode b_A_partedDays 45 = .ok (.invokevirtual 358, 3) := by decide +kernel
theorem d_A_partedDays_48 : decode b_A_partedDays 48 = .ok (.aload_n 0, 1) := by decide +kernel
theorem d_A_partedDays_49 : decode b_A_partedDays 49 = .ok (.getfield 59, 3) := by decide +kernel
theorem d_A_partedDays_52 : decode b_A_partedDays 52 = .ok (.aload_n 0, 1) := by decide +kernel
theorem d_A_partedDays_53 : decode b_A_partedDays 53 = .ok (.getfield 53, 3) := by decide +kernel
theorem d_A_partedDays_56 : decode b_A_partedDays 56 = .ok (.getfield 248, 3) := by decide +kernel
theorem d_A_partedDays_59 : decode b_A_partedDays 59 = .ok (.invokevirtual 362, 3) := by decide +kernel
theorem d_A_partedDays_62 : decode b_A_partedDays 62 = .ok (.aload_n 0, 1) := by decide +kernel
theorem d_A_partedDays_63 : decode b_A_partedDays 63 = .ok (.getfield 49, 3) := by decide +kernel
theorem d_A_partedDays_66 : decode b_A_partedDays 66 = .ok (.getfield 242, 3) := by decide +kernel
theorem d_A_partedDays_69 : decode b_A_partedDays 69 = .ok (.aload_n 0, 1) := by decide +kernel
theorem d_A_partedDays_70 : decode b_A_partedDays 70 = .ok (.getfield 53, 3) := by decide +kernel
theorem d_A_partedDays_73 : decode b_A_partedDays 73 = .ok (.getfield 242, 3) := by decide +kernel
theorem d_A_partedDays_76 : decode b_A_partedDays 76 = .ok (.invokevirtual 362, 3) := by decide +kernel
theorem d_A_partedDays_79 : decode b_A_partedDays 79 = .ok (.aload_n 0, 1) := by decide +kernel
theorem d_A_partedDays_80 : decode b_A_partedDays 80 = .ok (.getfield 59, 3) := by decide +kernel
theorem d_A_partedDays_83 : decode b_A_partedDays 83 = .ok (.aload_n 0, 1) := by decide +kernel
theorem d_A_partedDays_84 : decode b_A_partedDays 84 = .ok (.getfield 49, 3) := by decide +kernel
theorem d_A_partedDays_87 : decode b_A_partedDays 87 = .ok (.getfield 242, 3) := by decide +kernel
theorem d_A_partedDays_90 : decode b_A_partedDays 90 = .ok (.invokevirtual 365, 3) := by decide +kernel
theorem d_A_partedDays_93 : decode b_A_partedDays 93 = .ok (.aload_n 0, 1) := by decide +kernel
theorem d_A_partedDays_94 : decode b_A_partedDays 94 = .ok (.getfield 59, 3) := by decide +kernel
theorem d_A_partedDays_97 : decode b_A_partedDays 97 = .ok (.aload_n 0, 1) := by decide +kernel
theorem d_A_partedDays_98 : decode b_A_partedDays 98 = .ok (.getfield 49, 3) := by decide +kernel
theorem d_A_partedDays_101 : decode b_A_partedDays 101 = .ok (.getfield 368, 3) := by decide +kernel
theorem d_A_partedDays_104 : decode b_A_partedDays 104 = .ok (.invokevirtual 371, 3) := by decide +kernel
theorem d_A_partedDays_107 : decode b_A_partedDays 107 = .ok (.aload_n 0, 1) := by decide +kernel
theorem d_A_partedDays_108 : decode b_A_partedDays 108 = .ok (.getfield 59, 3) := by decide +kernel
theorem d_A_partedDays_111 : decode b_A_partedDays 111 = .ok (.aload_n 0, 1) := by decide +kernel
theorem d_A_partedDays_112 : decode b_A_partedDays 112 = .ok (.getfield 49, 3) := by decide +kernel
theorem d_A_partedDays_115 : decode b_A_partedDays 115 = .ok (.getfield 262, 3) := by decide +kernel
theorem d_A_partedDays_118 : decode b_A_partedDays 118 = .ok (.invokevirtual 371, 3) := by decide +kernel
theorem d_A_partedDays_121 : decode b_A_partedDays 121 = .ok (.aload_n 0, 1) := by decide +kernel
theorem d_A_partedDays_122 : decode b_A_partedDays 122 = .ok (.getfield 59, 3) := by decide +kernel
theorem d_A_partedDays_125 : decode b_A_partedDays 125 = .ok (.aload_n 0, 1) := by decide +kernel
theorem d_A_partedDays_126 : decode b_A_partedDays 126 = .ok (.getfield 53, 3) := by decide +kernel
theorem d_A_partedDays_129 : decode b_A_partedDays 129 = .ok (.getfield 368, 3) := by decide +kernel
theorem d_A_partedDays_132 : decode b_A_partedDays 132 = .ok (.invokevirtual 371, 3) := by decide +kernel
theorem d_A_partedDays_135 : decode b_A_partedDays 135 = .ok (.aload_n 0, 1) := by decide +kernel
theorem d_A_partedDays_136 : decode b_A_partedDays 136 = .ok (.getfield 59, 3) := by decide +kernel
theorem d_A_partedDays_139 : decode b_A_partedDays 139 = .ok (.aload_n 0, 1) := by decide +kernel
theorem d_A_partedDays_140 : decode b_A_partedDays 140 = .ok (.getfield 53, 3) := by decide +kernel
theorem d_A_partedDays_143 : decode b_A_partedDays 143 = .ok (.getfield 262, 3) := by decide +kernel
theorem d_A_partedDays_146 : decode b_A_partedDays 146 = .ok (.invokevirtual 371, 3) := by decide +kernel
theorem d_A_partedDays_149 : decode b_A_partedDays 149 = .ok (.aload_n 0, 1) := by decide +kernel
theorem d_A_partedDays_150 : decode b_A_partedDays 150 = .ok (.getfield 59, 3) := by decide +kernel
theorem d_A_partedDays_153 : decode b_A_partedDays 153 = .ok (.invokevirtual 245, 3) := by decide +kernel
theorem d_A_partedDays_156 : decode b_A_partedDays 156 = .ok (.ireturn, 1) := by decide +kernel
def F_A_partedDays (a0 : Nat) (a1 : Nat) (a2 : Nat) (a3 : Nat) (w : AW) : Option (Int32 × AW) :=
  gd (wk w a0 == 1) <|
  gd (wk w (wr w a0 6) == 9) <|
  (F_Rd_read (wr w a0 6) a1 a3 (wr w a0 0) (wr w a0 5) w).bind fun r3 =>
  gd (wk r3 a0 == 1) <|
  gd (wk r3 (wr r3 a0 7) == 9) <|
  (F_Rd_read (wr r3 a0 7) a2 a3 (wr r3 a0 0) (wr r3 a0 5) r3).bind fun r7 =>
  gd (wk r7 a0 == 1) <|
  gd (wk r7 (wr r7 a0 6) == 9) <|
  gd (wk r7 (wr r7 a0 8) == 8) <|
  (F_Dy_take (wr r7 a0 8) (wr r7 (wr r7 a0 6) 6) r7).bind fun r12 =>
  gd (wk r12 a0 == 1) <|
  gd (wk r12 (wr r12 a0 7) == 9) <|
  gd (wk r12 (wr r12 a0 8) == 8) <|
  (F_Dy_differ (wr r12 a0 8) (wr r12 (wr r12 a0 7) 6) r12).bind fun r17 =>
  gd (wk r17 a0 == 1) <|
  gd (wk r17 (wr r17 a0 6) == 9) <|
  gd (wk r17 (wr r17 a0 7) == 9) <|
  gd (wk r17 (wr r17 (wr r17 a0 6) 7) == 8) <|
  (F_Dy_differ (wr r17 (wr r17 a0 6) 7) (wr r17 (wr r17 a0 7) 7) r17).bind fun r23 =>
  gd (wk r23 a0 == 1) <|
  gd (wk r23 (wr r23 a0 6) == 9) <|
  gd (wk r23 (wr r23 a0 8) == 8) <|
  (F_Dy_join (wr r23 a0 8) (wr r23 (wr r23 a0 6) 7) r23).bind fun r28 =>
  gd (wk r28 a0 == 1) <|
  gd (wk r28 (wr r28 a0 6) == 9) <|
  gd (wk r28 (wr r28 a0 8) == 8) <|
  (F_Dy_meet (wr r28 a0 8) (wr r28 (wr r28 a0 6) 1) r28).bind fun r33 =>
  gd (wk r33 a0 == 1) <|
  gd (wk r33 (wr r33 a0 6) == 9) <|
  gd (wk r33 (wr r33 a0 8) == 8) <|
  (F_Dy_meet (wr r33 a0 8) (wr r33 (wr r33 a0 6) 3) r33).bind fun r38 =>
  gd (wk r38 a0 == 1) <|
  gd (wk r38 (wr r38 a0 7) == 9) <|
  gd (wk r38 (wr r38 a0 8) == 8) <|
  (F_Dy_meet (wr r38 a0 8) (wr r38 (wr r38 a0 7) 1) r38).bind fun r43 =>
  gd (wk r43 a0 == 1) <|
  gd (wk r43 (wr r43 a0 7) == 9) <|
  gd (wk r43 (wr r43 a0 8) == 8) <|
  (F_Dy_meet (wr r43 a0 8) (wr r43 (wr r43 a0 7) 3) r43).bind fun r48 =>
  gd (wk r48 a0 == 1) <|
  gd (wk r48 (wr r48 a0 8) == 8) <|
  (F_Dy_size r48 (wr r48 a0 8)).bind fun r52 =>
  some (r52, r48)
theorem P_A_partedDays_0 {X : AX} {l : Launch} {G : AG} (hX : XOK X b_A_partedDays "RedSky" 4) (hM : XM X l G { frames := 6, cells := 0, slots := 0, locals := 147 }) {o : Int32 × AW} (hR : XR X (some .int) 0 0 (some (vi o.1)) o.2) (a0 : Nat) (a1 : Nat) (a2 : Nat) (a3 : Nat) (w : AW) (h : F_A_partedDays a0 a1 a2 a3 w = some o) : RJ X 4 0 0 0 [(0, vr a0), (1, vr a1), (2, vr a2), (3, vr a3)] [] w := by
  unfold F_A_partedDays at h
  refine r_aload_n (i := 0) hX d_A_partedDays_0 0 rfl rfl ?_
  obtain ⟨hk1, h⟩ := gd_e h
  refine r_getR (i := 0) (f := 6) hX ci_0 (by decide) rfl fl_A_49 hk1 d_A_partedDays_1 ?_
  refine r_aload_n (i := 1) hX d_A_partedDays_4 1 rfl rfl ?_
  refine r_aload_n (i := 3) hX d_A_partedDays_5 3 rfl rfl ?_
  refine r_aload_n (i := 0) hX d_A_partedDays_6 0 rfl rfl ?_
  refine r_getR (i := 0) (f := 0) hX ci_0 (by decide) rfl fl_A_10 hk1 d_A_partedDays_7 ?_
  refine r_aload_n (i := 0) hX d_A_partedDays_10 0 rfl rfl ?_
  refine r_getR (i := 0) (f := 5) hX ci_0 (by decide) rfl fl_A_42 hk1 d_A_partedDays_11 ?_
  obtain ⟨hk2, h⟩ := gd_e h
  obtain ⟨r3, hr4, h⟩ := bd_e h
  refine r_callV0 (As := [_, _, _, _]) hX hM mw_A_207 (T_Rd_read _ _ _ _ _ _ hr4) (rc_of ci_8 hk2) rfl rfl ⟨Nat.le_refl _, Nat.le_refl _⟩ rfl rfl d_A_partedDays_14 ?_
  refine r_aload_n (i := 0) hX d_A_partedDays_17 0 rfl rfl ?_
  obtain ⟨hk5, h⟩ := gd_e h
  refine r_getR (i := 0) (f := 7) hX ci_0 (by decide) rfl fl_A_53 hk5 d_A_partedDays_18 ?_
  refine r_aload_n (i := 2) hX d_A_partedDays_21 2 rfl rfl ?_
  refine r_aload_n (i := 3) hX d_A_partedDays_22 3 rfl rfl ?_
  refine r_aload_n (i := 0) hX d_A_partedDays_23 0 rfl rfl ?_
  refine r_getR (i := 0) (f := 0) hX ci_0 (by decide) rfl fl_A_10 hk5 d_A_partedDays_24 ?_
  refine r_aload_n (i := 0) hX d_A_partedDays_27 0 rfl rfl ?_
  refine r_getR (i := 0) (f := 5) hX ci_0 (by decide) rfl fl_A_42 hk5 d_A_partedDays_28 ?_
  obtain ⟨hk6, h⟩ := gd_e h
  obtain ⟨r7, hr8, h⟩ := bd_e h
  refine r_callV0 (As := [_, _, _, _]) hX hM mw_A_207 (T_Rd_read _ _ _ _ _ _ hr8) (rc_of ci_8 hk6) rfl rfl ⟨Nat.le_refl _, Nat.le_refl _⟩ rfl rfl d_A_partedDays_31 ?_
  refine r_aload_n (i := 0) hX d_A_partedDays_34 0 rfl rfl ?_
  obtain ⟨hk9, h⟩ := gd_e h
  refine r_getR (i := 0) (f := 8) hX ci_0 (by decide) rfl fl_A_59 hk9 d_A_partedDays_35 ?_
  refine r_aload_n (i := 0) hX d_A_partedDays_38 0 rfl rfl ?_
  refine r_getR (i := 0) (f := 6) hX ci_0 (by decide) rfl fl_A_49 hk9 d_A_partedDays_39 ?_
  obtain ⟨hk10, h⟩ := gd_e h
  refine r_getR (i := 8) (f := 6) hX ci_8 (by decide) rfl fl_A_248 hk10 d_A_partedDays_42 ?_
  obtain ⟨hk11, h⟩ := gd_e h
  obtain ⟨r12, hr13, h⟩ := bd_e h
  refine r_callV0 (As := [_]) hX hM mw_A_358 (T_Dy_take _ _ _ hr13) (rc_of ci_7 hk11) rfl rfl ⟨Nat.le_refl _, Nat.le_refl _⟩ rfl rfl d_A_partedDays_45 ?_
  refine r_aload_n (i := 0) hX d_A_partedDays_48 0 rfl rfl ?_
  obtain ⟨hk14, h⟩ := gd_e h
  refine r_getR (i := 0) (f := 8) hX ci_0 (by decide) rfl fl_A_59 hk14 d_A_partedDays_49 ?_
  refine r_aload_n (i := 0) hX d_A_partedDays_52 0 rfl rfl ?_
  refine r_getR (i := 0) (f := 7) hX ci_0 (by decide) rfl fl_A_53 hk14 d_A_partedDays_53 ?_
  obtain ⟨hk15, h⟩ := gd_e h
  refine r_getR (i := 8) (f := 6) hX ci_8 (by decide) rfl fl_A_248 hk15 d_A_partedDays_56 ?_
  obtain ⟨hk16, h⟩ := gd_e h
  obtain ⟨r17, hr18, h⟩ := bd_e h
  refine r_callV0 (As := [_]) hX hM mw_A_362 (T_Dy_differ _ _ _ hr18) (rc_of ci_7 hk16) rfl rfl ⟨Nat.le_refl _, Nat.le_refl _⟩ rfl rfl d_A_partedDays_59 ?_
  refine r_aload_n (i := 0) hX d_A_partedDays_62 0 rfl rfl ?_
  obtain ⟨hk19, h⟩ := gd_e h
  refine r_getR (i := 0) (f := 6) hX ci_0 (by decide) rfl fl_A_49 hk19 d_A_partedDays_63 ?_
  obtain ⟨hk20, h⟩ := gd_e h
  refine r_getR (i := 8) (f := 7) hX ci_8 (by decide) rfl fl_A_242 hk20 d_A_partedDays_66 ?_
  refine r_aload_n (i := 0) hX d_A_partedDays_69 0 rfl rfl ?_
  refine r_getR (i := 0) (f := 7) hX ci_0 (by decide) rfl fl_A_53 hk19 d_A_partedDays_70 ?_
  obtain ⟨hk21, h⟩ := gd_e h
  refine r_getR (i := 8) (f := 7) hX ci_8 (by decide) rfl fl_A_242 hk21 d_A_partedDays_73 ?_
  obtain ⟨hk22, h⟩ := gd_e h
  obtain ⟨r23, hr24, h⟩ := bd_e h
  refine r_callV0 (As := [_]) hX hM mw_A_362 (T_Dy_differ _ _ _ hr24) (rc_of ci_7 hk22) rfl rfl ⟨Nat.le_refl _, Nat.le_refl _⟩ rfl rfl d_A_partedDays_76 ?_
  refine r_aload_n (i := 0) hX d_A_partedDays_79 0 rfl rfl ?_
  obtain ⟨hk25, h⟩ := gd_e h
  refine r_getR (i := 0) (f := 8) hX ci_0 (by decide) rfl fl_A_59 hk25 d_A_partedDays_80 ?_
  refine r_aload_n (i := 0) hX d_A_partedDays_83 0 rfl rfl ?_
  refine r_getR (i := 0) (f := 6) hX ci_0 (by decide) rfl fl_A_49 hk25 d_A_partedDays_84 ?_
  obtain ⟨hk26, h⟩ := gd_e h
  refine r_getR (i := 8) (f := 7) hX ci_8 (by decide) rfl fl_A_242 hk26 d_A_partedDays_87 ?_
  obtain ⟨hk27, h⟩ := gd_e h
  obtain ⟨r28, hr29, h⟩ := bd_e h
  refine r_callV0 (As := [_]) hX hM mw_A_365 (T_Dy_join _ _ _ hr29) (rc_of ci_7 hk27) rfl rfl ⟨Nat.le_refl _, Nat.le_refl _⟩ rfl rfl d_A_partedDays_90 ?_
  refine r_aload_n (i := 0) hX d_A_partedDays_93 0 rfl rfl ?_
  obtain ⟨hk30, h⟩ := gd_e h
  refine r_getR (i := 0) (f := 8) hX ci_0 (by decide) rfl fl_A_59 hk30 d_A_partedDays_94 ?_
  refine r_aload_n (i := 0) hX d_A_partedDays_97 0 rfl rfl ?_
  refine r_getR (i := 0) (f := 6) hX ci_0 (by decide) rfl fl_A_49 hk30 d_A_partedDays_98 ?_
  obtain ⟨hk31, h⟩ := gd_e h
  refine r_getR (i := 8) (f := 1) hX ci_8 (by decide) rfl fl_A_368 hk31 d_A_partedDays_101 ?_
  obtain ⟨hk32, h⟩ := gd_e h
  obtain ⟨r33, hr34, h⟩ := bd_e h
  refine r_callV0 (As := [_]) hX hM mw_A_371 (T_Dy_meet _ _ _ hr34) (rc_of ci_7 hk32) rfl rfl ⟨Nat.le_refl _, Nat.le_refl _⟩ rfl rfl d_A_partedDays_104 ?_
  refine r_aload_n (i := 0) hX d_A_partedDays_107 0 rfl rfl ?_
  obtain ⟨hk35, h⟩ := gd_e h
  refine r_getR (i := 0) (f := 8) hX ci_0 (by decide) rfl fl_A_59 hk35 d_A_partedDays_108 ?_
  refine r_aload_n (i := 0) hX d_A_partedDays_111 0 rfl rfl ?_
  refine r_getR (i := 0) (f := 6) hX ci_0 (by decide) rfl fl_A_49 hk35 d_A_partedDays_112 ?_
  obtain ⟨hk36, h⟩ := gd_e h
  refine r_getR (i := 8) (f := 3) hX ci_8 (by decide) rfl fl_A_262 hk36 d_A_partedDays_115 ?_
  obtain ⟨hk37, h⟩ := gd_e h
  obtain ⟨r38, hr39, h⟩ := bd_e h
  refine r_callV0 (As := [_]) hX hM mw_A_371 (T_Dy_meet _ _ _ hr39) (rc_of ci_7 hk37) rfl rfl ⟨Nat.le_refl _, Nat.le_refl _⟩ rfl rfl d_A_partedDays_118 ?_
  refine r_aload_n (i := 0) hX d_A_partedDays_121 0 rfl rfl ?_
  obtain ⟨hk40, h⟩ := gd_e h
  refine r_getR (i := 0) (f := 8) hX ci_0 (by decide) rfl fl_A_59 hk40 d_A_partedDays_122 ?_
  refine r_aload_n (i := 0) hX d_A_partedDays_125 0 rfl rfl ?_
  refine r_getR (i := 0) (f := 7) hX ci_0 (by decide) rfl fl_A_53 hk40 d_A_partedDays_126 ?_
  obtain ⟨hk41, h⟩ := gd_e h
  refine r_getR (i := 8) (f := 1) hX ci_8 (by decide) rfl fl_A_368 hk41 d_A_partedDays_129 ?_
  obtain ⟨hk42, h⟩ := gd_e h
  obtain ⟨r43, hr44, h⟩ := bd_e h
  refine r_callV0 (As := [_]) hX hM mw_A_371 (T_Dy_meet _ _ _ hr44) (rc_of ci_7 hk42) rfl rfl ⟨Nat.le_refl _, Nat.le_refl _⟩ rfl rfl d_A_partedDays_132 ?_
  refine r_aload_n (i := 0) hX d_A_partedDays_135 0 rfl rfl ?_
  obtain ⟨hk45, h⟩ := gd_e h
  refine r_getR (i := 0) (f := 8) hX ci_0 (by decide) rfl fl_A_59 hk45 d_A_partedDays_136 ?_
  refine r_aload_n (i := 0) hX d_A_partedDays_139 0 rfl rfl ?_
  refine r_getR (i := 0) (f := 7) hX ci_0 (by decide) rfl fl_A_53 hk45 d_A_partedDays_140 ?_
  obtain ⟨hk46, h⟩ := gd_e h
  refine r_getR (i := 8) (f := 3) hX ci_8 (by decide) rfl fl_A_262 hk46 d_A_partedDays_143 ?_
  obtain ⟨hk47, h⟩ := gd_e h
  obtain ⟨r48, hr49, h⟩ := bd_e h
  refine r_callV0 (As := [_]) hX hM mw_A_371 (T_Dy_meet _ _ _ hr49) (rc_of ci_7 hk47) rfl rfl ⟨Nat.le_refl _, Nat.le_refl _⟩ rfl rfl d_A_partedDays_146 ?_
  refine r_aload_n (i := 0) hX d_A_partedDays_149 0 rfl rfl ?_
  obtain ⟨hk50, h⟩ := gd_e h
  refine r_getR (i := 0) (f := 8) hX ci_0 (by decide) rfl fl_A_59 hk50 d_A_partedDays_150 ?_
  obtain ⟨hk51, h⟩ := gd_e h
  obtain ⟨r52, hr53, h⟩ := bd_e h
  refine r_callV1 (As := []) hX hM mw_A_245 (T_Dy_size _ _ hr53) (rc_of ci_7 hk51) rfl rfl ⟨Nat.le_refl _, Nat.le_refl _⟩ rfl rfl d_A_partedDays_153 ?_
  cases h; exact r_iret hX hR d_A_partedDays_156
theorem T_A_partedDays {l : Launch} {G : AG} (a0 : Nat) (a1 : Nat) (a2 : Nat) (a3 : Nat) (w : AW) {o : Int32 × AW} (h : F_A_partedDays a0 a1 a2 a3 w = some o) : Mt l G y_A_partedDays b_A_partedDays 4 (some (.int)) 6 147 0 0 [vr a0, vr a1, vr a2, vr a3] w (some (vi o.1)) o.2 := mt_of (by decide) (Nat.le_of_ble_eq_true rfl) (fun X hX hR hM hI => P_A_partedDays_0 hX hM hR _ _ _ _ _ h)
/-! RedSky.parted(III)I -/
theorem d_A_parted_0 : decode b_A_parted 0 = .ok (.aload_n 0, 1) := by decide +kernel
theorem d_A_parted_1 : decode b_A_parted 1 = .ok (.iload_n 1, 1) := by decide +kernel
theorem d_A_parted_2 : decode b_A_parted 2 = .ok (.invokevirtual 200, 3) := by decide +kernel
theorem d_A_parted_5 : decode b_A_parted 5 = .ok (.astore 4, 2) := by decide +kernel
theorem d_A_parted_7 : decode b_A_parted 7 = .ok (.aload_n 0, 1) := by decide +kernel
theorem d_A_parted_8 : decode b_A_parted 8 = .ok (.iload_n 2, 1) := by decide +kernel
theorem d_A_parted_9 : decode b_A_parted 9 = .ok (.invokevirtual 200, 3) := by decide +kernel
theorem d_A_parted_12 : decode b_A_parted 12 = .ok (.astore 5, 2) := by decide +kernel
theorem d_A_parted_14 : decode b_A_parted 14 = .ok (.aload_n 0, 1) := by decide +kernel
theorem d_A_parted_15 : decode b_A_parted 15 = .ok (.iload_n 3, 1) := by decide +kernel
theorem d_A_parted_16 : decode b_A_parted 16 = .ok (.invokevirtual 141, 3) := by decide +kernel
theorem d_A_parted_19 : decode b_A_parted 19 = .ok (.astore 6, 2) := by decide +kernel
theorem d_A_parted_21 : decode b_A_parted 21 = .ok (.aload 4, 2) := by decide +kernel
theorem d_A_parted_23 : decode b_A_parted 23 = .ok (.ifnull (13), 3) := by decide +kernel
theorem d_A_parted_26 : decode b_A_parted 26 = .ok (.aload 5, 2) := by decide +kernel
theorem d_A_parted_28 : decode b_A_parted 28 = .ok (.ifnull (8), 3) := by decide +kernel
theorem d_A_parted_31 : decode b_A_parted 31 = .ok (.aload 6, 2) := by decide +kernel
theorem d_A_parted_33 : decode b_A_parted 33 = .ok (.ifnonnull (6), 3) := by decide +kernel
theorem d_A_parted_36 : decode b_A_parted 36 = .ok (.bipush (-101), 2) := by decide +kernel
theorem d_A_parted_38 : decode b_A_parted 38 = .ok (.ireturn, 1) := by decide +kernel
theorem d_A_parted_39 : decode b_A_parted 39 = .ok (.aload_n 0, 1) := by decide +kernel
theorem d_A_parted_40 : decode b_A_parted 40 = .ok (.aload 4, 2) := by decide +kernel
theorem d_A_parted_42 : decode b_A_parted 42 = .ok (.aload 5, 2) := by decide +kernel
theorem d_A_parted_44 : decode b_A_parted 44 = .ok (.aload 6, 2) := by decide +kernel
theorem d_A_parted_46 : decode b_A_parted 46 = .ok (.invokevirtual 251, 3) := by decide +kernel
theorem d_A_parted_49 : decode b_A_parted 49 = .ok (.ireturn, 1) := by decide +kernel
def F_A_parted (a0 : Nat) (x1 : Int32) (x2 : Int32) (x3 : Int32) (w : AW) : Option (Int32 × AW) :=
  gd (wk w a0 == 1) <|
  (F_A_sayingOf w a0 x1).bind fun r2 =>
  (F_A_sayingOf w a0 x2).bind fun r4 =>
  (F_A_diaryOf w a0 x3).bind fun r6 =>
  if r2 = 0 then
    some ((-101 : Int32), w)
  else
    if r4 = 0 then
      some ((-101 : Int32), w)
    else
      if r6 = 0 then
        some ((-101 : Int32), w)
      else
        (F_A_partedDays a0 r2 r4 r6 w).bind fun r8 =>
        some (r8.1, r8.2)
theorem P_A_parted_0 {X : AX} {l : Launch} {G : AG} (hX : XOK X b_A_parted "RedSky" 7) (hM : XM X l G { frames := 7, cells := 0, slots := 0, locals := 170 }) {o : Int32 × AW} (hR : XR X (some .int) 0 0 (some (vi o.1)) o.2) (a0 : Nat) (x1 : Int32) (x2 : Int32) (x3 : Int32) (w : AW) (h : F_A_parted a0 x1 x2 x3 w = some o) : RJ X 7 0 0 0 [(0, vr a0), (1, vi x1), (2, vi x2), (3, vi x3)] [] w := by
  unfold F_A_parted at h
  refine r_aload_n (i := 0) hX d_A_parted_0 0 rfl rfl ?_
  refine r_iload_n (i := 1) hX d_A_parted_1 1 rfl rfl ?_
  obtain ⟨hk1, h⟩ := gd_e h
  obtain ⟨r2, hr3, h⟩ := bd_e h
  refine r_callV1 (As := [_]) hX hM mw_A_200 (T_A_sayingOf _ _ _ hr3) (rc_of ci_0 hk1) rfl rfl ⟨Nat.le_refl _, Nat.le_refl _⟩ rfl rfl d_A_parted_2 ?_
  refine r_astore (i := 4) hX d_A_parted_5  (by decide) ?_
  refine r_aload_n (i := 0) hX d_A_parted_7 1 rfl rfl ?_
  refine r_iload_n (i := 2) hX d_A_parted_8 3 rfl rfl ?_
  obtain ⟨r4, hr5, h⟩ := bd_e h
  refine r_callV1 (As := [_]) hX hM mw_A_200 (T_A_sayingOf _ _ _ hr5) (rc_of ci_0 hk1) rfl rfl ⟨Nat.le_refl _, Nat.le_refl _⟩ rfl rfl d_A_parted_9 ?_
  refine r_astore (i := 5) hX d_A_parted_12  (by decide) ?_
  refine r_aload_n (i := 0) hX d_A_parted_14 2 rfl rfl ?_
  refine r_iload_n (i := 3) hX d_A_parted_15 5 rfl rfl ?_
  obtain ⟨r6, hr7, h⟩ := bd_e h
  refine r_callV1 (As := [_]) hX hM mw_A_141 (T_A_diaryOf _ _ _ hr7) (rc_of ci_0 hk1) rfl rfl ⟨Nat.le_refl _, Nat.le_refl _⟩ rfl rfl d_A_parted_16 ?_
  refine r_astore (i := 6) hX d_A_parted_19  (by decide) ?_
  refine r_aload (i := 4) hX d_A_parted_21 2  rfl ?_
  refine r_ifnull hX d_A_parted_23 rfl h (fun h => ?_) (fun h => ?_)
  · refine r_bipush (v := (-101 : Int32)) hX d_A_parted_36 rfl ?_
    cases h; exact r_iret hX hR d_A_parted_38
  · refine r_aload (i := 5) hX d_A_parted_26 1  rfl ?_
    refine r_ifnull hX d_A_parted_28 rfl h (fun h => ?_) (fun h => ?_)
    · refine r_bipush (v := (-101 : Int32)) hX d_A_parted_36 rfl ?_
      cases h; exact r_iret hX hR d_A_parted_38
    · refine r_aload (i := 6) hX d_A_parted_31 0  rfl ?_
      refine r_ifnonnull hX d_A_parted_33 rfl h (fun h => ?_) (fun h => ?_)
      · refine r_aload_n (i := 0) hX d_A_parted_39 3 rfl rfl ?_
        refine r_aload (i := 4) hX d_A_parted_40 2  rfl ?_
        refine r_aload (i := 5) hX d_A_parted_42 1  rfl ?_
        refine r_aload (i := 6) hX d_A_parted_44 0  rfl ?_
        obtain ⟨r8, hr9, h⟩ := bd_e h
        refine r_callV1 (As := [_, _, _]) hX hM mw_A_251 (T_A_partedDays _ _ _ _ _ hr9) (rc_of ci_0 hk1) rfl rfl ⟨Nat.le_refl _, Nat.le_refl _⟩ rfl rfl d_A_parted_46 ?_
        cases h; exact r_iret hX hR d_A_parted_49
      · refine r_bipush (v := (-101 : Int32)) hX d_A_parted_36 rfl ?_
        cases h; exact r_iret hX hR d_A_parted_38
theorem T_A_parted {l : Launch} {G : AG} (a0 : Nat) (x1 : Int32) (x2 : Int32) (x3 : Int32) (w : AW) {o : Int32 × AW} (h : F_A_parted a0 x1 x2 x3 w = some o) : Mt l G y_A_parted b_A_parted 7 (some (.int)) 7 170 0 0 [vr a0, vi x1, vi x2, vi x3] w (some (vi o.1)) o.2 := mt_of (by decide) (Nat.le_of_ble_eq_true rfl) (fun X hX hR hM hI => P_A_parted_0 hX hM hR _ _ _ _ _ h)
/-! RedSkyModel.partedOf(III)I -/
theorem d_M_partedOf_0 : decode b_M_partedOf 0 = .ok (.iconst 0, 1) := by decide +kernel
theorem d_M_partedOf_1 : decode b_M_partedOf 1 = .ok (.istore 4, 2) := by decide +kernel
theorem d_M_partedOf_3 : decode b_M_partedOf 3 = .ok (.iconst 0, 1) := by decide +kernel
theorem d_M_partedOf_4 : decode b_M_partedOf 4 = .ok (.istore 5, 2) := by decide +kernel
theorem d_M_partedOf_6 : decode b_M_partedOf 6 = .ok (.iload 5, 2) := by decide +kernel
theorem d_M_partedOf_8 : decode b_M_partedOf 8 = .ok (.sipush (1461), 3) := by decide +kernel
theorem d_M_partedOf_11 : decode b_M_partedOf 11 = .ok (.if_icmp .ge (148), 3) := by decide +kernel
theorem d_M_partedOf_14 : decode b_M_partedOf 14 = .ok (.aload_n 0, 1) := by decide +kernel
theorem d_M_partedOf_15 : decode b_M_partedOf 15 = .ok (.iload_n 1, 1) := by decide +kernel
theorem d_M_partedOf_16 : decode b_M_partedOf 16 = .ok (.iload_n 3, 1) := by decide +kernel
theorem d_M_partedOf_17 : decode b_M_partedOf 17 = .ok (.iload 5, 2) := by decide +kernel
theorem d_M_partedOf_19 : decode b_M_partedOf 19 = .ok (.invokevirtual 318, 3) := by decide +kernel
theorem d_M_partedOf_22 : decode b_M_partedOf 22 = .ok (.istore 6, 2) := by decide +kernel
theorem d_M_partedOf_24 : decode b_M_partedOf 24 = .ok (.aload_n 0, 1) := by decide +kernel
theorem d_M_partedOf_25 : decode b_M_partedOf 25 = .ok (.iload_n 1, 1) := by decide +kernel
theorem d_M_partedOf_26 : decode b_M_partedOf 26 = .ok (.iload_n 3, 1) := by decide +kernel
theorem d_M_partedOf_27 : decode b_M_partedOf 27 = .ok (.iload 5, 2) := by decide +kernel
theorem d_M_partedOf_29 : decode b_M_partedOf 29 = .ok (.invokevirtual 321, 3) := by decide +kernel
theorem d_M_partedOf_32 : decode b_M_partedOf 32 = .ok (.istore 7, 2) := by decide +kernel
theorem d_M_partedOf_34 : decode b_M_partedOf 34 = .ok (.aload_n 0, 1) := by decide +kernel
theorem d_M_partedOf_35 : decode b_M_partedOf 35 = .ok (.iload_n 2, 1) := by decide +kernel
theorem d_M_partedOf_36 : decode b_M_partedOf 36 = .ok (.iload_n 3, 1) := by decide +kernel
theorem d_M_partedOf_37 : decode b_M_partedOf 37 = .ok (.iload 5, 2) := by decide +kernel
theorem d_M_partedOf_39 : decode b_M_partedOf 39 = .ok (.invokevirtual 318, 3) := by decide +kernel
theorem d_M_partedOf_42 : decode b_M_partedOf 42 = .ok (.istore 8, 2) := by decide +kernel
theorem d_M_partedOf_44 : decode b_M_partedOf 44 = .ok (.aload_n 0, 1) := by decide +kernel
theorem d_M_partedOf_45 : decode b_M_partedOf 45 = .ok (.iload_n 2, 1) := by decide +kernel
theorem d_M_partedOf_46 : decode b_M_partedOf 46 = .ok (.iload_n 3, 1) := by decide +kernel
theorem d_M_partedOf_47 : decode b_M_partedOf 47 = .ok (.iload 5, 2) := by decide +kernel
theorem d_M_partedOf_49 : decode b_M_partedOf 49 = .ok (.invokevirtual 321, 3) := by decide +kernel
theorem d_M_partedOf_52 : decode b_M_partedOf 52 = .ok (.istore 9, 2) := by decide +kernel
theorem d_M_partedOf_54 : decode b_M_partedOf 54 = .ok (.iload 6, 2) := by decide +kernel
theorem d_M_partedOf_56 : decode b_M_partedOf 56 = .ok (.iconst (-1), 1) := by decide +kernel
theorem d_M_partedOf_57 : decode b_M_partedOf 57 = .ok (.if_icmp .eq (96), 3) := by decide +kernel
theorem d_M_partedOf_60 : decode b_M_partedOf 60 = .ok (.iload 7, 2) := by decide +kernel
theorem d_M_partedOf_62 : decode b_M_partedOf 62 = .ok (.iconst (-1), 1) := by decide +kernel
theorem d_M_partedOf_63 : decode b_M_partedOf 63 = .ok (.if_icmp .eq (90), 3) := by decide +kernel
theorem d_M_partedOf_66 : decode b_M_partedOf 66 = .ok (.iload 8, 2) := by decide +kernel
theorem d_M_partedOf_68 : decode b_M_partedOf 68 = .ok (.iconst (-1), 1) := by decide +kernel
theorem d_M_partedOf_69 : decode b_M_partedOf 69 = .ok (.if_icmp .eq (84), 3) := by decide +kernel
theorem d_M_partedOf_72 : decode b_M_partedOf 72 = .ok (.iload 9, 2) := by decide +kernel
theorem d_M_partedOf_74 : decode b_M_partedOf 74 = .ok (.iconst (-1), 1) := by decide +kernel
theorem d_M_partedOf_75 : decode b_M_partedOf 75 = .ok (.if_icmp .eq (78), 3) := by decide +kernel
theorem d_M_partedOf_78 : decode b_M_partedOf 78 = .ok (.iload 6, 2) := by decide +kernel
theorem d_M_partedOf_80 : decode b_M_partedOf 80 = .ok (.iconst 1, 1) := by decide +kernel
theorem d_M_partedOf_81 : decode b_M_partedOf 81 = .ok (.if_icmp .ne (17), 3) := by decide +kernel
theorem d_M_partedOf_84 : decode b_M_partedOf 84 = .ok (.aload_n 0, 1) := by decide +kernel
theorem d_M_partedOf_85 : decode b_M_partedOf 85 = .ok (.iload_n 1, 1) := by decide +kernel
theorem d_M_partedOf_86 : decode b_M_partedOf 86 = .ok (.iload 5, 2) := by decide +kernel
theorem d_M_partedOf_88 : decode b_M_partedOf 88 = .ok (.invokevirtual 324, 3) := by decide +kernel
theorem d_M_partedOf_91 : decode b_M_partedOf 91 = .ok (.ifCond .eq (7), 3) := by decide +kernel
theorem d_M_partedOf_94 : decode b_M_partedOf 94 = .ok (.iconst 1, 1) := by decide +kernel
theorem d_M_partedOf_95 : decode b_M_partedOf 95 = .ok (.goto (4), 3) := by decide +kernel
theorem d_M_partedOf_98 : decode b_M_partedOf 98 = .ok (.iconst 0, 1) := by decide +kernel
theorem d_M_partedOf_99 : decode b_M_partedOf 99 = .ok (.istore 10, 2) := by decide +kernel
theorem d_M_partedOf_101 : decode b_M_partedOf 101 = .ok (.iload 8, 2) := by decide +kernel
theorem d_M_partedOf_103 : decode b_M_partedOf 103 = .ok (.iconst 1, 1) := by decide +kernel
theorem d_M_partedOf_104 : decode b_M_partedOf 104 = .ok (.if_icmp .ne (17), 3) := by decide +kernel
theorem d_M_partedOf_107 : decode b_M_partedOf 107 = .ok (.aload_n 0, 1) := by decide +kernel
theorem d_M_partedOf_108 : decode b_M_partedOf 108 = .ok (.iload_n 2, 1) := by decide +kernel
theorem d_M_partedOf_109 : decode b_M_partedOf 109 = .ok (.iload 5, 2) := by decide +kernel
theorem d_M_partedOf_111 : decode b_M_partedOf 111 = .ok (.invokevirtual 324, 3) := by decide +kernel
theorem d_M_partedOf_114 : decode b_M_partedOf 114 = .ok (.ifCond .eq (7), 3) := by decide +kernel
theorem d_M_partedOf_117 : decode b_M_partedOf 117 = .ok (.iconst 1, 1) := by decide +kernel
theorem d_M_partedOf_118 : decode b_M_partedOf 118 = .ok (.goto (4), 3) := by decide +kernel
theorem d_M_partedOf_121 : decode b_M_partedOf 121 = .ok (.iconst 0, 1) := by decide +kernel
theorem d_M_partedOf_122 : decode b_M_partedOf 122 = .ok (.istore 11, 2) := by decide +kernel
theorem d_M_partedOf_124 : decode b_M_partedOf 124 = .ok (.iload 4, 2) := by decide +kernel
theorem d_M_partedOf_126 : decode b_M_partedOf 126 = .ok (.iload 10, 2) := by decide +kernel
theorem d_M_partedOf_128 : decode b_M_partedOf 128 = .ok (.iload 11, 2) := by decide +kernel
theorem d_M_partedOf_130 : decode b_M_partedOf 130 = .ok (.if_icmp .ne (15), 3) := by decide +kernel
theorem d_M_partedOf_133 : decode b_M_partedOf 133 = .ok (.iload 10, 2) := by decide +kernel
theorem d_M_partedOf_135 : decode b_M_partedOf 135 = .ok (.ifCond .eq (14), 3) := by decide +kernel
theorem d_M_partedOf_138 : decode b_M_partedOf 138 = .ok (.iload 7, 2) := by decide +kernel
theorem d_M_partedOf_140 : decode b_M_partedOf 140 = .ok (.iload 9, 2) := by decide +kernel
theorem d_M_partedOf_142 : decode b_M_partedOf 142 = .ok (.if_icmp .eq (7), 3) := by decide +kernel
theorem d_M_partedOf_145 : decode b_M_partedOf 145 = .ok (.iconst 1, 1) := by decide +kernel
theorem d_M_partedOf_146 : decode b_M_partedOf 146 = .ok (.goto (4), 3) := by decide +kernel
theorem d_M_partedOf_149 : decode b_M_partedOf 149 = .ok (.iconst 0, 1) := by decide +kernel
theorem d_M_partedOf_150 : decode b_M_partedOf 150 = .ok (.iadd, 1) := by decide +kernel
theorem d_M_partedOf_151 : decode b_M_partedOf 151 = .ok (.istore 4, 2) := by decide +kernel
theorem d_M_partedOf_153 : decode b_M_partedOf 153 = .ok (.iinc 5 (1), 3) := by decide +kernel
theorem d_M_partedOf_156 : decode b_M_partedOf 156 = .ok (.goto (-150), 3) := by decide +kernel
theorem d_M_partedOf_159 : decode b_M_partedOf 159 = .ok (.iload 4, 2) := by decide +kernel
theorem d_M_partedOf_161 : decode b_M_partedOf 161 = .ok (.ireturn, 1) := by decide +kernel
def F_M_partedOf_149 (rec6 : Nat → Int32 → Int32 → Int32 → Int32 → Int32 → AW → Option (Int32 × AW)) (a0 : Nat) (x1 : Int32) (x2 : Int32) (x3 : Int32) (x5 : Int32) (s0 : Int32) (w : AW) : Option (Int32 × AW) :=
  let v1 : Int32 := (s0 + (0 : Int32))
  let v2 : Int32 := (x5 + (1 : Int32))
  rec6 a0 x1 x2 x3 v1 v2 w
theorem P_M_partedOf_149 {X : AX} {l : Launch} {G : AG} {rec6 : Nat → Int32 → Int32 → Int32 → Int32 → Int32 → AW → Option (Int32 × AW)} (hX : XOK X b_M_partedOf "RedSkyModel" 12) (hM : XM X l G { frames := 6, cells := 0, slots := 0, locals := 140 }) {o : Int32 × AW} (hR : XR X (some .int) 0 0 (some (vi o.1)) o.2) (hrec6 : ∀ (a0 : Nat) (x1 : Int32) (x2 : Int32) (x3 : Int32) (x4 : Int32) (x5 : Int32) (w : AW), rec6 a0 x1 x2 x3 x4 x5 w = some o → RJ X 12 0 0 6 [(0, vr a0), (1, vi x1), (2, vi x2), (3, vi x3), (4, vi x4), (5, vi x5)] [] w) (a0 : Nat) (x1 : Int32) (x2 : Int32) (x3 : Int32) (x5 : Int32) (s0 : Int32) (w : AW) (h : F_M_partedOf_149 rec6 a0 x1 x2 x3 x5 s0 w = some o) : RJ X 12 0 0 149 [(0, vr a0), (1, vi x1), (2, vi x2), (3, vi x3), (5, vi x5)] [vi s0] w := by
  unfold F_M_partedOf_149 at h
  refine r_iconst (v := (0 : Int32)) hX d_M_partedOf_149 rfl ?_
  refine r_iadd hX d_M_partedOf_150 ?_
  refine r_istore (i := 4) hX d_M_partedOf_151  (by decide) ?_
  refine r_iinc (i := 5) (v := (1 : Int32)) hX d_M_partedOf_153 5 rfl rfl (by decide) ?_
  refine r_goto hX d_M_partedOf_156 rfl ?_
  exact rj_sub [2, 3, 4, 5, 1, 0] rfl (hrec6 _ _ _ _ _ _ _ h)
def F_M_partedOf_145 (rec6 : Nat → Int32 → Int32 → Int32 → Int32 → Int32 → AW → Option (Int32 × AW)) (a0 : Nat) (x1 : Int32) (x2 : Int32) (x3 : Int32) (x5 : Int32) (s0 : Int32) (w : AW) : Option (Int32 × AW) :=
  let v1 : Int32 := (s0 + (1 : Int32))
  let v2 : Int32 := (x5 + (1 : Int32))
  rec6 a0 x1 x2 x3 v1 v2 w
theorem P_M_partedOf_145 {X : AX} {l : Launch} {G : AG} {rec6 : Nat → Int32 → Int32 → Int32 → Int32 → Int32 → AW → Option (Int32 × AW)} (hX : XOK X b_M_partedOf "RedSkyModel" 12) (hM : XM X l G { frames := 6, cells := 0, slots := 0, locals := 140 }) {o : Int32 × AW} (hR : XR X (some .int) 0 0 (some (vi o.1)) o.2) (hrec6 : ∀ (a0 : Nat) (x1 : Int32) (x2 : Int32) (x3 : Int32) (x4 : Int32) (x5 : Int32) (w : AW), rec6 a0 x1 x2 x3 x4 x5 w = some o → RJ X 12 0 0 6 [(0, vr a0), (1, vi x1), (2, vi x2), (3, vi x3), (4, vi x4), (5, vi x5)] [] w) (a0 : Nat) (x1 : Int32) (x2 : Int32) (x3 : Int32) (x5 : Int32) (s0 : Int32) (w : AW) (h : F_M_partedOf_145 rec6 a0 x1 x2 x3 x5 s0 w = some o) : RJ X 12 0 0 145 [(0, vr a0), (1, vi x1), (2, vi x2), (3, vi x3), (5, vi x5)] [vi s0] w := by
  unfold F_M_partedOf_145 at h
  refine r_iconst (v := (1 : Int32)) hX d_M_partedOf_145 rfl ?_
  refine r_goto hX d_M_partedOf_146 rfl ?_
  refine r_iadd hX d_M_partedOf_150 ?_
  refine r_istore (i := 4) hX d_M_partedOf_151  (by decide) ?_
  refine r_iinc (i := 5) (v := (1 : Int32)) hX d_M_partedOf_153 5 rfl rfl (by decide) ?_
  refine r_goto hX d_M_partedOf_156 rfl ?_
  exact rj_sub [2, 3, 4, 5, 1, 0] rfl (hrec6 _ _ _ _ _ _ _ h)
def F_M_partedOf_122 (rec6 : Nat → Int32 → Int32 → Int32 → Int32 → Int32 → AW → Option (Int32 × AW)) (a0 : Nat) (x1 : Int32) (x2 : Int32) (x3 : Int32) (x4 : Int32) (x5 : Int32) (x7 : Int32) (x9 : Int32) (x10 : Int32) (s0 : Int32) (w : AW) : Option (Int32 × AW) :=
  if x10 = s0 then
    if x10 = 0 then
      F_M_partedOf_149 rec6 a0 x1 x2 x3 x5 x4 w
    else
      if x7 = x9 then
        F_M_partedOf_149 rec6 a0 x1 x2 x3 x5 x4 w
      else
        F_M_partedOf_145 rec6 a0 x1 x2 x3 x5 x4 w
  else
    F_M_partedOf_145 rec6 a0 x1 x2 x3 x5 x4 w
theorem P_M_partedOf_122 {X : AX} {l : Launch} {G : AG} {rec6 : Nat → Int32 → Int32 → Int32 → Int32 → Int32 → AW → Option (Int32 × AW)} (hX : XOK X b_M_partedOf "RedSkyModel" 12) (hM : XM X l G { frames := 6, cells := 0, slots := 0, locals := 140 }) {o : Int32 × AW} (hR : XR X (some .int) 0 0 (some (vi o.1)) o.2) (hrec6 : ∀ (a0 : Nat) (x1 : Int32) (x2 : Int32) (x3 : Int32) (x4 : Int32) (x5 : Int32) (w : AW), rec6 a0 x1 x2 x3 x4 x5 w = some o → RJ X 12 0 0 6 [(0, vr a0), (1, vi x1), (2, vi x2), (3, vi x3), (4, vi x4), (5, vi x5)] [] w) (a0 : Nat) (x1 : Int32) (x2 : Int32) (x3 : Int32) (x4 : Int32) (x5 : Int32) (x7 : Int32) (x9 : Int32) (x10 : Int32) (s0 : Int32) (w : AW) (h : F_M_partedOf_122 rec6 a0 x1 x2 x3 x4 x5 x7 x9 x10 s0 w = some o) : RJ X 12 0 0 122 [(0, vr a0), (1, vi x1), (2, vi x2), (3, vi x3), (4, vi x4), (5, vi x5), (7, vi x7), (9, vi x9), (10, vi x10)] [vi s0] w := by
  unfold F_M_partedOf_122 at h
  refine r_istore (i := 11) hX d_M_partedOf_122  (by decide) ?_
  refine r_iload (i := 4) hX d_M_partedOf_124 5  rfl ?_
  refine r_iload (i := 10) hX d_M_partedOf_126 9  rfl ?_
  refine r_iload (i := 11) hX d_M_partedOf_128 0  rfl ?_
  refine r_icmp_ne hX d_M_partedOf_130 rfl h (fun h => ?_) (fun h => ?_)
  · exact rj_sub [1, 2, 3, 4, 6] rfl (P_M_partedOf_145 hX hM hR hrec6 _ _ _ _ _ _ _ h)
  · refine r_iload (i := 10) hX d_M_partedOf_133 9  rfl ?_
    refine r_if_eq hX d_M_partedOf_135 rfl h (fun h => ?_) (fun h => ?_)
    · exact rj_sub [1, 2, 3, 4, 6] rfl (P_M_partedOf_149 hX hM hR hrec6 _ _ _ _ _ _ _ h)
    · refine r_iload (i := 7) hX d_M_partedOf_138 7  rfl ?_
      refine r_iload (i := 9) hX d_M_partedOf_140 8  rfl ?_
      refine r_icmp_eq hX d_M_partedOf_142 rfl h (fun h => ?_) (fun h => ?_)
      · exact rj_sub [1, 2, 3, 4, 6] rfl (P_M_partedOf_149 hX hM hR hrec6 _ _ _ _ _ _ _ h)
      · exact rj_sub [1, 2, 3, 4, 6] rfl (P_M_partedOf_145 hX hM hR hrec6 _ _ _ _ _ _ _ h)
def F_M_partedOf_99 (rec6 : Nat → Int32 → Int32 → Int32 → Int32 → Int32 → AW → Option (Int32 × AW)) (a0 : Nat) (x1 : Int32) (x2 : Int32) (x3 : Int32) (x4 : Int32) (x5 : Int32) (x7 : Int32) (x8 : Int32) (x9 : Int32) (s0 : Int32) (w : AW) : Option (Int32 × AW) :=
  if x8 = (1 : Int32) then
    gd (wk w a0 == 13) <|
    (F_M_isInSeason w a0 x2 x5).bind fun r2 =>
    if r2 = 0 then
      F_M_partedOf_122 rec6 a0 x1 x2 x3 x4 x5 x7 x9 s0 (0 : Int32) w
    else
      F_M_partedOf_122 rec6 a0 x1 x2 x3 x4 x5 x7 x9 s0 (1 : Int32) w
  else
    F_M_partedOf_122 rec6 a0 x1 x2 x3 x4 x5 x7 x9 s0 (0 : Int32) w
theorem P_M_partedOf_99 {X : AX} {l : Launch} {G : AG} {rec6 : Nat → Int32 → Int32 → Int32 → Int32 → Int32 → AW → Option (Int32 × AW)} (hX : XOK X b_M_partedOf "RedSkyModel" 12) (hM : XM X l G { frames := 6, cells := 0, slots := 0, locals := 140 }) {o : Int32 × AW} (hR : XR X (some .int) 0 0 (some (vi o.1)) o.2) (hrec6 : ∀ (a0 : Nat) (x1 : Int32) (x2 : Int32) (x3 : Int32) (x4 : Int32) (x5 : Int32) (w : AW), rec6 a0 x1 x2 x3 x4 x5 w = some o → RJ X 12 0 0 6 [(0, vr a0), (1, vi x1), (2, vi x2), (3, vi x3), (4, vi x4), (5, vi x5)] [] w) (a0 : Nat) (x1 : Int32) (x2 : Int32) (x3 : Int32) (x4 : Int32) (x5 : Int32) (x7 : Int32) (x8 : Int32) (x9 : Int32) (s0 : Int32) (w : AW) (h : F_M_partedOf_99 rec6 a0 x1 x2 x3 x4 x5 x7 x8 x9 s0 w = some o) : RJ X 12 0 0 99 [(0, vr a0), (1, vi x1), (2, vi x2), (3, vi x3), (4, vi x4), (5, vi x5), (7, vi x7), (8, vi x8), (9, vi x9)] [vi s0] w := by
  unfold F_M_partedOf_99 at h
  refine r_istore (i := 10) hX d_M_partedOf_99  (by decide) ?_
  refine r_iload (i := 8) hX d_M_partedOf_101 8  rfl ?_
  refine r_iconst (v := (1 : Int32)) hX d_M_partedOf_103 rfl ?_
  refine r_icmp_ne hX d_M_partedOf_104 rfl h (fun h => ?_) (fun h => ?_)
  · refine r_iconst (v := (0 : Int32)) hX d_M_partedOf_121 rfl ?_
    exact rj_sub [1, 2, 3, 4, 5, 6, 7, 9, 0] rfl (P_M_partedOf_122 hX hM hR hrec6 _ _ _ _ _ _ _ _ _ _ _ h)
  · refine r_aload_n (i := 0) hX d_M_partedOf_107 1 rfl rfl ?_
    refine r_iload_n (i := 2) hX d_M_partedOf_108 3 rfl rfl ?_
    refine r_iload (i := 5) hX d_M_partedOf_109 6  rfl ?_
    obtain ⟨hk1, h⟩ := gd_e h
    obtain ⟨r2, hr3, h⟩ := bd_e h
    refine r_callV1 (As := [_, _]) hX hM mw_M_324 (T_M_isInSeason _ _ _ _ hr3) (rc_of ci_12 hk1) rfl rfl ⟨Nat.le_refl _, Nat.le_refl _⟩ rfl rfl d_M_partedOf_111 ?_
    refine r_if_eq hX d_M_partedOf_114 rfl h (fun h => ?_) (fun h => ?_)
    · refine r_iconst (v := (0 : Int32)) hX d_M_partedOf_121 rfl ?_
      exact rj_sub [1, 2, 3, 4, 5, 6, 7, 9, 0] rfl (P_M_partedOf_122 hX hM hR hrec6 _ _ _ _ _ _ _ _ _ _ _ h)
    · refine r_iconst (v := (1 : Int32)) hX d_M_partedOf_117 rfl ?_
      refine r_goto hX d_M_partedOf_118 rfl ?_
      exact rj_sub [1, 2, 3, 4, 5, 6, 7, 9, 0] rfl (P_M_partedOf_122 hX hM hR hrec6 _ _ _ _ _ _ _ _ _ _ _ h)
def F_M_partedOf_6_B (rec6 : Nat → Int32 → Int32 → Int32 → Int32 → Int32 → AW → Option (Int32 × AW)) (a0 : Nat) (x1 : Int32) (x2 : Int32) (x3 : Int32) (x4 : Int32) (x5 : Int32) (w : AW) : Option (Int32 × AW) :=
  if (1461 : Int32) ≤ x5 then
    some (x4, w)
  else
    gd (wk w a0 == 13) <|
    (F_M_firstOf a0 x1 x3 x5 w).bind fun r2 =>
    let v4 : Int32 := r2.1
    gd (wk r2.2 a0 == 13) <|
    (F_M_secondOf a0 x1 x3 x5 r2.2).bind fun r6 =>
    let v8 : Int32 := r6.1
    gd (wk r6.2 a0 == 13) <|
    (F_M_firstOf a0 x2 x3 x5 r6.2).bind fun r10 =>
    let v12 : Int32 := r10.1
    gd (wk r10.2 a0 == 13) <|
    (F_M_secondOf a0 x2 x3 x5 r10.2).bind fun r14 =>
    let v16 : Int32 := r14.1
    if v4 = (-1 : Int32) then
      let v17 : Int32 := (x5 + (1 : Int32))
      rec6 a0 x1 x2 x3 x4 v17 r14.2
    else
      if v8 = (-1 : Int32) then
        let v18 : Int32 := (x5 + (1 : Int32))
        rec6 a0 x1 x2 x3 x4 v18 r14.2
      else
        if v12 = (-1 : Int32) then
          let v19 : Int32 := (x5 + (1 : Int32))
          rec6 a0 x1 x2 x3 x4 v19 r14.2
        else
          if v16 = (-1 : Int32) then
            let v20 : Int32 := (x5 + (1 : Int32))
            rec6 a0 x1 x2 x3 x4 v20 r14.2
          else
            if v4 = (1 : Int32) then
              gd (wk r14.2 a0 == 13) <|
              (F_M_isInSeason r14.2 a0 x1 x5).bind fun r22 =>
              if r22 = 0 then
                F_M_partedOf_99 rec6 a0 x1 x2 x3 x4 x5 v8 v12 v16 (0 : Int32) r14.2
              else
                F_M_partedOf_99 rec6 a0 x1 x2 x3 x4 x5 v8 v12 v16 (1 : Int32) r14.2
            else
              F_M_partedOf_99 rec6 a0 x1 x2 x3 x4 x5 v8 v12 v16 (0 : Int32) r14.2
theorem P_M_partedOf_6_B {X : AX} {l : Launch} {G : AG} {rec6 : Nat → Int32 → Int32 → Int32 → Int32 → Int32 → AW → Option (Int32 × AW)} (hX : XOK X b_M_partedOf "RedSkyModel" 12) (hM : XM X l G { frames := 6, cells := 0, slots := 0, locals := 140 }) {o : Int32 × AW} (hR : XR X (some .int) 0 0 (some (vi o.1)) o.2) (hrec6 : ∀ (a0 : Nat) (x1 : Int32) (x2 : Int32) (x3 : Int32) (x4 : Int32) (x5 : Int32) (w : AW), rec6 a0 x1 x2 x3 x4 x5 w = some o → RJ X 12 0 0 6 [(0, vr a0), (1, vi x1), (2, vi x2), (3, vi x3), (4, vi x4), (5, vi x5)] [] w) (a0 : Nat) (x1 : Int32) (x2 : Int32) (x3 : Int32) (x4 : Int32) (x5 : Int32) (w : AW) (h : F_M_partedOf_6_B rec6 a0 x1 x2 x3 x4 x5 w = some o) : RJ X 12 0 0 6 [(0, vr a0), (1, vi x1), (2, vi x2), (3, vi x3), (4, vi x4), (5, vi x5)] [] w := by
  unfold F_M_partedOf_6_B at h
  refine r_iload (i := 5) hX d_M_partedOf_6 5  rfl ?_
  refine r_sipush (v := (1461 : Int32)) hX d_M_partedOf_8 rfl ?_
  refine r_icmp_ge hX d_M_partedOf_11 rfl h (fun h => ?_) (fun h => ?_)
  · refine r_iload (i := 4) hX d_M_partedOf_159 4  rfl ?_
    cases h; exact r_iret hX hR d_M_partedOf_161
  · refine r_aload_n (i := 0) hX d_M_partedOf_14 0 rfl rfl ?_
    refine r_iload_n (i := 1) hX d_M_partedOf_15 1 rfl rfl ?_
    refine r_iload_n (i := 3) hX d_M_partedOf_16 3 rfl rfl ?_
    refine r_iload (i := 5) hX d_M_partedOf_17 5  rfl ?_
    obtain ⟨hk1, h⟩ := gd_e h
    obtain ⟨r2, hr3, h⟩ := bd_e h
    refine r_callV1 (As := [_, _, _]) hX hM mw_M_318 (T_M_firstOf _ _ _ _ _ hr3) (rc_of ci_12 hk1) rfl rfl ⟨Nat.le_refl _, Nat.le_refl _⟩ rfl rfl d_M_partedOf_19 ?_
    refine r_istore (i := 6) hX d_M_partedOf_22  (by decide) ?_
    refine r_aload_n (i := 0) hX d_M_partedOf_24 1 rfl rfl ?_
    refine r_iload_n (i := 1) hX d_M_partedOf_25 2 rfl rfl ?_
    refine r_iload_n (i := 3) hX d_M_partedOf_26 4 rfl rfl ?_
    refine r_iload (i := 5) hX d_M_partedOf_27 6  rfl ?_
    obtain ⟨hk5, h⟩ := gd_e h
    obtain ⟨r6, hr7, h⟩ := bd_e h
    refine r_callV1 (As := [_, _, _]) hX hM mw_M_321 (T_M_secondOf _ _ _ _ _ hr7) (rc_of ci_12 hk5) rfl rfl ⟨Nat.le_refl _, Nat.le_refl _⟩ rfl rfl d_M_partedOf_29 ?_
    refine r_istore (i := 7) hX d_M_partedOf_32  (by decide) ?_
    refine r_aload_n (i := 0) hX d_M_partedOf_34 2 rfl rfl ?_
    refine r_iload_n (i := 2) hX d_M_partedOf_35 4 rfl rfl ?_
    refine r_iload_n (i := 3) hX d_M_partedOf_36 5 rfl rfl ?_
    refine r_iload (i := 5) hX d_M_partedOf_37 7  rfl ?_
    obtain ⟨hk9, h⟩ := gd_e h
    obtain ⟨r10, hr11, h⟩ := bd_e h
    refine r_callV1 (As := [_, _, _]) hX hM mw_M_318 (T_M_firstOf _ _ _ _ _ hr11) (rc_of ci_12 hk9) rfl rfl ⟨Nat.le_refl _, Nat.le_refl _⟩ rfl rfl d_M_partedOf_39 ?_
    refine r_istore (i := 8) hX d_M_partedOf_42  (by decide) ?_
    refine r_aload_n (i := 0) hX d_M_partedOf_44 3 rfl rfl ?_
    refine r_iload_n (i := 2) hX d_M_partedOf_45 5 rfl rfl ?_
    refine r_iload_n (i := 3) hX d_M_partedOf_46 6 rfl rfl ?_
    refine r_iload (i := 5) hX d_M_partedOf_47 8  rfl ?_
    obtain ⟨hk13, h⟩ := gd_e h
    obtain ⟨r14, hr15, h⟩ := bd_e h
    refine r_callV1 (As := [_, _, _]) hX hM mw_M_321 (T_M_secondOf _ _ _ _ _ hr15) (rc_of ci_12 hk13) rfl rfl ⟨Nat.le_refl _, Nat.le_refl _⟩ rfl rfl d_M_partedOf_49 ?_
    refine r_istore (i := 9) hX d_M_partedOf_52  (by decide) ?_
    refine r_iload (i := 6) hX d_M_partedOf_54 3  rfl ?_
    refine r_iconst (v := (-1 : Int32)) hX d_M_partedOf_56 rfl ?_
    refine r_icmp_eq hX d_M_partedOf_57 rfl h (fun h => ?_) (fun h => ?_)
    · refine r_iinc (i := 5) (v := (1 : Int32)) hX d_M_partedOf_153 9 rfl rfl (by decide) ?_
      refine r_goto hX d_M_partedOf_156 rfl ?_
      exact rj_sub [5, 6, 7, 8, 9, 0] rfl (hrec6 _ _ _ _ _ _ _ h)
    · refine r_iload (i := 7) hX d_M_partedOf_60 2  rfl ?_
      refine r_iconst (v := (-1 : Int32)) hX d_M_partedOf_62 rfl ?_
      refine r_icmp_eq hX d_M_partedOf_63 rfl h (fun h => ?_) (fun h => ?_)
      · refine r_iinc (i := 5) (v := (1 : Int32)) hX d_M_partedOf_153 9 rfl rfl (by decide) ?_
        refine r_goto hX d_M_partedOf_156 rfl ?_
        exact rj_sub [5, 6, 7, 8, 9, 0] rfl (hrec6 _ _ _ _ _ _ _ h)
      · refine r_iload (i := 8) hX d_M_partedOf_66 1  rfl ?_
        refine r_iconst (v := (-1 : Int32)) hX d_M_partedOf_68 rfl ?_
        refine r_icmp_eq hX d_M_partedOf_69 rfl h (fun h => ?_) (fun h => ?_)
        · refine r_iinc (i := 5) (v := (1 : Int32)) hX d_M_partedOf_153 9 rfl rfl (by decide) ?_
          refine r_goto hX d_M_partedOf_156 rfl ?_
          exact rj_sub [5, 6, 7, 8, 9, 0] rfl (hrec6 _ _ _ _ _ _ _ h)
        · refine r_iload (i := 9) hX d_M_partedOf_72 0  rfl ?_
          refine r_iconst (v := (-1 : Int32)) hX d_M_partedOf_74 rfl ?_
          refine r_icmp_eq hX d_M_partedOf_75 rfl h (fun h => ?_) (fun h => ?_)
          · refine r_iinc (i := 5) (v := (1 : Int32)) hX d_M_partedOf_153 9 rfl rfl (by decide) ?_
            refine r_goto hX d_M_partedOf_156 rfl ?_
            exact rj_sub [5, 6, 7, 8, 9, 0] rfl (hrec6 _ _ _ _ _ _ _ h)
          · refine r_iload (i := 6) hX d_M_partedOf_78 3  rfl ?_
            refine r_iconst (v := (1 : Int32)) hX d_M_partedOf_80 rfl ?_
            refine r_icmp_ne hX d_M_partedOf_81 rfl h (fun h => ?_) (fun h => ?_)
            · refine r_iconst (v := (0 : Int32)) hX d_M_partedOf_98 rfl ?_
              exact rj_sub [4, 5, 6, 7, 8, 9, 2, 1, 0] rfl (P_M_partedOf_99 hX hM hR hrec6 _ _ _ _ _ _ _ _ _ _ _ h)
            · refine r_aload_n (i := 0) hX d_M_partedOf_84 4 rfl rfl ?_
              refine r_iload_n (i := 1) hX d_M_partedOf_85 5 rfl rfl ?_
              refine r_iload (i := 5) hX d_M_partedOf_86 9  rfl ?_
              obtain ⟨hk21, h⟩ := gd_e h
              obtain ⟨r22, hr23, h⟩ := bd_e h
              refine r_callV1 (As := [_, _]) hX hM mw_M_324 (T_M_isInSeason _ _ _ _ hr23) (rc_of ci_12 hk21) rfl rfl ⟨Nat.le_refl _, Nat.le_refl _⟩ rfl rfl d_M_partedOf_88 ?_
              refine r_if_eq hX d_M_partedOf_91 rfl h (fun h => ?_) (fun h => ?_)
              · refine r_iconst (v := (0 : Int32)) hX d_M_partedOf_98 rfl ?_
                exact rj_sub [4, 5, 6, 7, 8, 9, 2, 1, 0] rfl (P_M_partedOf_99 hX hM hR hrec6 _ _ _ _ _ _ _ _ _ _ _ h)
              · refine r_iconst (v := (1 : Int32)) hX d_M_partedOf_94 rfl ?_
                refine r_goto hX d_M_partedOf_95 rfl ?_
                exact rj_sub [4, 5, 6, 7, 8, 9, 2, 1, 0] rfl (P_M_partedOf_99 hX hM hR hrec6 _ _ _ _ _ _ _ _ _ _ _ h)
def F_M_partedOf_6 : Nat → Nat → Int32 → Int32 → Int32 → Int32 → Int32 → AW → Option (Int32 × AW)
  | 0 => fun _ _ _ _ _ _ _ => none
  | n + 1 => fun a0 x1 x2 x3 x4 x5 w => F_M_partedOf_6_B (F_M_partedOf_6 n) a0 x1 x2 x3 x4 x5 w
theorem P_M_partedOf_6 {X : AX} {l : Launch} {G : AG} (hX : XOK X b_M_partedOf "RedSkyModel" 12) (hM : XM X l G { frames := 6, cells := 0, slots := 0, locals := 140 }) {o : Int32 × AW} (hR : XR X (some .int) 0 0 (some (vi o.1)) o.2) (fu : Nat) : ∀ (a0 : Nat) (x1 : Int32) (x2 : Int32) (x3 : Int32) (x4 : Int32) (x5 : Int32) (w : AW), F_M_partedOf_6 fu a0 x1 x2 x3 x4 x5 w = some o → RJ X 12 0 0 6 [(0, vr a0), (1, vi x1), (2, vi x2), (3, vi x3), (4, vi x4), (5, vi x5)] [] w := by
  induction fu with
  | zero => intro a0 x1 x2 x3 x4 x5 w h; cases h
  | succ n9 ih => intro a0 x1 x2 x3 x4 x5 w h; exact P_M_partedOf_6_B hX hM hR ih _ _ _ _ _ _ _ h
def F_M_partedOf (a0 : Nat) (x1 : Int32) (x2 : Int32) (x3 : Int32) (w : AW) : Option (Int32 × AW) :=
  F_M_partedOf_6 FUEL a0 x1 x2 x3 (0 : Int32) (0 : Int32) w
theorem P_M_partedOf_0 {X : AX} {l : Launch} {G : AG} (hX : XOK X b_M_partedOf "RedSkyModel" 12) (hM : XM X l G { frames := 6, cells := 0, slots := 0, locals := 140 }) {o : Int32 × AW} (hR : XR X (some .int) 0 0 (some (vi o.1)) o.2) (a0 : Nat) (x1 : Int32) (x2 : Int32) (x3 : Int32) (w : AW) (h : F_M_partedOf a0 x1 x2 x3 w = some o) : RJ X 12 0 0 0 [(0, vr a0), (1, vi x1), (2, vi x2), (3, vi x3)] [] w := by
  unfold F_M_partedOf at h
  refine r_iconst (v := (0 : Int32)) hX d_M_partedOf_0 rfl ?_
  refine r_istore (i := 4) hX d_M_partedOf_1  (by decide) ?_
  refine r_iconst (v := (0 : Int32)) hX d_M_partedOf_3 rfl ?_
  refine r_istore (i := 5) hX d_M_partedOf_4  (by decide) ?_
  exact rj_sub [2, 3, 4, 5, 1, 0] rfl (P_M_partedOf_6 hX hM hR FUEL _ _ _ _ _ _ _ h)
theorem T_M_partedOf {l : Launch} {G : AG} (a0 : Nat) (x1 : Int32) (x2 : Int32) (x3 : Int32) (w : AW) {o : Int32 × AW} (h : F_M_partedOf a0 x1 x2 x3 w = some o) : Mt l G y_M_partedOf b_M_partedOf 12 (some (.int)) 6 140 0 0 [vr a0, vi x1, vi x2, vi x3] w (some (vi o.1)) o.2 := mt_of (by decide) (Nat.le_of_ble_eq_true rfl) (fun X hX hR hM hI => P_M_partedOf_0 hX hM hR _ _ _ _ _ h)
/-! RedSkyModel.parted(III)I -/
theorem d_M_parted_0 : decode b_M_parted 0 = .ok (.aload_n 0, 1) := by decide +kernel
theorem d_M_parted_1 : decode b_M_parted 1 = .ok (.iload_n 1, 1) := by decide +kernel
theorem d_M_parted_2 : decode b_M_parted 2 = .ok (.invokevirtual 306, 3) := by decide +kernel
theorem d_M_parted_5 : decode b_M_parted 5 = .ok (.ifCond .eq (28), 3) := by decide +kernel
theorem d_M_parted_8 : decode b_M_parted 8 = .ok (.aload_n 0, 1) := by decide +kernel
theorem d_M_parted_9 : decode b_M_parted 9 = .ok (.iload_n 2, 1) := by decide +kernel
theorem d_M_parted_10 : decode b_M_parted 10 = .ok (.invokevirtual 306, 3) := by decide +kernel
theorem d_M_parted_13 : decode b_M_parted 13 = .ok (.ifCond .eq (20), 3) := by decide +kernel
theorem d_M_parted_16 : decode b_M_parted 16 = .ok (.iload_n 3, 1) := by decide +kernel
theorem d_M_parted_17 : decode b_M_parted 17 = .ok (.invokestatic 155, 3) := by decide +kernel
theorem d_M_parted_20 : decode b_M_parted 20 = .ok (.ifCond .eq (13), 3) := by decide +kernel
theorem d_M_parted_23 : decode b_M_parted 23 = .ok (.aload_n 0, 1) := by decide +kernel
theorem d_M_parted_24 : decode b_M_parted 24 = .ok (.iload_n 1, 1) := by decide +kernel
theorem d_M_parted_25 : decode b_M_parted 25 = .ok (.iload_n 2, 1) := by decide +kernel
theorem d_M_parted_26 : decode b_M_parted 26 = .ok (.iload_n 3, 1) := by decide +kernel
theorem d_M_parted_27 : decode b_M_parted 27 = .ok (.invokevirtual 349, 3) := by decide +kernel
theorem d_M_parted_30 : decode b_M_parted 30 = .ok (.goto (5), 3) := by decide +kernel
theorem d_M_parted_33 : decode b_M_parted 33 = .ok (.bipush (-101), 2) := by decide +kernel
theorem d_M_parted_35 : decode b_M_parted 35 = .ok (.ireturn, 1) := by decide +kernel
def F_M_parted (a0 : Nat) (x1 : Int32) (x2 : Int32) (x3 : Int32) (w : AW) : Option (Int32 × AW) :=
  gd (wk w a0 == 13) <|
  (F_M_isSaying w a0 x1).bind fun r2 =>
  if r2 = 0 then
    some ((-101 : Int32), w)
  else
    (F_M_isSaying w a0 x2).bind fun r4 =>
    if r4 = 0 then
      some ((-101 : Int32), w)
    else
      if (F_M_isValley x3) = 0 then
        some ((-101 : Int32), w)
      else
        (F_M_partedOf a0 x1 x2 x3 w).bind fun r6 =>
        some (r6.1, r6.2)
theorem P_M_parted_0 {X : AX} {l : Launch} {G : AG} (hX : XOK X b_M_parted "RedSkyModel" 4) (hM : XM X l G { frames := 7, cells := 0, slots := 0, locals := 171 }) {o : Int32 × AW} (hR : XR X (some .int) 0 0 (some (vi o.1)) o.2) (a0 : Nat) (x1 : Int32) (x2 : Int32) (x3 : Int32) (w : AW) (h : F_M_parted a0 x1 x2 x3 w = some o) : RJ X 4 0 0 0 [(0, vr a0), (1, vi x1), (2, vi x2), (3, vi x3)] [] w := by
  unfold F_M_parted at h
  refine r_aload_n (i := 0) hX d_M_parted_0 0 rfl rfl ?_
  refine r_iload_n (i := 1) hX d_M_parted_1 1 rfl rfl ?_
  obtain ⟨hk1, h⟩ := gd_e h
  obtain ⟨r2, hr3, h⟩ := bd_e h
  refine r_callV1 (As := [_]) hX hM mw_M_306 (T_M_isSaying _ _ _ hr3) (rc_of ci_12 hk1) rfl rfl ⟨Nat.le_refl _, Nat.le_refl _⟩ rfl rfl d_M_parted_2 ?_
  refine r_if_eq hX d_M_parted_5 rfl h (fun h => ?_) (fun h => ?_)
  · refine r_bipush (v := (-101 : Int32)) hX d_M_parted_33 rfl ?_
    cases h; exact r_iret hX hR d_M_parted_35
  · refine r_aload_n (i := 0) hX d_M_parted_8 0 rfl rfl ?_
    refine r_iload_n (i := 2) hX d_M_parted_9 2 rfl rfl ?_
    obtain ⟨r4, hr5, h⟩ := bd_e h
    refine r_callV1 (As := [_]) hX hM mw_M_306 (T_M_isSaying _ _ _ hr5) (rc_of ci_12 hk1) rfl rfl ⟨Nat.le_refl _, Nat.le_refl _⟩ rfl rfl d_M_parted_10 ?_
    refine r_if_eq hX d_M_parted_13 rfl h (fun h => ?_) (fun h => ?_)
    · refine r_bipush (v := (-101 : Int32)) hX d_M_parted_33 rfl ?_
      cases h; exact r_iret hX hR d_M_parted_35
    · refine r_iload_n (i := 3) hX d_M_parted_16 3 rfl rfl ?_
      refine r_callS1 (As := [_]) hX hM mw_M_155 (T_M_isValley _ _) rfl rfl ⟨Nat.le_refl _, Nat.le_refl _⟩ rfl rfl d_M_parted_17 ?_
      refine r_if_eq hX d_M_parted_20 rfl h (fun h => ?_) (fun h => ?_)
      · refine r_bipush (v := (-101 : Int32)) hX d_M_parted_33 rfl ?_
        cases h; exact r_iret hX hR d_M_parted_35
      · refine r_aload_n (i := 0) hX d_M_parted_23 0 rfl rfl ?_
        refine r_iload_n (i := 1) hX d_M_parted_24 1 rfl rfl ?_
        refine r_iload_n (i := 2) hX d_M_parted_25 2 rfl rfl ?_
        refine r_iload_n (i := 3) hX d_M_parted_26 3 rfl rfl ?_
        obtain ⟨r6, hr7, h⟩ := bd_e h
        refine r_callV1 (As := [_, _, _]) hX hM mw_M_349 (T_M_partedOf _ _ _ _ _ hr7) (rc_of ci_12 hk1) rfl rfl ⟨Nat.le_refl _, Nat.le_refl _⟩ rfl rfl d_M_parted_27 ?_
        refine r_goto hX d_M_parted_30 rfl ?_
        cases h; exact r_iret hX hR d_M_parted_35
theorem T_M_parted {l : Launch} {G : AG} (a0 : Nat) (x1 : Int32) (x2 : Int32) (x3 : Int32) (w : AW) {o : Int32 × AW} (h : F_M_parted a0 x1 x2 x3 w = some o) : Mt l G y_M_parted b_M_parted 4 (some (.int)) 7 171 0 0 [vr a0, vi x1, vi x2, vi x3] w (some (vi o.1)) o.2 := mt_of (by decide) (Nat.le_of_ble_eq_true rfl) (fun X hX hR hM hI => P_M_parted_0 hX hM hR _ _ _ _ _ h)
/-! RedSky.one(II)I -/
theorem d_A_one_0 : decode b_A_one 0 = .ok (.aload_n 0, 1) := by decide +kernel
theorem d_A_one_1 : decode b_A_one 1 = .ok (.iload_n 1, 1) := by decide +kernel
theorem d_A_one_2 : decode b_A_one 2 = .ok (.invokevirtual 200, 3) := by decide +kernel
theorem d_A_one_5 : decode b_A_one 5 = .ok (.astore_n 3, 1) := by decide +kernel
theorem d_A_one_6 : decode b_A_one 6 = .ok (.aload_n 0, 1) := by decide +kernel
theorem d_A_one_7 : decode b_A_one 7 = .ok (.iload_n 2, 1) := by decide +kernel
theorem d_A_one_8 : decode b_A_one 8 = .ok (.invokevirtual 200, 3) := by decide +kernel
theorem d_A_one_11 : decode b_A_one 11 = .ok (.astore 4, 2) := by decide +kernel
theorem d_A_one_13 : decode b_A_one 13 = .ok (.aload_n 3, 1) := by decide +kernel
theorem d_A_one_14 : decode b_A_one 14 = .ok (.ifnull (8), 3) := by decide +kernel
theorem d_A_one_17 : decode b_A_one 17 = .ok (.aload 4, 2) := by decide +kernel
theorem d_A_one_19 : decode b_A_one 19 = .ok (.ifnonnull (6), 3) := by decide +kernel
theorem d_A_one_22 : decode b_A_one 22 = .ok (.bipush (-101), 2) := by decide +kernel
theorem d_A_one_24 : decode b_A_one 24 = .ok (.ireturn, 1) := by decide +kernel
theorem d_A_one_25 : decode b_A_one 25 = .ok (.iconst 0, 1) := by decide +kernel
theorem d_A_one_26 : decode b_A_one 26 = .ok (.istore 5, 2) := by decide +kernel
theorem d_A_one_28 : decode b_A_one 28 = .ok (.iload 5, 2) := by decide +kernel
theorem d_A_one_30 : decode b_A_one 30 = .ok (.iconst 3, 1) := by decide +kernel
theorem d_A_one_31 : decode b_A_one 31 = .ok (.if_icmp .ge (28), 3) := by decide +kernel
theorem d_A_one_34 : decode b_A_one 34 = .ok (.aload_n 0, 1) := by decide +kernel
theorem d_A_one_35 : decode b_A_one 35 = .ok (.aload_n 3, 1) := by decide +kernel
theorem d_A_one_36 : decode b_A_one 36 = .ok (.aload 4, 2) := by decide +kernel
theorem d_A_one_38 : decode b_A_one 38 = .ok (.aload_n 0, 1) := by decide +kernel
theorem d_A_one_39 : decode b_A_one 39 = .ok (.getfield 18, 3) := by decide +kernel
theorem d_A_one_42 : decode b_A_one 42 = .ok (.iload 5, 2) := by decide +kernel
theorem d_A_one_44 : decode b_A_one 44 = .ok (.aaload, 1) := by decide +kernel
theorem d_A_one_45 : decode b_A_one 45 = .ok (.invokevirtual 251, 3) := by decide +kernel
theorem d_A_one_48 : decode b_A_one 48 = .ok (.ifCond .le (5), 3) := by decide +kernel
theorem d_A_one_51 : decode b_A_one 51 = .ok (.iconst 0, 1) := by decide +kernel
theorem d_A_one_52 : decode b_A_one 52 = .ok (.ireturn, 1) := by decide +kernel
theorem d_A_one_53 : decode b_A_one 53 = .ok (.iinc 5 (1), 3) := by decide +kernel
theorem d_A_one_56 : decode b_A_one 56 = .ok (.goto (-28), 3) := by decide +kernel
theorem d_A_one_59 : decode b_A_one 59 = .ok (.iconst 1, 1) := by decide +kernel
theorem d_A_one_60 : decode b_A_one 60 = .ok (.ireturn, 1) := by decide +kernel
def F_A_one_28_B (rec28 : Nat → Nat → Nat → Int32 → AW → Option (Int32 × AW)) (a0 : Nat) (a3 : Nat) (a4 : Nat) (x5 : Int32) (w : AW) : Option (Int32 × AW) :=
  if (3 : Int32) ≤ x5 then
    some ((1 : Int32), w)
  else
    gd (wk w a0 == 1) <|
    gd (wk w (wr w a0 1) == 106) <|
    gd (inb x5 (wn w (wr w a0 1))) <|
    (F_A_partedDays a0 a3 a4 (wr w (wr w a0 1) (Int32.toNatClampNeg x5)) w).bind fun r4 =>
    if r4.1 ≤ 0 then
      let v6 : Int32 := (x5 + (1 : Int32))
      rec28 a0 a3 a4 v6 r4.2
    else
      some ((0 : Int32), r4.2)
theorem P_A_one_28_B {X : AX} {l : Launch} {G : AG} {rec28 : Nat → Nat → Nat → Int32 → AW → Option (Int32 × AW)} (hX : XOK X b_A_one "RedSky" 6) (hM : XM X l G { frames := 7, cells := 0, slots := 0, locals := 170 }) {o : Int32 × AW} (hR : XR X (some .int) 0 0 (some (vi o.1)) o.2) (hrec28 : ∀ (a0 : Nat) (a3 : Nat) (a4 : Nat) (x5 : Int32) (w : AW), rec28 a0 a3 a4 x5 w = some o → RJ X 6 0 0 28 [(0, vr a0), (3, vr a3), (4, vr a4), (5, vi x5)] [] w) (a0 : Nat) (a3 : Nat) (a4 : Nat) (x5 : Int32) (w : AW) (h : F_A_one_28_B rec28 a0 a3 a4 x5 w = some o) : RJ X 6 0 0 28 [(0, vr a0), (3, vr a3), (4, vr a4), (5, vi x5)] [] w := by
  unfold F_A_one_28_B at h
  refine r_iload (i := 5) hX d_A_one_28 3  rfl ?_
  refine r_iconst (v := (3 : Int32)) hX d_A_one_30 rfl ?_
  refine r_icmp_ge hX d_A_one_31 rfl h (fun h => ?_) (fun h => ?_)
  · refine r_iconst (v := (1 : Int32)) hX d_A_one_59 rfl ?_
    cases h; exact r_iret hX hR d_A_one_60
  · refine r_aload_n (i := 0) hX d_A_one_34 0 rfl rfl ?_
    refine r_aload_n (i := 3) hX d_A_one_35 1 rfl rfl ?_
    refine r_aload (i := 4) hX d_A_one_36 2  rfl ?_
    refine r_aload_n (i := 0) hX d_A_one_38 0 rfl rfl ?_
    obtain ⟨hk1, h⟩ := gd_e h
    refine r_getR (i := 0) (f := 1) hX ci_0 (by decide) rfl fl_A_18 hk1 d_A_one_39 ?_
    refine r_iload (i := 5) hX d_A_one_42 3  rfl ?_
    obtain ⟨hk2, h⟩ := gd_e h
    obtain ⟨hg3, h⟩ := gd_e h
    refine r_aald (t := 0) (kd := 106) hX (by decide) (fun G => rfl) hk2 hg3 d_A_one_44 ?_
    obtain ⟨r4, hr5, h⟩ := bd_e h
    refine r_callV1 (As := [_, _, _]) hX hM mw_A_251 (T_A_partedDays _ _ _ _ _ hr5) (rc_of ci_0 hk1) rfl rfl ⟨Nat.le_refl _, Nat.le_refl _⟩ rfl rfl d_A_one_45 ?_
    refine r_if_le hX d_A_one_48 rfl h (fun h => ?_) (fun h => ?_)
    · refine r_iinc (i := 5) (v := (1 : Int32)) hX d_A_one_53 3 rfl rfl (by decide) ?_
      refine r_goto hX d_A_one_56 rfl ?_
      exact rj_sub [1, 2, 3, 0] rfl (hrec28 _ _ _ _ _ h)
    · refine r_iconst (v := (0 : Int32)) hX d_A_one_51 rfl ?_
      cases h; exact r_iret hX hR d_A_one_52
def F_A_one_28 : Nat → Nat → Nat → Nat → Int32 → AW → Option (Int32 × AW)
  | 0 => fun _ _ _ _ _ => none
  | n + 1 => fun a0 a3 a4 x5 w => F_A_one_28_B (F_A_one_28 n) a0 a3 a4 x5 w
theorem P_A_one_28 {X : AX} {l : Launch} {G : AG} (hX : XOK X b_A_one "RedSky" 6) (hM : XM X l G { frames := 7, cells := 0, slots := 0, locals := 170 }) {o : Int32 × AW} (hR : XR X (some .int) 0 0 (some (vi o.1)) o.2) (fu : Nat) : ∀ (a0 : Nat) (a3 : Nat) (a4 : Nat) (x5 : Int32) (w : AW), F_A_one_28 fu a0 a3 a4 x5 w = some o → RJ X 6 0 0 28 [(0, vr a0), (3, vr a3), (4, vr a4), (5, vi x5)] [] w := by
  induction fu with
  | zero => intro a0 a3 a4 x5 w h; cases h
  | succ n9 ih => intro a0 a3 a4 x5 w h; exact P_A_one_28_B hX hM hR ih _ _ _ _ _ h
def F_A_one (a0 : Nat) (x1 : Int32) (x2 : Int32) (w : AW) : Option (Int32 × AW) :=
  gd (wk w a0 == 1) <|
  (F_A_sayingOf w a0 x1).bind fun r2 =>
  (F_A_sayingOf w a0 x2).bind fun r4 =>
  if r2 = 0 then
    some ((-101 : Int32), w)
  else
    if r4 = 0 then
      some ((-101 : Int32), w)
    else
      F_A_one_28 FUEL a0 r2 r4 (0 : Int32) w
theorem P_A_one_0 {X : AX} {l : Launch} {G : AG} (hX : XOK X b_A_one "RedSky" 6) (hM : XM X l G { frames := 7, cells := 0, slots := 0, locals := 170 }) {o : Int32 × AW} (hR : XR X (some .int) 0 0 (some (vi o.1)) o.2) (a0 : Nat) (x1 : Int32) (x2 : Int32) (w : AW) (h : F_A_one a0 x1 x2 w = some o) : RJ X 6 0 0 0 [(0, vr a0), (1, vi x1), (2, vi x2)] [] w := by
  unfold F_A_one at h
  refine r_aload_n (i := 0) hX d_A_one_0 0 rfl rfl ?_
  refine r_iload_n (i := 1) hX d_A_one_1 1 rfl rfl ?_
  obtain ⟨hk1, h⟩ := gd_e h
  obtain ⟨r2, hr3, h⟩ := bd_e h
  refine r_callV1 (As := [_]) hX hM mw_A_200 (T_A_sayingOf _ _ _ hr3) (rc_of ci_0 hk1) rfl rfl ⟨Nat.le_refl _, Nat.le_refl _⟩ rfl rfl d_A_one_2 ?_
  refine r_astore_n (i := 3) hX d_A_one_5 rfl (by decide) ?_
  refine r_aload_n (i := 0) hX d_A_one_6 1 rfl rfl ?_
  refine r_iload_n (i := 2) hX d_A_one_7 3 rfl rfl ?_
  obtain ⟨r4, hr5, h⟩ := bd_e h
  refine r_callV1 (As := [_]) hX hM mw_A_200 (T_A_sayingOf _ _ _ hr5) (rc_of ci_0 hk1) rfl rfl ⟨Nat.le_refl _, Nat.le_refl _⟩ rfl rfl d_A_one_8 ?_
  refine r_astore (i := 4) hX d_A_one_11  (by decide) ?_
  refine r_aload_n (i := 3) hX d_A_one_13 1 rfl rfl ?_
  refine r_ifnull hX d_A_one_14 rfl h (fun h => ?_) (fun h => ?_)
  · refine r_bipush (v := (-101 : Int32)) hX d_A_one_22 rfl ?_
    cases h; exact r_iret hX hR d_A_one_24
  · refine r_aload (i := 4) hX d_A_one_17 0  rfl ?_
    refine r_ifnonnull hX d_A_one_19 rfl h (fun h => ?_) (fun h => ?_)
    · refine r_iconst (v := (0 : Int32)) hX d_A_one_25 rfl ?_
      refine r_istore (i := 5) hX d_A_one_26  (by decide) ?_
      exact rj_sub [3, 2, 1, 0] rfl (P_A_one_28 hX hM hR FUEL _ _ _ _ _ h)
    · refine r_bipush (v := (-101 : Int32)) hX d_A_one_22 rfl ?_
      cases h; exact r_iret hX hR d_A_one_24
theorem T_A_one {l : Launch} {G : AG} (a0 : Nat) (x1 : Int32) (x2 : Int32) (w : AW) {o : Int32 × AW} (h : F_A_one a0 x1 x2 w = some o) : Mt l G y_A_one b_A_one 6 (some (.int)) 7 170 0 0 [vr a0, vi x1, vi x2] w (some (vi o.1)) o.2 := mt_of (by decide) (Nat.le_of_ble_eq_true rfl) (fun X hX hR hM hI => P_A_one_0 hX hM hR _ _ _ _ h)
/-! RedSkyModel.one(II)I -/
theorem d_M_one_0 : decode b_M_one 0 = .ok (.aload_n 0, 1) := by decide +kernel
theorem d_M_one_1 : decode b_M_one 1 = .ok (.iload_n 1, 1) := by decide +kernel
theorem d_M_one_2 : decode b_M_one 2 = .ok (.invokevirtual 306, 3) := by decide +kernel
theorem d_M_one_5 : decode b_M_one 5 = .ok (.ifCond .eq (11), 3) := by decide +kernel
theorem d_M_one_8 : decode b_M_one 8 = .ok (.aload_n 0, 1) := by decide +kernel
theorem d_M_one_9 : decode b_M_one 9 = .ok (.iload_n 2, 1) := by decide +kernel
theorem d_M_one_10 : decode b_M_one 10 = .ok (.invokevirtual 306, 3) := by decide +kernel
theorem d_M_one_13 : decode b_M_one 13 = .ok (.ifCond .ne (6), 3) := by decide +kernel
theorem d_M_one_16 : decode b_M_one 16 = .ok (.bipush (-101), 2) := by decide +kernel
theorem d_M_one_18 : decode b_M_one 18 = .ok (.ireturn, 1) := by decide +kernel
theorem d_M_one_19 : decode b_M_one 19 = .ok (.aload_n 0, 1) := by decide +kernel
theorem d_M_one_20 : decode b_M_one 20 = .ok (.iload_n 1, 1) := by decide +kernel
theorem d_M_one_21 : decode b_M_one 21 = .ok (.iload_n 2, 1) := by decide +kernel
theorem d_M_one_22 : decode b_M_one 22 = .ok (.iconst 0, 1) := by decide +kernel
theorem d_M_one_23 : decode b_M_one 23 = .ok (.invokevirtual 349, 3) := by decide +kernel
theorem d_M_one_26 : decode b_M_one 26 = .ok (.aload_n 0, 1) := by decide +kernel
theorem d_M_one_27 : decode b_M_one 27 = .ok (.iload_n 1, 1) := by decide +kernel
theorem d_M_one_28 : decode b_M_one 28 = .ok (.iload_n 2, 1) := by decide +kernel
theorem d_M_one_29 : decode b_M_one 29 = .ok (.iconst 1, 1) := by decide +kernel
theorem d_M_one_30 : decode b_M_one 30 = .ok (.invokevirtual 349, 3) := by decide +kernel
theorem d_M_one_33 : decode b_M_one 33 = .ok (.iadd, 1) := by decide +kernel
theorem d_M_one_34 : decode b_M_one 34 = .ok (.aload_n 0, 1) := by decide +kernel
theorem d_M_one_35 : decode b_M_one 35 = .ok (.iload_n 1, 1) := by decide +kernel
theorem d_M_one_36 : decode b_M_one 36 = .ok (.iload_n 2, 1) := by decide +kernel
theorem d_M_one_37 : decode b_M_one 37 = .ok (.iconst 2, 1) := by decide +kernel
theorem d_M_one_38 : decode b_M_one 38 = .ok (.invokevirtual 349, 3) := by decide +kernel
theorem d_M_one_41 : decode b_M_one 41 = .ok (.iadd, 1) := by decide +kernel
theorem d_M_one_42 : decode b_M_one 42 = .ok (.ifCond .ne (7), 3) := by decide +kernel
theorem d_M_one_45 : decode b_M_one 45 = .ok (.iconst 1, 1) := by decide +kernel
theorem d_M_one_46 : decode b_M_one 46 = .ok (.goto (4), 3) := by decide +kernel
theorem d_M_one_49 : decode b_M_one 49 = .ok (.iconst 0, 1) := by decide +kernel
theorem d_M_one_50 : decode b_M_one 50 = .ok (.ireturn, 1) := by decide +kernel
def F_M_one (a0 : Nat) (x1 : Int32) (x2 : Int32) (w : AW) : Option (Int32 × AW) :=
  gd (wk w a0 == 13) <|
  (F_M_isSaying w a0 x1).bind fun r2 =>
  if r2 = 0 then
    some ((-101 : Int32), w)
  else
    (F_M_isSaying w a0 x2).bind fun r4 =>
    if r4 = 0 then
      some ((-101 : Int32), w)
    else
      (F_M_partedOf a0 x1 x2 (0 : Int32) w).bind fun r6 =>
      gd (wk r6.2 a0 == 13) <|
      (F_M_partedOf a0 x1 x2 (1 : Int32) r6.2).bind fun r9 =>
      gd (wk r9.2 a0 == 13) <|
      (F_M_partedOf a0 x1 x2 (2 : Int32) r9.2).bind fun r12 =>
      if ((r6.1 + r9.1) + r12.1) = 0 then
        some ((1 : Int32), r12.2)
      else
        some ((0 : Int32), r12.2)
theorem P_M_one_0 {X : AX} {l : Launch} {G : AG} (hX : XOK X b_M_one "RedSkyModel" 3) (hM : XM X l G { frames := 7, cells := 0, slots := 0, locals := 171 }) {o : Int32 × AW} (hR : XR X (some .int) 0 0 (some (vi o.1)) o.2) (a0 : Nat) (x1 : Int32) (x2 : Int32) (w : AW) (h : F_M_one a0 x1 x2 w = some o) : RJ X 3 0 0 0 [(0, vr a0), (1, vi x1), (2, vi x2)] [] w := by
  unfold F_M_one at h
  refine r_aload_n (i := 0) hX d_M_one_0 0 rfl rfl ?_
  refine r_iload_n (i := 1) hX d_M_one_1 1 rfl rfl ?_
  obtain ⟨hk1, h⟩ := gd_e h
  obtain ⟨r2, hr3, h⟩ := bd_e h
  refine r_callV1 (As := [_]) hX hM mw_M_306 (T_M_isSaying _ _ _ hr3) (rc_of ci_12 hk1) rfl rfl ⟨Nat.le_refl _, Nat.le_refl _⟩ rfl rfl d_M_one_2 ?_
  refine r_if_eq hX d_M_one_5 rfl h (fun h => ?_) (fun h => ?_)
  · refine r_bipush (v := (-101 : Int32)) hX d_M_one_16 rfl ?_
    cases h; exact r_iret hX hR d_M_one_18
  · refine r_aload_n (i := 0) hX d_M_one_8 0 rfl rfl ?_
    refine r_iload_n (i := 2) hX d_M_one_9 2 rfl rfl ?_
    obtain ⟨r4, hr5, h⟩ := bd_e h
    refine r_callV1 (As := [_]) hX hM mw_M_306 (T_M_isSaying _ _ _ hr5) (rc_of ci_12 hk1) rfl rfl ⟨Nat.le_refl _, Nat.le_refl _⟩ rfl rfl d_M_one_10 ?_
    refine r_if_ne hX d_M_one_13 rfl h (fun h => ?_) (fun h => ?_)
    · refine r_aload_n (i := 0) hX d_M_one_19 0 rfl rfl ?_
      refine r_iload_n (i := 1) hX d_M_one_20 1 rfl rfl ?_
      refine r_iload_n (i := 2) hX d_M_one_21 2 rfl rfl ?_
      refine r_iconst (v := (0 : Int32)) hX d_M_one_22 rfl ?_
      obtain ⟨r6, hr7, h⟩ := bd_e h
      refine r_callV1 (As := [_, _, _]) hX hM mw_M_349 (T_M_partedOf _ _ _ _ _ hr7) (rc_of ci_12 hk1) rfl rfl ⟨Nat.le_refl _, Nat.le_refl _⟩ rfl rfl d_M_one_23 ?_
      refine r_aload_n (i := 0) hX d_M_one_26 0 rfl rfl ?_
      refine r_iload_n (i := 1) hX d_M_one_27 1 rfl rfl ?_
      refine r_iload_n (i := 2) hX d_M_one_28 2 rfl rfl ?_
      refine r_iconst (v := (1 : Int32)) hX d_M_one_29 rfl ?_
      obtain ⟨hk8, h⟩ := gd_e h
      obtain ⟨r9, hr10, h⟩ := bd_e h
      refine r_callV1 (As := [_, _, _]) hX hM mw_M_349 (T_M_partedOf _ _ _ _ _ hr10) (rc_of ci_12 hk8) rfl rfl ⟨Nat.le_refl _, Nat.le_refl _⟩ rfl rfl d_M_one_30 ?_
      refine r_iadd hX d_M_one_33 ?_
      refine r_aload_n (i := 0) hX d_M_one_34 0 rfl rfl ?_
      refine r_iload_n (i := 1) hX d_M_one_35 1 rfl rfl ?_
      refine r_iload_n (i := 2) hX d_M_one_36 2 rfl rfl ?_
      refine r_iconst (v := (2 : Int32)) hX d_M_one_37 rfl ?_
      obtain ⟨hk11, h⟩ := gd_e h
      obtain ⟨r12, hr13, h⟩ := bd_e h
      refine r_callV1 (As := [_, _, _]) hX hM mw_M_349 (T_M_partedOf _ _ _ _ _ hr13) (rc_of ci_12 hk11) rfl rfl ⟨Nat.le_refl _, Nat.le_refl _⟩ rfl rfl d_M_one_38 ?_
      refine r_iadd hX d_M_one_41 ?_
      refine r_if_ne hX d_M_one_42 rfl h (fun h => ?_) (fun h => ?_)
      · refine r_iconst (v := (0 : Int32)) hX d_M_one_49 rfl ?_
        cases h; exact r_iret hX hR d_M_one_50
      · refine r_iconst (v := (1 : Int32)) hX d_M_one_45 rfl ?_
        refine r_goto hX d_M_one_46 rfl ?_
        cases h; exact r_iret hX hR d_M_one_50
    · refine r_bipush (v := (-101 : Int32)) hX d_M_one_16 rfl ?_
      cases h; exact r_iret hX hR d_M_one_18
theorem T_M_one {l : Launch} {G : AG} (a0 : Nat) (x1 : Int32) (x2 : Int32) (w : AW) {o : Int32 × AW} (h : F_M_one a0 x1 x2 w = some o) : Mt l G y_M_one b_M_one 3 (some (.int)) 7 171 0 0 [vr a0, vi x1, vi x2] w (some (vi o.1)) o.2 := mt_of (by decide) (Nat.le_of_ble_eq_true rfl) (fun X hX hR hM hI => P_M_one_0 hX hM hR _ _ _ _ h)
/-! RedSky.home(I)I -/
theorem d_A_home_0 : decode b_A_home 0 = .ok (.aload_n 0, 1) := by decide +kernel
theorem d_A_home_1 : decode b_A_home 1 = .ok (.iload_n 1, 1) := by decide +kernel
theorem d_A_home_2 : decode b_A_home 2 = .ok (.invokevirtual 200, 3) := by decide +kernel
theorem d_A_home_5 : decode b_A_home 5 = .ok (.astore_n 2, 1) := by decide +kernel
theorem d_A_home_6 : decode b_A_home 6 = .ok (.aload_n 2, 1) := by decide +kernel
theorem d_A_home_7 : decode b_A_home 7 = .ok (.ifnonnull (6), 3) := by decide +kernel
theorem d_A_home_10 : decode b_A_home 10 = .ok (.bipush (-101), 2) := by decide +kernel
theorem d_A_home_12 : decode b_A_home 12 = .ok (.ireturn, 1) := by decide +kernel
theorem d_A_home_13 : decode b_A_home 13 = .ok (.iconst (-1), 1) := by decide +kernel
theorem d_A_home_14 : decode b_A_home 14 = .ok (.istore_n 3, 1) := by decide +kernel
theorem d_A_home_15 : decode b_A_home 15 = .ok (.iconst 0, 1) := by decide +kernel
theorem d_A_home_16 : decode b_A_home 16 = .ok (.istore 4, 2) := by decide +kernel
theorem d_A_home_18 : decode b_A_home 18 = .ok (.iconst 0, 1) := by decide +kernel
theorem d_A_home_19 : decode b_A_home 19 = .ok (.istore 5, 2) := by decide +kernel
theorem d_A_home_21 : decode b_A_home 21 = .ok (.iload 5, 2) := by decide +kernel
theorem d_A_home_23 : decode b_A_home 23 = .ok (.iconst 3, 1) := by decide +kernel
theorem d_A_home_24 : decode b_A_home 24 = .ok (.if_icmp .ge (73), 3) := by decide +kernel
theorem d_A_home_27 : decode b_A_home 27 = .ok (.aload_n 0, 1) := by decide +kernel
theorem d_A_home_28 : decode b_A_home 28 = .ok (.getfield 49, 3) := by decide +kernel
theorem d_A_home_31 : decode b_A_home 31 = .ok (.aload_n 2, 1) := by decide +kernel
theorem d_A_home_32 : decode b_A_home 32 = .ok (.aload_n 0, 1) := by decide +kernel
theorem d_A_home_33 : decode b_A_home 33 = .ok (.getfield 18, 3) := by decide +kernel
theorem d_A_home_36 : decode b_A_home 36 = .ok (.iload 5, 2) := by decide +kernel
theorem d_A_home_38 : decode b_A_home 38 = .ok (.aaload, 1) := by decide +kernel
theorem d_A_home_39 : decode b_A_home 39 = .ok (.aload_n 0, 1) := by decide +kernel
theorem d_A_home_40 : decode b_A_home 40 = .ok (.getfield 10, 3) := by decide +kernel
theorem d_A_home_43 : decode b_A_home 43 = .ok (.aload_n 0, 1) := by decide +kernel
theorem d_A_home_44 : decode b_A_home 44 = .ok (.getfield 42, 3) := by decide +kernel
theorem d_A_home_47 : decode b_A_home 47 = .ok (.invokevirtual 207, 3) := by decide +kernel
theorem d_A_home_50 : decode b_A_home 50 = .ok (.aload_n 0, 1) := by decide +kernel
theorem d_A_home_51 : decode b_A_home 51 = .ok (.getfield 49, 3) := by decide +kernel
theorem d_A_home_54 : decode b_A_home 54 = .ok (.getfield 248, 3) := by decide +kernel
theorem d_A_home_57 : decode b_A_home 57 = .ok (.invokevirtual 245, 3) := by decide +kernel
theorem d_A_home_60 : decode b_A_home 60 = .ok (.ifCond .ne (6), 3) := by decide +kernel
theorem d_A_home_63 : decode b_A_home 63 = .ok (.goto (28), 3) := by decide +kernel
theorem d_A_home_66 : decode b_A_home 66 = .ok (.aload_n 0, 1) := by decide +kernel
theorem d_A_home_67 : decode b_A_home 67 = .ok (.invokevirtual 235, 3) := by decide +kernel
theorem d_A_home_70 : decode b_A_home 70 = .ok (.istore 6, 2) := by decide +kernel
theorem d_A_home_72 : decode b_A_home 72 = .ok (.iload_n 3, 1) := by decide +kernel
theorem d_A_home_73 : decode b_A_home 73 = .ok (.iconst (-1), 1) := by decide +kernel
theorem d_A_home_74 : decode b_A_home 74 = .ok (.if_icmp .eq (10), 3) := by decide +kernel
theorem d_A_home_77 : decode b_A_home 77 = .ok (.iload 6, 2) := by decide +kernel
theorem d_A_home_79 : decode b_A_home 79 = .ok (.iload 4, 2) := by decide +kernel
theorem d_A_home_81 : decode b_A_home 81 = .ok (.if_icmp .le (10), 3) := by decide +kernel
theorem d_A_home_84 : decode b_A_home 84 = .ok (.iload 5, 2) := by decide +kernel
theorem d_A_home_86 : decode b_A_home 86 = .ok (.istore_n 3, 1) := by decide +kernel
theorem d_A_home_87 : decode b_A_home 87 = .ok (.iload 6, 2) := by decide +kernel
theorem d_A_home_89 : decode b_A_home 89 = .ok (.istore 4, 2) := by decide +kernel
theorem d_A_home_91 : decode b_A_home 91 = .ok (.iinc 5 (1), 3) := by decide +kernel
theorem d_A_home_94 : decode b_A_home 94 = .ok (.goto (-73), 3) := by decide +kernel
theorem d_A_home_97 : decode b_A_home 97 = .ok (.iload_n 3, 1) := by decide +kernel
theorem d_A_home_98 : decode b_A_home 98 = .ok (.ireturn, 1) := by decide +kernel
def F_A_home_84 (rec21 : Nat → Nat → Int32 → Int32 → Int32 → AW → Option (Int32 × AW)) (a0 : Nat) (a2 : Nat) (x5 : Int32) (x6 : Int32) (w : AW) : Option (Int32 × AW) :=
  let v1 : Int32 := (x5 + (1 : Int32))
  rec21 a0 a2 x5 x6 v1 w
theorem P_A_home_84 {X : AX} {l : Launch} {G : AG} {rec21 : Nat → Nat → Int32 → Int32 → Int32 → AW → Option (Int32 × AW)} (hX : XOK X b_A_home "RedSky" 7) (hM : XM X l G { frames := 6, cells := 0, slots := 0, locals := 147 }) {o : Int32 × AW} (hR : XR X (some .int) 0 0 (some (vi o.1)) o.2) (hrec21 : ∀ (a0 : Nat) (a2 : Nat) (x3 : Int32) (x4 : Int32) (x5 : Int32) (w : AW), rec21 a0 a2 x3 x4 x5 w = some o → RJ X 7 0 0 21 [(0, vr a0), (2, vr a2), (3, vi x3), (4, vi x4), (5, vi x5)] [] w) (a0 : Nat) (a2 : Nat) (x5 : Int32) (x6 : Int32) (w : AW) (h : F_A_home_84 rec21 a0 a2 x5 x6 w = some o) : RJ X 7 0 0 84 [(0, vr a0), (2, vr a2), (5, vi x5), (6, vi x6)] [] w := by
  unfold F_A_home_84 at h
  refine r_iload (i := 5) hX d_A_home_84 2  rfl ?_
  refine r_istore_n (i := 3) hX d_A_home_86 rfl (by decide) ?_
  refine r_iload (i := 6) hX d_A_home_87 4  rfl ?_
  refine r_istore (i := 4) hX d_A_home_89  (by decide) ?_
  refine r_iinc (i := 5) (v := (1 : Int32)) hX d_A_home_91 4 rfl rfl (by decide) ?_
  refine r_goto hX d_A_home_94 rfl ?_
  exact rj_sub [3, 4, 2, 1, 0] rfl (hrec21 _ _ _ _ _ _ h)
def F_A_home_21_B (rec21 : Nat → Nat → Int32 → Int32 → Int32 → AW → Option (Int32 × AW)) (a0 : Nat) (a2 : Nat) (x3 : Int32) (x4 : Int32) (x5 : Int32) (w : AW) : Option (Int32 × AW) :=
  if (3 : Int32) ≤ x5 then
    some (x3, w)
  else
    gd (wk w a0 == 1) <|
    gd (wk w (wr w a0 1) == 106) <|
    gd (inb x5 (wn w (wr w a0 1))) <|
    gd (wk w (wr w a0 6) == 9) <|
    (F_Rd_read (wr w a0 6) a2 (wr w (wr w a0 1) (Int32.toNatClampNeg x5)) (wr w a0 0) (wr w a0 5) w).bind fun r5 =>
    gd (wk r5 a0 == 1) <|
    gd (wk r5 (wr r5 a0 6) == 9) <|
    gd (wk r5 (wr r5 (wr r5 a0 6) 6) == 8) <|
    (F_Dy_size r5 (wr r5 (wr r5 a0 6) 6)).bind fun r10 =>
    if r10 = 0 then
      let v16 : Int32 := (x5 + (1 : Int32))
      rec21 a0 a2 x3 x4 v16 r5
    else
      (F_A_worthOfReading a0 r5).bind fun r12 =>
      let v14 : Int32 := r12.1
      if x3 = (-1 : Int32) then
        F_A_home_84 rec21 a0 a2 x5 v14 r12.2
      else
        if v14 ≤ x4 then
          let v15 : Int32 := (x5 + (1 : Int32))
          rec21 a0 a2 x3 x4 v15 r12.2
        else
          F_A_home_84 rec21 a0 a2 x5 v14 r12.2
theorem P_A_home_21_B {X : AX} {l : Launch} {G : AG} {rec21 : Nat → Nat → Int32 → Int32 → Int32 → AW → Option (Int32 × AW)} (hX : XOK X b_A_home "RedSky" 7) (hM : XM X l G { frames := 6, cells := 0, slots := 0, locals := 147 }) {o : Int32 × AW} (hR : XR X (some .int) 0 0 (some (vi o.1)) o.2) (hrec21 : ∀ (a0 : Nat) (a2 : Nat) (x3 : Int32) (x4 : Int32) (x5 : Int32) (w : AW), rec21 a0 a2 x3 x4 x5 w = some o → RJ X 7 0 0 21 [(0, vr a0), (2, vr a2), (3, vi x3), (4, vi x4), (5, vi x5)] [] w) (a0 : Nat) (a2 : Nat) (x3 : Int32) (x4 : Int32) (x5 : Int32) (w : AW) (h : F_A_home_21_B rec21 a0 a2 x3 x4 x5 w = some o) : RJ X 7 0 0 21 [(0, vr a0), (2, vr a2), (3, vi x3), (4, vi x4), (5, vi x5)] [] w := by
  unfold F_A_home_21_B at h
  refine r_iload (i := 5) hX d_A_home_21 4  rfl ?_
  refine r_iconst (v := (3 : Int32)) hX d_A_home_23 rfl ?_
  refine r_icmp_ge hX d_A_home_24 rfl h (fun h => ?_) (fun h => ?_)
  · refine r_iload_n (i := 3) hX d_A_home_97 2 rfl rfl ?_
    cases h; exact r_iret hX hR d_A_home_98
  · refine r_aload_n (i := 0) hX d_A_home_27 0 rfl rfl ?_
    obtain ⟨hk1, h⟩ := gd_e h
    refine r_getR (i := 0) (f := 6) hX ci_0 (by decide) rfl fl_A_49 hk1 d_A_home_28 ?_
    refine r_aload_n (i := 2) hX d_A_home_31 1 rfl rfl ?_
    refine r_aload_n (i := 0) hX d_A_home_32 0 rfl rfl ?_
    refine r_getR (i := 0) (f := 1) hX ci_0 (by decide) rfl fl_A_18 hk1 d_A_home_33 ?_
    refine r_iload (i := 5) hX d_A_home_36 4  rfl ?_
    obtain ⟨hk2, h⟩ := gd_e h
    obtain ⟨hg3, h⟩ := gd_e h
    refine r_aald (t := 0) (kd := 106) hX (by decide) (fun G => rfl) hk2 hg3 d_A_home_38 ?_
    refine r_aload_n (i := 0) hX d_A_home_39 0 rfl rfl ?_
    refine r_getR (i := 0) (f := 0) hX ci_0 (by decide) rfl fl_A_10 hk1 d_A_home_40 ?_
    refine r_aload_n (i := 0) hX d_A_home_43 0 rfl rfl ?_
    refine r_getR (i := 0) (f := 5) hX ci_0 (by decide) rfl fl_A_42 hk1 d_A_home_44 ?_
    obtain ⟨hk4, h⟩ := gd_e h
    obtain ⟨r5, hr6, h⟩ := bd_e h
    refine r_callV0 (As := [_, _, _, _]) hX hM mw_A_207 (T_Rd_read _ _ _ _ _ _ hr6) (rc_of ci_8 hk4) rfl rfl ⟨Nat.le_refl _, Nat.le_refl _⟩ rfl rfl d_A_home_47 ?_
    refine r_aload_n (i := 0) hX d_A_home_50 0 rfl rfl ?_
    obtain ⟨hk7, h⟩ := gd_e h
    refine r_getR (i := 0) (f := 6) hX ci_0 (by decide) rfl fl_A_49 hk7 d_A_home_51 ?_
    obtain ⟨hk8, h⟩ := gd_e h
    refine r_getR (i := 8) (f := 6) hX ci_8 (by decide) rfl fl_A_248 hk8 d_A_home_54 ?_
    obtain ⟨hk9, h⟩ := gd_e h
    obtain ⟨r10, hr11, h⟩ := bd_e h
    refine r_callV1 (As := []) hX hM mw_A_245 (T_Dy_size _ _ hr11) (rc_of ci_7 hk9) rfl rfl ⟨Nat.le_refl _, Nat.le_refl _⟩ rfl rfl d_A_home_57 ?_
    refine r_if_ne hX d_A_home_60 rfl h (fun h => ?_) (fun h => ?_)
    · refine r_aload_n (i := 0) hX d_A_home_66 0 rfl rfl ?_
      obtain ⟨r12, hr13, h⟩ := bd_e h
      refine r_callV1 (As := []) hX hM mw_A_235 (T_A_worthOfReading _ _ hr13) (rc_of ci_0 hk7) rfl rfl ⟨Nat.le_refl _, Nat.le_refl _⟩ rfl rfl d_A_home_67 ?_
      refine r_istore (i := 6) hX d_A_home_70  (by decide) ?_
      refine r_iload_n (i := 3) hX d_A_home_72 3 rfl rfl ?_
      refine r_iconst (v := (-1 : Int32)) hX d_A_home_73 rfl ?_
      refine r_icmp_eq hX d_A_home_74 rfl h (fun h => ?_) (fun h => ?_)
      · exact rj_sub [1, 2, 5, 0] rfl (P_A_home_84 hX hM hR hrec21 _ _ _ _ _ h)
      · refine r_iload (i := 6) hX d_A_home_77 0  rfl ?_
        refine r_iload (i := 4) hX d_A_home_79 4  rfl ?_
        refine r_icmp_le hX d_A_home_81 rfl h (fun h => ?_) (fun h => ?_)
        · refine r_iinc (i := 5) (v := (1 : Int32)) hX d_A_home_91 5 rfl rfl (by decide) ?_
          refine r_goto hX d_A_home_94 rfl ?_
          exact rj_sub [2, 3, 4, 5, 0] rfl (hrec21 _ _ _ _ _ _ h)
        · exact rj_sub [1, 2, 5, 0] rfl (P_A_home_84 hX hM hR hrec21 _ _ _ _ _ h)
    · refine r_goto hX d_A_home_63 rfl ?_
      refine r_iinc (i := 5) (v := (1 : Int32)) hX d_A_home_91 4 rfl rfl (by decide) ?_
      refine r_goto hX d_A_home_94 rfl ?_
      exact rj_sub [1, 2, 3, 4, 0] rfl (hrec21 _ _ _ _ _ _ h)
def F_A_home_21 : Nat → Nat → Nat → Int32 → Int32 → Int32 → AW → Option (Int32 × AW)
  | 0 => fun _ _ _ _ _ _ => none
  | n + 1 => fun a0 a2 x3 x4 x5 w => F_A_home_21_B (F_A_home_21 n) a0 a2 x3 x4 x5 w
theorem P_A_home_21 {X : AX} {l : Launch} {G : AG} (hX : XOK X b_A_home "RedSky" 7) (hM : XM X l G { frames := 6, cells := 0, slots := 0, locals := 147 }) {o : Int32 × AW} (hR : XR X (some .int) 0 0 (some (vi o.1)) o.2) (fu : Nat) : ∀ (a0 : Nat) (a2 : Nat) (x3 : Int32) (x4 : Int32) (x5 : Int32) (w : AW), F_A_home_21 fu a0 a2 x3 x4 x5 w = some o → RJ X 7 0 0 21 [(0, vr a0), (2, vr a2), (3, vi x3), (4, vi x4), (5, vi x5)] [] w := by
  induction fu with
  | zero => intro a0 a2 x3 x4 x5 w h; cases h
  | succ n9 ih => intro a0 a2 x3 x4 x5 w h; exact P_A_home_21_B hX hM hR ih _ _ _ _ _ _ h
def F_A_home (a0 : Nat) (x1 : Int32) (w : AW) : Option (Int32 × AW) :=
  gd (wk w a0 == 1) <|
  (F_A_sayingOf w a0 x1).bind fun r2 =>
  if r2 = 0 then
    some ((-101 : Int32), w)
  else
    F_A_home_21 FUEL a0 r2 (-1 : Int32) (0 : Int32) (0 : Int32) w
theorem P_A_home_0 {X : AX} {l : Launch} {G : AG} (hX : XOK X b_A_home "RedSky" 7) (hM : XM X l G { frames := 6, cells := 0, slots := 0, locals := 147 }) {o : Int32 × AW} (hR : XR X (some .int) 0 0 (some (vi o.1)) o.2) (a0 : Nat) (x1 : Int32) (w : AW) (h : F_A_home a0 x1 w = some o) : RJ X 7 0 0 0 [(0, vr a0), (1, vi x1)] [] w := by
  unfold F_A_home at h
  refine r_aload_n (i := 0) hX d_A_home_0 0 rfl rfl ?_
  refine r_iload_n (i := 1) hX d_A_home_1 1 rfl rfl ?_
  obtain ⟨hk1, h⟩ := gd_e h
  obtain ⟨r2, hr3, h⟩ := bd_e h
  refine r_callV1 (As := [_]) hX hM mw_A_200 (T_A_sayingOf _ _ _ hr3) (rc_of ci_0 hk1) rfl rfl ⟨Nat.le_refl _, Nat.le_refl _⟩ rfl rfl d_A_home_2 ?_
  refine r_astore_n (i := 2) hX d_A_home_5 rfl (by decide) ?_
  refine r_aload_n (i := 2) hX d_A_home_6 0 rfl rfl ?_
  refine r_ifnonnull hX d_A_home_7 rfl h (fun h => ?_) (fun h => ?_)
  · refine r_iconst (v := (-1 : Int32)) hX d_A_home_13 rfl ?_
    refine r_istore_n (i := 3) hX d_A_home_14 rfl (by decide) ?_
    refine r_iconst (v := (0 : Int32)) hX d_A_home_15 rfl ?_
    refine r_istore (i := 4) hX d_A_home_16  (by decide) ?_
    refine r_iconst (v := (0 : Int32)) hX d_A_home_18 rfl ?_
    refine r_istore (i := 5) hX d_A_home_19  (by decide) ?_
    exact rj_sub [4, 3, 2, 1, 0] rfl (P_A_home_21 hX hM hR FUEL _ _ _ _ _ _ h)
  · refine r_bipush (v := (-101 : Int32)) hX d_A_home_10 rfl ?_
    cases h; exact r_iret hX hR d_A_home_12
theorem T_A_home {l : Launch} {G : AG} (a0 : Nat) (x1 : Int32) (w : AW) {o : Int32 × AW} (h : F_A_home a0 x1 w = some o) : Mt l G y_A_home b_A_home 7 (some (.int)) 6 147 0 0 [vr a0, vi x1] w (some (vi o.1)) o.2 := mt_of (by decide) (Nat.le_of_ble_eq_true rfl) (fun X hX hR hM hI => P_A_home_0 hX hM hR _ _ _ h)
/-! RedSkyModel.home(I)I -/
theorem d_M_home_0 : decode b_M_home 0 = .ok (.aload_n 0, 1) := by decide +kernel
theorem d_M_home_1 : decode b_M_home 1 = .ok (.iload_n 1, 1) := by decide +kernel
theorem d_M_home_2 : decode b_M_home 2 = .ok (.invokevirtual 306, 3) := by decide +kernel
theorem d_M_home_5 : decode b_M_home 5 = .ok (.ifCond .ne (6), 3) := by decide +kernel
theorem d_M_home_8 : decode b_M_home 8 = .ok (.bipush (-101), 2) := by decide +kernel
theorem d_M_home_10 : decode b_M_home 10 = .ok (.ireturn, 1) := by decide +kernel
theorem d_M_home_11 : decode b_M_home 11 = .ok (.iconst (-1), 1) := by decide +kernel
theorem d_M_home_12 : decode b_M_home 12 = .ok (.istore_n 2, 1) := by decide +kernel
theorem d_M_home_13 : decode b_M_home 13 = .ok (.iconst 0, 1) := by decide +kernel
theorem d_M_home_14 : decode b_M_home 14 = .ok (.istore_n 3, 1) := by decide +kernel
theorem d_M_home_15 : decode b_M_home 15 = .ok (.iconst 0, 1) := by decide +kernel
theorem d_M_home_16 : decode b_M_home 16 = .ok (.istore 4, 2) := by decide +kernel
theorem d_M_home_18 : decode b_M_home 18 = .ok (.iload 4, 2) := by decide +kernel
theorem d_M_home_20 : decode b_M_home 20 = .ok (.iconst 3, 1) := by decide +kernel
theorem d_M_home_21 : decode b_M_home 21 = .ok (.if_icmp .ge (50), 3) := by decide +kernel
theorem d_M_home_24 : decode b_M_home 24 = .ok (.aload_n 0, 1) := by decide +kernel
theorem d_M_home_25 : decode b_M_home 25 = .ok (.iload_n 1, 1) := by decide +kernel
theorem d_M_home_26 : decode b_M_home 26 = .ok (.iload 4, 2) := by decide +kernel
theorem d_M_home_28 : decode b_M_home 28 = .ok (.invokevirtual 342, 3) := by decide +kernel
theorem d_M_home_31 : decode b_M_home 31 = .ok (.istore 5, 2) := by decide +kernel
theorem d_M_home_33 : decode b_M_home 33 = .ok (.aload_n 0, 1) := by decide +kernel
theorem d_M_home_34 : decode b_M_home 34 = .ok (.iload_n 1, 1) := by decide +kernel
theorem d_M_home_35 : decode b_M_home 35 = .ok (.iload 4, 2) := by decide +kernel
theorem d_M_home_37 : decode b_M_home 37 = .ok (.iconst 0, 1) := by decide +kernel
theorem d_M_home_38 : decode b_M_home 38 = .ok (.sipush (1461), 3) := by decide +kernel
theorem d_M_home_41 : decode b_M_home 41 = .ok (.iconst 1, 1) := by decide +kernel
theorem d_M_home_42 : decode b_M_home 42 = .ok (.invokevirtual 331, 3) := by decide +kernel
theorem d_M_home_45 : decode b_M_home 45 = .ok (.ifCond .le (20), 3) := by decide +kernel
theorem d_M_home_48 : decode b_M_home 48 = .ok (.iload_n 2, 1) := by decide +kernel
theorem d_M_home_49 : decode b_M_home 49 = .ok (.iconst (-1), 1) := by decide +kernel
theorem d_M_home_50 : decode b_M_home 50 = .ok (.if_icmp .eq (9), 3) := by decide +kernel
theorem d_M_home_53 : decode b_M_home 53 = .ok (.iload 5, 2) := by decide +kernel
theorem d_M_home_55 : decode b_M_home 55 = .ok (.iload_n 3, 1) := by decide +kernel
theorem d_M_home_56 : decode b_M_home 56 = .ok (.if_icmp .le (9), 3) := by decide +kernel
theorem d_M_home_59 : decode b_M_home 59 = .ok (.iload 4, 2) := by decide +kernel
theorem d_M_home_61 : decode b_M_home 61 = .ok (.istore_n 2, 1) := by decide +kernel
theorem d_M_home_62 : decode b_M_home 62 = .ok (.iload 5, 2) := by decide +kernel
theorem d_M_home_64 : decode b_M_home 64 = .ok (.istore_n 3, 1) := by decide +kernel
theorem d_M_home_65 : decode b_M_home 65 = .ok (.iinc 4 (1), 3) := by decide +kernel
theorem d_M_home_68 : decode b_M_home 68 = .ok (.goto (-50), 3) := by decide +kernel
theorem d_M_home_71 : decode b_M_home 71 = .ok (.iload_n 2, 1) := by decide +kernel
theorem d_M_home_72 : decode b_M_home 72 = .ok (.ireturn, 1) := by decide +kernel
def F_M_home_59 (rec18 : Nat → Int32 → Int32 → Int32 → Int32 → AW → Option (Int32 × AW)) (a0 : Nat) (x1 : Int32) (x4 : Int32) (x5 : Int32) (w : AW) : Option (Int32 × AW) :=
  let v1 : Int32 := (x4 + (1 : Int32))
  rec18 a0 x1 x4 x5 v1 w
theorem P_M_home_59 {X : AX} {l : Launch} {G : AG} {rec18 : Nat → Int32 → Int32 → Int32 → Int32 → AW → Option (Int32 × AW)} (hX : XOK X b_M_home "RedSkyModel" 6) (hM : XM X l G { frames := 11, cells := 0, slots := 0, locals := 266 }) {o : Int32 × AW} (hR : XR X (some .int) 0 0 (some (vi o.1)) o.2) (hrec18 : ∀ (a0 : Nat) (x1 : Int32) (x2 : Int32) (x3 : Int32) (x4 : Int32) (w : AW), rec18 a0 x1 x2 x3 x4 w = some o → RJ X 6 0 0 18 [(0, vr a0), (1, vi x1), (2, vi x2), (3, vi x3), (4, vi x4)] [] w) (a0 : Nat) (x1 : Int32) (x4 : Int32) (x5 : Int32) (w : AW) (h : F_M_home_59 rec18 a0 x1 x4 x5 w = some o) : RJ X 6 0 0 59 [(0, vr a0), (1, vi x1), (4, vi x4), (5, vi x5)] [] w := by
  unfold F_M_home_59 at h
  refine r_iload (i := 4) hX d_M_home_59 2  rfl ?_
  refine r_istore_n (i := 2) hX d_M_home_61 rfl (by decide) ?_
  refine r_iload (i := 5) hX d_M_home_62 4  rfl ?_
  refine r_istore_n (i := 3) hX d_M_home_64 rfl (by decide) ?_
  refine r_iinc (i := 4) (v := (1 : Int32)) hX d_M_home_65 4 rfl rfl (by decide) ?_
  refine r_goto hX d_M_home_68 rfl ?_
  exact rj_sub [3, 4, 2, 1, 0] rfl (hrec18 _ _ _ _ _ _ h)
def F_M_home_18_B (rec18 : Nat → Int32 → Int32 → Int32 → Int32 → AW → Option (Int32 × AW)) (a0 : Nat) (x1 : Int32) (x2 : Int32) (x3 : Int32) (x4 : Int32) (w : AW) : Option (Int32 × AW) :=
  if (3 : Int32) ≤ x4 then
    some (x2, w)
  else
    gd (wk w a0 == 13) <|
    (F_M_worthOf a0 x1 x4 w).bind fun r2 =>
    let v4 : Int32 := r2.1
    gd (wk r2.2 a0 == 13) <|
    (F_M_countOf a0 x1 x4 (0 : Int32) (1461 : Int32) (1 : Int32) r2.2).bind fun r6 =>
    if r6.1 ≤ 0 then
      let v8 : Int32 := (x4 + (1 : Int32))
      rec18 a0 x1 x2 x3 v8 r6.2
    else
      if x2 = (-1 : Int32) then
        F_M_home_59 rec18 a0 x1 x4 v4 r6.2
      else
        if v4 ≤ x3 then
          let v9 : Int32 := (x4 + (1 : Int32))
          rec18 a0 x1 x2 x3 v9 r6.2
        else
          F_M_home_59 rec18 a0 x1 x4 v4 r6.2
theorem P_M_home_18_B {X : AX} {l : Launch} {G : AG} {rec18 : Nat → Int32 → Int32 → Int32 → Int32 → AW → Option (Int32 × AW)} (hX : XOK X b_M_home "RedSkyModel" 6) (hM : XM X l G { frames := 11, cells := 0, slots := 0, locals := 266 }) {o : Int32 × AW} (hR : XR X (some .int) 0 0 (some (vi o.1)) o.2) (hrec18 : ∀ (a0 : Nat) (x1 : Int32) (x2 : Int32) (x3 : Int32) (x4 : Int32) (w : AW), rec18 a0 x1 x2 x3 x4 w = some o → RJ X 6 0 0 18 [(0, vr a0), (1, vi x1), (2, vi x2), (3, vi x3), (4, vi x4)] [] w) (a0 : Nat) (x1 : Int32) (x2 : Int32) (x3 : Int32) (x4 : Int32) (w : AW) (h : F_M_home_18_B rec18 a0 x1 x2 x3 x4 w = some o) : RJ X 6 0 0 18 [(0, vr a0), (1, vi x1), (2, vi x2), (3, vi x3), (4, vi x4)] [] w := by
  unfold F_M_home_18_B at h
  refine r_iload (i := 4) hX d_M_home_18 4  rfl ?_
  refine r_iconst (v := (3 : Int32)) hX d_M_home_20 rfl ?_
  refine r_icmp_ge hX d_M_home_21 rfl h (fun h => ?_) (fun h => ?_)
  · refine r_iload_n (i := 2) hX d_M_home_71 2 rfl rfl ?_
    cases h; exact r_iret hX hR d_M_home_72
  · refine r_aload_n (i := 0) hX d_M_home_24 0 rfl rfl ?_
    refine r_iload_n (i := 1) hX d_M_home_25 1 rfl rfl ?_
    refine r_iload (i := 4) hX d_M_home_26 4  rfl ?_
    obtain ⟨hk1, h⟩ := gd_e h
    obtain ⟨r2, hr3, h⟩ := bd_e h
    refine r_callV1 (As := [_, _]) hX hM mw_M_342 (T_M_worthOf _ _ _ _ hr3) (rc_of ci_12 hk1) rfl rfl ⟨Nat.le_refl _, Nat.le_refl _⟩ rfl rfl d_M_home_28 ?_
    refine r_istore (i := 5) hX d_M_home_31  (by decide) ?_
    refine r_aload_n (i := 0) hX d_M_home_33 1 rfl rfl ?_
    refine r_iload_n (i := 1) hX d_M_home_34 2 rfl rfl ?_
    refine r_iload (i := 4) hX d_M_home_35 5  rfl ?_
    refine r_iconst (v := (0 : Int32)) hX d_M_home_37 rfl ?_
    refine r_sipush (v := (1461 : Int32)) hX d_M_home_38 rfl ?_
    refine r_iconst (v := (1 : Int32)) hX d_M_home_41 rfl ?_
    obtain ⟨hk5, h⟩ := gd_e h
    obtain ⟨r6, hr7, h⟩ := bd_e h
    refine r_callV1 (As := [_, _, _, _, _]) hX hM mw_M_331 (T_M_countOf _ _ _ _ _ _ _ hr7) (rc_of ci_12 hk5) rfl rfl ⟨Nat.le_refl _, Nat.le_refl _⟩ rfl rfl d_M_home_42 ?_
    refine r_if_le hX d_M_home_45 rfl h (fun h => ?_) (fun h => ?_)
    · refine r_iinc (i := 4) (v := (1 : Int32)) hX d_M_home_65 5 rfl rfl (by decide) ?_
      refine r_goto hX d_M_home_68 rfl ?_
      exact rj_sub [2, 3, 4, 5, 0] rfl (hrec18 _ _ _ _ _ _ h)
    · refine r_iload_n (i := 2) hX d_M_home_48 3 rfl rfl ?_
      refine r_iconst (v := (-1 : Int32)) hX d_M_home_49 rfl ?_
      refine r_icmp_eq hX d_M_home_50 rfl h (fun h => ?_) (fun h => ?_)
      · exact rj_sub [1, 2, 5, 0] rfl (P_M_home_59 hX hM hR hrec18 _ _ _ _ _ h)
      · refine r_iload (i := 5) hX d_M_home_53 0  rfl ?_
        refine r_iload_n (i := 3) hX d_M_home_55 4 rfl rfl ?_
        refine r_icmp_le hX d_M_home_56 rfl h (fun h => ?_) (fun h => ?_)
        · refine r_iinc (i := 4) (v := (1 : Int32)) hX d_M_home_65 5 rfl rfl (by decide) ?_
          refine r_goto hX d_M_home_68 rfl ?_
          exact rj_sub [2, 3, 4, 5, 0] rfl (hrec18 _ _ _ _ _ _ h)
        · exact rj_sub [1, 2, 5, 0] rfl (P_M_home_59 hX hM hR hrec18 _ _ _ _ _ h)
def F_M_home_18 : Nat → Nat → Int32 → Int32 → Int32 → Int32 → AW → Option (Int32 × AW)
  | 0 => fun _ _ _ _ _ _ => none
  | n + 1 => fun a0 x1 x2 x3 x4 w => F_M_home_18_B (F_M_home_18 n) a0 x1 x2 x3 x4 w
theorem P_M_home_18 {X : AX} {l : Launch} {G : AG} (hX : XOK X b_M_home "RedSkyModel" 6) (hM : XM X l G { frames := 11, cells := 0, slots := 0, locals := 266 }) {o : Int32 × AW} (hR : XR X (some .int) 0 0 (some (vi o.1)) o.2) (fu : Nat) : ∀ (a0 : Nat) (x1 : Int32) (x2 : Int32) (x3 : Int32) (x4 : Int32) (w : AW), F_M_home_18 fu a0 x1 x2 x3 x4 w = some o → RJ X 6 0 0 18 [(0, vr a0), (1, vi x1), (2, vi x2), (3, vi x3), (4, vi x4)] [] w := by
  induction fu with
  | zero => intro a0 x1 x2 x3 x4 w h; cases h
  | succ n9 ih => intro a0 x1 x2 x3 x4 w h; exact P_M_home_18_B hX hM hR ih _ _ _ _ _ _ h
def F_M_home (a0 : Nat) (x1 : Int32) (w : AW) : Option (Int32 × AW) :=
  gd (wk w a0 == 13) <|
  (F_M_isSaying w a0 x1).bind fun r2 =>
  if r2 = 0 then
    some ((-101 : Int32), w)
  else
    F_M_home_18 FUEL a0 x1 (-1 : Int32) (0 : Int32) (0 : Int32) w
theorem P_M_home_0 {X : AX} {l : Launch} {G : AG} (hX : XOK X b_M_home "RedSkyModel" 6) (hM : XM X l G { frames := 11, cells := 0, slots := 0, locals := 266 }) {o : Int32 × AW} (hR : XR X (some .int) 0 0 (some (vi o.1)) o.2) (a0 : Nat) (x1 : Int32) (w : AW) (h : F_M_home a0 x1 w = some o) : RJ X 6 0 0 0 [(0, vr a0), (1, vi x1)] [] w := by
  unfold F_M_home at h
  refine r_aload_n (i := 0) hX d_M_home_0 0 rfl rfl ?_
  refine r_iload_n (i := 1) hX d_M_home_1 1 rfl rfl ?_
  obtain ⟨hk1, h⟩ := gd_e h
  obtain ⟨r2, hr3, h⟩ := bd_e h
  refine r_callV1 (As := [_]) hX hM mw_M_306 (T_M_isSaying _ _ _ hr3) (rc_of ci_12 hk1) rfl rfl ⟨Nat.le_refl _, Nat.le_refl _⟩ rfl rfl d_M_home_2 ?_
  refine r_if_ne hX d_M_home_5 rfl h (fun h => ?_) (fun h => ?_)
  · refine r_iconst (v := (-1 : Int32)) hX d_M_home_11 rfl ?_
    refine r_istore_n (i := 2) hX d_M_home_12 rfl (by decide) ?_
    refine r_iconst (v := (0 : Int32)) hX d_M_home_13 rfl ?_
    refine r_istore_n (i := 3) hX d_M_home_14 rfl (by decide) ?_
    refine r_iconst (v := (0 : Int32)) hX d_M_home_15 rfl ?_
    refine r_istore (i := 4) hX d_M_home_16  (by decide) ?_
    exact rj_sub [3, 4, 2, 1, 0] rfl (P_M_home_18 hX hM hR FUEL _ _ _ _ _ _ h)
  · refine r_bipush (v := (-101 : Int32)) hX d_M_home_8 rfl ?_
    cases h; exact r_iret hX hR d_M_home_10
theorem T_M_home {l : Launch} {G : AG} (a0 : Nat) (x1 : Int32) (w : AW) {o : Int32 × AW} (h : F_M_home a0 x1 w = some o) : Mt l G y_M_home b_M_home 6 (some (.int)) 11 266 0 0 [vr a0, vi x1] w (some (vi o.1)) o.2 := mt_of (by decide) (Nat.le_of_ble_eq_true rfl) (fun X hX hR hM hI => P_M_home_0 hX hM hR _ _ _ h)
/-! RedSky$Calendar.addYears(ILRedSky$Days;)V -/
theorem d_Ca_addYears_0 : decode b_Ca_addYears 0 = .ok (.iconst 0, 1) := by decide +kernel
theorem d_Ca_addYears_1 : decode b_Ca_addYears 1 = .ok (.istore_n 3, 1) := by decide +kernel
theorem d_Ca_addYears_2 : decode b_Ca_addYears 2 = .ok (.iload_n 3, 1) := by decide +kernel
theorem d_Ca_addYears_3 : decode b_Ca_addYears 3 = .ok (.iconst 4, 1) := by decide +kernel
theorem d_Ca_addYears_4 : decode b_Ca_addYears 4 = .ok (.if_icmp .ge (32), 3) := by decide +kernel
theorem d_Ca_addYears_7 : decode b_Ca_addYears 7 = .ok (.iload_n 1, 1) := by decide +kernel
theorem d_Ca_addYears_8 : decode b_Ca_addYears 8 = .ok (.iload_n 3, 1) := by decide +kernel
theorem d_Ca_addYears_9 : decode b_Ca_addYears 9 = .ok (.ishr, 1) := by decide +kernel
theorem d_Ca_addYears_10 : decode b_Ca_addYears 10 = .ok (.iconst 1, 1) := by decide +kernel
theorem d_Ca_addYears_11 : decode b_Ca_addYears 11 = .ok (.iand, 1) := by decide +kernel
theorem d_Ca_addYears_12 : decode b_Ca_addYears 12 = .ok (.iconst 1, 1) := by decide +kernel
theorem d_Ca_addYears_13 : decode b_Ca_addYears 13 = .ok (.if_icmp .ne (17), 3) := by decide +kernel
theorem d_Ca_addYears_16 : decode b_Ca_addYears 16 = .ok (.aload_n 2, 1) := by decide +kernel
theorem d_Ca_addYears_17 : decode b_Ca_addYears 17 = .ok (.aload_n 0, 1) := by decide +kernel
theorem d_Ca_addYears_18 : decode b_Ca_addYears 18 = .ok (.iload_n 3, 1) := by decide +kernel
theorem d_Ca_addYears_19 : decode b_Ca_addYears 19 = .ok (.invokevirtual 38, 3) := by decide +kernel
theorem d_Ca_addYears_22 : decode b_Ca_addYears 22 = .ok (.aload_n 0, 1) := by decide +kernel
theorem d_Ca_addYears_23 : decode b_Ca_addYears 23 = .ok (.iload_n 3, 1) := by decide +kernel
theorem d_Ca_addYears_24 : decode b_Ca_addYears 24 = .ok (.invokevirtual 53, 3) := by decide +kernel
theorem d_Ca_addYears_27 : decode b_Ca_addYears 27 = .ok (.invokevirtual 69, 3) := by decide +kernel
theorem d_Ca_addYears_30 : decode b_Ca_addYears 30 = .ok (.iinc 3 (1), 3) := by decide +kernel
theorem d_Ca_addYears_33 : decode b_Ca_addYears 33 = .ok (.goto (-31), 3) := by decide +kernel
theorem d_Ca_addYears_36 : decode b_Ca_addYears 36 = .ok (.return_, 1) := by decide +kernel
def F_Ca_addYears_2_B (rec2 : Nat → Int32 → Nat → Int32 → AW → Option (AW)) (a0 : Nat) (x1 : Int32) (a2 : Nat) (x3 : Int32) (w : AW) : Option (AW) :=
  if (4 : Int32) ≤ x3 then
    some w
  else
    if ((x1 >>> (x3 &&& 31)) &&& (1 : Int32)) = (1 : Int32) then
      gd (wk w a0 == 2) <|
      (F_Ca_startOf w a0 x3).bind fun r3 =>
      (F_Ca_endOf w a0 x3).bind fun r5 =>
      gd (wk w a2 == 8) <|
      (F_Dy_addFrom a2 r3 r5 w).bind fun r8 =>
      let v10 : Int32 := (x3 + (1 : Int32))
      rec2 a0 x1 a2 v10 r8
    else
      let v1 : Int32 := (x3 + (1 : Int32))
      rec2 a0 x1 a2 v1 w
theorem P_Ca_addYears_2_B {X : AX} {l : Launch} {G : AG} {rec2 : Nat → Int32 → Nat → Int32 → AW → Option (AW)} (hX : XOK X b_Ca_addYears "RedSky$Calendar" 4) (hM : XM X l G { frames := 3, cells := 0, slots := 0, locals := 65 }) {o : AW} (hR : XR X none 0 0 none o) (hrec2 : ∀ (a0 : Nat) (x1 : Int32) (a2 : Nat) (x3 : Int32) (w : AW), rec2 a0 x1 a2 x3 w = some o → RJ X 4 0 0 2 [(0, vr a0), (1, vi x1), (2, vr a2), (3, vi x3)] [] w) (a0 : Nat) (x1 : Int32) (a2 : Nat) (x3 : Int32) (w : AW) (h : F_Ca_addYears_2_B rec2 a0 x1 a2 x3 w = some o) : RJ X 4 0 0 2 [(0, vr a0), (1, vi x1), (2, vr a2), (3, vi x3)] [] w := by
  unfold F_Ca_addYears_2_B at h
  refine r_iload_n (i := 3) hX d_Ca_addYears_2 3 rfl rfl ?_
  refine r_iconst (v := (4 : Int32)) hX d_Ca_addYears_3 rfl ?_
  refine r_icmp_ge hX d_Ca_addYears_4 rfl h (fun h => ?_) (fun h => ?_)
  · cases h; exact r_vret hX hR d_Ca_addYears_36
  · refine r_iload_n (i := 1) hX d_Ca_addYears_7 1 rfl rfl ?_
    refine r_iload_n (i := 3) hX d_Ca_addYears_8 3 rfl rfl ?_
    refine r_ishr hX d_Ca_addYears_9 ?_
    refine r_iconst (v := (1 : Int32)) hX d_Ca_addYears_10 rfl ?_
    refine r_iand hX d_Ca_addYears_11 ?_
    refine r_iconst (v := (1 : Int32)) hX d_Ca_addYears_12 rfl ?_
    refine r_icmp_ne hX d_Ca_addYears_13 rfl h (fun h => ?_) (fun h => ?_)
    · refine r_iinc (i := 3) (v := (1 : Int32)) hX d_Ca_addYears_30 3 rfl rfl (by decide) ?_
      refine r_goto hX d_Ca_addYears_33 rfl ?_
      exact rj_sub [1, 2, 3, 0] rfl (hrec2 _ _ _ _ _ h)
    · refine r_aload_n (i := 2) hX d_Ca_addYears_16 2 rfl rfl ?_
      refine r_aload_n (i := 0) hX d_Ca_addYears_17 0 rfl rfl ?_
      refine r_iload_n (i := 3) hX d_Ca_addYears_18 3 rfl rfl ?_
      obtain ⟨hk2, h⟩ := gd_e h
      obtain ⟨r3, hr4, h⟩ := bd_e h
      refine r_callV1 (As := [_]) hX hM mw_Ca_38 (T_Ca_startOf _ _ _ hr4) (rc_of ci_1 hk2) rfl rfl ⟨Nat.le_refl _, Nat.le_refl _⟩ rfl rfl d_Ca_addYears_19 ?_
      refine r_aload_n (i := 0) hX d_Ca_addYears_22 0 rfl rfl ?_
      refine r_iload_n (i := 3) hX d_Ca_addYears_23 3 rfl rfl ?_
      obtain ⟨r5, hr6, h⟩ := bd_e h
      refine r_callV1 (As := [_]) hX hM mw_Ca_53 (T_Ca_endOf _ _ _ hr6) (rc_of ci_1 hk2) rfl rfl ⟨Nat.le_refl _, Nat.le_refl _⟩ rfl rfl d_Ca_addYears_24 ?_
      obtain ⟨hk7, h⟩ := gd_e h
      obtain ⟨r8, hr9, h⟩ := bd_e h
      refine r_callV0 (As := [_, _]) hX hM mw_Ca_69 (T_Dy_addFrom _ _ _ _ hr9) (rc_of ci_7 hk7) rfl rfl ⟨Nat.le_refl _, Nat.le_refl _⟩ rfl rfl d_Ca_addYears_27 ?_
      refine r_iinc (i := 3) (v := (1 : Int32)) hX d_Ca_addYears_30 3 rfl rfl (by decide) ?_
      refine r_goto hX d_Ca_addYears_33 rfl ?_
      exact rj_sub [1, 2, 3, 0] rfl (hrec2 _ _ _ _ _ h)
def F_Ca_addYears_2 : Nat → Nat → Int32 → Nat → Int32 → AW → Option (AW)
  | 0 => fun _ _ _ _ _ => none
  | n + 1 => fun a0 x1 a2 x3 w => F_Ca_addYears_2_B (F_Ca_addYears_2 n) a0 x1 a2 x3 w
theorem P_Ca_addYears_2 {X : AX} {l : Launch} {G : AG} (hX : XOK X b_Ca_addYears "RedSky$Calendar" 4) (hM : XM X l G { frames := 3, cells := 0, slots := 0, locals := 65 }) {o : AW} (hR : XR X none 0 0 none o) (fu : Nat) : ∀ (a0 : Nat) (x1 : Int32) (a2 : Nat) (x3 : Int32) (w : AW), F_Ca_addYears_2 fu a0 x1 a2 x3 w = some o → RJ X 4 0 0 2 [(0, vr a0), (1, vi x1), (2, vr a2), (3, vi x3)] [] w := by
  induction fu with
  | zero => intro a0 x1 a2 x3 w h; cases h
  | succ n9 ih => intro a0 x1 a2 x3 w h; exact P_Ca_addYears_2_B hX hM hR ih _ _ _ _ _ h
def F_Ca_addYears (a0 : Nat) (x1 : Int32) (a2 : Nat) (w : AW) : Option (AW) :=
  F_Ca_addYears_2 FUEL a0 x1 a2 (0 : Int32) w
theorem P_Ca_addYears_0 {X : AX} {l : Launch} {G : AG} (hX : XOK X b_Ca_addYears "RedSky$Calendar" 4) (hM : XM X l G { frames := 3, cells := 0, slots := 0, locals := 65 }) {o : AW} (hR : XR X none 0 0 none o) (a0 : Nat) (x1 : Int32) (a2 : Nat) (w : AW) (h : F_Ca_addYears a0 x1 a2 w = some o) : RJ X 4 0 0 0 [(0, vr a0), (1, vi x1), (2, vr a2)] [] w := by
  unfold F_Ca_addYears at h
  refine r_iconst (v := (0 : Int32)) hX d_Ca_addYears_0 rfl ?_
  refine r_istore_n (i := 3) hX d_Ca_addYears_1 rfl (by decide) ?_
  exact rj_sub [1, 2, 3, 0] rfl (P_Ca_addYears_2 hX hM hR FUEL _ _ _ _ _ h)
theorem T_Ca_addYears {l : Launch} {G : AG} (a0 : Nat) (x1 : Int32) (a2 : Nat) (w : AW) {o : AW} (h : F_Ca_addYears a0 x1 a2 w = some o) : Mt l G y_Ca_addYears b_Ca_addYears 4 none 3 65 0 0 [vr a0, vi x1, vr a2] w none o := mt_of (by decide) (Nat.le_of_ble_eq_true rfl) (fun X hX hR hM hI => P_Ca_addYears_0 hX hM hR _ _ _ _ h)
/-! RedSky$Days.leave(LRedSky$Days;)V -/
theorem d_Dy_leave_0 : decode b_Dy_leave 0 = .ok (.iconst 0, 1) := by decide +kernel
theorem d_Dy_leave_1 : decode b_Dy_leave 1 = .ok (.istore_n 2, 1) := by decide +kernel
theorem d_Dy_leave_2 : decode b_Dy_leave 2 = .ok (.iload_n 2, 1) := by decide +kernel
theorem d_Dy_leave_3 : decode b_Dy_leave 3 = .ok (.bipush (23), 2) := by decide +kernel
theorem d_Dy_leave_5 : decode b_Dy_leave 5 = .ok (.if_icmp .ge (28), 3) := by decide +kernel
theorem d_Dy_leave_8 : decode b_Dy_leave 8 = .ok (.aload_n 0, 1) := by decide +kernel
theorem d_Dy_leave_9 : decode b_Dy_leave 9 = .ok (.getfield 11, 3) := by decide +kernel
theorem d_Dy_leave_12 : decode b_Dy_leave 12 = .ok (.iload_n 2, 1) := by decide +kernel
theorem d_Dy_leave_13 : decode b_Dy_leave 13 = .ok (.dup2, 1) := by decide +kernel
theorem d_Dy_leave_14 : decode b_Dy_leave 14 = .ok (.laload, 1) := by decide +kernel
theorem d_Dy_leave_15 : decode b_Dy_leave 15 = .ok (.aload_n 1, 1) := by decide +kernel
theorem d_Dy_leave_16 : decode b_Dy_leave 16 = .ok (.getfield 11, 3) := by decide +kernel
theorem d_Dy_leave_19 : decode b_Dy_leave 19 = .ok (.iload_n 2, 1) := by decide +kernel
theorem d_Dy_leave_20 : decode b_Dy_leave 20 = .ok (.laload, 1) := by decide +kernel
theorem d_Dy_leave_21 : decode b_Dy_leave 21 = .ok (.ldc2_w 27, 3) := by decide +kernel
theorem d_Dy_leave_24 : decode b_Dy_leave 24 = .ok (.lxor, 1) := by decide +kernel
theorem d_Dy_leave_25 : decode b_Dy_leave 25 = .ok (.land, 1) := by decide +kernel
theorem d_Dy_leave_26 : decode b_Dy_leave 26 = .ok (.lastore, 1) := by decide +kernel
theorem d_Dy_leave_27 : decode b_Dy_leave 27 = .ok (.iinc 2 (1), 3) := by decide +kernel
theorem d_Dy_leave_30 : decode b_Dy_leave 30 = .ok (.goto (-28), 3) := by decide +kernel
theorem d_Dy_leave_33 : decode b_Dy_leave 33 = .ok (.return_, 1) := by decide +kernel
def F_Dy_leave_2_B (rec2 : Nat → Nat → Int32 → AW → Option (AW)) (a0 : Nat) (a1 : Nat) (x2 : Int32) (w : AW) : Option (AW) :=
  if (23 : Int32) ≤ x2 then
    some w
  else
    gd (wk w a0 == 8) <|
    gd (wk w (wr w a0 0) == 101) <|
    gd (inb x2 (wn w (wr w a0 0))) <|
    gd (wk w a1 == 8) <|
    gd (wk w (wr w a1 0) == 101) <|
    gd (inb x2 (wn w (wr w a1 0))) <|
    gd (inb x2 (wn w (wr w a0 0))) <|
    let w8 : AW := upJ w (wr w a0 0) (Int32.toNatClampNeg x2) ((wj w (wr w a0 0) (Int32.toNatClampNeg x2)) &&& ((wj w (wr w a1 0) (Int32.toNatClampNeg x2)) ^^^ (-1 : Int64)))
    let v9 : Int32 := (x2 + (1 : Int32))
    rec2 a0 a1 v9 w8
theorem P_Dy_leave_2_B {X : AX} {l : Launch} {G : AG} {rec2 : Nat → Nat → Int32 → AW → Option (AW)} (hX : XOK X b_Dy_leave "RedSky$Days" 3) (hM : XM X l G { frames := 0, cells := 0, slots := 0, locals := 0 }) {o : AW} (hR : XR X none 0 0 none o) (hrec2 : ∀ (a0 : Nat) (a1 : Nat) (x2 : Int32) (w : AW), rec2 a0 a1 x2 w = some o → RJ X 3 0 0 2 [(0, vr a0), (1, vr a1), (2, vi x2)] [] w) (a0 : Nat) (a1 : Nat) (x2 : Int32) (w : AW) (h : F_Dy_leave_2_B rec2 a0 a1 x2 w = some o) : RJ X 3 0 0 2 [(0, vr a0), (1, vr a1), (2, vi x2)] [] w := by
  unfold F_Dy_leave_2_B at h
  refine r_iload_n (i := 2) hX d_Dy_leave_2 2 rfl rfl ?_
  refine r_bipush (v := (23 : Int32)) hX d_Dy_leave_3 rfl ?_
  refine r_icmp_ge hX d_Dy_leave_5 rfl h (fun h => ?_) (fun h => ?_)
  · cases h; exact r_vret hX hR d_Dy_leave_33
  · refine r_aload_n (i := 0) hX d_Dy_leave_8 0 rfl rfl ?_
    obtain ⟨hk1, h⟩ := gd_e h
    refine r_getR (i := 7) (f := 0) hX ci_7 (by decide) rfl fl_Dy_11 hk1 d_Dy_leave_9 ?_
    refine r_iload_n (i := 2) hX d_Dy_leave_12 2 rfl rfl ?_
    refine r_dup2 hX d_Dy_leave_13 rfl rfl ?_
    obtain ⟨hk2, h⟩ := gd_e h
    obtain ⟨hg3, h⟩ := gd_e h
    refine r_lald hX hk2 hg3 d_Dy_leave_14 ?_
    refine r_aload_n (i := 1) hX d_Dy_leave_15 1 rfl rfl ?_
    obtain ⟨hk4, h⟩ := gd_e h
    refine r_getR (i := 7) (f := 0) hX ci_7 (by decide) rfl fl_Dy_11 hk4 d_Dy_leave_16 ?_
    refine r_iload_n (i := 2) hX d_Dy_leave_19 2 rfl rfl ?_
    obtain ⟨hk5, h⟩ := gd_e h
    obtain ⟨hg6, h⟩ := gd_e h
    refine r_lald hX hk5 hg6 d_Dy_leave_20 ?_
    refine r_ldc2 hX d_Dy_leave_21 cw_Dy_27 ?_
    refine r_lxor hX d_Dy_leave_24 ?_
    refine r_land hX d_Dy_leave_25 ?_
    obtain ⟨hg7, h⟩ := gd_e h
    refine r_last hX hk2 hg7 d_Dy_leave_26 ?_
    refine r_iinc (i := 2) (v := (1 : Int32)) hX d_Dy_leave_27 2 rfl rfl (by decide) ?_
    refine r_goto hX d_Dy_leave_30 rfl ?_
    exact rj_sub [1, 2, 0] rfl (hrec2 _ _ _ _ h)
def F_Dy_leave_2 : Nat → Nat → Nat → Int32 → AW → Option (AW)
  | 0 => fun _ _ _ _ => none
  | n + 1 => fun a0 a1 x2 w => F_Dy_leave_2_B (F_Dy_leave_2 n) a0 a1 x2 w
theorem P_Dy_leave_2 {X : AX} {l : Launch} {G : AG} (hX : XOK X b_Dy_leave "RedSky$Days" 3) (hM : XM X l G { frames := 0, cells := 0, slots := 0, locals := 0 }) {o : AW} (hR : XR X none 0 0 none o) (fu : Nat) : ∀ (a0 : Nat) (a1 : Nat) (x2 : Int32) (w : AW), F_Dy_leave_2 fu a0 a1 x2 w = some o → RJ X 3 0 0 2 [(0, vr a0), (1, vr a1), (2, vi x2)] [] w := by
  induction fu with
  | zero => intro a0 a1 x2 w h; cases h
  | succ n9 ih => intro a0 a1 x2 w h; exact P_Dy_leave_2_B hX hM hR ih _ _ _ _ h
def F_Dy_leave (a0 : Nat) (a1 : Nat) (w : AW) : Option (AW) :=
  F_Dy_leave_2 FUEL a0 a1 (0 : Int32) w
theorem P_Dy_leave_0 {X : AX} {l : Launch} {G : AG} (hX : XOK X b_Dy_leave "RedSky$Days" 3) (hM : XM X l G { frames := 0, cells := 0, slots := 0, locals := 0 }) {o : AW} (hR : XR X none 0 0 none o) (a0 : Nat) (a1 : Nat) (w : AW) (h : F_Dy_leave a0 a1 w = some o) : RJ X 3 0 0 0 [(0, vr a0), (1, vr a1)] [] w := by
  unfold F_Dy_leave at h
  refine r_iconst (v := (0 : Int32)) hX d_Dy_leave_0 rfl ?_
  refine r_istore_n (i := 2) hX d_Dy_leave_1 rfl (by decide) ?_
  exact rj_sub [1, 2, 0] rfl (P_Dy_leave_2 hX hM hR FUEL _ _ _ _ h)
theorem T_Dy_leave {l : Launch} {G : AG} (a0 : Nat) (a1 : Nat) (w : AW) {o : AW} (h : F_Dy_leave a0 a1 w = some o) : Mt l G y_Dy_leave b_Dy_leave 3 none 0 0 0 0 [vr a0, vr a1] w none o := mt_of (by decide) (Nat.le_of_ble_eq_true rfl) (fun X hX hR hM hI => P_Dy_leave_0 hX hM hR _ _ _ h)
/-! RedSky$Learner.aimAt(LRedSky$Days;LRedSky$Days;LRedSky$Days;)V -/
theorem d_Le_aimAt_0 : decode b_Le_aimAt 0 = .ok (.aload_n 0, 1) := by decide +kernel
theorem d_Le_aimAt_1 : decode b_Le_aimAt 1 = .ok (.getfield 25, 3) := by decide +kernel
theorem d_Le_aimAt_4 : decode b_Le_aimAt 4 = .ok (.aload_n 1, 1) := by decide +kernel
theorem d_Le_aimAt_5 : decode b_Le_aimAt 5 = .ok (.invokevirtual 68, 3) := by decide +kernel
theorem d_Le_aimAt_8 : decode b_Le_aimAt 8 = .ok (.aload_n 0, 1) := by decide +kernel
theorem d_Le_aimAt_9 : decode b_Le_aimAt 9 = .ok (.getfield 25, 3) := by decide +kernel
theorem d_Le_aimAt_12 : decode b_Le_aimAt 12 = .ok (.aload_n 3, 1) := by decide +kernel
theorem d_Le_aimAt_13 : decode b_Le_aimAt 13 = .ok (.invokevirtual 72, 3) := by decide +kernel
theorem d_Le_aimAt_16 : decode b_Le_aimAt 16 = .ok (.aload_n 0, 1) := by decide +kernel
theorem d_Le_aimAt_17 : decode b_Le_aimAt 17 = .ok (.getfield 29, 3) := by decide +kernel
theorem d_Le_aimAt_20 : decode b_Le_aimAt 20 = .ok (.aload_n 1, 1) := by decide +kernel
theorem d_Le_aimAt_21 : decode b_Le_aimAt 21 = .ok (.invokevirtual 68, 3) := by decide +kernel
theorem d_Le_aimAt_24 : decode b_Le_aimAt 24 = .ok (.aload_n 0, 1) := by decide +kernel
theorem d_Le_aimAt_25 : decode b_Le_aimAt 25 = .ok (.getfield 29, 3) := by decide +kernel
theorem d_Le_aimAt_28 : decode b_Le_aimAt 28 = .ok (.aload_n 3, 1) := by decide +kernel
theorem d_Le_aimAt_29 : decode b_Le_aimAt 29 = .ok (.invokevirtual 75, 3) := by decide +kernel
theorem d_Le_aimAt_32 : decode b_Le_aimAt 32 = .ok (.aload_n 0, 1) := by decide +kernel
theorem d_Le_aimAt_33 : decode b_Le_aimAt 33 = .ok (.getfield 32, 3) := by decide +kernel
theorem d_Le_aimAt_36 : decode b_Le_aimAt 36 = .ok (.aload_n 2, 1) := by decide +kernel
theorem d_Le_aimAt_37 : decode b_Le_aimAt 37 = .ok (.invokevirtual 68, 3) := by decide +kernel
theorem d_Le_aimAt_40 : decode b_Le_aimAt 40 = .ok (.return_, 1) := by decide +kernel
def F_Le_aimAt (a0 : Nat) (a1 : Nat) (a2 : Nat) (a3 : Nat) (w : AW) : Option (AW) :=
  gd (wk w a0 == 10) <|
  gd (wk w (wr w a0 3) == 8) <|
  (F_Dy_take (wr w a0 3) a1 w).bind fun r3 =>
  gd (wk r3 a0 == 10) <|
  gd (wk r3 (wr r3 a0 3) == 8) <|
  (F_Dy_meet (wr r3 a0 3) a3 r3).bind fun r7 =>
  gd (wk r7 a0 == 10) <|
  gd (wk r7 (wr r7 a0 4) == 8) <|
  (F_Dy_take (wr r7 a0 4) a1 r7).bind fun r11 =>
  gd (wk r11 a0 == 10) <|
  gd (wk r11 (wr r11 a0 4) == 8) <|
  (F_Dy_leave (wr r11 a0 4) a3 r11).bind fun r15 =>
  gd (wk r15 a0 == 10) <|
  gd (wk r15 (wr r15 a0 5) == 8) <|
  (F_Dy_take (wr r15 a0 5) a2 r15).bind fun r19 =>
  some r19
theorem P_Le_aimAt_0 {X : AX} {l : Launch} {G : AG} (hX : XOK X b_Le_aimAt "RedSky$Learner" 4) (hM : XM X l G { frames := 2, cells := 0, slots := 0, locals := 61 }) {o : AW} (hR : XR X none 0 0 none o) (a0 : Nat) (a1 : Nat) (a2 : Nat) (a3 : Nat) (w : AW) (h : F_Le_aimAt a0 a1 a2 a3 w = some o) : RJ X 4 0 0 0 [(0, vr a0), (1, vr a1), (2, vr a2), (3, vr a3)] [] w := by
  unfold F_Le_aimAt at h
  refine r_aload_n (i := 0) hX d_Le_aimAt_0 0 rfl rfl ?_
  obtain ⟨hk1, h⟩ := gd_e h
  refine r_getR (i := 9) (f := 3) hX ci_9 (by decide) rfl fl_Le_25 hk1 d_Le_aimAt_1 ?_
  refine r_aload_n (i := 1) hX d_Le_aimAt_4 1 rfl rfl ?_
  obtain ⟨hk2, h⟩ := gd_e h
  obtain ⟨r3, hr4, h⟩ := bd_e h
  refine r_callV0 (As := [_]) hX hM mw_Le_68 (T_Dy_take _ _ _ hr4) (rc_of ci_7 hk2) rfl rfl ⟨Nat.le_refl _, Nat.le_refl _⟩ rfl rfl d_Le_aimAt_5 ?_
  refine r_aload_n (i := 0) hX d_Le_aimAt_8 0 rfl rfl ?_
  obtain ⟨hk5, h⟩ := gd_e h
  refine r_getR (i := 9) (f := 3) hX ci_9 (by decide) rfl fl_Le_25 hk5 d_Le_aimAt_9 ?_
  refine r_aload_n (i := 3) hX d_Le_aimAt_12 3 rfl rfl ?_
  obtain ⟨hk6, h⟩ := gd_e h
  obtain ⟨r7, hr8, h⟩ := bd_e h
  refine r_callV0 (As := [_]) hX hM mw_Le_72 (T_Dy_meet _ _ _ hr8) (rc_of ci_7 hk6) rfl rfl ⟨Nat.le_refl _, Nat.le_refl _⟩ rfl rfl d_Le_aimAt_13 ?_
  refine r_aload_n (i := 0) hX d_Le_aimAt_16 0 rfl rfl ?_
  obtain ⟨hk9, h⟩ := gd_e h
  refine r_getR (i := 9) (f := 4) hX ci_9 (by decide) rfl fl_Le_29 hk9 d_Le_aimAt_17 ?_
  refine r_aload_n (i := 1) hX d_Le_aimAt_20 1 rfl rfl ?_
  obtain ⟨hk10, h⟩ := gd_e h
  obtain ⟨r11, hr12, h⟩ := bd_e h
  refine r_callV0 (As := [_]) hX hM mw_Le_68 (T_Dy_take _ _ _ hr12) (rc_of ci_7 hk10) rfl rfl ⟨Nat.le_refl _, Nat.le_refl _⟩ rfl rfl d_Le_aimAt_21 ?_
  refine r_aload_n (i := 0) hX d_Le_aimAt_24 0 rfl rfl ?_
  obtain ⟨hk13, h⟩ := gd_e h
  refine r_getR (i := 9) (f := 4) hX ci_9 (by decide) rfl fl_Le_29 hk13 d_Le_aimAt_25 ?_
  refine r_aload_n (i := 3) hX d_Le_aimAt_28 3 rfl rfl ?_
  obtain ⟨hk14, h⟩ := gd_e h
  obtain ⟨r15, hr16, h⟩ := bd_e h
  refine r_callV0 (As := [_]) hX hM mw_Le_75 (T_Dy_leave _ _ _ hr16) (rc_of ci_7 hk14) rfl rfl ⟨Nat.le_refl _, Nat.le_refl _⟩ rfl rfl d_Le_aimAt_29 ?_
  refine r_aload_n (i := 0) hX d_Le_aimAt_32 0 rfl rfl ?_
  obtain ⟨hk17, h⟩ := gd_e h
  refine r_getR (i := 9) (f := 5) hX ci_9 (by decide) rfl fl_Le_32 hk17 d_Le_aimAt_33 ?_
  refine r_aload_n (i := 2) hX d_Le_aimAt_36 2 rfl rfl ?_
  obtain ⟨hk18, h⟩ := gd_e h
  obtain ⟨r19, hr20, h⟩ := bd_e h
  refine r_callV0 (As := [_]) hX hM mw_Le_68 (T_Dy_take _ _ _ hr20) (rc_of ci_7 hk18) rfl rfl ⟨Nat.le_refl _, Nat.le_refl _⟩ rfl rfl d_Le_aimAt_37 ?_
  cases h; exact r_vret hX hR d_Le_aimAt_40
theorem T_Le_aimAt {l : Launch} {G : AG} (a0 : Nat) (a1 : Nat) (a2 : Nat) (a3 : Nat) (w : AW) {o : AW} (h : F_Le_aimAt a0 a1 a2 a3 w = some o) : Mt l G y_Le_aimAt b_Le_aimAt 4 none 2 61 0 0 [vr a0, vr a1, vr a2, vr a3] w none o := mt_of (by decide) (Nat.le_of_ble_eq_true rfl) (fun X hX hR hM hI => P_Le_aimAt_0 hX hM hR _ _ _ _ _ h)
/-! RedSky$Reading.readFirst(LRedSky$Saying;LRedSky$Diary;LRedSky$Calendar;LRedSky$Scales;)V -/
theorem d_Rd_readFirst_0 : decode b_Rd_readFirst 0 = .ok (.aload_n 3, 1) := by decide +kernel
theorem d_Rd_readFirst_1 : decode b_Rd_readFirst 1 = .ok (.aload_n 1, 1) := by decide +kernel
theorem d_Rd_readFirst_2 : decode b_Rd_readFirst 2 = .ok (.aload_n 0, 1) := by decide +kernel
theorem d_Rd_readFirst_3 : decode b_Rd_readFirst 3 = .ok (.getfield 12, 3) := by decide +kernel
theorem d_Rd_readFirst_6 : decode b_Rd_readFirst 6 = .ok (.invokevirtual 48, 3) := by decide +kernel
theorem d_Rd_readFirst_9 : decode b_Rd_readFirst 9 = .ok (.aload 4, 2) := by decide +kernel
theorem d_Rd_readFirst_11 : decode b_Rd_readFirst 11 = .ok (.aload_n 1, 1) := by decide +kernel
theorem d_Rd_readFirst_12 : decode b_Rd_readFirst 12 = .ok (.getfield 54, 3) := by decide +kernel
theorem d_Rd_readFirst_15 : decode b_Rd_readFirst 15 = .ok (.aload_n 2, 1) := by decide +kernel
theorem d_Rd_readFirst_16 : decode b_Rd_readFirst 16 = .ok (.aload_n 0, 1) := by decide +kernel
theorem d_Rd_readFirst_17 : decode b_Rd_readFirst 17 = .ok (.getfield 18, 3) := by decide +kernel
theorem d_Rd_readFirst_20 : decode b_Rd_readFirst 20 = .ok (.aload_n 0, 1) := by decide +kernel
theorem d_Rd_readFirst_21 : decode b_Rd_readFirst 21 = .ok (.getfield 21, 3) := by decide +kernel
theorem d_Rd_readFirst_24 : decode b_Rd_readFirst 24 = .ok (.invokevirtual 60, 3) := by decide +kernel
theorem d_Rd_readFirst_27 : decode b_Rd_readFirst 27 = .ok (.return_, 1) := by decide +kernel
def F_Rd_readFirst (a0 : Nat) (a1 : Nat) (a2 : Nat) (a3 : Nat) (a4 : Nat) (w : AW) : Option (AW) :=
  gd (wk w a0 == 9) <|
  gd (wk w a3 == 2) <|
  (F_Ca_findSeason a3 a1 (wr w a0 0) w).bind fun r3 =>
  gd (wk r3 a1 == 5) <|
  gd (wk r3 a0 == 9) <|
  gd (wk r3 a4 == 7) <|
  (F_Sc_weigh a4 (wr r3 a1 0) a2 (wr r3 a0 1) (wr r3 a0 2) r3).bind fun r8 =>
  some r8
theorem P_Rd_readFirst_0 {X : AX} {l : Launch} {G : AG} (hX : XOK X b_Rd_readFirst "RedSky$Reading" 5) (hM : XM X l G { frames := 5, cells := 0, slots := 0, locals := 123 }) {o : AW} (hR : XR X none 0 0 none o) (a0 : Nat) (a1 : Nat) (a2 : Nat) (a3 : Nat) (a4 : Nat) (w : AW) (h : F_Rd_readFirst a0 a1 a2 a3 a4 w = some o) : RJ X 5 0 0 0 [(0, vr a0), (1, vr a1), (2, vr a2), (3, vr a3), (4, vr a4)] [] w := by
  unfold F_Rd_readFirst at h
  refine r_aload_n (i := 3) hX d_Rd_readFirst_0 3 rfl rfl ?_
  refine r_aload_n (i := 1) hX d_Rd_readFirst_1 1 rfl rfl ?_
  refine r_aload_n (i := 0) hX d_Rd_readFirst_2 0 rfl rfl ?_
  obtain ⟨hk1, h⟩ := gd_e h
  refine r_getR (i := 8) (f := 0) hX ci_8 (by decide) rfl fl_Rd_12 hk1 d_Rd_readFirst_3 ?_
  obtain ⟨hk2, h⟩ := gd_e h
  obtain ⟨r3, hr4, h⟩ := bd_e h
  refine r_callV0 (As := [_, _]) hX hM mw_Rd_48 (T_Ca_findSeason _ _ _ _ hr4) (rc_of ci_1 hk2) rfl rfl ⟨Nat.le_refl _, Nat.le_refl _⟩ rfl rfl d_Rd_readFirst_6 ?_
  refine r_aload (i := 4) hX d_Rd_readFirst_9 4  rfl ?_
  refine r_aload_n (i := 1) hX d_Rd_readFirst_11 1 rfl rfl ?_
  obtain ⟨hk5, h⟩ := gd_e h
  refine r_getR (i := 4) (f := 0) hX ci_4 (by decide) rfl fl_Rd_54 hk5 d_Rd_readFirst_12 ?_
  refine r_aload_n (i := 2) hX d_Rd_readFirst_15 2 rfl rfl ?_
  refine r_aload_n (i := 0) hX d_Rd_readFirst_16 0 rfl rfl ?_
  obtain ⟨hk6, h⟩ := gd_e h
  refine r_getR (i := 8) (f := 1) hX ci_8 (by decide) rfl fl_Rd_18 hk6 d_Rd_readFirst_17 ?_
  refine r_aload_n (i := 0) hX d_Rd_readFirst_20 0 rfl rfl ?_
  refine r_getR (i := 8) (f := 2) hX ci_8 (by decide) rfl fl_Rd_21 hk6 d_Rd_readFirst_21 ?_
  obtain ⟨hk7, h⟩ := gd_e h
  obtain ⟨r8, hr9, h⟩ := bd_e h
  refine r_callV0 (As := [_, _, _, _]) hX hM mw_Rd_60 (T_Sc_weigh _ _ _ _ _ _ hr9) (rc_of ci_6 hk7) rfl rfl ⟨Nat.le_refl _, Nat.le_refl _⟩ rfl rfl d_Rd_readFirst_24 ?_
  cases h; exact r_vret hX hR d_Rd_readFirst_27
theorem T_Rd_readFirst {l : Launch} {G : AG} (a0 : Nat) (a1 : Nat) (a2 : Nat) (a3 : Nat) (a4 : Nat) (w : AW) {o : AW} (h : F_Rd_readFirst a0 a1 a2 a3 a4 w = some o) : Mt l G y_Rd_readFirst b_Rd_readFirst 5 none 5 123 0 0 [vr a0, vr a1, vr a2, vr a3, vr a4] w none o := mt_of (by decide) (Nat.le_of_ble_eq_true rfl) (fun X hX hR hM hI => P_Rd_readFirst_0 hX hM hR _ _ _ _ _ _ h)
/-! RedSky$Learner.hear(ILRedSky$Days;LRedSky$Days;)V -/
theorem d_Le_hear_0 : decode b_Le_hear 0 = .ok (.iload_n 1, 1) := by decide +kernel
theorem d_Le_hear_1 : decode b_Le_hear 1 = .ok (.iconst 0, 1) := by decide +kernel
theorem d_Le_hear_2 : decode b_Le_hear 2 = .ok (.bipush (7), 2) := by decide +kernel
theorem d_Le_hear_4 : decode b_Le_hear 4 = .ok (.invokestatic 78, 3) := by decide +kernel
theorem d_Le_hear_7 : decode b_Le_hear 7 = .ok (.ifCond .eq (23), 3) := by decide +kernel
theorem d_Le_hear_10 : decode b_Le_hear 10 = .ok (.aload_n 0, 1) := by decide +kernel
theorem d_Le_hear_11 : decode b_Le_hear 11 = .ok (.getfield 20, 3) := by decide +kernel
theorem d_Le_hear_14 : decode b_Le_hear 14 = .ok (.iload_n 1, 1) := by decide +kernel
theorem d_Le_hear_15 : decode b_Le_hear 15 = .ok (.aaload, 1) := by decide +kernel
theorem d_Le_hear_16 : decode b_Le_hear 16 = .ok (.aload_n 2, 1) := by decide +kernel
theorem d_Le_hear_17 : decode b_Le_hear 17 = .ok (.invokevirtual 68, 3) := by decide +kernel
theorem d_Le_hear_20 : decode b_Le_hear 20 = .ok (.aload_n 0, 1) := by decide +kernel
theorem d_Le_hear_21 : decode b_Le_hear 21 = .ok (.getfield 20, 3) := by decide +kernel
theorem d_Le_hear_24 : decode b_Le_hear 24 = .ok (.iload_n 1, 1) := by decide +kernel
theorem d_Le_hear_25 : decode b_Le_hear 25 = .ok (.aaload, 1) := by decide +kernel
theorem d_Le_hear_26 : decode b_Le_hear 26 = .ok (.aload_n 3, 1) := by decide +kernel
theorem d_Le_hear_27 : decode b_Le_hear 27 = .ok (.invokevirtual 72, 3) := by decide +kernel
theorem d_Le_hear_30 : decode b_Le_hear 30 = .ok (.return_, 1) := by decide +kernel
def F_Le_hear (a0 : Nat) (x1 : Int32) (a2 : Nat) (a3 : Nat) (w : AW) : Option (AW) :=
  if (F_A_within x1 (0 : Int32) (7 : Int32)) = 0 then
    some w
  else
    gd (wk w a0 == 10) <|
    gd (wk w (wr w a0 2) == 105) <|
    gd (inb x1 (wn w (wr w a0 2))) <|
    gd (wk w (wr w (wr w a0 2) (Int32.toNatClampNeg x1)) == 8) <|
    (F_Dy_take (wr w (wr w a0 2) (Int32.toNatClampNeg x1)) a2 w).bind fun r5 =>
    gd (wk r5 a0 == 10) <|
    gd (wk r5 (wr r5 a0 2) == 105) <|
    gd (inb x1 (wn r5 (wr r5 a0 2))) <|
    gd (wk r5 (wr r5 (wr r5 a0 2) (Int32.toNatClampNeg x1)) == 8) <|
    (F_Dy_meet (wr r5 (wr r5 a0 2) (Int32.toNatClampNeg x1)) a3 r5).bind fun r11 =>
    some r11
theorem P_Le_hear_0 {X : AX} {l : Launch} {G : AG} (hX : XOK X b_Le_hear "RedSky$Learner" 4) (hM : XM X l G { frames := 2, cells := 0, slots := 0, locals := 61 }) {o : AW} (hR : XR X none 0 0 none o) (a0 : Nat) (x1 : Int32) (a2 : Nat) (a3 : Nat) (w : AW) (h : F_Le_hear a0 x1 a2 a3 w = some o) : RJ X 4 0 0 0 [(0, vr a0), (1, vi x1), (2, vr a2), (3, vr a3)] [] w := by
  unfold F_Le_hear at h
  refine r_iload_n (i := 1) hX d_Le_hear_0 1 rfl rfl ?_
  refine r_iconst (v := (0 : Int32)) hX d_Le_hear_1 rfl ?_
  refine r_bipush (v := (7 : Int32)) hX d_Le_hear_2 rfl ?_
  refine r_callSN1 (As := [_, _, _]) hX hM mw_Le_78 (T_A_within _ _ _ _) rfl rfl ⟨Nat.le_refl _, Nat.le_refl _⟩ rfl rfl d_Le_hear_4 ?_
  refine r_if_eq hX d_Le_hear_7 rfl h (fun h => ?_) (fun h => ?_)
  · cases h; exact r_vret hX hR d_Le_hear_30
  · refine r_aload_n (i := 0) hX d_Le_hear_10 0 rfl rfl ?_
    obtain ⟨hk1, h⟩ := gd_e h
    refine r_getR (i := 9) (f := 2) hX ci_9 (by decide) rfl fl_Le_20 hk1 d_Le_hear_11 ?_
    refine r_iload_n (i := 1) hX d_Le_hear_14 1 rfl rfl ?_
    obtain ⟨hk2, h⟩ := gd_e h
    obtain ⟨hg3, h⟩ := gd_e h
    refine r_aald (t := 0) (kd := 105) hX (by decide) (fun G => rfl) hk2 hg3 d_Le_hear_15 ?_
    refine r_aload_n (i := 2) hX d_Le_hear_16 2 rfl rfl ?_
    obtain ⟨hk4, h⟩ := gd_e h
    obtain ⟨r5, hr6, h⟩ := bd_e h
    refine r_callV0 (As := [_]) hX hM mw_Le_68 (T_Dy_take _ _ _ hr6) (rc_of ci_7 hk4) rfl rfl ⟨Nat.le_refl _, Nat.le_refl _⟩ rfl rfl d_Le_hear_17 ?_
    refine r_aload_n (i := 0) hX d_Le_hear_20 0 rfl rfl ?_
    obtain ⟨hk7, h⟩ := gd_e h
    refine r_getR (i := 9) (f := 2) hX ci_9 (by decide) rfl fl_Le_20 hk7 d_Le_hear_21 ?_
    refine r_iload_n (i := 1) hX d_Le_hear_24 1 rfl rfl ?_
    obtain ⟨hk8, h⟩ := gd_e h
    obtain ⟨hg9, h⟩ := gd_e h
    refine r_aald (t := 0) (kd := 105) hX (by decide) (fun G => rfl) hk8 hg9 d_Le_hear_25 ?_
    refine r_aload_n (i := 3) hX d_Le_hear_26 3 rfl rfl ?_
    obtain ⟨hk10, h⟩ := gd_e h
    obtain ⟨r11, hr12, h⟩ := bd_e h
    refine r_callV0 (As := [_]) hX hM mw_Le_72 (T_Dy_meet _ _ _ hr12) (rc_of ci_7 hk10) rfl rfl ⟨Nat.le_refl _, Nat.le_refl _⟩ rfl rfl d_Le_hear_27 ?_
    cases h; exact r_vret hX hR d_Le_hear_30
theorem T_Le_hear {l : Launch} {G : AG} (a0 : Nat) (x1 : Int32) (a2 : Nat) (a3 : Nat) (w : AW) {o : AW} (h : F_Le_hear a0 x1 a2 a3 w = some o) : Mt l G y_Le_hear b_Le_hear 4 none 2 61 0 0 [vr a0, vi x1, vr a2, vr a3] w none o := mt_of (by decide) (Nat.le_of_ble_eq_true rfl) (fun X hX hR hM hI => P_Le_hear_0 hX hM hR _ _ _ _ _ h)
/-! RedSky$Learner.tellBy(I)V -/
theorem d_Le_tellBy_0 : decode b_Le_tellBy 0 = .ok (.aload_n 0, 1) := by decide +kernel
theorem d_Le_tellBy_1 : decode b_Le_tellBy 1 = .ok (.getfield 38, 3) := by decide +kernel
theorem d_Le_tellBy_4 : decode b_Le_tellBy 4 = .ok (.invokevirtual 112, 3) := by decide +kernel
theorem d_Le_tellBy_7 : decode b_Le_tellBy 7 = .ok (.iload_n 1, 1) := by decide +kernel
theorem d_Le_tellBy_8 : decode b_Le_tellBy 8 = .ok (.iconst 0, 1) := by decide +kernel
theorem d_Le_tellBy_9 : decode b_Le_tellBy 9 = .ok (.bipush (7), 2) := by decide +kernel
theorem d_Le_tellBy_11 : decode b_Le_tellBy 11 = .ok (.invokestatic 78, 3) := by decide +kernel
theorem d_Le_tellBy_14 : decode b_Le_tellBy 14 = .ok (.ifCond .eq (40), 3) := by decide +kernel
theorem d_Le_tellBy_17 : decode b_Le_tellBy 17 = .ok (.aload_n 0, 1) := by decide +kernel
theorem d_Le_tellBy_18 : decode b_Le_tellBy 18 = .ok (.getfield 38, 3) := by decide +kernel
theorem d_Le_tellBy_21 : decode b_Le_tellBy 21 = .ok (.aload_n 0, 1) := by decide +kernel
theorem d_Le_tellBy_22 : decode b_Le_tellBy 22 = .ok (.getfield 35, 3) := by decide +kernel
theorem d_Le_tellBy_25 : decode b_Le_tellBy 25 = .ok (.invokevirtual 68, 3) := by decide +kernel
theorem d_Le_tellBy_28 : decode b_Le_tellBy 28 = .ok (.aload_n 0, 1) := by decide +kernel
theorem d_Le_tellBy_29 : decode b_Le_tellBy 29 = .ok (.getfield 38, 3) := by decide +kernel
theorem d_Le_tellBy_32 : decode b_Le_tellBy 32 = .ok (.aload_n 0, 1) := by decide +kernel
theorem d_Le_tellBy_33 : decode b_Le_tellBy 33 = .ok (.getfield 20, 3) := by decide +kernel
theorem d_Le_tellBy_36 : decode b_Le_tellBy 36 = .ok (.iload_n 1, 1) := by decide +kernel
theorem d_Le_tellBy_37 : decode b_Le_tellBy 37 = .ok (.aaload, 1) := by decide +kernel
theorem d_Le_tellBy_38 : decode b_Le_tellBy 38 = .ok (.invokevirtual 72, 3) := by decide +kernel
theorem d_Le_tellBy_41 : decode b_Le_tellBy 41 = .ok (.aload_n 0, 1) := by decide +kernel
theorem d_Le_tellBy_42 : decode b_Le_tellBy 42 = .ok (.getfield 35, 3) := by decide +kernel
theorem d_Le_tellBy_45 : decode b_Le_tellBy 45 = .ok (.aload_n 0, 1) := by decide +kernel
theorem d_Le_tellBy_46 : decode b_Le_tellBy 46 = .ok (.getfield 20, 3) := by decide +kernel
theorem d_Le_tellBy_49 : decode b_Le_tellBy 49 = .ok (.iload_n 1, 1) := by decide +kernel
theorem d_Le_tellBy_50 : decode b_Le_tellBy 50 = .ok (.aaload, 1) := by decide +kernel
theorem d_Le_tellBy_51 : decode b_Le_tellBy 51 = .ok (.invokevirtual 75, 3) := by decide +kernel
theorem d_Le_tellBy_54 : decode b_Le_tellBy 54 = .ok (.return_, 1) := by decide +kernel
def F_Le_tellBy (a0 : Nat) (x1 : Int32) (w : AW) : Option (AW) :=
  gd (wk w a0 == 10) <|
  gd (wk w (wr w a0 7) == 8) <|
  (F_Dy_clear (wr w a0 7) w).bind fun r3 =>
  if (F_A_within x1 (0 : Int32) (7 : Int32)) = 0 then
    some r3
  else
    gd (wk r3 a0 == 10) <|
    gd (wk r3 (wr r3 a0 7) == 8) <|
    (F_Dy_take (wr r3 a0 7) (wr r3 a0 6) r3).bind fun r7 =>
    gd (wk r7 a0 == 10) <|
    gd (wk r7 (wr r7 a0 2) == 105) <|
    gd (inb x1 (wn r7 (wr r7 a0 2))) <|
    gd (wk r7 (wr r7 a0 7) == 8) <|
    (F_Dy_meet (wr r7 a0 7) (wr r7 (wr r7 a0 2) (Int32.toNatClampNeg x1)) r7).bind fun r13 =>
    gd (wk r13 a0 == 10) <|
    gd (wk r13 (wr r13 a0 2) == 105) <|
    gd (inb x1 (wn r13 (wr r13 a0 2))) <|
    gd (wk r13 (wr r13 a0 6) == 8) <|
    (F_Dy_leave (wr r13 a0 6) (wr r13 (wr r13 a0 2) (Int32.toNatClampNeg x1)) r13).bind fun r19 =>
    some r19
theorem P_Le_tellBy_0 {X : AX} {l : Launch} {G : AG} (hX : XOK X b_Le_tellBy "RedSky$Learner" 2) (hM : XM X l G { frames := 2, cells := 0, slots := 0, locals := 61 }) {o : AW} (hR : XR X none 0 0 none o) (a0 : Nat) (x1 : Int32) (w : AW) (h : F_Le_tellBy a0 x1 w = some o) : RJ X 2 0 0 0 [(0, vr a0), (1, vi x1)] [] w := by
  unfold F_Le_tellBy at h
  refine r_aload_n (i := 0) hX d_Le_tellBy_0 0 rfl rfl ?_
  obtain ⟨hk1, h⟩ := gd_e h
  refine r_getR (i := 9) (f := 7) hX ci_9 (by decide) rfl fl_Le_38 hk1 d_Le_tellBy_1 ?_
  obtain ⟨hk2, h⟩ := gd_e h
  obtain ⟨r3, hr4, h⟩ := bd_e h
  refine r_callV0 (As := []) hX hM mw_Le_112 (T_Dy_clear _ _ hr4) (rc_of ci_7 hk2) rfl rfl ⟨Nat.le_refl _, Nat.le_refl _⟩ rfl rfl d_Le_tellBy_4 ?_
  refine r_iload_n (i := 1) hX d_Le_tellBy_7 1 rfl rfl ?_
  refine r_iconst (v := (0 : Int32)) hX d_Le_tellBy_8 rfl ?_
  refine r_bipush (v := (7 : Int32)) hX d_Le_tellBy_9 rfl ?_
  refine r_callSN1 (As := [_, _, _]) hX hM mw_Le_78 (T_A_within _ _ _ _) rfl rfl ⟨Nat.le_refl _, Nat.le_refl _⟩ rfl rfl d_Le_tellBy_11 ?_
  refine r_if_eq hX d_Le_tellBy_14 rfl h (fun h => ?_) (fun h => ?_)
  · cases h; exact r_vret hX hR d_Le_tellBy_54
  · refine r_aload_n (i := 0) hX d_Le_tellBy_17 0 rfl rfl ?_
    obtain ⟨hk5, h⟩ := gd_e h
    refine r_getR (i := 9) (f := 7) hX ci_9 (by decide) rfl fl_Le_38 hk5 d_Le_tellBy_18 ?_
    refine r_aload_n (i := 0) hX d_Le_tellBy_21 0 rfl rfl ?_
    refine r_getR (i := 9) (f := 6) hX ci_9 (by decide) rfl fl_Le_35 hk5 d_Le_tellBy_22 ?_
    obtain ⟨hk6, h⟩ := gd_e h
    obtain ⟨r7, hr8, h⟩ := bd_e h
    refine r_callV0 (As := [_]) hX hM mw_Le_68 (T_Dy_take _ _ _ hr8) (rc_of ci_7 hk6) rfl rfl ⟨Nat.le_refl _, Nat.le_refl _⟩ rfl rfl d_Le_tellBy_25 ?_
    refine r_aload_n (i := 0) hX d_Le_tellBy_28 0 rfl rfl ?_
    obtain ⟨hk9, h⟩ := gd_e h
    refine r_getR (i := 9) (f := 7) hX ci_9 (by decide) rfl fl_Le_38 hk9 d_Le_tellBy_29 ?_
    refine r_aload_n (i := 0) hX d_Le_tellBy_32 0 rfl rfl ?_
    refine r_getR (i := 9) (f := 2) hX ci_9 (by decide) rfl fl_Le_20 hk9 d_Le_tellBy_33 ?_
    refine r_iload_n (i := 1) hX d_Le_tellBy_36 1 rfl rfl ?_
    obtain ⟨hk10, h⟩ := gd_e h
    obtain ⟨hg11, h⟩ := gd_e h
    refine r_aald (t := 0) (kd := 105) hX (by decide) (fun G => rfl) hk10 hg11 d_Le_tellBy_37 ?_
    obtain ⟨hk12, h⟩ := gd_e h
    obtain ⟨r13, hr14, h⟩ := bd_e h
    refine r_callV0 (As := [_]) hX hM mw_Le_72 (T_Dy_meet _ _ _ hr14) (rc_of ci_7 hk12) rfl rfl ⟨Nat.le_refl _, Nat.le_refl _⟩ rfl rfl d_Le_tellBy_38 ?_
    refine r_aload_n (i := 0) hX d_Le_tellBy_41 0 rfl rfl ?_
    obtain ⟨hk15, h⟩ := gd_e h
    refine r_getR (i := 9) (f := 6) hX ci_9 (by decide) rfl fl_Le_35 hk15 d_Le_tellBy_42 ?_
    refine r_aload_n (i := 0) hX d_Le_tellBy_45 0 rfl rfl ?_
    refine r_getR (i := 9) (f := 2) hX ci_9 (by decide) rfl fl_Le_20 hk15 d_Le_tellBy_46 ?_
    refine r_iload_n (i := 1) hX d_Le_tellBy_49 1 rfl rfl ?_
    obtain ⟨hk16, h⟩ := gd_e h
    obtain ⟨hg17, h⟩ := gd_e h
    refine r_aald (t := 0) (kd := 105) hX (by decide) (fun G => rfl) hk16 hg17 d_Le_tellBy_50 ?_
    obtain ⟨hk18, h⟩ := gd_e h
    obtain ⟨r19, hr20, h⟩ := bd_e h
    refine r_callV0 (As := [_]) hX hM mw_Le_75 (T_Dy_leave _ _ _ hr20) (rc_of ci_7 hk18) rfl rfl ⟨Nat.le_refl _, Nat.le_refl _⟩ rfl rfl d_Le_tellBy_51 ?_
    cases h; exact r_vret hX hR d_Le_tellBy_54
theorem T_Le_tellBy {l : Launch} {G : AG} (a0 : Nat) (x1 : Int32) (w : AW) {o : AW} (h : F_Le_tellBy a0 x1 w = some o) : Mt l G y_Le_tellBy b_Le_tellBy 2 none 2 61 0 0 [vr a0, vi x1] w none o := mt_of (by decide) (Nat.le_of_ble_eq_true rfl) (fun X hX hR hM hI => P_Le_tellBy_0 hX hM hR _ _ _ h)
/-! RedSky$Learner.tryList(I)V -/
theorem d_Le_tryList_0 : decode b_Le_tryList 0 = .ok (.iconst 0, 1) := by decide +kernel
theorem d_Le_tryList_1 : decode b_Le_tryList 1 = .ok (.istore_n 2, 1) := by decide +kernel
theorem d_Le_tryList_2 : decode b_Le_tryList 2 = .ok (.aload_n 0, 1) := by decide +kernel
theorem d_Le_tryList_3 : decode b_Le_tryList 3 = .ok (.getfield 35, 3) := by decide +kernel
theorem d_Le_tryList_6 : decode b_Le_tryList 6 = .ok (.aload_n 0, 1) := by decide +kernel
theorem d_Le_tryList_7 : decode b_Le_tryList 7 = .ok (.getfield 25, 3) := by decide +kernel
theorem d_Le_tryList_10 : decode b_Le_tryList 10 = .ok (.invokevirtual 68, 3) := by decide +kernel
theorem d_Le_tryList_13 : decode b_Le_tryList 13 = .ok (.iconst 0, 1) := by decide +kernel
theorem d_Le_tryList_14 : decode b_Le_tryList 14 = .ok (.istore_n 3, 1) := by decide +kernel
theorem d_Le_tryList_15 : decode b_Le_tryList 15 = .ok (.iload_n 3, 1) := by decide +kernel
theorem d_Le_tryList_16 : decode b_Le_tryList 16 = .ok (.iload_n 1, 1) := by decide +kernel
theorem d_Le_tryList_17 : decode b_Le_tryList 17 = .ok (.if_icmp .ge (60), 3) := by decide +kernel
theorem d_Le_tryList_20 : decode b_Le_tryList 20 = .ok (.iload_n 3, 1) := by decide +kernel
theorem d_Le_tryList_21 : decode b_Le_tryList 21 = .ok (.iconst 2, 1) := by decide +kernel
theorem d_Le_tryList_22 : decode b_Le_tryList 22 = .ok (.if_icmp .ge (55), 3) := by decide +kernel
theorem d_Le_tryList_25 : decode b_Le_tryList 25 = .ok (.aload_n 0, 1) := by decide +kernel
theorem d_Le_tryList_26 : decode b_Le_tryList 26 = .ok (.aload_n 0, 1) := by decide +kernel
theorem d_Le_tryList_27 : decode b_Le_tryList 27 = .ok (.getfield 41, 3) := by decide +kernel
theorem d_Le_tryList_30 : decode b_Le_tryList 30 = .ok (.iload_n 3, 1) := by decide +kernel
theorem d_Le_tryList_31 : decode b_Le_tryList 31 = .ok (.iaload, 1) := by decide +kernel
theorem d_Le_tryList_32 : decode b_Le_tryList 32 = .ok (.invokevirtual 89, 3) := by decide +kernel
theorem d_Le_tryList_35 : decode b_Le_tryList 35 = .ok (.iload_n 2, 1) := by decide +kernel
theorem d_Le_tryList_36 : decode b_Le_tryList 36 = .ok (.aload_n 0, 1) := by decide +kernel
theorem d_Le_tryList_37 : decode b_Le_tryList 37 = .ok (.getfield 38, 3) := by decide +kernel
theorem d_Le_tryList_40 : decode b_Le_tryList 40 = .ok (.aload_n 0, 1) := by decide +kernel
theorem d_Le_tryList_41 : decode b_Le_tryList 41 = .ok (.getfield 32, 3) := by decide +kernel
theorem d_Le_tryList_44 : decode b_Le_tryList 44 = .ok (.invokevirtual 92, 3) := by decide +kernel
theorem d_Le_tryList_47 : decode b_Le_tryList 47 = .ok (.aload_n 0, 1) := by decide +kernel
theorem d_Le_tryList_48 : decode b_Le_tryList 48 = .ok (.getfield 38, 3) := by decide +kernel
theorem d_Le_tryList_51 : decode b_Le_tryList 51 = .ok (.invokevirtual 96, 3) := by decide +kernel
theorem d_Le_tryList_54 : decode b_Le_tryList 54 = .ok (.aload_n 0, 1) := by decide +kernel
theorem d_Le_tryList_55 : decode b_Le_tryList 55 = .ok (.getfield 38, 3) := by decide +kernel
theorem d_Le_tryList_58 : decode b_Le_tryList 58 = .ok (.aload_n 0, 1) := by decide +kernel
theorem d_Le_tryList_59 : decode b_Le_tryList 59 = .ok (.getfield 32, 3) := by decide +kernel
theorem d_Le_tryList_62 : decode b_Le_tryList 62 = .ok (.invokevirtual 92, 3) := by decide +kernel
theorem d_Le_tryList_65 : decode b_Le_tryList 65 = .ok (.isub, 1) := by decide +kernel
theorem d_Le_tryList_66 : decode b_Le_tryList 66 = .ok (.invokestatic 100, 3) := by decide +kernel
theorem d_Le_tryList_69 : decode b_Le_tryList 69 = .ok (.iadd, 1) := by decide +kernel
theorem d_Le_tryList_70 : decode b_Le_tryList 70 = .ok (.istore_n 2, 1) := by decide +kernel
theorem d_Le_tryList_71 : decode b_Le_tryList 71 = .ok (.iinc 3 (1), 3) := by decide +kernel
theorem d_Le_tryList_74 : decode b_Le_tryList 74 = .ok (.goto (-59), 3) := by decide +kernel
theorem d_Le_tryList_77 : decode b_Le_tryList 77 = .ok (.iload_n 2, 1) := by decide +kernel
theorem d_Le_tryList_78 : decode b_Le_tryList 78 = .ok (.aload_n 0, 1) := by decide +kernel
theorem d_Le_tryList_79 : decode b_Le_tryList 79 = .ok (.getfield 35, 3) := by decide +kernel
theorem d_Le_tryList_82 : decode b_Le_tryList 82 = .ok (.aload_n 0, 1) := by decide +kernel
theorem d_Le_tryList_83 : decode b_Le_tryList 83 = .ok (.getfield 32, 3) := by decide +kernel
theorem d_Le_tryList_86 : decode b_Le_tryList 86 = .ok (.invokevirtual 92, 3) := by decide +kernel
theorem d_Le_tryList_89 : decode b_Le_tryList 89 = .ok (.aload_n 0, 1) := by decide +kernel
theorem d_Le_tryList_90 : decode b_Le_tryList 90 = .ok (.getfield 35, 3) := by decide +kernel
theorem d_Le_tryList_93 : decode b_Le_tryList 93 = .ok (.invokevirtual 96, 3) := by decide +kernel
theorem d_Le_tryList_96 : decode b_Le_tryList 96 = .ok (.aload_n 0, 1) := by decide +kernel
theorem d_Le_tryList_97 : decode b_Le_tryList 97 = .ok (.getfield 35, 3) := by decide +kernel
theorem d_Le_tryList_100 : decode b_Le_tryList 100 = .ok (.aload_n 0, 1) := by decide +kernel
theorem d_Le_tryList_101 : decode b_Le_tryList 101 = .ok (.getfield 32, 3) := by decide +kernel
theorem d_Le_tryList_104 : decode b_Le_tryList 104 = .ok (.invokevirtual 92, 3) := by decide +kernel
theorem d_Le_tryList_107 : decode b_Le_tryList 107 = .ok (.isub, 1) := by decide +kernel
theorem d_Le_tryList_108 : decode b_Le_tryList 108 = .ok (.invokestatic 100, 3) := by decide +kernel
theorem d_Le_tryList_111 : decode b_Le_tryList 111 = .ok (.iadd, 1) := by decide +kernel
theorem d_Le_tryList_112 : decode b_Le_tryList 112 = .ok (.istore_n 2, 1) := by decide +kernel
theorem d_Le_tryList_113 : decode b_Le_tryList 113 = .ok (.iload_n 2, 1) := by decide +kernel
theorem d_Le_tryList_114 : decode b_Le_tryList 114 = .ok (.aload_n 0, 1) := by decide +kernel
theorem d_Le_tryList_115 : decode b_Le_tryList 115 = .ok (.getfield 15, 3) := by decide +kernel
theorem d_Le_tryList_118 : decode b_Le_tryList 118 = .ok (.if_icmp .le (27), 3) := by decide +kernel
theorem d_Le_tryList_121 : decode b_Le_tryList 121 = .ok (.aload_n 0, 1) := by decide +kernel
theorem d_Le_tryList_122 : decode b_Le_tryList 122 = .ok (.iload_n 2, 1) := by decide +kernel
theorem d_Le_tryList_123 : decode b_Le_tryList 123 = .ok (.putfield 15, 3) := by decide +kernel
theorem d_Le_tryList_126 : decode b_Le_tryList 126 = .ok (.aload_n 0, 1) := by decide +kernel
theorem d_Le_tryList_127 : decode b_Le_tryList 127 = .ok (.iload_n 1, 1) := by decide +kernel
theorem d_Le_tryList_128 : decode b_Le_tryList 128 = .ok (.putfield 52, 3) := by decide +kernel
theorem d_Le_tryList_131 : decode b_Le_tryList 131 = .ok (.aload_n 0, 1) := by decide +kernel
theorem d_Le_tryList_132 : decode b_Le_tryList 132 = .ok (.getfield 41, 3) := by decide +kernel
theorem d_Le_tryList_135 : decode b_Le_tryList 135 = .ok (.iconst 0, 1) := by decide +kernel
theorem d_Le_tryList_136 : decode b_Le_tryList 136 = .ok (.aload_n 0, 1) := by decide +kernel
theorem d_Le_tryList_137 : decode b_Le_tryList 137 = .ok (.getfield 45, 3) := by decide +kernel
theorem d_Le_tryList_140 : decode b_Le_tryList 140 = .ok (.iconst 0, 1) := by decide +kernel
theorem d_Le_tryList_141 : decode b_Le_tryList 141 = .ok (.iconst 2, 1) := by decide +kernel
theorem d_Le_tryList_142 : decode b_Le_tryList 142 = .ok (.invokestatic 106, 3) := by decide +kernel
theorem d_Le_tryList_145 : decode b_Le_tryList 145 = .ok (.return_, 1) := by decide +kernel
def F_Le_tryList_77 (a0 : Nat) (x1 : Int32) (x2 : Int32) (w : AW) : Option (AW) :=
  gd (wk w a0 == 10) <|
  gd (wk w (wr w a0 6) == 8) <|
  (F_Dy_sizeWith w (wr w a0 6) (wr w a0 5)).bind fun r3 =>
  (F_Dy_size w (wr w a0 6)).bind fun r5 =>
  (F_Dy_sizeWith w (wr w a0 6) (wr w a0 5)).bind fun r7 =>
  let v9 : Int32 := (x2 + (F_Jmath_max r3 (r5 - r7)))
  if v9 ≤ (wi w a0 1) then
    some w
  else
    let w10 : AW := upI w a0 1 v9
    let w11 : AW := upI w10 a0 11 x1
    gd (wk w11 (wr w11 a0 8) == 100) <|
    gd (wk w11 (wr w11 a0 9) == 100) <|
    gd (cpok (0 : Int32) (0 : Int32) (2 : Int32) (wn w11 (wr w11 a0 8)) (wn w11 (wr w11 a0 9))) <|
    let w15 : AW := cpI w11 (wr w11 a0 8) (wr w11 a0 9) (Int32.toNatClampNeg (0 : Int32)) (Int32.toNatClampNeg (0 : Int32)) (Int32.toNatClampNeg (2 : Int32))
    some w15
theorem P_Le_tryList_77 {X : AX} {l : Launch} {G : AG} (hX : XOK X b_Le_tryList "RedSky$Learner" 4) (hM : XM X l G { frames := 3, cells := 0, slots := 0, locals := 82 }) {o : AW} (hR : XR X none 0 0 none o) (a0 : Nat) (x1 : Int32) (x2 : Int32) (w : AW) (h : F_Le_tryList_77 a0 x1 x2 w = some o) : RJ X 4 0 0 77 [(0, vr a0), (1, vi x1), (2, vi x2)] [] w := by
  unfold F_Le_tryList_77 at h
  refine r_iload_n (i := 2) hX d_Le_tryList_77 2 rfl rfl ?_
  refine r_aload_n (i := 0) hX d_Le_tryList_78 0 rfl rfl ?_
  obtain ⟨hk1, h⟩ := gd_e h
  refine r_getR (i := 9) (f := 6) hX ci_9 (by decide) rfl fl_Le_35 hk1 d_Le_tryList_79 ?_
  refine r_aload_n (i := 0) hX d_Le_tryList_82 0 rfl rfl ?_
  refine r_getR (i := 9) (f := 5) hX ci_9 (by decide) rfl fl_Le_32 hk1 d_Le_tryList_83 ?_
  obtain ⟨hk2, h⟩ := gd_e h
  obtain ⟨r3, hr4, h⟩ := bd_e h
  refine r_callV1 (As := [_]) hX hM mw_Le_92 (T_Dy_sizeWith _ _ _ hr4) (rc_of ci_7 hk2) rfl rfl ⟨Nat.le_refl _, Nat.le_refl _⟩ rfl rfl d_Le_tryList_86 ?_
  refine r_aload_n (i := 0) hX d_Le_tryList_89 0 rfl rfl ?_
  refine r_getR (i := 9) (f := 6) hX ci_9 (by decide) rfl fl_Le_35 hk1 d_Le_tryList_90 ?_
  obtain ⟨r5, hr6, h⟩ := bd_e h
  refine r_callV1 (As := []) hX hM mw_Le_96 (T_Dy_size _ _ hr6) (rc_of ci_7 hk2) rfl rfl ⟨Nat.le_refl _, Nat.le_refl _⟩ rfl rfl d_Le_tryList_93 ?_
  refine r_aload_n (i := 0) hX d_Le_tryList_96 0 rfl rfl ?_
  refine r_getR (i := 9) (f := 6) hX ci_9 (by decide) rfl fl_Le_35 hk1 d_Le_tryList_97 ?_
  refine r_aload_n (i := 0) hX d_Le_tryList_100 0 rfl rfl ?_
  refine r_getR (i := 9) (f := 5) hX ci_9 (by decide) rfl fl_Le_32 hk1 d_Le_tryList_101 ?_
  obtain ⟨r7, hr8, h⟩ := bd_e h
  refine r_callV1 (As := [_]) hX hM mw_Le_92 (T_Dy_sizeWith _ _ _ hr8) (rc_of ci_7 hk2) rfl rfl ⟨Nat.le_refl _, Nat.le_refl _⟩ rfl rfl d_Le_tryList_104 ?_
  refine r_isub hX d_Le_tryList_107 ?_
  refine r_max hX hM mx_Le_100 rfl rfl ⟨Nat.le_refl _, Nat.le_refl _⟩ d_Le_tryList_108 ?_
  refine r_iadd hX d_Le_tryList_111 ?_
  refine r_istore_n (i := 2) hX d_Le_tryList_112 rfl (by decide) ?_
  refine r_iload_n (i := 2) hX d_Le_tryList_113 0 rfl rfl ?_
  refine r_aload_n (i := 0) hX d_Le_tryList_114 1 rfl rfl ?_
  refine r_getI (i := 9) (f := 1) hX ci_9 (by decide) rfl fl_Le_15 hk1 d_Le_tryList_115 ?_
  refine r_icmp_le hX d_Le_tryList_118 rfl h (fun h => ?_) (fun h => ?_)
  · cases h; exact r_vret hX hR d_Le_tryList_145
  · refine r_aload_n (i := 0) hX d_Le_tryList_121 1 rfl rfl ?_
    refine r_iload_n (i := 2) hX d_Le_tryList_122 0 rfl rfl ?_
    refine r_putI (i := 9) (f := 1) hX ci_9 (by decide) rfl rfl (fun G => rfl) (fun G => rfl) fl_Le_15 hk1 d_Le_tryList_123 ?_
    refine r_aload_n (i := 0) hX d_Le_tryList_126 1 rfl rfl ?_
    refine r_iload_n (i := 1) hX d_Le_tryList_127 2 rfl rfl ?_
    refine r_putI (i := 9) (f := 11) hX ci_9 (by decide) rfl rfl (fun G => rfl) (fun G => rfl) fl_Le_52 (kI hk1) d_Le_tryList_128 ?_
    refine r_aload_n (i := 0) hX d_Le_tryList_131 1 rfl rfl ?_
    refine r_getR (i := 9) (f := 8) hX ci_9 (by decide) rfl fl_Le_41 (kI (kI hk1)) d_Le_tryList_132 ?_
    refine r_iconst (v := (0 : Int32)) hX d_Le_tryList_135 rfl ?_
    refine r_aload_n (i := 0) hX d_Le_tryList_136 1 rfl rfl ?_
    refine r_getR (i := 9) (f := 9) hX ci_9 (by decide) rfl fl_Le_45 (kI (kI hk1)) d_Le_tryList_137 ?_
    refine r_iconst (v := (0 : Int32)) hX d_Le_tryList_140 rfl ?_
    refine r_iconst (v := (2 : Int32)) hX d_Le_tryList_141 rfl ?_
    obtain ⟨hk12, h⟩ := gd_e h
    obtain ⟨hk13, h⟩ := gd_e h
    obtain ⟨hg14, h⟩ := gd_e h
    refine r_acopyI hX hM acw_Le_106 hk12 hk13 hg14 (by decide) (by decide) d_Le_tryList_142 ?_
    cases h; exact r_vret hX hR d_Le_tryList_145
def F_Le_tryList_15_B (rec15 : Nat → Int32 → Int32 → Int32 → AW → Option (AW)) (a0 : Nat) (x1 : Int32) (x2 : Int32) (x3 : Int32) (w : AW) : Option (AW) :=
  if x1 ≤ x3 then
    F_Le_tryList_77 a0 x1 x2 w
  else
    if (2 : Int32) ≤ x3 then
      F_Le_tryList_77 a0 x1 x2 w
    else
      gd (wk w a0 == 10) <|
      gd (wk w (wr w a0 8) == 100) <|
      gd (inb x3 (wn w (wr w a0 8))) <|
      (F_Le_tellBy a0 (wi w (wr w a0 8) (Int32.toNatClampNeg x3)) w).bind fun r4 =>
      gd (wk r4 a0 == 10) <|
      gd (wk r4 (wr r4 a0 7) == 8) <|
      (F_Dy_sizeWith r4 (wr r4 a0 7) (wr r4 a0 5)).bind fun r8 =>
      (F_Dy_size r4 (wr r4 a0 7)).bind fun r10 =>
      (F_Dy_sizeWith r4 (wr r4 a0 7) (wr r4 a0 5)).bind fun r12 =>
      let v14 : Int32 := (x2 + (F_Jmath_max r8 (r10 - r12)))
      let v15 : Int32 := (x3 + (1 : Int32))
      rec15 a0 x1 v14 v15 r4
theorem P_Le_tryList_15_B {X : AX} {l : Launch} {G : AG} {rec15 : Nat → Int32 → Int32 → Int32 → AW → Option (AW)} (hX : XOK X b_Le_tryList "RedSky$Learner" 4) (hM : XM X l G { frames := 3, cells := 0, slots := 0, locals := 82 }) {o : AW} (hR : XR X none 0 0 none o) (hrec15 : ∀ (a0 : Nat) (x1 : Int32) (x2 : Int32) (x3 : Int32) (w : AW), rec15 a0 x1 x2 x3 w = some o → RJ X 4 0 0 15 [(0, vr a0), (1, vi x1), (2, vi x2), (3, vi x3)] [] w) (a0 : Nat) (x1 : Int32) (x2 : Int32) (x3 : Int32) (w : AW) (h : F_Le_tryList_15_B rec15 a0 x1 x2 x3 w = some o) : RJ X 4 0 0 15 [(0, vr a0), (1, vi x1), (2, vi x2), (3, vi x3)] [] w := by
  unfold F_Le_tryList_15_B at h
  refine r_iload_n (i := 3) hX d_Le_tryList_15 3 rfl rfl ?_
  refine r_iload_n (i := 1) hX d_Le_tryList_16 1 rfl rfl ?_
  refine r_icmp_ge hX d_Le_tryList_17 rfl h (fun h => ?_) (fun h => ?_)
  · exact rj_sub [0, 1, 2] rfl (P_Le_tryList_77 hX hM hR _ _ _ _ h)
  · refine r_iload_n (i := 3) hX d_Le_tryList_20 3 rfl rfl ?_
    refine r_iconst (v := (2 : Int32)) hX d_Le_tryList_21 rfl ?_
    refine r_icmp_ge hX d_Le_tryList_22 rfl h (fun h => ?_) (fun h => ?_)
    · exact rj_sub [0, 1, 2] rfl (P_Le_tryList_77 hX hM hR _ _ _ _ h)
    · refine r_aload_n (i := 0) hX d_Le_tryList_25 0 rfl rfl ?_
      refine r_aload_n (i := 0) hX d_Le_tryList_26 0 rfl rfl ?_
      obtain ⟨hk1, h⟩ := gd_e h
      refine r_getR (i := 9) (f := 8) hX ci_9 (by decide) rfl fl_Le_41 hk1 d_Le_tryList_27 ?_
      refine r_iload_n (i := 3) hX d_Le_tryList_30 3 rfl rfl ?_
      obtain ⟨hk2, h⟩ := gd_e h
      obtain ⟨hg3, h⟩ := gd_e h
      refine r_iald hX hk2 hg3 d_Le_tryList_31 ?_
      obtain ⟨r4, hr5, h⟩ := bd_e h
      refine r_callV0 (As := [_]) hX hM mw_Le_89 (T_Le_tellBy _ _ _ hr5) (rc_of ci_9 hk1) rfl rfl ⟨Nat.le_refl _, Nat.le_refl _⟩ rfl rfl d_Le_tryList_32 ?_
      refine r_iload_n (i := 2) hX d_Le_tryList_35 2 rfl rfl ?_
      refine r_aload_n (i := 0) hX d_Le_tryList_36 0 rfl rfl ?_
      obtain ⟨hk6, h⟩ := gd_e h
      refine r_getR (i := 9) (f := 7) hX ci_9 (by decide) rfl fl_Le_38 hk6 d_Le_tryList_37 ?_
      refine r_aload_n (i := 0) hX d_Le_tryList_40 0 rfl rfl ?_
      refine r_getR (i := 9) (f := 5) hX ci_9 (by decide) rfl fl_Le_32 hk6 d_Le_tryList_41 ?_
      obtain ⟨hk7, h⟩ := gd_e h
      obtain ⟨r8, hr9, h⟩ := bd_e h
      refine r_callV1 (As := [_]) hX hM mw_Le_92 (T_Dy_sizeWith _ _ _ hr9) (rc_of ci_7 hk7) rfl rfl ⟨Nat.le_refl _, Nat.le_refl _⟩ rfl rfl d_Le_tryList_44 ?_
      refine r_aload_n (i := 0) hX d_Le_tryList_47 0 rfl rfl ?_
      refine r_getR (i := 9) (f := 7) hX ci_9 (by decide) rfl fl_Le_38 hk6 d_Le_tryList_48 ?_
      obtain ⟨r10, hr11, h⟩ := bd_e h
      refine r_callV1 (As := []) hX hM mw_Le_96 (T_Dy_size _ _ hr11) (rc_of ci_7 hk7) rfl rfl ⟨Nat.le_refl _, Nat.le_refl _⟩ rfl rfl d_Le_tryList_51 ?_
      refine r_aload_n (i := 0) hX d_Le_tryList_54 0 rfl rfl ?_
      refine r_getR (i := 9) (f := 7) hX ci_9 (by decide) rfl fl_Le_38 hk6 d_Le_tryList_55 ?_
      refine r_aload_n (i := 0) hX d_Le_tryList_58 0 rfl rfl ?_
      refine r_getR (i := 9) (f := 5) hX ci_9 (by decide) rfl fl_Le_32 hk6 d_Le_tryList_59 ?_
      obtain ⟨r12, hr13, h⟩ := bd_e h
      refine r_callV1 (As := [_]) hX hM mw_Le_92 (T_Dy_sizeWith _ _ _ hr13) (rc_of ci_7 hk7) rfl rfl ⟨Nat.le_refl _, Nat.le_refl _⟩ rfl rfl d_Le_tryList_62 ?_
      refine r_isub hX d_Le_tryList_65 ?_
      refine r_max hX hM mx_Le_100 rfl rfl ⟨Nat.le_refl _, Nat.le_refl _⟩ d_Le_tryList_66 ?_
      refine r_iadd hX d_Le_tryList_69 ?_
      refine r_istore_n (i := 2) hX d_Le_tryList_70 rfl (by decide) ?_
      refine r_iinc (i := 3) (v := (1 : Int32)) hX d_Le_tryList_71 3 rfl rfl (by decide) ?_
      refine r_goto hX d_Le_tryList_74 rfl ?_
      exact rj_sub [2, 3, 1, 0] rfl (hrec15 _ _ _ _ _ h)
def F_Le_tryList_15 : Nat → Nat → Int32 → Int32 → Int32 → AW → Option (AW)
  | 0 => fun _ _ _ _ _ => none
  | n + 1 => fun a0 x1 x2 x3 w => F_Le_tryList_15_B (F_Le_tryList_15 n) a0 x1 x2 x3 w
theorem P_Le_tryList_15 {X : AX} {l : Launch} {G : AG} (hX : XOK X b_Le_tryList "RedSky$Learner" 4) (hM : XM X l G { frames := 3, cells := 0, slots := 0, locals := 82 }) {o : AW} (hR : XR X none 0 0 none o) (fu : Nat) : ∀ (a0 : Nat) (x1 : Int32) (x2 : Int32) (x3 : Int32) (w : AW), F_Le_tryList_15 fu a0 x1 x2 x3 w = some o → RJ X 4 0 0 15 [(0, vr a0), (1, vi x1), (2, vi x2), (3, vi x3)] [] w := by
  induction fu with
  | zero => intro a0 x1 x2 x3 w h; cases h
  | succ n9 ih => intro a0 x1 x2 x3 w h; exact P_Le_tryList_15_B hX hM hR ih _ _ _ _ _ h
def F_Le_tryList (a0 : Nat) (x1 : Int32) (w : AW) : Option (AW) :=
  gd (wk w a0 == 10) <|
  gd (wk w (wr w a0 6) == 8) <|
  (F_Dy_take (wr w a0 6) (wr w a0 3) w).bind fun r3 =>
  F_Le_tryList_15 FUEL a0 x1 (0 : Int32) (0 : Int32) r3
theorem P_Le_tryList_0 {X : AX} {l : Launch} {G : AG} (hX : XOK X b_Le_tryList "RedSky$Learner" 4) (hM : XM X l G { frames := 3, cells := 0, slots := 0, locals := 82 }) {o : AW} (hR : XR X none 0 0 none o) (a0 : Nat) (x1 : Int32) (w : AW) (h : F_Le_tryList a0 x1 w = some o) : RJ X 4 0 0 0 [(0, vr a0), (1, vi x1)] [] w := by
  unfold F_Le_tryList at h
  refine r_iconst (v := (0 : Int32)) hX d_Le_tryList_0 rfl ?_
  refine r_istore_n (i := 2) hX d_Le_tryList_1 rfl (by decide) ?_
  refine r_aload_n (i := 0) hX d_Le_tryList_2 1 rfl rfl ?_
  obtain ⟨hk1, h⟩ := gd_e h
  refine r_getR (i := 9) (f := 6) hX ci_9 (by decide) rfl fl_Le_35 hk1 d_Le_tryList_3 ?_
  refine r_aload_n (i := 0) hX d_Le_tryList_6 1 rfl rfl ?_
  refine r_getR (i := 9) (f := 3) hX ci_9 (by decide) rfl fl_Le_25 hk1 d_Le_tryList_7 ?_
  obtain ⟨hk2, h⟩ := gd_e h
  obtain ⟨r3, hr4, h⟩ := bd_e h
  refine r_callV0 (As := [_]) hX hM mw_Le_68 (T_Dy_take _ _ _ hr4) (rc_of ci_7 hk2) rfl rfl ⟨Nat.le_refl _, Nat.le_refl _⟩ rfl rfl d_Le_tryList_10 ?_
  refine r_iconst (v := (0 : Int32)) hX d_Le_tryList_13 rfl ?_
  refine r_istore_n (i := 3) hX d_Le_tryList_14 rfl (by decide) ?_
  exact rj_sub [2, 3, 1, 0] rfl (P_Le_tryList_15 hX hM hR FUEL _ _ _ _ _ h)
theorem T_Le_tryList {l : Launch} {G : AG} (a0 : Nat) (x1 : Int32) (w : AW) {o : AW} (h : F_Le_tryList a0 x1 w = some o) : Mt l G y_Le_tryList b_Le_tryList 4 none 3 82 0 0 [vr a0, vi x1] w none o := mt_of (by decide) (Nat.le_of_ble_eq_true rfl) (fun X hX hR hM hI => P_Le_tryList_0 hX hM hR _ _ _ h)
/-! RedSky$Learner.isMostlyTrue(LRedSky$Days;)Z -/
theorem d_Le_isMostlyTrue_0 : decode b_Le_isMostlyTrue 0 = .ok (.iconst 2, 1) := by decide +kernel
theorem d_Le_isMostlyTrue_1 : decode b_Le_isMostlyTrue 1 = .ok (.aload_n 1, 1) := by decide +kernel
theorem d_Le_isMostlyTrue_2 : decode b_Le_isMostlyTrue 2 = .ok (.aload_n 0, 1) := by decide +kernel
theorem d_Le_isMostlyTrue_3 : decode b_Le_isMostlyTrue 3 = .ok (.getfield 32, 3) := by decide +kernel
theorem d_Le_isMostlyTrue_6 : decode b_Le_isMostlyTrue 6 = .ok (.invokevirtual 92, 3) := by decide +kernel
theorem d_Le_isMostlyTrue_9 : decode b_Le_isMostlyTrue 9 = .ok (.imul, 1) := by decide +kernel
theorem d_Le_isMostlyTrue_10 : decode b_Le_isMostlyTrue 10 = .ok (.aload_n 1, 1) := by decide +kernel
theorem d_Le_isMostlyTrue_11 : decode b_Le_isMostlyTrue 11 = .ok (.invokevirtual 96, 3) := by decide +kernel
theorem d_Le_isMostlyTrue_14 : decode b_Le_isMostlyTrue 14 = .ok (.if_icmp .le (7), 3) := by decide +kernel
theorem d_Le_isMostlyTrue_17 : decode b_Le_isMostlyTrue 17 = .ok (.iconst 1, 1) := by decide +kernel
theorem d_Le_isMostlyTrue_18 : decode b_Le_isMostlyTrue 18 = .ok (.goto (4), 3) := by decide +kernel
theorem d_Le_isMostlyTrue_21 : decode b_Le_isMostlyTrue 21 = .ok (.iconst 0, 1) := by decide +kernel
theorem d_Le_isMostlyTrue_22 : decode b_Le_isMostlyTrue 22 = .ok (.ireturn, 1) := by decide +kernel
def F_Le_isMostlyTrue (w : AW) (a0 : Nat) (a1 : Nat) : Option (Int32) :=
  gd (wk w a0 == 10) <|
  gd (wk w a1 == 8) <|
  (F_Dy_sizeWith w a1 (wr w a0 5)).bind fun r3 =>
  (F_Dy_size w a1).bind fun r5 =>
  if ((2 : Int32) * r3) ≤ r5 then
    some (0 : Int32)
  else
    some (1 : Int32)
theorem P_Le_isMostlyTrue_0 {X : AX} {l : Launch} {G : AG} {w : AW} (hX : XOK X b_Le_isMostlyTrue "RedSky$Learner" 2) (hM : XM X l G { frames := 2, cells := 0, slots := 0, locals := 44 }) {o : Int32} (hR : XR X (some .boolean) 0 0 (some (vi o)) w) (a0 : Nat) (a1 : Nat) (h : F_Le_isMostlyTrue w a0 a1 = some o) : RJ X 2 0 0 0 [(0, vr a0), (1, vr a1)] [] w := by
  unfold F_Le_isMostlyTrue at h
  refine r_iconst (v := (2 : Int32)) hX d_Le_isMostlyTrue_0 rfl ?_
  refine r_aload_n (i := 1) hX d_Le_isMostlyTrue_1 1 rfl rfl ?_
  refine r_aload_n (i := 0) hX d_Le_isMostlyTrue_2 0 rfl rfl ?_
  obtain ⟨hk1, h⟩ := gd_e h
  refine r_getR (i := 9) (f := 5) hX ci_9 (by decide) rfl fl_Le_32 hk1 d_Le_isMostlyTrue_3 ?_
  obtain ⟨hk2, h⟩ := gd_e h
  obtain ⟨r3, hr4, h⟩ := bd_e h
  refine r_callV1 (As := [_]) hX hM mw_Le_92 (T_Dy_sizeWith _ _ _ hr4) (rc_of ci_7 hk2) rfl rfl ⟨Nat.le_refl _, Nat.le_refl _⟩ rfl rfl d_Le_isMostlyTrue_6 ?_
  refine r_imul hX d_Le_isMostlyTrue_9 ?_
  refine r_aload_n (i := 1) hX d_Le_isMostlyTrue_10 1 rfl rfl ?_
  obtain ⟨r5, hr6, h⟩ := bd_e h
  refine r_callV1 (As := []) hX hM mw_Le_96 (T_Dy_size _ _ hr6) (rc_of ci_7 hk2) rfl rfl ⟨Nat.le_refl _, Nat.le_refl _⟩ rfl rfl d_Le_isMostlyTrue_11 ?_
  refine r_icmp_le hX d_Le_isMostlyTrue_14 rfl h (fun h => ?_) (fun h => ?_)
  · refine r_iconst (v := (0 : Int32)) hX d_Le_isMostlyTrue_21 rfl ?_
    cases h; exact r_zret hX hR rfl d_Le_isMostlyTrue_22
  · refine r_iconst (v := (1 : Int32)) hX d_Le_isMostlyTrue_17 rfl ?_
    refine r_goto hX d_Le_isMostlyTrue_18 rfl ?_
    cases h; exact r_zret hX hR rfl d_Le_isMostlyTrue_22
theorem T_Le_isMostlyTrue {l : Launch} {G : AG} (w : AW) (a0 : Nat) (a1 : Nat) {o : Int32} (h : F_Le_isMostlyTrue w a0 a1 = some o) : Mt l G y_Le_isMostlyTrue b_Le_isMostlyTrue 2 (some (.boolean)) 2 44 0 0 [vr a0, vr a1] w (some (vi o)) w := mt_of (by decide) (Nat.le_of_ble_eq_true rfl) (fun X hX hR hM hI => P_Le_isMostlyTrue_0 hX hM hR _ _ h)
/-! RedSky$Learner.rightOn(LRedSky$Days;Z)I -/
theorem d_Le_rightOn_0 : decode b_Le_rightOn 0 = .ok (.aload_n 1, 1) := by decide +kernel
theorem d_Le_rightOn_1 : decode b_Le_rightOn 1 = .ok (.aload_n 0, 1) := by decide +kernel
theorem d_Le_rightOn_2 : decode b_Le_rightOn 2 = .ok (.getfield 32, 3) := by decide +kernel
theorem d_Le_rightOn_5 : decode b_Le_rightOn 5 = .ok (.invokevirtual 92, 3) := by decide +kernel
theorem d_Le_rightOn_8 : decode b_Le_rightOn 8 = .ok (.istore_n 3, 1) := by decide +kernel
theorem d_Le_rightOn_9 : decode b_Le_rightOn 9 = .ok (.iload_n 2, 1) := by decide +kernel
theorem d_Le_rightOn_10 : decode b_Le_rightOn 10 = .ok (.ifCond .eq (7), 3) := by decide +kernel
theorem d_Le_rightOn_13 : decode b_Le_rightOn 13 = .ok (.iload_n 3, 1) := by decide +kernel
theorem d_Le_rightOn_14 : decode b_Le_rightOn 14 = .ok (.goto (9), 3) := by decide +kernel
theorem d_Le_rightOn_17 : decode b_Le_rightOn 17 = .ok (.aload_n 1, 1) := by decide +kernel
theorem d_Le_rightOn_18 : decode b_Le_rightOn 18 = .ok (.invokevirtual 96, 3) := by decide +kernel
theorem d_Le_rightOn_21 : decode b_Le_rightOn 21 = .ok (.iload_n 3, 1) := by decide +kernel
theorem d_Le_rightOn_22 : decode b_Le_rightOn 22 = .ok (.isub, 1) := by decide +kernel
theorem d_Le_rightOn_23 : decode b_Le_rightOn 23 = .ok (.ireturn, 1) := by decide +kernel
def F_Le_rightOn (w : AW) (a0 : Nat) (a1 : Nat) (x2 : Int32) : Option (Int32) :=
  gd (wk w a0 == 10) <|
  gd (wk w a1 == 8) <|
  (F_Dy_sizeWith w a1 (wr w a0 5)).bind fun r3 =>
  if x2 = 0 then
    (F_Dy_size w a1).bind fun r5 =>
    some (r5 - r3)
  else
    some r3
theorem P_Le_rightOn_0 {X : AX} {l : Launch} {G : AG} {w : AW} (hX : XOK X b_Le_rightOn "RedSky$Learner" 4) (hM : XM X l G { frames := 2, cells := 0, slots := 0, locals := 44 }) {o : Int32} (hR : XR X (some .int) 0 0 (some (vi o)) w) (a0 : Nat) (a1 : Nat) (x2 : Int32) (h : F_Le_rightOn w a0 a1 x2 = some o) : RJ X 4 0 0 0 [(0, vr a0), (1, vr a1), (2, vi x2)] [] w := by
  unfold F_Le_rightOn at h
  refine r_aload_n (i := 1) hX d_Le_rightOn_0 1 rfl rfl ?_
  refine r_aload_n (i := 0) hX d_Le_rightOn_1 0 rfl rfl ?_
  obtain ⟨hk1, h⟩ := gd_e h
  refine r_getR (i := 9) (f := 5) hX ci_9 (by decide) rfl fl_Le_32 hk1 d_Le_rightOn_2 ?_
  obtain ⟨hk2, h⟩ := gd_e h
  obtain ⟨r3, hr4, h⟩ := bd_e h
  refine r_callV1 (As := [_]) hX hM mw_Le_92 (T_Dy_sizeWith _ _ _ hr4) (rc_of ci_7 hk2) rfl rfl ⟨Nat.le_refl _, Nat.le_refl _⟩ rfl rfl d_Le_rightOn_5 ?_
  refine r_istore_n (i := 3) hX d_Le_rightOn_8 rfl (by decide) ?_
  refine r_iload_n (i := 2) hX d_Le_rightOn_9 3 rfl rfl ?_
  refine r_if_eq hX d_Le_rightOn_10 rfl h (fun h => ?_) (fun h => ?_)
  · refine r_aload_n (i := 1) hX d_Le_rightOn_17 2 rfl rfl ?_
    obtain ⟨r5, hr6, h⟩ := bd_e h
    refine r_callV1 (As := []) hX hM mw_Le_96 (T_Dy_size _ _ hr6) (rc_of ci_7 hk2) rfl rfl ⟨Nat.le_refl _, Nat.le_refl _⟩ rfl rfl d_Le_rightOn_18 ?_
    refine r_iload_n (i := 3) hX d_Le_rightOn_21 0 rfl rfl ?_
    refine r_isub hX d_Le_rightOn_22 ?_
    cases h; exact r_iret hX hR d_Le_rightOn_23
  · refine r_iload_n (i := 3) hX d_Le_rightOn_13 0 rfl rfl ?_
    refine r_goto hX d_Le_rightOn_14 rfl ?_
    cases h; exact r_iret hX hR d_Le_rightOn_23
theorem T_Le_rightOn {l : Launch} {G : AG} (w : AW) (a0 : Nat) (a1 : Nat) (x2 : Int32) {o : Int32} (h : F_Le_rightOn w a0 a1 x2 = some o) : Mt l G y_Le_rightOn b_Le_rightOn 4 (some (.int)) 2 44 0 0 [vr a0, vr a1, vi x2] w (some (vi o)) w := mt_of (by decide) (Nat.le_of_ble_eq_true rfl) (fun X hX hR hM hI => P_Le_rightOn_0 hX hM hR _ _ _ h)
