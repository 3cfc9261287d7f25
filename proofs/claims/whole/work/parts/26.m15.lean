/-! RedSky.sourceOf(LRedSky$Almanac;I)I -/
theorem d_A_sourceOf_0 : decode b_A_sourceOf 0 = .ok (.iconst (-1), 1) := by decide +kernel
theorem d_A_sourceOf_1 : decode b_A_sourceOf 1 = .ok (.istore_n 3, 1) := by decide +kernel
theorem d_A_sourceOf_2 : decode b_A_sourceOf 2 = .ok (.iconst 0, 1) := by decide +kernel
theorem d_A_sourceOf_3 : decode b_A_sourceOf 3 = .ok (.istore 4, 2) := by decide +kernel
theorem d_A_sourceOf_5 : decode b_A_sourceOf 5 = .ok (.iconst 0, 1) := by decide +kernel
theorem d_A_sourceOf_6 : decode b_A_sourceOf 6 = .ok (.istore 5, 2) := by decide +kernel
theorem d_A_sourceOf_8 : decode b_A_sourceOf 8 = .ok (.iload 5, 2) := by decide +kernel
theorem d_A_sourceOf_10 : decode b_A_sourceOf 10 = .ok (.bipush (6), 2) := by decide +kernel
theorem d_A_sourceOf_12 : decode b_A_sourceOf 12 = .ok (.if_icmp .ge (84), 3) := by decide +kernel
theorem d_A_sourceOf_15 : decode b_A_sourceOf 15 = .ok (.aload_n 0, 1) := by decide +kernel
theorem d_A_sourceOf_16 : decode b_A_sourceOf 16 = .ok (.getfield 72, 3) := by decide +kernel
theorem d_A_sourceOf_19 : decode b_A_sourceOf 19 = .ok (.iload 5, 2) := by decide +kernel
theorem d_A_sourceOf_21 : decode b_A_sourceOf 21 = .ok (.aaload, 1) := by decide +kernel
theorem d_A_sourceOf_22 : decode b_A_sourceOf 22 = .ok (.getfield 299, 3) := by decide +kernel
theorem d_A_sourceOf_25 : decode b_A_sourceOf 25 = .ok (.aload_n 1, 1) := by decide +kernel
theorem d_A_sourceOf_26 : decode b_A_sourceOf 26 = .ok (.getfield 299, 3) := by decide +kernel
theorem d_A_sourceOf_29 : decode b_A_sourceOf 29 = .ok (.if_icmp .lt (6), 3) := by decide +kernel
theorem d_A_sourceOf_32 : decode b_A_sourceOf 32 = .ok (.goto (58), 3) := by decide +kernel
theorem d_A_sourceOf_35 : decode b_A_sourceOf 35 = .ok (.aload_n 0, 1) := by decide +kernel
theorem d_A_sourceOf_36 : decode b_A_sourceOf 36 = .ok (.getfield 79, 3) := by decide +kernel
theorem d_A_sourceOf_39 : decode b_A_sourceOf 39 = .ok (.aload_n 1, 1) := by decide +kernel
theorem d_A_sourceOf_40 : decode b_A_sourceOf 40 = .ok (.aload_n 0, 1) := by decide +kernel
theorem d_A_sourceOf_41 : decode b_A_sourceOf 41 = .ok (.getfield 72, 3) := by decide +kernel
theorem d_A_sourceOf_44 : decode b_A_sourceOf 44 = .ok (.iload 5, 2) := by decide +kernel
theorem d_A_sourceOf_46 : decode b_A_sourceOf 46 = .ok (.aaload, 1) := by decide +kernel
theorem d_A_sourceOf_47 : decode b_A_sourceOf 47 = .ok (.invokevirtual 319, 3) := by decide +kernel
theorem d_A_sourceOf_50 : decode b_A_sourceOf 50 = .ok (.aload_n 0, 1) := by decide +kernel
theorem d_A_sourceOf_51 : decode b_A_sourceOf 51 = .ok (.getfield 79, 3) := by decide +kernel
theorem d_A_sourceOf_54 : decode b_A_sourceOf 54 = .ok (.iload_n 2, 1) := by decide +kernel
theorem d_A_sourceOf_55 : decode b_A_sourceOf 55 = .ok (.invokevirtual 327, 3) := by decide +kernel
theorem d_A_sourceOf_58 : decode b_A_sourceOf 58 = .ok (.ifCond .eq (32), 3) := by decide +kernel
theorem d_A_sourceOf_61 : decode b_A_sourceOf 61 = .ok (.iload_n 3, 1) := by decide +kernel
theorem d_A_sourceOf_62 : decode b_A_sourceOf 62 = .ok (.iconst (-1), 1) := by decide +kernel
theorem d_A_sourceOf_63 : decode b_A_sourceOf 63 = .ok (.if_icmp .eq (15), 3) := by decide +kernel
theorem d_A_sourceOf_66 : decode b_A_sourceOf 66 = .ok (.aload_n 0, 1) := by decide +kernel
theorem d_A_sourceOf_67 : decode b_A_sourceOf 67 = .ok (.getfield 79, 3) := by decide +kernel
theorem d_A_sourceOf_70 : decode b_A_sourceOf 70 = .ok (.getfield 374, 3) := by decide +kernel
theorem d_A_sourceOf_73 : decode b_A_sourceOf 73 = .ok (.iload 4, 2) := by decide +kernel
theorem d_A_sourceOf_75 : decode b_A_sourceOf 75 = .ok (.if_icmp .le (15), 3) := by decide +kernel
theorem d_A_sourceOf_78 : decode b_A_sourceOf 78 = .ok (.iload 5, 2) := by decide +kernel
theorem d_A_sourceOf_80 : decode b_A_sourceOf 80 = .ok (.istore_n 3, 1) := by decide +kernel
theorem d_A_sourceOf_81 : decode b_A_sourceOf 81 = .ok (.aload_n 0, 1) := by decide +kernel
theorem d_A_sourceOf_82 : decode b_A_sourceOf 82 = .ok (.getfield 79, 3) := by decide +kernel
theorem d_A_sourceOf_85 : decode b_A_sourceOf 85 = .ok (.getfield 374, 3) := by decide +kernel
theorem d_A_sourceOf_88 : decode b_A_sourceOf 88 = .ok (.istore 4, 2) := by decide +kernel
theorem d_A_sourceOf_90 : decode b_A_sourceOf 90 = .ok (.iinc 5 (1), 3) := by decide +kernel
theorem d_A_sourceOf_93 : decode b_A_sourceOf 93 = .ok (.goto (-85), 3) := by decide +kernel
theorem d_A_sourceOf_96 : decode b_A_sourceOf 96 = .ok (.iload_n 3, 1) := by decide +kernel
theorem d_A_sourceOf_97 : decode b_A_sourceOf 97 = .ok (.ireturn, 1) := by decide +kernel
def F_A_sourceOf_78 (rec8 : Nat → Nat → Int32 → Int32 → Int32 → Int32 → AW → Option (Int32 × AW)) (a0 : Nat) (a1 : Nat) (x2 : Int32) (x5 : Int32) (w : AW) : Option (Int32 × AW) :=
  gd (wk w a0 == 1) <|
  gd (wk w (wr w a0 11) == 12) <|
  let v3 : Int32 := (wi w (wr w a0 11) 1)
  let v4 : Int32 := (x5 + (1 : Int32))
  rec8 a0 a1 x2 x5 v3 v4 w
theorem P_A_sourceOf_78 {X : AX} {l : Launch} {G : AG} {rec8 : Nat → Nat → Int32 → Int32 → Int32 → Int32 → AW → Option (Int32 × AW)} (hX : XOK X b_A_sourceOf "RedSky" 6) (hM : XM X l G { frames := 4, cells := 0, slots := 0, locals := 105 }) {o : Int32 × AW} (hR : XR X (some .int) 0 0 (some (vi o.1)) o.2) (hrec8 : ∀ (a0 : Nat) (a1 : Nat) (x2 : Int32) (x3 : Int32) (x4 : Int32) (x5 : Int32) (w : AW), rec8 a0 a1 x2 x3 x4 x5 w = some o → RJ X 6 0 0 8 [(0, vr a0), (1, vr a1), (2, vi x2), (3, vi x3), (4, vi x4), (5, vi x5)] [] w) (a0 : Nat) (a1 : Nat) (x2 : Int32) (x5 : Int32) (w : AW) (h : F_A_sourceOf_78 rec8 a0 a1 x2 x5 w = some o) : RJ X 6 0 0 78 [(0, vr a0), (1, vr a1), (2, vi x2), (5, vi x5)] [] w := by
  unfold F_A_sourceOf_78 at h
  refine r_iload (i := 5) hX d_A_sourceOf_78 3  rfl ?_
  refine r_istore_n (i := 3) hX d_A_sourceOf_80 rfl (by decide) ?_
  refine r_aload_n (i := 0) hX d_A_sourceOf_81 1 rfl rfl ?_
  obtain ⟨hk1, h⟩ := gd_e h
  refine r_getR (i := 0) (f := 11) hX ci_0 (by decide) rfl fl_A_79 hk1 d_A_sourceOf_82 ?_
  obtain ⟨hk2, h⟩ := gd_e h
  refine r_getI (i := 11) (f := 1) hX ci_11 (by decide) rfl fl_A_374 hk2 d_A_sourceOf_85 ?_
  refine r_istore (i := 4) hX d_A_sourceOf_88  (by decide) ?_
  refine r_iinc (i := 5) (v := (1 : Int32)) hX d_A_sourceOf_90 5 rfl rfl (by decide) ?_
  refine r_goto hX d_A_sourceOf_93 rfl ?_
  exact rj_sub [3, 4, 5, 2, 1, 0] rfl (hrec8 _ _ _ _ _ _ _ h)
def F_A_sourceOf_8_B (rec8 : Nat → Nat → Int32 → Int32 → Int32 → Int32 → AW → Option (Int32 × AW)) (a0 : Nat) (a1 : Nat) (x2 : Int32) (x3 : Int32) (x4 : Int32) (x5 : Int32) (w : AW) : Option (Int32 × AW) :=
  if (6 : Int32) ≤ x5 then
    some (x3, w)
  else
    gd (wk w a0 == 1) <|
    gd (wk w (wr w a0 10) == 108) <|
    gd (inb x5 (wn w (wr w a0 10))) <|
    gd (wk w (wr w (wr w a0 10) (Int32.toNatClampNeg x5)) == 11) <|
    gd (wk w a1 == 11) <|
    if (wi w (wr w (wr w a0 10) (Int32.toNatClampNeg x5)) 0) < (wi w a1 0) then
      gd (inb x5 (wn w (wr w a0 10))) <|
      gd (wk w (wr w a0 11) == 12) <|
      (F_Li_compare (wr w a0 11) a1 (wr w (wr w a0 10) (Int32.toNatClampNeg x5)) w).bind fun r8 =>
      gd (wk r8 a0 == 1) <|
      gd (wk r8 (wr r8 a0 11) == 12) <|
      (F_Li_reaches r8 (wr r8 a0 11) x2).bind fun r12 =>
      if r12 = 0 then
        let v14 : Int32 := (x5 + (1 : Int32))
        rec8 a0 a1 x2 x3 x4 v14 r8
      else
        if x3 = (-1 : Int32) then
          F_A_sourceOf_78 rec8 a0 a1 x2 x5 r8
        else
          if (wi r8 (wr r8 a0 11) 1) ≤ x4 then
            let v15 : Int32 := (x5 + (1 : Int32))
            rec8 a0 a1 x2 x3 x4 v15 r8
          else
            F_A_sourceOf_78 rec8 a0 a1 x2 x5 r8
    else
      let v16 : Int32 := (x5 + (1 : Int32))
      rec8 a0 a1 x2 x3 x4 v16 w
theorem P_A_sourceOf_8_B {X : AX} {l : Launch} {G : AG} {rec8 : Nat → Nat → Int32 → Int32 → Int32 → Int32 → AW → Option (Int32 × AW)} (hX : XOK X b_A_sourceOf "RedSky" 6) (hM : XM X l G { frames := 4, cells := 0, slots := 0, locals := 105 }) {o : Int32 × AW} (hR : XR X (some .int) 0 0 (some (vi o.1)) o.2) (hrec8 : ∀ (a0 : Nat) (a1 : Nat) (x2 : Int32) (x3 : Int32) (x4 : Int32) (x5 : Int32) (w : AW), rec8 a0 a1 x2 x3 x4 x5 w = some o → RJ X 6 0 0 8 [(0, vr a0), (1, vr a1), (2, vi x2), (3, vi x3), (4, vi x4), (5, vi x5)] [] w) (a0 : Nat) (a1 : Nat) (x2 : Int32) (x3 : Int32) (x4 : Int32) (x5 : Int32) (w : AW) (h : F_A_sourceOf_8_B rec8 a0 a1 x2 x3 x4 x5 w = some o) : RJ X 6 0 0 8 [(0, vr a0), (1, vr a1), (2, vi x2), (3, vi x3), (4, vi x4), (5, vi x5)] [] w := by
  unfold F_A_sourceOf_8_B at h
  refine r_iload (i := 5) hX d_A_sourceOf_8 5  rfl ?_
  refine r_bipush (v := (6 : Int32)) hX d_A_sourceOf_10 rfl ?_
  refine r_icmp_ge hX d_A_sourceOf_12 rfl h (fun h => ?_) (fun h => ?_)
  · refine r_iload_n (i := 3) hX d_A_sourceOf_96 3 rfl rfl ?_
    cases h; exact r_iret hX hR d_A_sourceOf_97
  · refine r_aload_n (i := 0) hX d_A_sourceOf_15 0 rfl rfl ?_
    obtain ⟨hk1, h⟩ := gd_e h
    refine r_getR (i := 0) (f := 10) hX ci_0 (by decide) rfl fl_A_72 hk1 d_A_sourceOf_16 ?_
    refine r_iload (i := 5) hX d_A_sourceOf_19 5  rfl ?_
    obtain ⟨hk2, h⟩ := gd_e h
    obtain ⟨hg3, h⟩ := gd_e h
    refine r_aald (t := 0) (kd := 108) hX (by decide) (fun G => rfl) hk2 hg3 d_A_sourceOf_21 ?_
    obtain ⟨hk4, h⟩ := gd_e h
    refine r_getI (i := 10) (f := 0) hX ci_10 (by decide) rfl fl_A_299 hk4 d_A_sourceOf_22 ?_
    refine r_aload_n (i := 1) hX d_A_sourceOf_25 1 rfl rfl ?_
    obtain ⟨hk5, h⟩ := gd_e h
    refine r_getI (i := 10) (f := 0) hX ci_10 (by decide) rfl fl_A_299 hk5 d_A_sourceOf_26 ?_
    refine r_icmp_lt hX d_A_sourceOf_29 rfl h (fun h => ?_) (fun h => ?_)
    · refine r_aload_n (i := 0) hX d_A_sourceOf_35 0 rfl rfl ?_
      refine r_getR (i := 0) (f := 11) hX ci_0 (by decide) rfl fl_A_79 hk1 d_A_sourceOf_36 ?_
      refine r_aload_n (i := 1) hX d_A_sourceOf_39 1 rfl rfl ?_
      refine r_aload_n (i := 0) hX d_A_sourceOf_40 0 rfl rfl ?_
      refine r_getR (i := 0) (f := 10) hX ci_0 (by decide) rfl fl_A_72 hk1 d_A_sourceOf_41 ?_
      refine r_iload (i := 5) hX d_A_sourceOf_44 5  rfl ?_
      obtain ⟨hg6, h⟩ := gd_e h
      refine r_aald (t := 0) (kd := 108) hX (by decide) (fun G => rfl) hk2 hg6 d_A_sourceOf_46 ?_
      obtain ⟨hk7, h⟩ := gd_e h
      obtain ⟨r8, hr9, h⟩ := bd_e h
      refine r_callV0 (As := [_, _]) hX hM mw_A_319 (T_Li_compare _ _ _ _ hr9) (rc_of ci_11 hk7) rfl rfl ⟨Nat.le_refl _, Nat.le_refl _⟩ rfl rfl d_A_sourceOf_47 ?_
      refine r_aload_n (i := 0) hX d_A_sourceOf_50 0 rfl rfl ?_
      obtain ⟨hk10, h⟩ := gd_e h
      refine r_getR (i := 0) (f := 11) hX ci_0 (by decide) rfl fl_A_79 hk10 d_A_sourceOf_51 ?_
      refine r_iload_n (i := 2) hX d_A_sourceOf_54 2 rfl rfl ?_
      obtain ⟨hk11, h⟩ := gd_e h
      obtain ⟨r12, hr13, h⟩ := bd_e h
      refine r_callV1 (As := [_]) hX hM mw_A_327 (T_Li_reaches _ _ _ hr13) (rc_of ci_11 hk11) rfl rfl ⟨Nat.le_refl _, Nat.le_refl _⟩ rfl rfl d_A_sourceOf_55 ?_
      refine r_if_eq hX d_A_sourceOf_58 rfl h (fun h => ?_) (fun h => ?_)
      · refine r_iinc (i := 5) (v := (1 : Int32)) hX d_A_sourceOf_90 5 rfl rfl (by decide) ?_
        refine r_goto hX d_A_sourceOf_93 rfl ?_
        exact rj_sub [1, 2, 3, 4, 5, 0] rfl (hrec8 _ _ _ _ _ _ _ h)
      · refine r_iload_n (i := 3) hX d_A_sourceOf_61 3 rfl rfl ?_
        refine r_iconst (v := (-1 : Int32)) hX d_A_sourceOf_62 rfl ?_
        refine r_icmp_eq hX d_A_sourceOf_63 rfl h (fun h => ?_) (fun h => ?_)
        · exact rj_sub [0, 1, 2, 5] rfl (P_A_sourceOf_78 hX hM hR hrec8 _ _ _ _ _ h)
        · refine r_aload_n (i := 0) hX d_A_sourceOf_66 0 rfl rfl ?_
          refine r_getR (i := 0) (f := 11) hX ci_0 (by decide) rfl fl_A_79 hk10 d_A_sourceOf_67 ?_
          refine r_getI (i := 11) (f := 1) hX ci_11 (by decide) rfl fl_A_374 hk11 d_A_sourceOf_70 ?_
          refine r_iload (i := 4) hX d_A_sourceOf_73 4  rfl ?_
          refine r_icmp_le hX d_A_sourceOf_75 rfl h (fun h => ?_) (fun h => ?_)
          · refine r_iinc (i := 5) (v := (1 : Int32)) hX d_A_sourceOf_90 5 rfl rfl (by decide) ?_
            refine r_goto hX d_A_sourceOf_93 rfl ?_
            exact rj_sub [1, 2, 3, 4, 5, 0] rfl (hrec8 _ _ _ _ _ _ _ h)
          · exact rj_sub [0, 1, 2, 5] rfl (P_A_sourceOf_78 hX hM hR hrec8 _ _ _ _ _ h)
    · refine r_goto hX d_A_sourceOf_32 rfl ?_
      refine r_iinc (i := 5) (v := (1 : Int32)) hX d_A_sourceOf_90 5 rfl rfl (by decide) ?_
      refine r_goto hX d_A_sourceOf_93 rfl ?_
      exact rj_sub [1, 2, 3, 4, 5, 0] rfl (hrec8 _ _ _ _ _ _ _ h)
def F_A_sourceOf_8 : Nat → Nat → Nat → Int32 → Int32 → Int32 → Int32 → AW → Option (Int32 × AW)
  | 0 => fun _ _ _ _ _ _ _ => none
  | n + 1 => fun a0 a1 x2 x3 x4 x5 w => F_A_sourceOf_8_B (F_A_sourceOf_8 n) a0 a1 x2 x3 x4 x5 w
theorem P_A_sourceOf_8 {X : AX} {l : Launch} {G : AG} (hX : XOK X b_A_sourceOf "RedSky" 6) (hM : XM X l G { frames := 4, cells := 0, slots := 0, locals := 105 }) {o : Int32 × AW} (hR : XR X (some .int) 0 0 (some (vi o.1)) o.2) (fu : Nat) : ∀ (a0 : Nat) (a1 : Nat) (x2 : Int32) (x3 : Int32) (x4 : Int32) (x5 : Int32) (w : AW), F_A_sourceOf_8 fu a0 a1 x2 x3 x4 x5 w = some o → RJ X 6 0 0 8 [(0, vr a0), (1, vr a1), (2, vi x2), (3, vi x3), (4, vi x4), (5, vi x5)] [] w := by
  induction fu with
  | zero => intro a0 a1 x2 x3 x4 x5 w h; cases h
  | succ n9 ih => intro a0 a1 x2 x3 x4 x5 w h; exact P_A_sourceOf_8_B hX hM hR ih _ _ _ _ _ _ _ h
def F_A_sourceOf (a0 : Nat) (a1 : Nat) (x2 : Int32) (w : AW) : Option (Int32 × AW) :=
  F_A_sourceOf_8 FUEL a0 a1 x2 (-1 : Int32) (0 : Int32) (0 : Int32) w
theorem P_A_sourceOf_0 {X : AX} {l : Launch} {G : AG} (hX : XOK X b_A_sourceOf "RedSky" 6) (hM : XM X l G { frames := 4, cells := 0, slots := 0, locals := 105 }) {o : Int32 × AW} (hR : XR X (some .int) 0 0 (some (vi o.1)) o.2) (a0 : Nat) (a1 : Nat) (x2 : Int32) (w : AW) (h : F_A_sourceOf a0 a1 x2 w = some o) : RJ X 6 0 0 0 [(0, vr a0), (1, vr a1), (2, vi x2)] [] w := by
  unfold F_A_sourceOf at h
  refine r_iconst (v := (-1 : Int32)) hX d_A_sourceOf_0 rfl ?_
  refine r_istore_n (i := 3) hX d_A_sourceOf_1 rfl (by decide) ?_
  refine r_iconst (v := (0 : Int32)) hX d_A_sourceOf_2 rfl ?_
  refine r_istore (i := 4) hX d_A_sourceOf_3  (by decide) ?_
  refine r_iconst (v := (0 : Int32)) hX d_A_sourceOf_5 rfl ?_
  refine r_istore (i := 5) hX d_A_sourceOf_6  (by decide) ?_
  exact rj_sub [3, 4, 5, 2, 1, 0] rfl (P_A_sourceOf_8 hX hM hR FUEL _ _ _ _ _ _ _ h)
theorem T_A_sourceOf {l : Launch} {G : AG} (a0 : Nat) (a1 : Nat) (x2 : Int32) (w : AW) {o : Int32 × AW} (h : F_A_sourceOf a0 a1 x2 w = some o) : Mt l G y_A_sourceOf b_A_sourceOf 6 (some (.int)) 4 105 0 0 [vr a0, vr a1, vi x2] w (some (vi o.1)) o.2 := mt_of (by decide) (Nat.le_of_ble_eq_true rfl) (fun X hX hR hM hI => P_A_sourceOf_0 hX hM hR _ _ _ _ h)
/-! RedSky.source(III)I -/
theorem d_A_source_0 : decode b_A_source 0 = .ok (.aload_n 0, 1) := by decide +kernel
theorem d_A_source_1 : decode b_A_source 1 = .ok (.iload_n 1, 1) := by decide +kernel
theorem d_A_source_2 : decode b_A_source 2 = .ok (.invokevirtual 295, 3) := by decide +kernel
theorem d_A_source_5 : decode b_A_source 5 = .ok (.astore 4, 2) := by decide +kernel
theorem d_A_source_7 : decode b_A_source 7 = .ok (.aload_n 0, 1) := by decide +kernel
theorem d_A_source_8 : decode b_A_source 8 = .ok (.iload_n 2, 1) := by decide +kernel
theorem d_A_source_9 : decode b_A_source 9 = .ok (.invokevirtual 141, 3) := by decide +kernel
theorem d_A_source_12 : decode b_A_source 12 = .ok (.astore 5, 2) := by decide +kernel
theorem d_A_source_14 : decode b_A_source 14 = .ok (.aload 4, 2) := by decide +kernel
theorem d_A_source_16 : decode b_A_source 16 = .ok (.ifnull (8), 3) := by decide +kernel
theorem d_A_source_19 : decode b_A_source 19 = .ok (.aload 5, 2) := by decide +kernel
theorem d_A_source_21 : decode b_A_source 21 = .ok (.ifnonnull (6), 3) := by decide +kernel
theorem d_A_source_24 : decode b_A_source 24 = .ok (.bipush (-101), 2) := by decide +kernel
theorem d_A_source_26 : decode b_A_source 26 = .ok (.ireturn, 1) := by decide +kernel
theorem d_A_source_27 : decode b_A_source 27 = .ok (.iload_n 3, 1) := by decide +kernel
theorem d_A_source_28 : decode b_A_source 28 = .ok (.iconst 1, 1) := by decide +kernel
theorem d_A_source_29 : decode b_A_source 29 = .ok (.bipush (100), 2) := by decide +kernel
theorem d_A_source_31 : decode b_A_source 31 = .ok (.invokestatic 86, 3) := by decide +kernel
theorem d_A_source_34 : decode b_A_source 34 = .ok (.ifCond .ne (6), 3) := by decide +kernel
theorem d_A_source_37 : decode b_A_source 37 = .ok (.bipush (-102), 2) := by decide +kernel
theorem d_A_source_39 : decode b_A_source 39 = .ok (.ireturn, 1) := by decide +kernel
theorem d_A_source_40 : decode b_A_source 40 = .ok (.aload_n 0, 1) := by decide +kernel
theorem d_A_source_41 : decode b_A_source 41 = .ok (.getfield 79, 3) := by decide +kernel
theorem d_A_source_44 : decode b_A_source 44 = .ok (.aload 5, 2) := by decide +kernel
theorem d_A_source_46 : decode b_A_source 46 = .ok (.invokevirtual 315, 3) := by decide +kernel
theorem d_A_source_49 : decode b_A_source 49 = .ok (.aload_n 0, 1) := by decide +kernel
theorem d_A_source_50 : decode b_A_source 50 = .ok (.aload 4, 2) := by decide +kernel
theorem d_A_source_52 : decode b_A_source 52 = .ok (.iload_n 3, 1) := by decide +kernel
theorem d_A_source_53 : decode b_A_source 53 = .ok (.invokevirtual 330, 3) := by decide +kernel
theorem d_A_source_56 : decode b_A_source 56 = .ok (.ireturn, 1) := by decide +kernel
def F_A_source (a0 : Nat) (x1 : Int32) (x2 : Int32) (x3 : Int32) (w : AW) : Option (Int32 × AW) :=
  gd (wk w a0 == 1) <|
  (F_A_almanacOf w a0 x1).bind fun r2 =>
  (F_A_diaryOf w a0 x2).bind fun r4 =>
  if r2 = 0 then
    some ((-101 : Int32), w)
  else
    if r4 = 0 then
      some ((-101 : Int32), w)
    else
      if (F_A_within x3 (1 : Int32) (100 : Int32)) = 0 then
        some ((-102 : Int32), w)
      else
        gd (wk w (wr w a0 11) == 12) <|
        (F_Li_readRain (wr w a0 11) r4 w).bind fun r7 =>
        gd (wk r7 a0 == 1) <|
        (F_A_sourceOf a0 r2 x3 r7).bind fun r10 =>
        some (r10.1, r10.2)
theorem P_A_source_0 {X : AX} {l : Launch} {G : AG} (hX : XOK X b_A_source "RedSky" 6) (hM : XM X l G { frames := 5, cells := 0, slots := 0, locals := 130 }) {o : Int32 × AW} (hR : XR X (some .int) 0 0 (some (vi o.1)) o.2) (a0 : Nat) (x1 : Int32) (x2 : Int32) (x3 : Int32) (w : AW) (h : F_A_source a0 x1 x2 x3 w = some o) : RJ X 6 0 0 0 [(0, vr a0), (1, vi x1), (2, vi x2), (3, vi x3)] [] w := by
  unfold F_A_source at h
  refine r_aload_n (i := 0) hX d_A_source_0 0 rfl rfl ?_
  refine r_iload_n (i := 1) hX d_A_source_1 1 rfl rfl ?_
  obtain ⟨hk1, h⟩ := gd_e h
  obtain ⟨r2, hr3, h⟩ := bd_e h
  refine r_callV1 (As := [_]) hX hM mw_A_295 (T_A_almanacOf _ _ _ hr3) (rc_of ci_0 hk1) rfl rfl ⟨Nat.le_refl _, Nat.le_refl _⟩ rfl rfl d_A_source_2 ?_
  refine r_astore (i := 4) hX d_A_source_5  (by decide) ?_
  refine r_aload_n (i := 0) hX d_A_source_7 1 rfl rfl ?_
  refine r_iload_n (i := 2) hX d_A_source_8 3 rfl rfl ?_
  obtain ⟨r4, hr5, h⟩ := bd_e h
  refine r_callV1 (As := [_]) hX hM mw_A_141 (T_A_diaryOf _ _ _ hr5) (rc_of ci_0 hk1) rfl rfl ⟨Nat.le_refl _, Nat.le_refl _⟩ rfl rfl d_A_source_9 ?_
  refine r_astore (i := 5) hX d_A_source_12  (by decide) ?_
  refine r_aload (i := 4) hX d_A_source_14 1  rfl ?_
  refine r_ifnull hX d_A_source_16 rfl h (fun h => ?_) (fun h => ?_)
  · refine r_bipush (v := (-101 : Int32)) hX d_A_source_24 rfl ?_
    cases h; exact r_iret hX hR d_A_source_26
  · refine r_aload (i := 5) hX d_A_source_19 0  rfl ?_
    refine r_ifnonnull hX d_A_source_21 rfl h (fun h => ?_) (fun h => ?_)
    · refine r_iload_n (i := 3) hX d_A_source_27 5 rfl rfl ?_
      refine r_iconst (v := (1 : Int32)) hX d_A_source_28 rfl ?_
      refine r_bipush (v := (100 : Int32)) hX d_A_source_29 rfl ?_
      refine r_callS1 (As := [_, _, _]) hX hM mw_A_86 (T_A_within _ _ _ _) rfl rfl ⟨Nat.le_refl _, Nat.le_refl _⟩ rfl rfl d_A_source_31 ?_
      refine r_if_ne hX d_A_source_34 rfl h (fun h => ?_) (fun h => ?_)
      · refine r_aload_n (i := 0) hX d_A_source_40 2 rfl rfl ?_
        refine r_getR (i := 0) (f := 11) hX ci_0 (by decide) rfl fl_A_79 hk1 d_A_source_41 ?_
        refine r_aload (i := 5) hX d_A_source_44 0  rfl ?_
        obtain ⟨hk6, h⟩ := gd_e h
        obtain ⟨r7, hr8, h⟩ := bd_e h
        refine r_callV0 (As := [_]) hX hM mw_A_315 (T_Li_readRain _ _ _ hr8) (rc_of ci_11 hk6) rfl rfl ⟨Nat.le_refl _, Nat.le_refl _⟩ rfl rfl d_A_source_46 ?_
        refine r_aload_n (i := 0) hX d_A_source_49 2 rfl rfl ?_
        refine r_aload (i := 4) hX d_A_source_50 1  rfl ?_
        refine r_iload_n (i := 3) hX d_A_source_52 5 rfl rfl ?_
        obtain ⟨hk9, h⟩ := gd_e h
        obtain ⟨r10, hr11, h⟩ := bd_e h
        refine r_callV1 (As := [_, _]) hX hM mw_A_330 (T_A_sourceOf _ _ _ _ hr11) (rc_of ci_0 hk9) rfl rfl ⟨Nat.le_refl _, Nat.le_refl _⟩ rfl rfl d_A_source_53 ?_
        cases h; exact r_iret hX hR d_A_source_56
      · refine r_bipush (v := (-102 : Int32)) hX d_A_source_37 rfl ?_
        cases h; exact r_iret hX hR d_A_source_39
    · refine r_bipush (v := (-101 : Int32)) hX d_A_source_24 rfl ?_
      cases h; exact r_iret hX hR d_A_source_26
theorem T_A_source {l : Launch} {G : AG} (a0 : Nat) (x1 : Int32) (x2 : Int32) (x3 : Int32) (w : AW) {o : Int32 × AW} (h : F_A_source a0 x1 x2 x3 w = some o) : Mt l G y_A_source b_A_source 6 (some (.int)) 5 130 0 0 [vr a0, vi x1, vi x2, vi x3] w (some (vi o.1)) o.2 := mt_of (by decide) (Nat.le_of_ble_eq_true rfl) (fun X hX hR hM hI => P_A_source_0 hX hM hR _ _ _ _ _ h)
/-! RedSkyModel.sourceOf(III)I -/
theorem d_M_sourceOf_0 : decode b_M_sourceOf 0 = .ok (.iconst (-1), 1) := by decide +kernel
theorem d_M_sourceOf_1 : decode b_M_sourceOf 1 = .ok (.istore 4, 2) := by decide +kernel
theorem d_M_sourceOf_3 : decode b_M_sourceOf 3 = .ok (.iconst 0, 1) := by decide +kernel
theorem d_M_sourceOf_4 : decode b_M_sourceOf 4 = .ok (.istore 5, 2) := by decide +kernel
theorem d_M_sourceOf_6 : decode b_M_sourceOf 6 = .ok (.iconst 0, 1) := by decide +kernel
theorem d_M_sourceOf_7 : decode b_M_sourceOf 7 = .ok (.istore 6, 2) := by decide +kernel
theorem d_M_sourceOf_9 : decode b_M_sourceOf 9 = .ok (.iload 6, 2) := by decide +kernel
theorem d_M_sourceOf_11 : decode b_M_sourceOf 11 = .ok (.bipush (6), 2) := by decide +kernel
theorem d_M_sourceOf_13 : decode b_M_sourceOf 13 = .ok (.if_icmp .ge (69), 3) := by decide +kernel
theorem d_M_sourceOf_16 : decode b_M_sourceOf 16 = .ok (.aload_n 0, 1) := by decide +kernel
theorem d_M_sourceOf_17 : decode b_M_sourceOf 17 = .ok (.getfield 25, 3) := by decide +kernel
theorem d_M_sourceOf_20 : decode b_M_sourceOf 20 = .ok (.iload 6, 2) := by decide +kernel
theorem d_M_sourceOf_22 : decode b_M_sourceOf 22 = .ok (.iaload, 1) := by decide +kernel
theorem d_M_sourceOf_23 : decode b_M_sourceOf 23 = .ok (.aload_n 0, 1) := by decide +kernel
theorem d_M_sourceOf_24 : decode b_M_sourceOf 24 = .ok (.getfield 25, 3) := by decide +kernel
theorem d_M_sourceOf_27 : decode b_M_sourceOf 27 = .ok (.iload_n 1, 1) := by decide +kernel
theorem d_M_sourceOf_28 : decode b_M_sourceOf 28 = .ok (.iaload, 1) := by decide +kernel
theorem d_M_sourceOf_29 : decode b_M_sourceOf 29 = .ok (.if_icmp .ge (47), 3) := by decide +kernel
theorem d_M_sourceOf_32 : decode b_M_sourceOf 32 = .ok (.aload_n 0, 1) := by decide +kernel
theorem d_M_sourceOf_33 : decode b_M_sourceOf 33 = .ok (.iload_n 1, 1) := by decide +kernel
theorem d_M_sourceOf_34 : decode b_M_sourceOf 34 = .ok (.iload 6, 2) := by decide +kernel
theorem d_M_sourceOf_36 : decode b_M_sourceOf 36 = .ok (.iload_n 2, 1) := by decide +kernel
theorem d_M_sourceOf_37 : decode b_M_sourceOf 37 = .ok (.iload_n 3, 1) := by decide +kernel
theorem d_M_sourceOf_38 : decode b_M_sourceOf 38 = .ok (.invokevirtual 389, 3) := by decide +kernel
theorem d_M_sourceOf_41 : decode b_M_sourceOf 41 = .ok (.ifCond .eq (35), 3) := by decide +kernel
theorem d_M_sourceOf_44 : decode b_M_sourceOf 44 = .ok (.aload_n 0, 1) := by decide +kernel
theorem d_M_sourceOf_45 : decode b_M_sourceOf 45 = .ok (.iload_n 1, 1) := by decide +kernel
theorem d_M_sourceOf_46 : decode b_M_sourceOf 46 = .ok (.iload 6, 2) := by decide +kernel
theorem d_M_sourceOf_48 : decode b_M_sourceOf 48 = .ok (.iload_n 2, 1) := by decide +kernel
theorem d_M_sourceOf_49 : decode b_M_sourceOf 49 = .ok (.iconst 1, 1) := by decide +kernel
theorem d_M_sourceOf_50 : decode b_M_sourceOf 50 = .ok (.invokevirtual 384, 3) := by decide +kernel
theorem d_M_sourceOf_53 : decode b_M_sourceOf 53 = .ok (.istore 7, 2) := by decide +kernel
theorem d_M_sourceOf_55 : decode b_M_sourceOf 55 = .ok (.iload 4, 2) := by decide +kernel
theorem d_M_sourceOf_57 : decode b_M_sourceOf 57 = .ok (.iconst (-1), 1) := by decide +kernel
theorem d_M_sourceOf_58 : decode b_M_sourceOf 58 = .ok (.if_icmp .eq (10), 3) := by decide +kernel
theorem d_M_sourceOf_61 : decode b_M_sourceOf 61 = .ok (.iload 7, 2) := by decide +kernel
theorem d_M_sourceOf_63 : decode b_M_sourceOf 63 = .ok (.iload 5, 2) := by decide +kernel
theorem d_M_sourceOf_65 : decode b_M_sourceOf 65 = .ok (.if_icmp .le (11), 3) := by decide +kernel
theorem d_M_sourceOf_68 : decode b_M_sourceOf 68 = .ok (.iload 6, 2) := by decide +kernel
theorem d_M_sourceOf_70 : decode b_M_sourceOf 70 = .ok (.istore 4, 2) := by decide +kernel
theorem d_M_sourceOf_72 : decode b_M_sourceOf 72 = .ok (.iload 7, 2) := by decide +kernel
theorem d_M_sourceOf_74 : decode b_M_sourceOf 74 = .ok (.istore 5, 2) := by decide +kernel
theorem d_M_sourceOf_76 : decode b_M_sourceOf 76 = .ok (.iinc 6 (1), 3) := by decide +kernel
theorem d_M_sourceOf_79 : decode b_M_sourceOf 79 = .ok (.goto (-70), 3) := by decide +kernel
theorem d_M_sourceOf_82 : decode b_M_sourceOf 82 = .ok (.iload 4, 2) := by decide +kernel
theorem d_M_sourceOf_84 : decode b_M_sourceOf 84 = .ok (.ireturn, 1) := by decide +kernel
def F_M_sourceOf_68 (rec9 : Nat → Int32 → Int32 → Int32 → Int32 → Int32 → Int32 → Option (Int32)) (w : AW) (a0 : Nat) (x1 : Int32) (x2 : Int32) (x3 : Int32) (x6 : Int32) (x7 : Int32) : Option (Int32) :=
  let v1 : Int32 := (x6 + (1 : Int32))
  rec9 a0 x1 x2 x3 x6 x7 v1
theorem P_M_sourceOf_68 {X : AX} {l : Launch} {G : AG} {w : AW} {rec9 : Nat → Int32 → Int32 → Int32 → Int32 → Int32 → Int32 → Option (Int32)} (hX : XOK X b_M_sourceOf "RedSkyModel" 8) (hM : XM X l G { frames := 4, cells := 0, slots := 0, locals := 99 }) {o : Int32} (hR : XR X (some .int) 0 0 (some (vi o)) w) (hrec9 : ∀ (a0 : Nat) (x1 : Int32) (x2 : Int32) (x3 : Int32) (x4 : Int32) (x5 : Int32) (x6 : Int32), rec9 a0 x1 x2 x3 x4 x5 x6 = some o → RJ X 8 0 0 9 [(0, vr a0), (1, vi x1), (2, vi x2), (3, vi x3), (4, vi x4), (5, vi x5), (6, vi x6)] [] w) (a0 : Nat) (x1 : Int32) (x2 : Int32) (x3 : Int32) (x6 : Int32) (x7 : Int32) (h : F_M_sourceOf_68 rec9 w a0 x1 x2 x3 x6 x7 = some o) : RJ X 8 0 0 68 [(0, vr a0), (1, vi x1), (2, vi x2), (3, vi x3), (6, vi x6), (7, vi x7)] [] w := by
  unfold F_M_sourceOf_68 at h
  refine r_iload (i := 6) hX d_M_sourceOf_68 4  rfl ?_
  refine r_istore (i := 4) hX d_M_sourceOf_70  (by decide) ?_
  refine r_iload (i := 7) hX d_M_sourceOf_72 6  rfl ?_
  refine r_istore (i := 5) hX d_M_sourceOf_74  (by decide) ?_
  refine r_iinc (i := 6) (v := (1 : Int32)) hX d_M_sourceOf_76 6 rfl rfl (by decide) ?_
  refine r_goto hX d_M_sourceOf_79 rfl ?_
  exact rj_sub [3, 4, 5, 6, 2, 1, 0] rfl (hrec9 _ _ _ _ _ _ _ h)
def F_M_sourceOf_9_B (rec9 : Nat → Int32 → Int32 → Int32 → Int32 → Int32 → Int32 → Option (Int32)) (w : AW) (a0 : Nat) (x1 : Int32) (x2 : Int32) (x3 : Int32) (x4 : Int32) (x5 : Int32) (x6 : Int32) : Option (Int32) :=
  if (6 : Int32) ≤ x6 then
    some x4
  else
    gd (wk w a0 == 13) <|
    gd (wk w (wr w a0 6) == 100) <|
    gd (inb x6 (wn w (wr w a0 6))) <|
    gd (inb x1 (wn w (wr w a0 6))) <|
    if (wi w (wr w a0 6) (Int32.toNatClampNeg x1)) ≤ (wi w (wr w a0 6) (Int32.toNatClampNeg x6)) then
      let v5 : Int32 := (x6 + (1 : Int32))
      rec9 a0 x1 x2 x3 x4 x5 v5
    else
      (F_M_areAlike w a0 x1 x6 x2 x3).bind fun r6 =>
      if r6 = 0 then
        let v8 : Int32 := (x6 + (1 : Int32))
        rec9 a0 x1 x2 x3 x4 x5 v8
      else
        (F_M_sharedOf w a0 x1 x6 x2 (1 : Int32)).bind fun r9 =>
        if x4 = (-1 : Int32) then
          F_M_sourceOf_68 rec9 w a0 x1 x2 x3 x6 r9
        else
          if r9 ≤ x5 then
            let v11 : Int32 := (x6 + (1 : Int32))
            rec9 a0 x1 x2 x3 x4 x5 v11
          else
            F_M_sourceOf_68 rec9 w a0 x1 x2 x3 x6 r9
theorem P_M_sourceOf_9_B {X : AX} {l : Launch} {G : AG} {w : AW} {rec9 : Nat → Int32 → Int32 → Int32 → Int32 → Int32 → Int32 → Option (Int32)} (hX : XOK X b_M_sourceOf "RedSkyModel" 8) (hM : XM X l G { frames := 4, cells := 0, slots := 0, locals := 99 }) {o : Int32} (hR : XR X (some .int) 0 0 (some (vi o)) w) (hrec9 : ∀ (a0 : Nat) (x1 : Int32) (x2 : Int32) (x3 : Int32) (x4 : Int32) (x5 : Int32) (x6 : Int32), rec9 a0 x1 x2 x3 x4 x5 x6 = some o → RJ X 8 0 0 9 [(0, vr a0), (1, vi x1), (2, vi x2), (3, vi x3), (4, vi x4), (5, vi x5), (6, vi x6)] [] w) (a0 : Nat) (x1 : Int32) (x2 : Int32) (x3 : Int32) (x4 : Int32) (x5 : Int32) (x6 : Int32) (h : F_M_sourceOf_9_B rec9 w a0 x1 x2 x3 x4 x5 x6 = some o) : RJ X 8 0 0 9 [(0, vr a0), (1, vi x1), (2, vi x2), (3, vi x3), (4, vi x4), (5, vi x5), (6, vi x6)] [] w := by
  unfold F_M_sourceOf_9_B at h
  refine r_iload (i := 6) hX d_M_sourceOf_9 6  rfl ?_
  refine r_bipush (v := (6 : Int32)) hX d_M_sourceOf_11 rfl ?_
  refine r_icmp_ge hX d_M_sourceOf_13 rfl h (fun h => ?_) (fun h => ?_)
  · refine r_iload (i := 4) hX d_M_sourceOf_82 4  rfl ?_
    cases h; exact r_iret hX hR d_M_sourceOf_84
  · refine r_aload_n (i := 0) hX d_M_sourceOf_16 0 rfl rfl ?_
    obtain ⟨hk1, h⟩ := gd_e h
    refine r_getR (i := 12) (f := 6) hX ci_12 (by decide) rfl fl_M_25 hk1 d_M_sourceOf_17 ?_
    refine r_iload (i := 6) hX d_M_sourceOf_20 6  rfl ?_
    obtain ⟨hk2, h⟩ := gd_e h
    obtain ⟨hg3, h⟩ := gd_e h
    refine r_iald hX hk2 hg3 d_M_sourceOf_22 ?_
    refine r_aload_n (i := 0) hX d_M_sourceOf_23 0 rfl rfl ?_
    refine r_getR (i := 12) (f := 6) hX ci_12 (by decide) rfl fl_M_25 hk1 d_M_sourceOf_24 ?_
    refine r_iload_n (i := 1) hX d_M_sourceOf_27 1 rfl rfl ?_
    obtain ⟨hg4, h⟩ := gd_e h
    refine r_iald hX hk2 hg4 d_M_sourceOf_28 ?_
    refine r_icmp_ge hX d_M_sourceOf_29 rfl h (fun h => ?_) (fun h => ?_)
    · refine r_iinc (i := 6) (v := (1 : Int32)) hX d_M_sourceOf_76 6 rfl rfl (by decide) ?_
      refine r_goto hX d_M_sourceOf_79 rfl ?_
      exact rj_sub [1, 2, 3, 4, 5, 6, 0] rfl (hrec9 _ _ _ _ _ _ _ h)
    · refine r_aload_n (i := 0) hX d_M_sourceOf_32 0 rfl rfl ?_
      refine r_iload_n (i := 1) hX d_M_sourceOf_33 1 rfl rfl ?_
      refine r_iload (i := 6) hX d_M_sourceOf_34 6  rfl ?_
      refine r_iload_n (i := 2) hX d_M_sourceOf_36 2 rfl rfl ?_
      refine r_iload_n (i := 3) hX d_M_sourceOf_37 3 rfl rfl ?_
      obtain ⟨r6, hr7, h⟩ := bd_e h
      refine r_callV1 (As := [_, _, _, _]) hX hM mw_M_389 (T_M_areAlike _ _ _ _ _ _ hr7) (rc_of ci_12 hk1) rfl rfl ⟨Nat.le_refl _, Nat.le_refl _⟩ rfl rfl d_M_sourceOf_38 ?_
      refine r_if_eq hX d_M_sourceOf_41 rfl h (fun h => ?_) (fun h => ?_)
      · refine r_iinc (i := 6) (v := (1 : Int32)) hX d_M_sourceOf_76 6 rfl rfl (by decide) ?_
        refine r_goto hX d_M_sourceOf_79 rfl ?_
        exact rj_sub [1, 2, 3, 4, 5, 6, 0] rfl (hrec9 _ _ _ _ _ _ _ h)
      · refine r_aload_n (i := 0) hX d_M_sourceOf_44 0 rfl rfl ?_
        refine r_iload_n (i := 1) hX d_M_sourceOf_45 1 rfl rfl ?_
        refine r_iload (i := 6) hX d_M_sourceOf_46 6  rfl ?_
        refine r_iload_n (i := 2) hX d_M_sourceOf_48 2 rfl rfl ?_
        refine r_iconst (v := (1 : Int32)) hX d_M_sourceOf_49 rfl ?_
        obtain ⟨r9, hr10, h⟩ := bd_e h
        refine r_callV1 (As := [_, _, _, _]) hX hM mw_M_384 (T_M_sharedOf _ _ _ _ _ _ hr10) (rc_of ci_12 hk1) rfl rfl ⟨Nat.le_refl _, Nat.le_refl _⟩ rfl rfl d_M_sourceOf_50 ?_
        refine r_istore (i := 7) hX d_M_sourceOf_53  (by decide) ?_
        refine r_iload (i := 4) hX d_M_sourceOf_55 5  rfl ?_
        refine r_iconst (v := (-1 : Int32)) hX d_M_sourceOf_57 rfl ?_
        refine r_icmp_eq hX d_M_sourceOf_58 rfl h (fun h => ?_) (fun h => ?_)
        · exact rj_sub [1, 2, 3, 4, 7, 0] rfl (P_M_sourceOf_68 hX hM hR hrec9 _ _ _ _ _ _ h)
        · refine r_iload (i := 7) hX d_M_sourceOf_61 0  rfl ?_
          refine r_iload (i := 5) hX d_M_sourceOf_63 6  rfl ?_
          refine r_icmp_le hX d_M_sourceOf_65 rfl h (fun h => ?_) (fun h => ?_)
          · refine r_iinc (i := 6) (v := (1 : Int32)) hX d_M_sourceOf_76 7 rfl rfl (by decide) ?_
            refine r_goto hX d_M_sourceOf_79 rfl ?_
            exact rj_sub [2, 3, 4, 5, 6, 7, 0] rfl (hrec9 _ _ _ _ _ _ _ h)
          · exact rj_sub [1, 2, 3, 4, 7, 0] rfl (P_M_sourceOf_68 hX hM hR hrec9 _ _ _ _ _ _ h)
def F_M_sourceOf_9 (w : AW) : Nat → Nat → Int32 → Int32 → Int32 → Int32 → Int32 → Int32 → Option (Int32)
  | 0 => fun _ _ _ _ _ _ _ => none
  | n + 1 => fun a0 x1 x2 x3 x4 x5 x6 => F_M_sourceOf_9_B (F_M_sourceOf_9 w n) w a0 x1 x2 x3 x4 x5 x6
theorem P_M_sourceOf_9 {X : AX} {l : Launch} {G : AG} {w : AW} (hX : XOK X b_M_sourceOf "RedSkyModel" 8) (hM : XM X l G { frames := 4, cells := 0, slots := 0, locals := 99 }) {o : Int32} (hR : XR X (some .int) 0 0 (some (vi o)) w) (fu : Nat) : ∀ (a0 : Nat) (x1 : Int32) (x2 : Int32) (x3 : Int32) (x4 : Int32) (x5 : Int32) (x6 : Int32), F_M_sourceOf_9 w fu a0 x1 x2 x3 x4 x5 x6 = some o → RJ X 8 0 0 9 [(0, vr a0), (1, vi x1), (2, vi x2), (3, vi x3), (4, vi x4), (5, vi x5), (6, vi x6)] [] w := by
  induction fu with
  | zero => intro a0 x1 x2 x3 x4 x5 x6 h; cases h
  | succ n9 ih => intro a0 x1 x2 x3 x4 x5 x6 h; exact P_M_sourceOf_9_B hX hM hR ih _ _ _ _ _ _ _ h
def F_M_sourceOf (w : AW) (a0 : Nat) (x1 : Int32) (x2 : Int32) (x3 : Int32) : Option (Int32) :=
  F_M_sourceOf_9 w FUEL a0 x1 x2 x3 (-1 : Int32) (0 : Int32) (0 : Int32)
theorem P_M_sourceOf_0 {X : AX} {l : Launch} {G : AG} {w : AW} (hX : XOK X b_M_sourceOf "RedSkyModel" 8) (hM : XM X l G { frames := 4, cells := 0, slots := 0, locals := 99 }) {o : Int32} (hR : XR X (some .int) 0 0 (some (vi o)) w) (a0 : Nat) (x1 : Int32) (x2 : Int32) (x3 : Int32) (h : F_M_sourceOf w a0 x1 x2 x3 = some o) : RJ X 8 0 0 0 [(0, vr a0), (1, vi x1), (2, vi x2), (3, vi x3)] [] w := by
  unfold F_M_sourceOf at h
  refine r_iconst (v := (-1 : Int32)) hX d_M_sourceOf_0 rfl ?_
  refine r_istore (i := 4) hX d_M_sourceOf_1  (by decide) ?_
  refine r_iconst (v := (0 : Int32)) hX d_M_sourceOf_3 rfl ?_
  refine r_istore (i := 5) hX d_M_sourceOf_4  (by decide) ?_
  refine r_iconst (v := (0 : Int32)) hX d_M_sourceOf_6 rfl ?_
  refine r_istore (i := 6) hX d_M_sourceOf_7  (by decide) ?_
  exact rj_sub [3, 4, 5, 6, 2, 1, 0] rfl (P_M_sourceOf_9 hX hM hR FUEL _ _ _ _ _ _ _ h)
theorem T_M_sourceOf {l : Launch} {G : AG} (w : AW) (a0 : Nat) (x1 : Int32) (x2 : Int32) (x3 : Int32) {o : Int32} (h : F_M_sourceOf w a0 x1 x2 x3 = some o) : Mt l G y_M_sourceOf b_M_sourceOf 8 (some (.int)) 4 99 0 0 [vr a0, vi x1, vi x2, vi x3] w (some (vi o)) w := mt_of (by decide) (Nat.le_of_ble_eq_true rfl) (fun X hX hR hM hI => P_M_sourceOf_0 hX hM hR _ _ _ _ h)
/-! RedSkyModel.source(III)I -/
theorem d_M_source_0 : decode b_M_source 0 = .ok (.iload_n 1, 1) := by decide +kernel
theorem d_M_source_1 : decode b_M_source 1 = .ok (.invokestatic 372, 3) := by decide +kernel
theorem d_M_source_4 : decode b_M_source 4 = .ok (.ifCond .eq (10), 3) := by decide +kernel
theorem d_M_source_7 : decode b_M_source 7 = .ok (.iload_n 2, 1) := by decide +kernel
theorem d_M_source_8 : decode b_M_source 8 = .ok (.invokestatic 155, 3) := by decide +kernel
theorem d_M_source_11 : decode b_M_source 11 = .ok (.ifCond .ne (6), 3) := by decide +kernel
theorem d_M_source_14 : decode b_M_source 14 = .ok (.bipush (-101), 2) := by decide +kernel
theorem d_M_source_16 : decode b_M_source 16 = .ok (.ireturn, 1) := by decide +kernel
theorem d_M_source_17 : decode b_M_source 17 = .ok (.iload_n 3, 1) := by decide +kernel
theorem d_M_source_18 : decode b_M_source 18 = .ok (.i2l, 1) := by decide +kernel
theorem d_M_source_19 : decode b_M_source 19 = .ok (.lconst 1, 1) := by decide +kernel
theorem d_M_source_20 : decode b_M_source 20 = .ok (.ldc2_w 387, 3) := by decide +kernel
theorem d_M_source_23 : decode b_M_source 23 = .ok (.invokestatic 122, 3) := by decide +kernel
theorem d_M_source_26 : decode b_M_source 26 = .ok (.ifCond .eq (13), 3) := by decide +kernel
theorem d_M_source_29 : decode b_M_source 29 = .ok (.aload_n 0, 1) := by decide +kernel
theorem d_M_source_30 : decode b_M_source 30 = .ok (.iload_n 1, 1) := by decide +kernel
theorem d_M_source_31 : decode b_M_source 31 = .ok (.iload_n 2, 1) := by decide +kernel
theorem d_M_source_32 : decode b_M_source 32 = .ok (.iload_n 3, 1) := by decide +kernel
theorem d_M_source_33 : decode b_M_source 33 = .ok (.invokevirtual 392, 3) := by decide +kernel
theorem d_M_source_36 : decode b_M_source 36 = .ok (.goto (5), 3) := by decide +kernel
theorem d_M_source_39 : decode b_M_source 39 = .ok (.bipush (-102), 2) := by decide +kernel
theorem d_M_source_41 : decode b_M_source 41 = .ok (.ireturn, 1) := by decide +kernel
def F_M_source (w : AW) (a0 : Nat) (x1 : Int32) (x2 : Int32) (x3 : Int32) : Option (Int32) :=
  if (F_M_isAlmanac x1) = 0 then
    some (-101 : Int32)
  else
    if (F_M_isValley x2) = 0 then
      some (-101 : Int32)
    else
      if (F_M_in (Int32.toInt64 x3) (1 : Int64) (100 : Int64)) = 0 then
        some (-102 : Int32)
      else
        gd (wk w a0 == 13) <|
        (F_M_sourceOf w a0 x1 x2 x3).bind fun r2 =>
        some r2
theorem P_M_source_0 {X : AX} {l : Launch} {G : AG} {w : AW} (hX : XOK X b_M_source "RedSkyModel" 4) (hM : XM X l G { frames := 5, cells := 0, slots := 0, locals := 126 }) {o : Int32} (hR : XR X (some .int) 0 0 (some (vi o)) w) (a0 : Nat) (x1 : Int32) (x2 : Int32) (x3 : Int32) (h : F_M_source w a0 x1 x2 x3 = some o) : RJ X 4 0 0 0 [(0, vr a0), (1, vi x1), (2, vi x2), (3, vi x3)] [] w := by
  unfold F_M_source at h
  refine r_iload_n (i := 1) hX d_M_source_0 1 rfl rfl ?_
  refine r_callS1 (As := [_]) hX hM mw_M_372 (T_M_isAlmanac _ _) rfl rfl ⟨Nat.le_refl _, Nat.le_refl _⟩ rfl rfl d_M_source_1 ?_
  refine r_if_eq hX d_M_source_4 rfl h (fun h => ?_) (fun h => ?_)
  · refine r_bipush (v := (-101 : Int32)) hX d_M_source_14 rfl ?_
    cases h; exact r_iret hX hR d_M_source_16
  · refine r_iload_n (i := 2) hX d_M_source_7 2 rfl rfl ?_
    refine r_callS1 (As := [_]) hX hM mw_M_155 (T_M_isValley _ _) rfl rfl ⟨Nat.le_refl _, Nat.le_refl _⟩ rfl rfl d_M_source_8 ?_
    refine r_if_ne hX d_M_source_11 rfl h (fun h => ?_) (fun h => ?_)
    · refine r_iload_n (i := 3) hX d_M_source_17 3 rfl rfl ?_
      refine r_i2l hX d_M_source_18 ?_
      refine r_lconst (v := (1 : Int64)) hX d_M_source_19 rfl ?_
      refine r_ldc2 hX d_M_source_20 cw_M_387 ?_
      refine r_callS1 (As := [_, _, _]) hX hM mw_M_122 (T_M_in _ _ _ _) rfl rfl ⟨Nat.le_refl _, Nat.le_refl _⟩ rfl rfl d_M_source_23 ?_
      refine r_if_eq hX d_M_source_26 rfl h (fun h => ?_) (fun h => ?_)
      · refine r_bipush (v := (-102 : Int32)) hX d_M_source_39 rfl ?_
        cases h; exact r_iret hX hR d_M_source_41
      · refine r_aload_n (i := 0) hX d_M_source_29 0 rfl rfl ?_
        refine r_iload_n (i := 1) hX d_M_source_30 1 rfl rfl ?_
        refine r_iload_n (i := 2) hX d_M_source_31 2 rfl rfl ?_
        refine r_iload_n (i := 3) hX d_M_source_32 3 rfl rfl ?_
        obtain ⟨hk1, h⟩ := gd_e h
        obtain ⟨r2, hr3, h⟩ := bd_e h
        refine r_callV1 (As := [_, _, _]) hX hM mw_M_392 (T_M_sourceOf _ _ _ _ _ hr3) (rc_of ci_12 hk1) rfl rfl ⟨Nat.le_refl _, Nat.le_refl _⟩ rfl rfl d_M_source_33 ?_
        refine r_goto hX d_M_source_36 rfl ?_
        cases h; exact r_iret hX hR d_M_source_41
    · refine r_bipush (v := (-101 : Int32)) hX d_M_source_14 rfl ?_
      cases h; exact r_iret hX hR d_M_source_16
theorem T_M_source {l : Launch} {G : AG} (w : AW) (a0 : Nat) (x1 : Int32) (x2 : Int32) (x3 : Int32) {o : Int32} (h : F_M_source w a0 x1 x2 x3 = some o) : Mt l G y_M_source b_M_source 4 (some (.int)) 5 126 0 0 [vr a0, vi x1, vi x2, vi x3] w (some (vi o)) w := mt_of (by decide) (Nat.le_of_ble_eq_true rfl) (fun X hX hR hM hI => P_M_source_0 hX hM hR _ _ _ _ h)
/-! RedSky.spring(III)I -/
theorem d_A_spring_0 : decode b_A_spring 0 = .ok (.aload_n 0, 1) := by decide +kernel
theorem d_A_spring_1 : decode b_A_spring 1 = .ok (.iload_n 1, 1) := by decide +kernel
theorem d_A_spring_2 : decode b_A_spring 2 = .ok (.invokevirtual 295, 3) := by decide +kernel
theorem d_A_spring_5 : decode b_A_spring 5 = .ok (.astore 4, 2) := by decide +kernel
theorem d_A_spring_7 : decode b_A_spring 7 = .ok (.aload_n 0, 1) := by decide +kernel
theorem d_A_spring_8 : decode b_A_spring 8 = .ok (.iload_n 2, 1) := by decide +kernel
theorem d_A_spring_9 : decode b_A_spring 9 = .ok (.invokevirtual 141, 3) := by decide +kernel
theorem d_A_spring_12 : decode b_A_spring 12 = .ok (.astore 5, 2) := by decide +kernel
theorem d_A_spring_14 : decode b_A_spring 14 = .ok (.aload 4, 2) := by decide +kernel
theorem d_A_spring_16 : decode b_A_spring 16 = .ok (.ifnull (8), 3) := by decide +kernel
theorem d_A_spring_19 : decode b_A_spring 19 = .ok (.aload 5, 2) := by decide +kernel
theorem d_A_spring_21 : decode b_A_spring 21 = .ok (.ifnonnull (6), 3) := by decide +kernel
theorem d_A_spring_24 : decode b_A_spring 24 = .ok (.bipush (-101), 2) := by decide +kernel
theorem d_A_spring_26 : decode b_A_spring 26 = .ok (.ireturn, 1) := by decide +kernel
theorem d_A_spring_27 : decode b_A_spring 27 = .ok (.iload_n 3, 1) := by decide +kernel
theorem d_A_spring_28 : decode b_A_spring 28 = .ok (.iconst 1, 1) := by decide +kernel
theorem d_A_spring_29 : decode b_A_spring 29 = .ok (.bipush (100), 2) := by decide +kernel
theorem d_A_spring_31 : decode b_A_spring 31 = .ok (.invokestatic 86, 3) := by decide +kernel
theorem d_A_spring_34 : decode b_A_spring 34 = .ok (.ifCond .ne (6), 3) := by decide +kernel
theorem d_A_spring_37 : decode b_A_spring 37 = .ok (.bipush (-102), 2) := by decide +kernel
theorem d_A_spring_39 : decode b_A_spring 39 = .ok (.ireturn, 1) := by decide +kernel
theorem d_A_spring_40 : decode b_A_spring 40 = .ok (.aload_n 0, 1) := by decide +kernel
theorem d_A_spring_41 : decode b_A_spring 41 = .ok (.getfield 79, 3) := by decide +kernel
theorem d_A_spring_44 : decode b_A_spring 44 = .ok (.aload 5, 2) := by decide +kernel
theorem d_A_spring_46 : decode b_A_spring 46 = .ok (.invokevirtual 315, 3) := by decide +kernel
theorem d_A_spring_49 : decode b_A_spring 49 = .ok (.iload_n 1, 1) := by decide +kernel
theorem d_A_spring_50 : decode b_A_spring 50 = .ok (.istore 6, 2) := by decide +kernel
theorem d_A_spring_52 : decode b_A_spring 52 = .ok (.iconst 0, 1) := by decide +kernel
theorem d_A_spring_53 : decode b_A_spring 53 = .ok (.istore 7, 2) := by decide +kernel
theorem d_A_spring_55 : decode b_A_spring 55 = .ok (.iload 7, 2) := by decide +kernel
theorem d_A_spring_57 : decode b_A_spring 57 = .ok (.bipush (6), 2) := by decide +kernel
theorem d_A_spring_59 : decode b_A_spring 59 = .ok (.if_icmp .ge (40), 3) := by decide +kernel
theorem d_A_spring_62 : decode b_A_spring 62 = .ok (.aload 4, 2) := by decide +kernel
theorem d_A_spring_64 : decode b_A_spring 64 = .ok (.ifnull (35), 3) := by decide +kernel
theorem d_A_spring_67 : decode b_A_spring 67 = .ok (.aload_n 0, 1) := by decide +kernel
theorem d_A_spring_68 : decode b_A_spring 68 = .ok (.aload 4, 2) := by decide +kernel
theorem d_A_spring_70 : decode b_A_spring 70 = .ok (.iload_n 3, 1) := by decide +kernel
theorem d_A_spring_71 : decode b_A_spring 71 = .ok (.invokevirtual 330, 3) := by decide +kernel
theorem d_A_spring_74 : decode b_A_spring 74 = .ok (.istore 8, 2) := by decide +kernel
theorem d_A_spring_76 : decode b_A_spring 76 = .ok (.aload_n 0, 1) := by decide +kernel
theorem d_A_spring_77 : decode b_A_spring 77 = .ok (.iload 8, 2) := by decide +kernel
theorem d_A_spring_79 : decode b_A_spring 79 = .ok (.invokevirtual 295, 3) := by decide +kernel
theorem d_A_spring_82 : decode b_A_spring 82 = .ok (.astore 4, 2) := by decide +kernel
theorem d_A_spring_84 : decode b_A_spring 84 = .ok (.aload 4, 2) := by decide +kernel
theorem d_A_spring_86 : decode b_A_spring 86 = .ok (.ifnull (7), 3) := by decide +kernel
theorem d_A_spring_89 : decode b_A_spring 89 = .ok (.iload 8, 2) := by decide +kernel
theorem d_A_spring_91 : decode b_A_spring 91 = .ok (.istore 6, 2) := by decide +kernel
theorem d_A_spring_93 : decode b_A_spring 93 = .ok (.iinc 7 (1), 3) := by decide +kernel
theorem d_A_spring_96 : decode b_A_spring 96 = .ok (.goto (-41), 3) := by decide +kernel
theorem d_A_spring_99 : decode b_A_spring 99 = .ok (.iload 6, 2) := by decide +kernel
theorem d_A_spring_101 : decode b_A_spring 101 = .ok (.ireturn, 1) := by decide +kernel
def F_A_spring_55_B (rec55 : Nat → Int32 → Nat → Int32 → Int32 → AW → Option (Int32 × AW)) (a0 : Nat) (x3 : Int32) (a4 : Nat) (x6 : Int32) (x7 : Int32) (w : AW) : Option (Int32 × AW) :=
  if (6 : Int32) ≤ x7 then
    some (x6, w)
  else
    if a4 = 0 then
      some (x6, w)
    else
      gd (wk w a0 == 1) <|
      (F_A_sourceOf a0 a4 x3 w).bind fun r2 =>
      let v4 : Int32 := r2.1
      gd (wk r2.2 a0 == 1) <|
      (F_A_almanacOf r2.2 a0 v4).bind fun r6 =>
      if r6 = 0 then
        let v8 : Int32 := (x7 + (1 : Int32))
        rec55 a0 x3 r6 x6 v8 r2.2
      else
        let v9 : Int32 := (x7 + (1 : Int32))
        rec55 a0 x3 r6 v4 v9 r2.2
theorem P_A_spring_55_B {X : AX} {l : Launch} {G : AG} {rec55 : Nat → Int32 → Nat → Int32 → Int32 → AW → Option (Int32 × AW)} (hX : XOK X b_A_spring "RedSky" 9) (hM : XM X l G { frames := 5, cells := 0, slots := 0, locals := 130 }) {o : Int32 × AW} (hR : XR X (some .int) 0 0 (some (vi o.1)) o.2) (hrec55 : ∀ (a0 : Nat) (x3 : Int32) (a4 : Nat) (x6 : Int32) (x7 : Int32) (w : AW), rec55 a0 x3 a4 x6 x7 w = some o → RJ X 9 0 0 55 [(0, vr a0), (3, vi x3), (4, vr a4), (6, vi x6), (7, vi x7)] [] w) (a0 : Nat) (x3 : Int32) (a4 : Nat) (x6 : Int32) (x7 : Int32) (w : AW) (h : F_A_spring_55_B rec55 a0 x3 a4 x6 x7 w = some o) : RJ X 9 0 0 55 [(0, vr a0), (3, vi x3), (4, vr a4), (6, vi x6), (7, vi x7)] [] w := by
  unfold F_A_spring_55_B at h
  refine r_iload (i := 7) hX d_A_spring_55 4  rfl ?_
  refine r_bipush (v := (6 : Int32)) hX d_A_spring_57 rfl ?_
  refine r_icmp_ge hX d_A_spring_59 rfl h (fun h => ?_) (fun h => ?_)
  · refine r_iload (i := 6) hX d_A_spring_99 3  rfl ?_
    cases h; exact r_iret hX hR d_A_spring_101
  · refine r_aload (i := 4) hX d_A_spring_62 2  rfl ?_
    refine r_ifnull hX d_A_spring_64 rfl h (fun h => ?_) (fun h => ?_)
    · refine r_iload (i := 6) hX d_A_spring_99 3  rfl ?_
      cases h; exact r_iret hX hR d_A_spring_101
    · refine r_aload_n (i := 0) hX d_A_spring_67 0 rfl rfl ?_
      refine r_aload (i := 4) hX d_A_spring_68 2  rfl ?_
      refine r_iload_n (i := 3) hX d_A_spring_70 1 rfl rfl ?_
      obtain ⟨hk1, h⟩ := gd_e h
      obtain ⟨r2, hr3, h⟩ := bd_e h
      refine r_callV1 (As := [_, _]) hX hM mw_A_330 (T_A_sourceOf _ _ _ _ hr3) (rc_of ci_0 hk1) rfl rfl ⟨Nat.le_refl _, Nat.le_refl _⟩ rfl rfl d_A_spring_71 ?_
      refine r_istore (i := 8) hX d_A_spring_74  (by decide) ?_
      refine r_aload_n (i := 0) hX d_A_spring_76 1 rfl rfl ?_
      refine r_iload (i := 8) hX d_A_spring_77 0  rfl ?_
      obtain ⟨hk5, h⟩ := gd_e h
      obtain ⟨r6, hr7, h⟩ := bd_e h
      refine r_callV1 (As := [_]) hX hM mw_A_295 (T_A_almanacOf _ _ _ hr7) (rc_of ci_0 hk5) rfl rfl ⟨Nat.le_refl _, Nat.le_refl _⟩ rfl rfl d_A_spring_79 ?_
      refine r_astore (i := 4) hX d_A_spring_82  (by decide) ?_
      refine r_aload (i := 4) hX d_A_spring_84 0  rfl ?_
      refine r_ifnull hX d_A_spring_86 rfl h (fun h => ?_) (fun h => ?_)
      · refine r_iinc (i := 7) (v := (1 : Int32)) hX d_A_spring_93 5 rfl rfl (by decide) ?_
        refine r_goto hX d_A_spring_96 rfl ?_
        exact rj_sub [3, 4, 1, 5, 0] rfl (hrec55 _ _ _ _ _ _ h)
      · refine r_iload (i := 8) hX d_A_spring_89 1  rfl ?_
        refine r_istore (i := 6) hX d_A_spring_91  (by decide) ?_
        refine r_iinc (i := 7) (v := (1 : Int32)) hX d_A_spring_93 5 rfl rfl (by decide) ?_
        refine r_goto hX d_A_spring_96 rfl ?_
        exact rj_sub [4, 5, 2, 1, 0] rfl (hrec55 _ _ _ _ _ _ h)
def F_A_spring_55 : Nat → Nat → Int32 → Nat → Int32 → Int32 → AW → Option (Int32 × AW)
  | 0 => fun _ _ _ _ _ _ => none
  | n + 1 => fun a0 x3 a4 x6 x7 w => F_A_spring_55_B (F_A_spring_55 n) a0 x3 a4 x6 x7 w
theorem P_A_spring_55 {X : AX} {l : Launch} {G : AG} (hX : XOK X b_A_spring "RedSky" 9) (hM : XM X l G { frames := 5, cells := 0, slots := 0, locals := 130 }) {o : Int32 × AW} (hR : XR X (some .int) 0 0 (some (vi o.1)) o.2) (fu : Nat) : ∀ (a0 : Nat) (x3 : Int32) (a4 : Nat) (x6 : Int32) (x7 : Int32) (w : AW), F_A_spring_55 fu a0 x3 a4 x6 x7 w = some o → RJ X 9 0 0 55 [(0, vr a0), (3, vi x3), (4, vr a4), (6, vi x6), (7, vi x7)] [] w := by
  induction fu with
  | zero => intro a0 x3 a4 x6 x7 w h; cases h
  | succ n9 ih => intro a0 x3 a4 x6 x7 w h; exact P_A_spring_55_B hX hM hR ih _ _ _ _ _ _ h
def F_A_spring (a0 : Nat) (x1 : Int32) (x2 : Int32) (x3 : Int32) (w : AW) : Option (Int32 × AW) :=
  gd (wk w a0 == 1) <|
  (F_A_almanacOf w a0 x1).bind fun r2 =>
  (F_A_diaryOf w a0 x2).bind fun r4 =>
  if r2 = 0 then
    some ((-101 : Int32), w)
  else
    if r4 = 0 then
      some ((-101 : Int32), w)
    else
      if (F_A_within x3 (1 : Int32) (100 : Int32)) = 0 then
        some ((-102 : Int32), w)
      else
        gd (wk w (wr w a0 11) == 12) <|
        (F_Li_readRain (wr w a0 11) r4 w).bind fun r7 =>
        F_A_spring_55 FUEL a0 x3 r2 x1 (0 : Int32) r7
theorem P_A_spring_0 {X : AX} {l : Launch} {G : AG} (hX : XOK X b_A_spring "RedSky" 9) (hM : XM X l G { frames := 5, cells := 0, slots := 0, locals := 130 }) {o : Int32 × AW} (hR : XR X (some .int) 0 0 (some (vi o.1)) o.2) (a0 : Nat) (x1 : Int32) (x2 : Int32) (x3 : Int32) (w : AW) (h : F_A_spring a0 x1 x2 x3 w = some o) : RJ X 9 0 0 0 [(0, vr a0), (1, vi x1), (2, vi x2), (3, vi x3)] [] w := by
  unfold F_A_spring at h
  refine r_aload_n (i := 0) hX d_A_spring_0 0 rfl rfl ?_
  refine r_iload_n (i := 1) hX d_A_spring_1 1 rfl rfl ?_
  obtain ⟨hk1, h⟩ := gd_e h
  obtain ⟨r2, hr3, h⟩ := bd_e h
  refine r_callV1 (As := [_]) hX hM mw_A_295 (T_A_almanacOf _ _ _ hr3) (rc_of ci_0 hk1) rfl rfl ⟨Nat.le_refl _, Nat.le_refl _⟩ rfl rfl d_A_spring_2 ?_
  refine r_astore (i := 4) hX d_A_spring_5  (by decide) ?_
  refine r_aload_n (i := 0) hX d_A_spring_7 1 rfl rfl ?_
  refine r_iload_n (i := 2) hX d_A_spring_8 3 rfl rfl ?_
  obtain ⟨r4, hr5, h⟩ := bd_e h
  refine r_callV1 (As := [_]) hX hM mw_A_141 (T_A_diaryOf _ _ _ hr5) (rc_of ci_0 hk1) rfl rfl ⟨Nat.le_refl _, Nat.le_refl _⟩ rfl rfl d_A_spring_9 ?_
  refine r_astore (i := 5) hX d_A_spring_12  (by decide) ?_
  refine r_aload (i := 4) hX d_A_spring_14 1  rfl ?_
  refine r_ifnull hX d_A_spring_16 rfl h (fun h => ?_) (fun h => ?_)
  · refine r_bipush (v := (-101 : Int32)) hX d_A_spring_24 rfl ?_
    cases h; exact r_iret hX hR d_A_spring_26
  · refine r_aload (i := 5) hX d_A_spring_19 0  rfl ?_
    refine r_ifnonnull hX d_A_spring_21 rfl h (fun h => ?_) (fun h => ?_)
    · refine r_iload_n (i := 3) hX d_A_spring_27 5 rfl rfl ?_
      refine r_iconst (v := (1 : Int32)) hX d_A_spring_28 rfl ?_
      refine r_bipush (v := (100 : Int32)) hX d_A_spring_29 rfl ?_
      refine r_callS1 (As := [_, _, _]) hX hM mw_A_86 (T_A_within _ _ _ _) rfl rfl ⟨Nat.le_refl _, Nat.le_refl _⟩ rfl rfl d_A_spring_31 ?_
      refine r_if_ne hX d_A_spring_34 rfl h (fun h => ?_) (fun h => ?_)
      · refine r_aload_n (i := 0) hX d_A_spring_40 2 rfl rfl ?_
        refine r_getR (i := 0) (f := 11) hX ci_0 (by decide) rfl fl_A_79 hk1 d_A_spring_41 ?_
        refine r_aload (i := 5) hX d_A_spring_44 0  rfl ?_
        obtain ⟨hk6, h⟩ := gd_e h
        obtain ⟨r7, hr8, h⟩ := bd_e h
        refine r_callV0 (As := [_]) hX hM mw_A_315 (T_Li_readRain _ _ _ hr8) (rc_of ci_11 hk6) rfl rfl ⟨Nat.le_refl _, Nat.le_refl _⟩ rfl rfl d_A_spring_46 ?_
        refine r_iload_n (i := 1) hX d_A_spring_49 3 rfl rfl ?_
        refine r_istore (i := 6) hX d_A_spring_50  (by decide) ?_
        refine r_iconst (v := (0 : Int32)) hX d_A_spring_52 rfl ?_
        refine r_istore (i := 7) hX d_A_spring_53  (by decide) ?_
        exact rj_sub [4, 7, 3, 1, 0] rfl (P_A_spring_55 hX hM hR FUEL _ _ _ _ _ _ h)
      · refine r_bipush (v := (-102 : Int32)) hX d_A_spring_37 rfl ?_
        cases h; exact r_iret hX hR d_A_spring_39
    · refine r_bipush (v := (-101 : Int32)) hX d_A_spring_24 rfl ?_
      cases h; exact r_iret hX hR d_A_spring_26
theorem T_A_spring {l : Launch} {G : AG} (a0 : Nat) (x1 : Int32) (x2 : Int32) (x3 : Int32) (w : AW) {o : Int32 × AW} (h : F_A_spring a0 x1 x2 x3 w = some o) : Mt l G y_A_spring b_A_spring 9 (some (.int)) 5 130 0 0 [vr a0, vi x1, vi x2, vi x3] w (some (vi o.1)) o.2 := mt_of (by decide) (Nat.le_of_ble_eq_true rfl) (fun X hX hR hM hI => P_A_spring_0 hX hM hR _ _ _ _ _ h)
/-! RedSkyModel.spring(III)I -/
theorem d_M_spring_0 : decode b_M_spring 0 = .ok (.iload_n 1, 1) := by decide +kernel
theorem d_M_spring_1 : decode b_M_spring 1 = .ok (.invokestatic 372, 3) := by decide +kernel
theorem d_M_spring_4 : decode b_M_spring 4 = .ok (.ifCond .eq (10), 3) := by decide +kernel
theorem d_M_spring_7 : decode b_M_spring 7 = .ok (.iload_n 2, 1) := by decide +kernel
theorem d_M_spring_8 : decode b_M_spring 8 = .ok (.invokestatic 155, 3) := by decide +kernel
theorem d_M_spring_11 : decode b_M_spring 11 = .ok (.ifCond .ne (6), 3) := by decide +kernel
theorem d_M_spring_14 : decode b_M_spring 14 = .ok (.bipush (-101), 2) := by decide +kernel
theorem d_M_spring_16 : decode b_M_spring 16 = .ok (.ireturn, 1) := by decide +kernel
theorem d_M_spring_17 : decode b_M_spring 17 = .ok (.iload_n 3, 1) := by decide +kernel
theorem d_M_spring_18 : decode b_M_spring 18 = .ok (.i2l, 1) := by decide +kernel
theorem d_M_spring_19 : decode b_M_spring 19 = .ok (.lconst 1, 1) := by decide +kernel
theorem d_M_spring_20 : decode b_M_spring 20 = .ok (.ldc2_w 387, 3) := by decide +kernel
theorem d_M_spring_23 : decode b_M_spring 23 = .ok (.invokestatic 122, 3) := by decide +kernel
theorem d_M_spring_26 : decode b_M_spring 26 = .ok (.ifCond .ne (6), 3) := by decide +kernel
theorem d_M_spring_29 : decode b_M_spring 29 = .ok (.bipush (-102), 2) := by decide +kernel
theorem d_M_spring_31 : decode b_M_spring 31 = .ok (.ireturn, 1) := by decide +kernel
theorem d_M_spring_32 : decode b_M_spring 32 = .ok (.iload_n 1, 1) := by decide +kernel
theorem d_M_spring_33 : decode b_M_spring 33 = .ok (.istore 4, 2) := by decide +kernel
theorem d_M_spring_35 : decode b_M_spring 35 = .ok (.aload_n 0, 1) := by decide +kernel
theorem d_M_spring_36 : decode b_M_spring 36 = .ok (.iload_n 1, 1) := by decide +kernel
theorem d_M_spring_37 : decode b_M_spring 37 = .ok (.iload_n 2, 1) := by decide +kernel
theorem d_M_spring_38 : decode b_M_spring 38 = .ok (.iload_n 3, 1) := by decide +kernel
theorem d_M_spring_39 : decode b_M_spring 39 = .ok (.invokevirtual 392, 3) := by decide +kernel
theorem d_M_spring_42 : decode b_M_spring 42 = .ok (.istore 5, 2) := by decide +kernel
theorem d_M_spring_44 : decode b_M_spring 44 = .ok (.iload 5, 2) := by decide +kernel
theorem d_M_spring_46 : decode b_M_spring 46 = .ok (.iconst (-1), 1) := by decide +kernel
theorem d_M_spring_47 : decode b_M_spring 47 = .ok (.if_icmp .eq (20), 3) := by decide +kernel
theorem d_M_spring_50 : decode b_M_spring 50 = .ok (.iload 5, 2) := by decide +kernel
theorem d_M_spring_52 : decode b_M_spring 52 = .ok (.istore 4, 2) := by decide +kernel
theorem d_M_spring_54 : decode b_M_spring 54 = .ok (.aload_n 0, 1) := by decide +kernel
theorem d_M_spring_55 : decode b_M_spring 55 = .ok (.iload 4, 2) := by decide +kernel
theorem d_M_spring_57 : decode b_M_spring 57 = .ok (.iload_n 2, 1) := by decide +kernel
theorem d_M_spring_58 : decode b_M_spring 58 = .ok (.iload_n 3, 1) := by decide +kernel
theorem d_M_spring_59 : decode b_M_spring 59 = .ok (.invokevirtual 392, 3) := by decide +kernel
theorem d_M_spring_62 : decode b_M_spring 62 = .ok (.istore 5, 2) := by decide +kernel
theorem d_M_spring_64 : decode b_M_spring 64 = .ok (.goto (-20), 3) := by decide +kernel
theorem d_M_spring_67 : decode b_M_spring 67 = .ok (.iload 4, 2) := by decide +kernel
theorem d_M_spring_69 : decode b_M_spring 69 = .ok (.ireturn, 1) := by decide +kernel
def F_M_spring_44_B (rec44 : Nat → Int32 → Int32 → Int32 → Int32 → Option (Int32)) (w : AW) (a0 : Nat) (x2 : Int32) (x3 : Int32) (x4 : Int32) (x5 : Int32) : Option (Int32) :=
  if x5 = (-1 : Int32) then
    some x4
  else
    gd (wk w a0 == 13) <|
    (F_M_sourceOf w a0 x5 x2 x3).bind fun r2 =>
    rec44 a0 x2 x3 x5 r2
theorem P_M_spring_44_B {X : AX} {l : Launch} {G : AG} {w : AW} {rec44 : Nat → Int32 → Int32 → Int32 → Int32 → Option (Int32)} (hX : XOK X b_M_spring "RedSkyModel" 6) (hM : XM X l G { frames := 5, cells := 0, slots := 0, locals := 126 }) {o : Int32} (hR : XR X (some .int) 0 0 (some (vi o)) w) (hrec44 : ∀ (a0 : Nat) (x2 : Int32) (x3 : Int32) (x4 : Int32) (x5 : Int32), rec44 a0 x2 x3 x4 x5 = some o → RJ X 6 0 0 44 [(0, vr a0), (2, vi x2), (3, vi x3), (4, vi x4), (5, vi x5)] [] w) (a0 : Nat) (x2 : Int32) (x3 : Int32) (x4 : Int32) (x5 : Int32) (h : F_M_spring_44_B rec44 w a0 x2 x3 x4 x5 = some o) : RJ X 6 0 0 44 [(0, vr a0), (2, vi x2), (3, vi x3), (4, vi x4), (5, vi x5)] [] w := by
  unfold F_M_spring_44_B at h
  refine r_iload (i := 5) hX d_M_spring_44 4  rfl ?_
  refine r_iconst (v := (-1 : Int32)) hX d_M_spring_46 rfl ?_
  refine r_icmp_eq hX d_M_spring_47 rfl h (fun h => ?_) (fun h => ?_)
  · refine r_iload (i := 4) hX d_M_spring_67 3  rfl ?_
    cases h; exact r_iret hX hR d_M_spring_69
  · refine r_iload (i := 5) hX d_M_spring_50 4  rfl ?_
    refine r_istore (i := 4) hX d_M_spring_52  (by decide) ?_
    refine r_aload_n (i := 0) hX d_M_spring_54 1 rfl rfl ?_
    refine r_iload (i := 4) hX d_M_spring_55 0  rfl ?_
    refine r_iload_n (i := 2) hX d_M_spring_57 2 rfl rfl ?_
    refine r_iload_n (i := 3) hX d_M_spring_58 3 rfl rfl ?_
    obtain ⟨hk1, h⟩ := gd_e h
    obtain ⟨r2, hr3, h⟩ := bd_e h
    refine r_callV1 (As := [_, _, _]) hX hM mw_M_392 (T_M_sourceOf _ _ _ _ _ hr3) (rc_of ci_12 hk1) rfl rfl ⟨Nat.le_refl _, Nat.le_refl _⟩ rfl rfl d_M_spring_59 ?_
    refine r_istore (i := 5) hX d_M_spring_62  (by decide) ?_
    refine r_goto hX d_M_spring_64 rfl ?_
    exact rj_sub [2, 3, 4, 1, 0] rfl (hrec44 _ _ _ _ _ h)
def F_M_spring_44 (w : AW) : Nat → Nat → Int32 → Int32 → Int32 → Int32 → Option (Int32)
  | 0 => fun _ _ _ _ _ => none
  | n + 1 => fun a0 x2 x3 x4 x5 => F_M_spring_44_B (F_M_spring_44 w n) w a0 x2 x3 x4 x5
theorem P_M_spring_44 {X : AX} {l : Launch} {G : AG} {w : AW} (hX : XOK X b_M_spring "RedSkyModel" 6) (hM : XM X l G { frames := 5, cells := 0, slots := 0, locals := 126 }) {o : Int32} (hR : XR X (some .int) 0 0 (some (vi o)) w) (fu : Nat) : ∀ (a0 : Nat) (x2 : Int32) (x3 : Int32) (x4 : Int32) (x5 : Int32), F_M_spring_44 w fu a0 x2 x3 x4 x5 = some o → RJ X 6 0 0 44 [(0, vr a0), (2, vi x2), (3, vi x3), (4, vi x4), (5, vi x5)] [] w := by
  induction fu with
  | zero => intro a0 x2 x3 x4 x5 h; cases h
  | succ n9 ih => intro a0 x2 x3 x4 x5 h; exact P_M_spring_44_B hX hM hR ih _ _ _ _ _ h
def F_M_spring (w : AW) (a0 : Nat) (x1 : Int32) (x2 : Int32) (x3 : Int32) : Option (Int32) :=
  if (F_M_isAlmanac x1) = 0 then
    some (-101 : Int32)
  else
    if (F_M_isValley x2) = 0 then
      some (-101 : Int32)
    else
      if (F_M_in (Int32.toInt64 x3) (1 : Int64) (100 : Int64)) = 0 then
        some (-102 : Int32)
      else
        gd (wk w a0 == 13) <|
        (F_M_sourceOf w a0 x1 x2 x3).bind fun r2 =>
        F_M_spring_44 w FUEL a0 x2 x3 x1 r2
theorem P_M_spring_0 {X : AX} {l : Launch} {G : AG} {w : AW} (hX : XOK X b_M_spring "RedSkyModel" 6) (hM : XM X l G { frames := 5, cells := 0, slots := 0, locals := 126 }) {o : Int32} (hR : XR X (some .int) 0 0 (some (vi o)) w) (a0 : Nat) (x1 : Int32) (x2 : Int32) (x3 : Int32) (h : F_M_spring w a0 x1 x2 x3 = some o) : RJ X 6 0 0 0 [(0, vr a0), (1, vi x1), (2, vi x2), (3, vi x3)] [] w := by
  unfold F_M_spring at h
  refine r_iload_n (i := 1) hX d_M_spring_0 1 rfl rfl ?_
  refine r_callS1 (As := [_]) hX hM mw_M_372 (T_M_isAlmanac _ _) rfl rfl ⟨Nat.le_refl _, Nat.le_refl _⟩ rfl rfl d_M_spring_1 ?_
  refine r_if_eq hX d_M_spring_4 rfl h (fun h => ?_) (fun h => ?_)
  · refine r_bipush (v := (-101 : Int32)) hX d_M_spring_14 rfl ?_
    cases h; exact r_iret hX hR d_M_spring_16
  · refine r_iload_n (i := 2) hX d_M_spring_7 2 rfl rfl ?_
    refine r_callS1 (As := [_]) hX hM mw_M_155 (T_M_isValley _ _) rfl rfl ⟨Nat.le_refl _, Nat.le_refl _⟩ rfl rfl d_M_spring_8 ?_
    refine r_if_ne hX d_M_spring_11 rfl h (fun h => ?_) (fun h => ?_)
    · refine r_iload_n (i := 3) hX d_M_spring_17 3 rfl rfl ?_
      refine r_i2l hX d_M_spring_18 ?_
      refine r_lconst (v := (1 : Int64)) hX d_M_spring_19 rfl ?_
      refine r_ldc2 hX d_M_spring_20 cw_M_387 ?_
      refine r_callS1 (As := [_, _, _]) hX hM mw_M_122 (T_M_in _ _ _ _) rfl rfl ⟨Nat.le_refl _, Nat.le_refl _⟩ rfl rfl d_M_spring_23 ?_
      refine r_if_ne hX d_M_spring_26 rfl h (fun h => ?_) (fun h => ?_)
      · refine r_iload_n (i := 1) hX d_M_spring_32 1 rfl rfl ?_
        refine r_istore (i := 4) hX d_M_spring_33  (by decide) ?_
        refine r_aload_n (i := 0) hX d_M_spring_35 1 rfl rfl ?_
        refine r_iload_n (i := 1) hX d_M_spring_36 2 rfl rfl ?_
        refine r_iload_n (i := 2) hX d_M_spring_37 3 rfl rfl ?_
        refine r_iload_n (i := 3) hX d_M_spring_38 4 rfl rfl ?_
        obtain ⟨hk1, h⟩ := gd_e h
        obtain ⟨r2, hr3, h⟩ := bd_e h
        refine r_callV1 (As := [_, _, _]) hX hM mw_M_392 (T_M_sourceOf _ _ _ _ _ hr3) (rc_of ci_12 hk1) rfl rfl ⟨Nat.le_refl _, Nat.le_refl _⟩ rfl rfl d_M_spring_39 ?_
        refine r_istore (i := 5) hX d_M_spring_42  (by decide) ?_
        exact rj_sub [2, 4, 5, 1, 0] rfl (P_M_spring_44 hX hM hR FUEL _ _ _ _ _ h)
      · refine r_bipush (v := (-102 : Int32)) hX d_M_spring_29 rfl ?_
        cases h; exact r_iret hX hR d_M_spring_31
    · refine r_bipush (v := (-101 : Int32)) hX d_M_spring_14 rfl ?_
      cases h; exact r_iret hX hR d_M_spring_16
theorem T_M_spring {l : Launch} {G : AG} (w : AW) (a0 : Nat) (x1 : Int32) (x2 : Int32) (x3 : Int32) {o : Int32} (h : F_M_spring w a0 x1 x2 x3 = some o) : Mt l G y_M_spring b_M_spring 6 (some (.int)) 5 126 0 0 [vr a0, vi x1, vi x2, vi x3] w (some (vi o)) w := mt_of (by decide) (Nat.le_of_ble_eq_true rfl) (fun X hX hR hM hI => P_M_spring_0 hX hM hR _ _ _ _ h)
/-! RedSky.count(I)I -/
theorem d_A_count_0 : decode b_A_count 0 = .ok (.iload_n 1, 1) := by decide +kernel
theorem d_A_count_1 : decode b_A_count 1 = .ok (.tableswitch (60) 0 3 #[31, 36, 44, 52], 31) := by decide +kernel
theorem d_A_count_32 : decode b_A_count 32 = .ok (.aload_n 0, 1) := by decide +kernel
theorem d_A_count_33 : decode b_A_count 33 = .ok (.getfield 35, 3) := by decide +kernel
theorem d_A_count_36 : decode b_A_count 36 = .ok (.ireturn, 1) := by decide +kernel
theorem d_A_count_37 : decode b_A_count 37 = .ok (.aload_n 0, 1) := by decide +kernel
theorem d_A_count_38 : decode b_A_count 38 = .ok (.getfield 25, 3) := by decide +kernel
theorem d_A_count_41 : decode b_A_count 41 = .ok (.getfield 178, 3) := by decide +kernel
theorem d_A_count_44 : decode b_A_count 44 = .ok (.ireturn, 1) := by decide +kernel
theorem d_A_count_45 : decode b_A_count 45 = .ok (.aload_n 0, 1) := by decide +kernel
theorem d_A_count_46 : decode b_A_count 46 = .ok (.getfield 10, 3) := by decide +kernel
theorem d_A_count_49 : decode b_A_count 49 = .ok (.getfield 90, 3) := by decide +kernel
theorem d_A_count_52 : decode b_A_count 52 = .ok (.ireturn, 1) := by decide +kernel
theorem d_A_count_53 : decode b_A_count 53 = .ok (.aload_n 0, 1) := by decide +kernel
theorem d_A_count_54 : decode b_A_count 54 = .ok (.getfield 66, 3) := by decide +kernel
theorem d_A_count_57 : decode b_A_count 57 = .ok (.getfield 255, 3) := by decide +kernel
theorem d_A_count_60 : decode b_A_count 60 = .ok (.ireturn, 1) := by decide +kernel
theorem d_A_count_61 : decode b_A_count 61 = .ok (.bipush (-102), 2) := by decide +kernel
theorem d_A_count_63 : decode b_A_count 63 = .ok (.ireturn, 1) := by decide +kernel
def F_A_count (w : AW) (a0 : Nat) (x1 : Int32) : Option (Int32) :=
  if Int32.toInt x1 < 0 ∨ 3 < Int32.toInt x1 then
    some (-102 : Int32)
  else if x1 = (0 : Int32) then
    gd (wk w a0 == 1) <|
    some (wi w a0 4)
  else if x1 = (1 : Int32) then
    gd (wk w a0 == 1) <|
    gd (wk w (wr w a0 2) == 4) <|
    some (wi w (wr w a0 2) 0)
  else if x1 = (2 : Int32) then
    gd (wk w a0 == 1) <|
    gd (wk w (wr w a0 0) == 2) <|
    some (wi w (wr w a0 0) 0)
  else if x1 = (3 : Int32) then
    gd (wk w a0 == 1) <|
    gd (wk w (wr w a0 9) == 10) <|
    some (wi w (wr w a0 9) 0)
  else none
theorem P_A_count_0 {X : AX} {l : Launch} {G : AG} {w : AW} (hX : XOK X b_A_count "RedSky" 2) (hM : XM X l G { frames := 0, cells := 0, slots := 0, locals := 0 }) {o : Int32} (hR : XR X (some .int) 0 0 (some (vi o)) w) (a0 : Nat) (x1 : Int32) (h : F_A_count w a0 x1 = some o) : RJ X 2 0 0 0 [(0, vr a0), (1, vi x1)] [] w := by
  unfold F_A_count at h
  refine r_iload_n (i := 1) hX d_A_count_0 1 rfl rfl ?_
  rcases it_e h with ⟨hc, h⟩ | ⟨-, h⟩
  · refine r_tsOut hX hc d_A_count_1 rfl ?_
    refine r_bipush (v := (-102 : Int32)) hX d_A_count_61 rfl ?_
    cases h; exact r_iret hX hR d_A_count_63
  rcases it_e h with ⟨hc, h⟩ | ⟨-, h⟩
  · refine r_tsIn (v := (0 : Int32)) hX hc d_A_count_1 (by decide) (by decide) rfl rfl ?_
    refine r_aload_n (i := 0) hX d_A_count_32 0 rfl rfl ?_
    obtain ⟨hk1, h⟩ := gd_e h
    refine r_getI (i := 0) (f := 4) hX ci_0 (by decide) rfl fl_A_35 hk1 d_A_count_33 ?_
    cases h; exact r_iret hX hR d_A_count_36
  rcases it_e h with ⟨hc, h⟩ | ⟨-, h⟩
  · refine r_tsIn (v := (1 : Int32)) hX hc d_A_count_1 (by decide) (by decide) rfl rfl ?_
    refine r_aload_n (i := 0) hX d_A_count_37 0 rfl rfl ?_
    obtain ⟨hk2, h⟩ := gd_e h
    refine r_getR (i := 0) (f := 2) hX ci_0 (by decide) rfl fl_A_25 hk2 d_A_count_38 ?_
    obtain ⟨hk3, h⟩ := gd_e h
    refine r_getI (i := 3) (f := 0) hX ci_3 (by decide) rfl fl_A_178 hk3 d_A_count_41 ?_
    cases h; exact r_iret hX hR d_A_count_44
  rcases it_e h with ⟨hc, h⟩ | ⟨-, h⟩
  · refine r_tsIn (v := (2 : Int32)) hX hc d_A_count_1 (by decide) (by decide) rfl rfl ?_
    refine r_aload_n (i := 0) hX d_A_count_45 0 rfl rfl ?_
    obtain ⟨hk4, h⟩ := gd_e h
    refine r_getR (i := 0) (f := 0) hX ci_0 (by decide) rfl fl_A_10 hk4 d_A_count_46 ?_
    obtain ⟨hk5, h⟩ := gd_e h
    refine r_getI (i := 1) (f := 0) hX ci_1 (by decide) rfl fl_A_90 hk5 d_A_count_49 ?_
    cases h; exact r_iret hX hR d_A_count_52
  rcases it_e h with ⟨hc, h⟩ | ⟨-, h⟩
  · refine r_tsIn (v := (3 : Int32)) hX hc d_A_count_1 (by decide) (by decide) rfl rfl ?_
    refine r_aload_n (i := 0) hX d_A_count_53 0 rfl rfl ?_
    obtain ⟨hk6, h⟩ := gd_e h
    refine r_getR (i := 0) (f := 9) hX ci_0 (by decide) rfl fl_A_66 hk6 d_A_count_54 ?_
    obtain ⟨hk7, h⟩ := gd_e h
    refine r_getI (i := 9) (f := 0) hX ci_9 (by decide) rfl fl_A_255 hk7 d_A_count_57 ?_
    cases h; exact r_iret hX hR d_A_count_60
  cases h
theorem T_A_count {l : Launch} {G : AG} (w : AW) (a0 : Nat) (x1 : Int32) {o : Int32} (h : F_A_count w a0 x1 = some o) : Mt l G y_A_count b_A_count 2 (some (.int)) 0 0 0 0 [vr a0, vi x1] w (some (vi o)) w := mt_of (by decide) (Nat.le_of_ble_eq_true rfl) (fun X hX hR hM hI => P_A_count_0 hX hM hR _ _ h)
/-! RedSkyModel.count(I)I -/
theorem d_M_count_0 : decode b_M_count 0 = .ok (.iload_n 1, 1) := by decide +kernel
theorem d_M_count_1 : decode b_M_count 1 = .ok (.ifCond .ne (10), 3) := by decide +kernel
theorem d_M_count_4 : decode b_M_count 4 = .ok (.aload_n 0, 1) := by decide +kernel
theorem d_M_count_5 : decode b_M_count 5 = .ok (.getfield 294, 3) := by decide +kernel
theorem d_M_count_8 : decode b_M_count 8 = .ok (.goto (41), 3) := by decide +kernel
theorem d_M_count_11 : decode b_M_count 11 = .ok (.iload_n 1, 1) := by decide +kernel
theorem d_M_count_12 : decode b_M_count 12 = .ok (.iconst 1, 1) := by decide +kernel
theorem d_M_count_13 : decode b_M_count 13 = .ok (.if_icmp .ne (10), 3) := by decide +kernel
theorem d_M_count_16 : decode b_M_count 16 = .ok (.aload_n 0, 1) := by decide +kernel
theorem d_M_count_17 : decode b_M_count 17 = .ok (.getfield 178, 3) := by decide +kernel
theorem d_M_count_20 : decode b_M_count 20 = .ok (.goto (29), 3) := by decide +kernel
theorem d_M_count_23 : decode b_M_count 23 = .ok (.iload_n 1, 1) := by decide +kernel
theorem d_M_count_24 : decode b_M_count 24 = .ok (.iconst 2, 1) := by decide +kernel
theorem d_M_count_25 : decode b_M_count 25 = .ok (.if_icmp .ne (10), 3) := by decide +kernel
theorem d_M_count_28 : decode b_M_count 28 = .ok (.aload_n 0, 1) := by decide +kernel
theorem d_M_count_29 : decode b_M_count 29 = .ok (.getfield 95, 3) := by decide +kernel
theorem d_M_count_32 : decode b_M_count 32 = .ok (.goto (17), 3) := by decide +kernel
theorem d_M_count_35 : decode b_M_count 35 = .ok (.iload_n 1, 1) := by decide +kernel
theorem d_M_count_36 : decode b_M_count 36 = .ok (.iconst 3, 1) := by decide +kernel
theorem d_M_count_37 : decode b_M_count 37 = .ok (.if_icmp .ne (10), 3) := by decide +kernel
theorem d_M_count_40 : decode b_M_count 40 = .ok (.aload_n 0, 1) := by decide +kernel
theorem d_M_count_41 : decode b_M_count 41 = .ok (.getfield 354, 3) := by decide +kernel
theorem d_M_count_44 : decode b_M_count 44 = .ok (.goto (5), 3) := by decide +kernel
theorem d_M_count_47 : decode b_M_count 47 = .ok (.bipush (-102), 2) := by decide +kernel
theorem d_M_count_49 : decode b_M_count 49 = .ok (.ireturn, 1) := by decide +kernel
def F_M_count (w : AW) (a0 : Nat) (x1 : Int32) : Option (Int32) :=
  if x1 = 0 then
    gd (wk w a0 == 13) <|
    some (wi w a0 29)
  else
    if x1 = (1 : Int32) then
      gd (wk w a0 == 13) <|
      some (wi w a0 9)
    else
      if x1 = (2 : Int32) then
        gd (wk w a0 == 13) <|
        some (wi w a0 0)
      else
        if x1 = (3 : Int32) then
          gd (wk w a0 == 13) <|
          some (wi w a0 40)
        else
          some (-102 : Int32)
theorem P_M_count_0 {X : AX} {l : Launch} {G : AG} {w : AW} (hX : XOK X b_M_count "RedSkyModel" 2) (hM : XM X l G { frames := 0, cells := 0, slots := 0, locals := 0 }) {o : Int32} (hR : XR X (some .int) 0 0 (some (vi o)) w) (a0 : Nat) (x1 : Int32) (h : F_M_count w a0 x1 = some o) : RJ X 2 0 0 0 [(0, vr a0), (1, vi x1)] [] w := by
  unfold F_M_count at h
  refine r_iload_n (i := 1) hX d_M_count_0 1 rfl rfl ?_
  refine r_if_ne hX d_M_count_1 rfl h (fun h => ?_) (fun h => ?_)
  · refine r_iload_n (i := 1) hX d_M_count_11 1 rfl rfl ?_
    refine r_iconst (v := (1 : Int32)) hX d_M_count_12 rfl ?_
    refine r_icmp_ne hX d_M_count_13 rfl h (fun h => ?_) (fun h => ?_)
    · refine r_iload_n (i := 1) hX d_M_count_23 1 rfl rfl ?_
      refine r_iconst (v := (2 : Int32)) hX d_M_count_24 rfl ?_
      refine r_icmp_ne hX d_M_count_25 rfl h (fun h => ?_) (fun h => ?_)
      · refine r_iload_n (i := 1) hX d_M_count_35 1 rfl rfl ?_
        refine r_iconst (v := (3 : Int32)) hX d_M_count_36 rfl ?_
        refine r_icmp_ne hX d_M_count_37 rfl h (fun h => ?_) (fun h => ?_)
        · refine r_bipush (v := (-102 : Int32)) hX d_M_count_47 rfl ?_
          cases h; exact r_iret hX hR d_M_count_49
        · refine r_aload_n (i := 0) hX d_M_count_40 0 rfl rfl ?_
          obtain ⟨hk1, h⟩ := gd_e h
          refine r_getI (i := 12) (f := 40) hX ci_12 (by decide) rfl fl_M_354 hk1 d_M_count_41 ?_
          refine r_goto hX d_M_count_44 rfl ?_
          cases h; exact r_iret hX hR d_M_count_49
      · refine r_aload_n (i := 0) hX d_M_count_28 0 rfl rfl ?_
        obtain ⟨hk2, h⟩ := gd_e h
        refine r_getI (i := 12) (f := 0) hX ci_12 (by decide) rfl fl_M_95 hk2 d_M_count_29 ?_
        refine r_goto hX d_M_count_32 rfl ?_
        cases h; exact r_iret hX hR d_M_count_49
    · refine r_aload_n (i := 0) hX d_M_count_16 0 rfl rfl ?_
      obtain ⟨hk3, h⟩ := gd_e h
      refine r_getI (i := 12) (f := 9) hX ci_12 (by decide) rfl fl_M_178 hk3 d_M_count_17 ?_
      refine r_goto hX d_M_count_20 rfl ?_
      cases h; exact r_iret hX hR d_M_count_49
  · refine r_aload_n (i := 0) hX d_M_count_4 0 rfl rfl ?_
    obtain ⟨hk4, h⟩ := gd_e h
    refine r_getI (i := 12) (f := 29) hX ci_12 (by decide) rfl fl_M_294 hk4 d_M_count_5 ?_
    refine r_goto hX d_M_count_8 rfl ?_
    cases h; exact r_iret hX hR d_M_count_49
theorem T_M_count {l : Launch} {G : AG} (w : AW) (a0 : Nat) (x1 : Int32) {o : Int32} (h : F_M_count w a0 x1 = some o) : Mt l G y_M_count b_M_count 2 (some (.int)) 0 0 0 0 [vr a0, vi x1] w (some (vi o)) w := mt_of (by decide) (Nat.le_of_ble_eq_true rfl) (fun X hX hR hM hI => P_M_count_0 hX hM hR _ _ h)
/-! RedSky.mixed(JI)J -/
theorem d_A_mixed_0 : decode b_A_mixed 0 = .ok (.ldc2_w 350, 3) := by decide +kernel
theorem d_A_mixed_3 : decode b_A_mixed 3 = .ok (.lload_n 0, 1) := by decide +kernel
theorem d_A_mixed_4 : decode b_A_mixed 4 = .ok (.lmul, 1) := by decide +kernel
theorem d_A_mixed_5 : decode b_A_mixed 5 = .ok (.iload_n 2, 1) := by decide +kernel
theorem d_A_mixed_6 : decode b_A_mixed 6 = .ok (.i2l, 1) := by decide +kernel
theorem d_A_mixed_7 : decode b_A_mixed 7 = .ok (.ladd, 1) := by decide +kernel
theorem d_A_mixed_8 : decode b_A_mixed 8 = .ok (.lreturn, 1) := by decide +kernel
def Fo_A_mixed (w : AW) (x0 : Int64) (x2 : Int32) : Option (Int64) :=
  some (((31 : Int64) * x0) + (Int32.toInt64 x2))
theorem P_A_mixed_0 {X : AX} {l : Launch} {G : AG} {w : AW} (hX : XOK X b_A_mixed "RedSky" 3) (hM : XM X l G { frames := 0, cells := 0, slots := 0, locals := 0 }) {o : Int64} (hR : XR X (some .long) 0 0 (some (vl o)) w) (x0 : Int64) (x2 : Int32) (h : Fo_A_mixed w x0 x2 = some o) : RJ X 3 0 0 0 [(0, vl x0), (2, vi x2)] [] w := by
  unfold Fo_A_mixed at h
  refine r_ldc2 hX d_A_mixed_0 cw_A_350 ?_
  refine r_lload_n (i := 0) hX d_A_mixed_3 0 rfl rfl ?_
  refine r_lmul hX d_A_mixed_4 ?_
  refine r_iload_n (i := 2) hX d_A_mixed_5 1 rfl rfl ?_
  refine r_i2l hX d_A_mixed_6 ?_
  refine r_ladd hX d_A_mixed_7 ?_
  cases h; exact r_lret hX hR d_A_mixed_8
def F_A_mixed (x0 : Int64) (x2 : Int32) : Int64 :=
  (((31 : Int64) * x0) + (Int32.toInt64 x2))
theorem E_A_mixed (w : AW) (x0 : Int64) (x2 : Int32) : Fo_A_mixed w x0 x2 = some (F_A_mixed x0 x2) := by
  simp only [Fo_A_mixed, F_A_mixed, apply_ite (some : Int64 → Option Int64)]
theorem T_A_mixed {l : Launch} {G : AG} (x0 : Int64) (x2 : Int32) (w : AW)  : Mt l G y_A_mixed b_A_mixed 3 (some (.long)) 0 0 0 0 [vl x0, vi x2] w (some (vl (F_A_mixed x0 x2))) w := mt_of (by decide) (Nat.le_of_ble_eq_true rfl) (fun X hX hR hM hI => P_A_mixed_0 hX hM hR _ _ (E_A_mixed _ _ _))
/-! RedSky$Diary.mixInto(J)J -/
theorem d_Di_mixInto_0 : decode b_Di_mixInto 0 = .ok (.lload_n 1, 1) := by decide +kernel
theorem d_Di_mixInto_1 : decode b_Di_mixInto 1 = .ok (.lstore_n 3, 1) := by decide +kernel
theorem d_Di_mixInto_2 : decode b_Di_mixInto 2 = .ok (.iconst 0, 1) := by decide +kernel
theorem d_Di_mixInto_3 : decode b_Di_mixInto 3 = .ok (.istore 5, 2) := by decide +kernel
theorem d_Di_mixInto_5 : decode b_Di_mixInto 5 = .ok (.iload 5, 2) := by decide +kernel
theorem d_Di_mixInto_7 : decode b_Di_mixInto 7 = .ok (.sipush (1461), 3) := by decide +kernel
theorem d_Di_mixInto_10 : decode b_Di_mixInto 10 = .ok (.if_icmp .ge (63), 3) := by decide +kernel
theorem d_Di_mixInto_13 : decode b_Di_mixInto 13 = .ok (.iconst 0, 1) := by decide +kernel
theorem d_Di_mixInto_14 : decode b_Di_mixInto 14 = .ok (.istore 6, 2) := by decide +kernel
theorem d_Di_mixInto_16 : decode b_Di_mixInto 16 = .ok (.iload 6, 2) := by decide +kernel
theorem d_Di_mixInto_18 : decode b_Di_mixInto 18 = .ok (.iconst 4, 1) := by decide +kernel
theorem d_Di_mixInto_19 : decode b_Di_mixInto 19 = .ok (.if_icmp .ge (48), 3) := by decide +kernel
theorem d_Di_mixInto_22 : decode b_Di_mixInto 22 = .ok (.aload_n 0, 1) := by decide +kernel
theorem d_Di_mixInto_23 : decode b_Di_mixInto 23 = .ok (.iload 5, 2) := by decide +kernel
theorem d_Di_mixInto_25 : decode b_Di_mixInto 25 = .ok (.iload 6, 2) := by decide +kernel
theorem d_Di_mixInto_27 : decode b_Di_mixInto 27 = .ok (.invokevirtual 50, 3) := by decide +kernel
theorem d_Di_mixInto_30 : decode b_Di_mixInto 30 = .ok (.istore 7, 2) := by decide +kernel
theorem d_Di_mixInto_32 : decode b_Di_mixInto 32 = .ok (.iload 7, 2) := by decide +kernel
theorem d_Di_mixInto_34 : decode b_Di_mixInto 34 = .ok (.sipush (-1000), 3) := by decide +kernel
theorem d_Di_mixInto_37 : decode b_Di_mixInto 37 = .ok (.if_icmp .eq (24), 3) := by decide +kernel
theorem d_Di_mixInto_40 : decode b_Di_mixInto 40 = .ok (.lload_n 3, 1) := by decide +kernel
theorem d_Di_mixInto_41 : decode b_Di_mixInto 41 = .ok (.sipush (2048), 3) := by decide +kernel
theorem d_Di_mixInto_44 : decode b_Di_mixInto 44 = .ok (.iload 5, 2) := by decide +kernel
theorem d_Di_mixInto_46 : decode b_Di_mixInto 46 = .ok (.imul, 1) := by decide +kernel
theorem d_Di_mixInto_47 : decode b_Di_mixInto 47 = .ok (.sipush (256), 3) := by decide +kernel
theorem d_Di_mixInto_50 : decode b_Di_mixInto 50 = .ok (.iload 6, 2) := by decide +kernel
theorem d_Di_mixInto_52 : decode b_Di_mixInto 52 = .ok (.imul, 1) := by decide +kernel
theorem d_Di_mixInto_53 : decode b_Di_mixInto 53 = .ok (.iadd, 1) := by decide +kernel
theorem d_Di_mixInto_54 : decode b_Di_mixInto 54 = .ok (.iload 7, 2) := by decide +kernel
theorem d_Di_mixInto_56 : decode b_Di_mixInto 56 = .ok (.iadd, 1) := by decide +kernel
theorem d_Di_mixInto_57 : decode b_Di_mixInto 57 = .ok (.invokestatic 72, 3) := by decide +kernel
theorem d_Di_mixInto_60 : decode b_Di_mixInto 60 = .ok (.lstore_n 3, 1) := by decide +kernel
theorem d_Di_mixInto_61 : decode b_Di_mixInto 61 = .ok (.iinc 6 (1), 3) := by decide +kernel
theorem d_Di_mixInto_64 : decode b_Di_mixInto 64 = .ok (.goto (-48), 3) := by decide +kernel
theorem d_Di_mixInto_67 : decode b_Di_mixInto 67 = .ok (.iinc 5 (1), 3) := by decide +kernel
theorem d_Di_mixInto_70 : decode b_Di_mixInto 70 = .ok (.goto (-65), 3) := by decide +kernel
theorem d_Di_mixInto_73 : decode b_Di_mixInto 73 = .ok (.lload_n 3, 1) := by decide +kernel
theorem d_Di_mixInto_74 : decode b_Di_mixInto 74 = .ok (.lreturn, 1) := by decide +kernel
def F_Di_mixInto_16_B (rec5 : Nat → Int64 → Int32 → Option (Int64)) (rec16 : Nat → Int64 → Int32 → Int32 → Option (Int64)) (w : AW) (a0 : Nat) (x3 : Int64) (x5 : Int32) (x6 : Int32) : Option (Int64) :=
  if (4 : Int32) ≤ x6 then
    let v1 : Int32 := (x5 + (1 : Int32))
    rec5 a0 x3 v1
  else
    gd (wk w a0 == 3) <|
    (F_Di_fieldAt w a0 x5 x6).bind fun r3 =>
    if r3 = (-1000 : Int32) then
      let v5 : Int32 := (x6 + (1 : Int32))
      rec16 a0 x3 x5 v5
    else
      let v6 : Int64 := (F_A_mixed x3 ((((2048 : Int32) * x5) + ((256 : Int32) * x6)) + r3))
      let v7 : Int32 := (x6 + (1 : Int32))
      rec16 a0 v6 x5 v7
theorem P_Di_mixInto_16_B {X : AX} {l : Launch} {G : AG} {w : AW} {rec5 : Nat → Int64 → Int32 → Option (Int64)} {rec16 : Nat → Int64 → Int32 → Int32 → Option (Int64)} (hX : XOK X b_Di_mixInto "RedSky$Diary" 8) (hM : XM X l G { frames := 3, cells := 0, slots := 0, locals := 65 }) {o : Int64} (hR : XR X (some .long) 0 0 (some (vl o)) w) (hrec5 : ∀ (a0 : Nat) (x3 : Int64) (x5 : Int32), rec5 a0 x3 x5 = some o → RJ X 8 0 0 5 [(0, vr a0), (3, vl x3), (5, vi x5)] [] w) (hrec16 : ∀ (a0 : Nat) (x3 : Int64) (x5 : Int32) (x6 : Int32), rec16 a0 x3 x5 x6 = some o → RJ X 8 0 0 16 [(0, vr a0), (3, vl x3), (5, vi x5), (6, vi x6)] [] w) (a0 : Nat) (x3 : Int64) (x5 : Int32) (x6 : Int32) (h : F_Di_mixInto_16_B rec5 rec16 w a0 x3 x5 x6 = some o) : RJ X 8 0 0 16 [(0, vr a0), (3, vl x3), (5, vi x5), (6, vi x6)] [] w := by
  unfold F_Di_mixInto_16_B at h
  refine r_iload (i := 6) hX d_Di_mixInto_16 3  rfl ?_
  refine r_iconst (v := (4 : Int32)) hX d_Di_mixInto_18 rfl ?_
  refine r_icmp_ge hX d_Di_mixInto_19 rfl h (fun h => ?_) (fun h => ?_)
  · refine r_iinc (i := 5) (v := (1 : Int32)) hX d_Di_mixInto_67 2 rfl rfl (by decide) ?_
    refine r_goto hX d_Di_mixInto_70 rfl ?_
    exact rj_sub [1, 2, 0] rfl (hrec5 _ _ _ h)
  · refine r_aload_n (i := 0) hX d_Di_mixInto_22 0 rfl rfl ?_
    refine r_iload (i := 5) hX d_Di_mixInto_23 2  rfl ?_
    refine r_iload (i := 6) hX d_Di_mixInto_25 3  rfl ?_
    obtain ⟨hk2, h⟩ := gd_e h
    obtain ⟨r3, hr4, h⟩ := bd_e h
    refine r_callV1 (As := [_, _]) hX hM mw_Di_50 (T_Di_fieldAt _ _ _ _ hr4) (rc_of ci_2 hk2) rfl rfl ⟨Nat.le_refl _, Nat.le_refl _⟩ rfl rfl d_Di_mixInto_27 ?_
    refine r_istore (i := 7) hX d_Di_mixInto_30  (by decide) ?_
    refine r_iload (i := 7) hX d_Di_mixInto_32 0  rfl ?_
    refine r_sipush (v := (-1000 : Int32)) hX d_Di_mixInto_34 rfl ?_
    refine r_icmp_eq hX d_Di_mixInto_37 rfl h (fun h => ?_) (fun h => ?_)
    · refine r_iinc (i := 6) (v := (1 : Int32)) hX d_Di_mixInto_61 4 rfl rfl (by decide) ?_
      refine r_goto hX d_Di_mixInto_64 rfl ?_
      exact rj_sub [2, 3, 4, 0] rfl (hrec16 _ _ _ _ h)
    · refine r_lload_n (i := 3) hX d_Di_mixInto_40 2 rfl rfl ?_
      refine r_sipush (v := (2048 : Int32)) hX d_Di_mixInto_41 rfl ?_
      refine r_iload (i := 5) hX d_Di_mixInto_44 3  rfl ?_
      refine r_imul hX d_Di_mixInto_46 ?_
      refine r_sipush (v := (256 : Int32)) hX d_Di_mixInto_47 rfl ?_
      refine r_iload (i := 6) hX d_Di_mixInto_50 4  rfl ?_
      refine r_imul hX d_Di_mixInto_52 ?_
      refine r_iadd hX d_Di_mixInto_53 ?_
      refine r_iload (i := 7) hX d_Di_mixInto_54 0  rfl ?_
      refine r_iadd hX d_Di_mixInto_56 ?_
      refine r_callSN1 (As := [_, _]) hX hM mw_Di_72 (T_A_mixed _ _ _) rfl rfl ⟨Nat.le_refl _, Nat.le_refl _⟩ rfl rfl d_Di_mixInto_57 ?_
      refine r_lstore_n (i := 3) hX d_Di_mixInto_60 rfl (by decide) ?_
      refine r_iinc (i := 6) (v := (1 : Int32)) hX d_Di_mixInto_61 4 rfl rfl (by decide) ?_
      refine r_goto hX d_Di_mixInto_64 rfl ?_
      exact rj_sub [3, 1, 4, 0] rfl (hrec16 _ _ _ _ h)
def F_Di_mixInto_16 (rec5 : Nat → Int64 → Int32 → Option (Int64)) (w : AW) : Nat → Nat → Int64 → Int32 → Int32 → Option (Int64)
  | 0 => fun _ _ _ _ => none
  | n + 1 => fun a0 x3 x5 x6 => F_Di_mixInto_16_B rec5 (F_Di_mixInto_16 rec5 w n) w a0 x3 x5 x6
theorem P_Di_mixInto_16 {X : AX} {l : Launch} {G : AG} {w : AW} {rec5 : Nat → Int64 → Int32 → Option (Int64)} (hX : XOK X b_Di_mixInto "RedSky$Diary" 8) (hM : XM X l G { frames := 3, cells := 0, slots := 0, locals := 65 }) {o : Int64} (hR : XR X (some .long) 0 0 (some (vl o)) w) (hrec5 : ∀ (a0 : Nat) (x3 : Int64) (x5 : Int32), rec5 a0 x3 x5 = some o → RJ X 8 0 0 5 [(0, vr a0), (3, vl x3), (5, vi x5)] [] w) (fu : Nat) : ∀ (a0 : Nat) (x3 : Int64) (x5 : Int32) (x6 : Int32), F_Di_mixInto_16 rec5 w fu a0 x3 x5 x6 = some o → RJ X 8 0 0 16 [(0, vr a0), (3, vl x3), (5, vi x5), (6, vi x6)] [] w := by
  induction fu with
  | zero => intro a0 x3 x5 x6 h; cases h
  | succ n9 ih => intro a0 x3 x5 x6 h; exact P_Di_mixInto_16_B hX hM hR hrec5 ih _ _ _ _ h
def F_Di_mixInto_5_B (rec5 : Nat → Int64 → Int32 → Option (Int64)) (w : AW) (a0 : Nat) (x3 : Int64) (x5 : Int32) : Option (Int64) :=
  if (1461 : Int32) ≤ x5 then
    some x3
  else
    F_Di_mixInto_16 rec5 w FUEL a0 x3 x5 (0 : Int32)
theorem P_Di_mixInto_5_B {X : AX} {l : Launch} {G : AG} {w : AW} {rec5 : Nat → Int64 → Int32 → Option (Int64)} (hX : XOK X b_Di_mixInto "RedSky$Diary" 8) (hM : XM X l G { frames := 3, cells := 0, slots := 0, locals := 65 }) {o : Int64} (hR : XR X (some .long) 0 0 (some (vl o)) w) (hrec5 : ∀ (a0 : Nat) (x3 : Int64) (x5 : Int32), rec5 a0 x3 x5 = some o → RJ X 8 0 0 5 [(0, vr a0), (3, vl x3), (5, vi x5)] [] w) (a0 : Nat) (x3 : Int64) (x5 : Int32) (h : F_Di_mixInto_5_B rec5 w a0 x3 x5 = some o) : RJ X 8 0 0 5 [(0, vr a0), (3, vl x3), (5, vi x5)] [] w := by
  unfold F_Di_mixInto_5_B at h
  refine r_iload (i := 5) hX d_Di_mixInto_5 2  rfl ?_
  refine r_sipush (v := (1461 : Int32)) hX d_Di_mixInto_7 rfl ?_
  refine r_icmp_ge hX d_Di_mixInto_10 rfl h (fun h => ?_) (fun h => ?_)
  · refine r_lload_n (i := 3) hX d_Di_mixInto_73 1 rfl rfl ?_
    cases h; exact r_lret hX hR d_Di_mixInto_74
  · refine r_iconst (v := (0 : Int32)) hX d_Di_mixInto_13 rfl ?_
    refine r_istore (i := 6) hX d_Di_mixInto_14  (by decide) ?_
    exact rj_sub [1, 2, 3, 0] rfl (P_Di_mixInto_16 hX hM hR hrec5 FUEL _ _ _ _ h)
def F_Di_mixInto_5 (w : AW) : Nat → Nat → Int64 → Int32 → Option (Int64)
  | 0 => fun _ _ _ => none
  | n + 1 => fun a0 x3 x5 => F_Di_mixInto_5_B (F_Di_mixInto_5 w n) w a0 x3 x5
theorem P_Di_mixInto_5 {X : AX} {l : Launch} {G : AG} {w : AW} (hX : XOK X b_Di_mixInto "RedSky$Diary" 8) (hM : XM X l G { frames := 3, cells := 0, slots := 0, locals := 65 }) {o : Int64} (hR : XR X (some .long) 0 0 (some (vl o)) w) (fu : Nat) : ∀ (a0 : Nat) (x3 : Int64) (x5 : Int32), F_Di_mixInto_5 w fu a0 x3 x5 = some o → RJ X 8 0 0 5 [(0, vr a0), (3, vl x3), (5, vi x5)] [] w := by
  induction fu with
  | zero => intro a0 x3 x5 h; cases h
  | succ n9 ih => intro a0 x3 x5 h; exact P_Di_mixInto_5_B hX hM hR ih _ _ _ h
def F_Di_mixInto (w : AW) (a0 : Nat) (x1 : Int64) : Option (Int64) :=
  F_Di_mixInto_5 w FUEL a0 x1 (0 : Int32)
theorem P_Di_mixInto_0 {X : AX} {l : Launch} {G : AG} {w : AW} (hX : XOK X b_Di_mixInto "RedSky$Diary" 8) (hM : XM X l G { frames := 3, cells := 0, slots := 0, locals := 65 }) {o : Int64} (hR : XR X (some .long) 0 0 (some (vl o)) w) (a0 : Nat) (x1 : Int64) (h : F_Di_mixInto w a0 x1 = some o) : RJ X 8 0 0 0 [(0, vr a0), (1, vl x1)] [] w := by
  unfold F_Di_mixInto at h
  refine r_lload_n (i := 1) hX d_Di_mixInto_0 1 rfl rfl ?_
  refine r_lstore_n (i := 3) hX d_Di_mixInto_1 rfl (by decide) ?_
  refine r_iconst (v := (0 : Int32)) hX d_Di_mixInto_2 rfl ?_
  refine r_istore (i := 5) hX d_Di_mixInto_3  (by decide) ?_
  exact rj_sub [2, 1, 0] rfl (P_Di_mixInto_5 hX hM hR FUEL _ _ _ h)
theorem T_Di_mixInto {l : Launch} {G : AG} (w : AW) (a0 : Nat) (x1 : Int64) {o : Int64} (h : F_Di_mixInto w a0 x1 = some o) : Mt l G y_Di_mixInto b_Di_mixInto 8 (some (.long)) 3 65 0 0 [vr a0, vl x1] w (some (vl o)) w := mt_of (by decide) (Nat.le_of_ble_eq_true rfl) (fun X hX hR hM hI => P_Di_mixInto_0 hX hM hR _ _ h)
/-! RedSky$Almanac.mixInto(J)J -/
theorem d_Al_mixInto_0 : decode b_Al_mixInto 0 = .ok (.lload_n 1, 1) := by decide +kernel
theorem d_Al_mixInto_1 : decode b_Al_mixInto 1 = .ok (.aload_n 0, 1) := by decide +kernel
theorem d_Al_mixInto_2 : decode b_Al_mixInto 2 = .ok (.getfield 9, 3) := by decide +kernel
theorem d_Al_mixInto_5 : decode b_Al_mixInto 5 = .ok (.invokestatic 51, 3) := by decide +kernel
theorem d_Al_mixInto_8 : decode b_Al_mixInto 8 = .ok (.lstore_n 3, 1) := by decide +kernel
theorem d_Al_mixInto_9 : decode b_Al_mixInto 9 = .ok (.iconst 0, 1) := by decide +kernel
theorem d_Al_mixInto_10 : decode b_Al_mixInto 10 = .ok (.istore 5, 2) := by decide +kernel
theorem d_Al_mixInto_12 : decode b_Al_mixInto 12 = .ok (.iload 5, 2) := by decide +kernel
theorem d_Al_mixInto_14 : decode b_Al_mixInto 14 = .ok (.sipush (1461), 3) := by decide +kernel
theorem d_Al_mixInto_17 : decode b_Al_mixInto 17 = .ok (.if_icmp .ge (35), 3) := by decide +kernel
theorem d_Al_mixInto_20 : decode b_Al_mixInto 20 = .ok (.aload_n 0, 1) := by decide +kernel
theorem d_Al_mixInto_21 : decode b_Al_mixInto 21 = .ok (.iload 5, 2) := by decide +kernel
theorem d_Al_mixInto_23 : decode b_Al_mixInto 23 = .ok (.invokevirtual 48, 3) := by decide +kernel
theorem d_Al_mixInto_26 : decode b_Al_mixInto 26 = .ok (.istore 6, 2) := by decide +kernel
theorem d_Al_mixInto_28 : decode b_Al_mixInto 28 = .ok (.iload 6, 2) := by decide +kernel
theorem d_Al_mixInto_30 : decode b_Al_mixInto 30 = .ok (.iconst (-1), 1) := by decide +kernel
theorem d_Al_mixInto_31 : decode b_Al_mixInto 31 = .ok (.if_icmp .eq (15), 3) := by decide +kernel
theorem d_Al_mixInto_34 : decode b_Al_mixInto 34 = .ok (.lload_n 3, 1) := by decide +kernel
theorem d_Al_mixInto_35 : decode b_Al_mixInto 35 = .ok (.iconst 2, 1) := by decide +kernel
theorem d_Al_mixInto_36 : decode b_Al_mixInto 36 = .ok (.iload 5, 2) := by decide +kernel
theorem d_Al_mixInto_38 : decode b_Al_mixInto 38 = .ok (.imul, 1) := by decide +kernel
theorem d_Al_mixInto_39 : decode b_Al_mixInto 39 = .ok (.iload 6, 2) := by decide +kernel
theorem d_Al_mixInto_41 : decode b_Al_mixInto 41 = .ok (.iadd, 1) := by decide +kernel
theorem d_Al_mixInto_42 : decode b_Al_mixInto 42 = .ok (.invokestatic 51, 3) := by decide +kernel
theorem d_Al_mixInto_45 : decode b_Al_mixInto 45 = .ok (.lstore_n 3, 1) := by decide +kernel
theorem d_Al_mixInto_46 : decode b_Al_mixInto 46 = .ok (.iinc 5 (1), 3) := by decide +kernel
theorem d_Al_mixInto_49 : decode b_Al_mixInto 49 = .ok (.goto (-37), 3) := by decide +kernel
theorem d_Al_mixInto_52 : decode b_Al_mixInto 52 = .ok (.lload_n 3, 1) := by decide +kernel
theorem d_Al_mixInto_53 : decode b_Al_mixInto 53 = .ok (.lreturn, 1) := by decide +kernel
def F_Al_mixInto_12_B (rec12 : Nat → Int64 → Int32 → Option (Int64)) (w : AW) (a0 : Nat) (x3 : Int64) (x5 : Int32) : Option (Int64) :=
  if (1461 : Int32) ≤ x5 then
    some x3
  else
    gd (wk w a0 == 11) <|
    (F_Al_foretoldFor w a0 x5).bind fun r2 =>
    if r2 = (-1 : Int32) then
      let v4 : Int32 := (x5 + (1 : Int32))
      rec12 a0 x3 v4
    else
      let v5 : Int64 := (F_A_mixed x3 (((2 : Int32) * x5) + r2))
      let v6 : Int32 := (x5 + (1 : Int32))
      rec12 a0 v5 v6
theorem P_Al_mixInto_12_B {X : AX} {l : Launch} {G : AG} {w : AW} {rec12 : Nat → Int64 → Int32 → Option (Int64)} (hX : XOK X b_Al_mixInto "RedSky$Almanac" 7) (hM : XM X l G { frames := 2, cells := 0, slots := 0, locals := 42 }) {o : Int64} (hR : XR X (some .long) 0 0 (some (vl o)) w) (hrec12 : ∀ (a0 : Nat) (x3 : Int64) (x5 : Int32), rec12 a0 x3 x5 = some o → RJ X 7 0 0 12 [(0, vr a0), (3, vl x3), (5, vi x5)] [] w) (a0 : Nat) (x3 : Int64) (x5 : Int32) (h : F_Al_mixInto_12_B rec12 w a0 x3 x5 = some o) : RJ X 7 0 0 12 [(0, vr a0), (3, vl x3), (5, vi x5)] [] w := by
  unfold F_Al_mixInto_12_B at h
  refine r_iload (i := 5) hX d_Al_mixInto_12 2  rfl ?_
  refine r_sipush (v := (1461 : Int32)) hX d_Al_mixInto_14 rfl ?_
  refine r_icmp_ge hX d_Al_mixInto_17 rfl h (fun h => ?_) (fun h => ?_)
  · refine r_lload_n (i := 3) hX d_Al_mixInto_52 1 rfl rfl ?_
    cases h; exact r_lret hX hR d_Al_mixInto_53
  · refine r_aload_n (i := 0) hX d_Al_mixInto_20 0 rfl rfl ?_
    refine r_iload (i := 5) hX d_Al_mixInto_21 2  rfl ?_
    obtain ⟨hk1, h⟩ := gd_e h
    obtain ⟨r2, hr3, h⟩ := bd_e h
    refine r_callV1 (As := [_]) hX hM mw_Al_48 (T_Al_foretoldFor _ _ _ hr3) (rc_of ci_10 hk1) rfl rfl ⟨Nat.le_refl _, Nat.le_refl _⟩ rfl rfl d_Al_mixInto_23 ?_
    refine r_istore (i := 6) hX d_Al_mixInto_26  (by decide) ?_
    refine r_iload (i := 6) hX d_Al_mixInto_28 0  rfl ?_
    refine r_iconst (v := (-1 : Int32)) hX d_Al_mixInto_30 rfl ?_
    refine r_icmp_eq hX d_Al_mixInto_31 rfl h (fun h => ?_) (fun h => ?_)
    · refine r_iinc (i := 5) (v := (1 : Int32)) hX d_Al_mixInto_46 3 rfl rfl (by decide) ?_
      refine r_goto hX d_Al_mixInto_49 rfl ?_
      exact rj_sub [2, 3, 0] rfl (hrec12 _ _ _ h)
    · refine r_lload_n (i := 3) hX d_Al_mixInto_34 2 rfl rfl ?_
      refine r_iconst (v := (2 : Int32)) hX d_Al_mixInto_35 rfl ?_
      refine r_iload (i := 5) hX d_Al_mixInto_36 3  rfl ?_
      refine r_imul hX d_Al_mixInto_38 ?_
      refine r_iload (i := 6) hX d_Al_mixInto_39 0  rfl ?_
      refine r_iadd hX d_Al_mixInto_41 ?_
      refine r_callSN1 (As := [_, _]) hX hM mw_Al_51 (T_A_mixed _ _ _) rfl rfl ⟨Nat.le_refl _, Nat.le_refl _⟩ rfl rfl d_Al_mixInto_42 ?_
      refine r_lstore_n (i := 3) hX d_Al_mixInto_45 rfl (by decide) ?_
      refine r_iinc (i := 5) (v := (1 : Int32)) hX d_Al_mixInto_46 3 rfl rfl (by decide) ?_
      refine r_goto hX d_Al_mixInto_49 rfl ?_
      exact rj_sub [3, 1, 0] rfl (hrec12 _ _ _ h)
def F_Al_mixInto_12 (w : AW) : Nat → Nat → Int64 → Int32 → Option (Int64)
  | 0 => fun _ _ _ => none
  | n + 1 => fun a0 x3 x5 => F_Al_mixInto_12_B (F_Al_mixInto_12 w n) w a0 x3 x5
theorem P_Al_mixInto_12 {X : AX} {l : Launch} {G : AG} {w : AW} (hX : XOK X b_Al_mixInto "RedSky$Almanac" 7) (hM : XM X l G { frames := 2, cells := 0, slots := 0, locals := 42 }) {o : Int64} (hR : XR X (some .long) 0 0 (some (vl o)) w) (fu : Nat) : ∀ (a0 : Nat) (x3 : Int64) (x5 : Int32), F_Al_mixInto_12 w fu a0 x3 x5 = some o → RJ X 7 0 0 12 [(0, vr a0), (3, vl x3), (5, vi x5)] [] w := by
  induction fu with
  | zero => intro a0 x3 x5 h; cases h
  | succ n9 ih => intro a0 x3 x5 h; exact P_Al_mixInto_12_B hX hM hR ih _ _ _ h
def F_Al_mixInto (w : AW) (a0 : Nat) (x1 : Int64) : Option (Int64) :=
  gd (wk w a0 == 11) <|
  let v2 : Int64 := (F_A_mixed x1 (wi w a0 0))
  F_Al_mixInto_12 w FUEL a0 v2 (0 : Int32)
theorem P_Al_mixInto_0 {X : AX} {l : Launch} {G : AG} {w : AW} (hX : XOK X b_Al_mixInto "RedSky$Almanac" 7) (hM : XM X l G { frames := 2, cells := 0, slots := 0, locals := 42 }) {o : Int64} (hR : XR X (some .long) 0 0 (some (vl o)) w) (a0 : Nat) (x1 : Int64) (h : F_Al_mixInto w a0 x1 = some o) : RJ X 7 0 0 0 [(0, vr a0), (1, vl x1)] [] w := by
  unfold F_Al_mixInto at h
  refine r_lload_n (i := 1) hX d_Al_mixInto_0 1 rfl rfl ?_
  refine r_aload_n (i := 0) hX d_Al_mixInto_1 0 rfl rfl ?_
  obtain ⟨hk1, h⟩ := gd_e h
  refine r_getI (i := 10) (f := 0) hX ci_10 (by decide) rfl fl_Al_9 hk1 d_Al_mixInto_2 ?_
  refine r_callSN1 (As := [_, _]) hX hM mw_Al_51 (T_A_mixed _ _ _) rfl rfl ⟨Nat.le_refl _, Nat.le_refl _⟩ rfl rfl d_Al_mixInto_5 ?_
  refine r_lstore_n (i := 3) hX d_Al_mixInto_8 rfl (by decide) ?_
  refine r_iconst (v := (0 : Int32)) hX d_Al_mixInto_9 rfl ?_
  refine r_istore (i := 5) hX d_Al_mixInto_10  (by decide) ?_
  exact rj_sub [2, 1, 0] rfl (P_Al_mixInto_12 hX hM hR FUEL _ _ _ h)
theorem T_Al_mixInto {l : Launch} {G : AG} (w : AW) (a0 : Nat) (x1 : Int64) {o : Int64} (h : F_Al_mixInto w a0 x1 = some o) : Mt l G y_Al_mixInto b_Al_mixInto 7 (some (.long)) 2 42 0 0 [vr a0, vl x1] w (some (vl o)) w := mt_of (by decide) (Nat.le_of_ble_eq_true rfl) (fun X hX hR hM hI => P_Al_mixInto_0 hX hM hR _ _ h)
/-! RedSky.digest()J -/
theorem d_A_digest_0 : decode b_A_digest 0 = .ok (.ldc2_w 334, 3) := by decide +kernel
theorem d_A_digest_3 : decode b_A_digest 3 = .ok (.aload_n 0, 1) := by decide +kernel
theorem d_A_digest_4 : decode b_A_digest 4 = .ok (.getfield 10, 3) := by decide +kernel
theorem d_A_digest_7 : decode b_A_digest 7 = .ok (.getfield 90, 3) := by decide +kernel
theorem d_A_digest_10 : decode b_A_digest 10 = .ok (.invokestatic 336, 3) := by decide +kernel
theorem d_A_digest_13 : decode b_A_digest 13 = .ok (.lstore_n 1, 1) := by decide +kernel
theorem d_A_digest_14 : decode b_A_digest 14 = .ok (.iconst 0, 1) := by decide +kernel
theorem d_A_digest_15 : decode b_A_digest 15 = .ok (.istore_n 3, 1) := by decide +kernel
theorem d_A_digest_16 : decode b_A_digest 16 = .ok (.iload_n 3, 1) := by decide +kernel
theorem d_A_digest_17 : decode b_A_digest 17 = .ok (.bipush (8), 2) := by decide +kernel
theorem d_A_digest_19 : decode b_A_digest 19 = .ok (.if_icmp .ge (65), 3) := by decide +kernel
theorem d_A_digest_22 : decode b_A_digest 22 = .ok (.lload_n 1, 1) := by decide +kernel
theorem d_A_digest_23 : decode b_A_digest 23 = .ok (.aload_n 0, 1) := by decide +kernel
theorem d_A_digest_24 : decode b_A_digest 24 = .ok (.getfield 10, 3) := by decide +kernel
theorem d_A_digest_27 : decode b_A_digest 27 = .ok (.getfield 124, 3) := by decide +kernel
theorem d_A_digest_30 : decode b_A_digest 30 = .ok (.iload_n 3, 1) := by decide +kernel
theorem d_A_digest_31 : decode b_A_digest 31 = .ok (.iaload, 1) := by decide +kernel
theorem d_A_digest_32 : decode b_A_digest 32 = .ok (.invokestatic 336, 3) := by decide +kernel
theorem d_A_digest_35 : decode b_A_digest 35 = .ok (.lstore_n 1, 1) := by decide +kernel
theorem d_A_digest_36 : decode b_A_digest 36 = .ok (.lload_n 1, 1) := by decide +kernel
theorem d_A_digest_37 : decode b_A_digest 37 = .ok (.aload_n 0, 1) := by decide +kernel
theorem d_A_digest_38 : decode b_A_digest 38 = .ok (.getfield 10, 3) := by decide +kernel
theorem d_A_digest_41 : decode b_A_digest 41 = .ok (.getfield 128, 3) := by decide +kernel
theorem d_A_digest_44 : decode b_A_digest 44 = .ok (.iload_n 3, 1) := by decide +kernel
theorem d_A_digest_45 : decode b_A_digest 45 = .ok (.iaload, 1) := by decide +kernel
theorem d_A_digest_46 : decode b_A_digest 46 = .ok (.invokestatic 336, 3) := by decide +kernel
theorem d_A_digest_49 : decode b_A_digest 49 = .ok (.lstore_n 1, 1) := by decide +kernel
theorem d_A_digest_50 : decode b_A_digest 50 = .ok (.lload_n 1, 1) := by decide +kernel
theorem d_A_digest_51 : decode b_A_digest 51 = .ok (.aload_n 0, 1) := by decide +kernel
theorem d_A_digest_52 : decode b_A_digest 52 = .ok (.getfield 10, 3) := by decide +kernel
theorem d_A_digest_55 : decode b_A_digest 55 = .ok (.getfield 131, 3) := by decide +kernel
theorem d_A_digest_58 : decode b_A_digest 58 = .ok (.iload_n 3, 1) := by decide +kernel
theorem d_A_digest_59 : decode b_A_digest 59 = .ok (.iaload, 1) := by decide +kernel
theorem d_A_digest_60 : decode b_A_digest 60 = .ok (.invokestatic 336, 3) := by decide +kernel
theorem d_A_digest_63 : decode b_A_digest 63 = .ok (.lstore_n 1, 1) := by decide +kernel
theorem d_A_digest_64 : decode b_A_digest 64 = .ok (.lload_n 1, 1) := by decide +kernel
theorem d_A_digest_65 : decode b_A_digest 65 = .ok (.aload_n 0, 1) := by decide +kernel
theorem d_A_digest_66 : decode b_A_digest 66 = .ok (.getfield 10, 3) := by decide +kernel
theorem d_A_digest_69 : decode b_A_digest 69 = .ok (.getfield 134, 3) := by decide +kernel
theorem d_A_digest_72 : decode b_A_digest 72 = .ok (.iload_n 3, 1) := by decide +kernel
theorem d_A_digest_73 : decode b_A_digest 73 = .ok (.iaload, 1) := by decide +kernel
theorem d_A_digest_74 : decode b_A_digest 74 = .ok (.invokestatic 336, 3) := by decide +kernel
theorem d_A_digest_77 : decode b_A_digest 77 = .ok (.lstore_n 1, 1) := by decide +kernel
theorem d_A_digest_78 : decode b_A_digest 78 = .ok (.iinc 3 (1), 3) := by decide +kernel
theorem d_A_digest_81 : decode b_A_digest 81 = .ok (.goto (-65), 3) := by decide +kernel
theorem d_A_digest_84 : decode b_A_digest 84 = .ok (.iconst 0, 1) := by decide +kernel
theorem d_A_digest_85 : decode b_A_digest 85 = .ok (.istore_n 3, 1) := by decide +kernel
theorem d_A_digest_86 : decode b_A_digest 86 = .ok (.iload_n 3, 1) := by decide +kernel
theorem d_A_digest_87 : decode b_A_digest 87 = .ok (.iconst 3, 1) := by decide +kernel
theorem d_A_digest_88 : decode b_A_digest 88 = .ok (.if_icmp .ge (20), 3) := by decide +kernel
theorem d_A_digest_91 : decode b_A_digest 91 = .ok (.aload_n 0, 1) := by decide +kernel
theorem d_A_digest_92 : decode b_A_digest 92 = .ok (.getfield 18, 3) := by decide +kernel
theorem d_A_digest_95 : decode b_A_digest 95 = .ok (.iload_n 3, 1) := by decide +kernel
theorem d_A_digest_96 : decode b_A_digest 96 = .ok (.aaload, 1) := by decide +kernel
theorem d_A_digest_97 : decode b_A_digest 97 = .ok (.lload_n 1, 1) := by decide +kernel
theorem d_A_digest_98 : decode b_A_digest 98 = .ok (.invokevirtual 340, 3) := by decide +kernel
theorem d_A_digest_101 : decode b_A_digest 101 = .ok (.lstore_n 1, 1) := by decide +kernel
theorem d_A_digest_102 : decode b_A_digest 102 = .ok (.iinc 3 (1), 3) := by decide +kernel
theorem d_A_digest_105 : decode b_A_digest 105 = .ok (.goto (-19), 3) := by decide +kernel
theorem d_A_digest_108 : decode b_A_digest 108 = .ok (.iconst 0, 1) := by decide +kernel
theorem d_A_digest_109 : decode b_A_digest 109 = .ok (.istore_n 3, 1) := by decide +kernel
theorem d_A_digest_110 : decode b_A_digest 110 = .ok (.iload_n 3, 1) := by decide +kernel
theorem d_A_digest_111 : decode b_A_digest 111 = .ok (.aload_n 0, 1) := by decide +kernel
theorem d_A_digest_112 : decode b_A_digest 112 = .ok (.getfield 25, 3) := by decide +kernel
theorem d_A_digest_115 : decode b_A_digest 115 = .ok (.getfield 178, 3) := by decide +kernel
theorem d_A_digest_118 : decode b_A_digest 118 = .ok (.if_icmp .ge (22), 3) := by decide +kernel
theorem d_A_digest_121 : decode b_A_digest 121 = .ok (.lload_n 1, 1) := by decide +kernel
theorem d_A_digest_122 : decode b_A_digest 122 = .ok (.aload_n 0, 1) := by decide +kernel
theorem d_A_digest_123 : decode b_A_digest 123 = .ok (.getfield 25, 3) := by decide +kernel
theorem d_A_digest_126 : decode b_A_digest 126 = .ok (.iload_n 3, 1) := by decide +kernel
theorem d_A_digest_127 : decode b_A_digest 127 = .ok (.invokevirtual 344, 3) := by decide +kernel
theorem d_A_digest_130 : decode b_A_digest 130 = .ok (.invokestatic 336, 3) := by decide +kernel
theorem d_A_digest_133 : decode b_A_digest 133 = .ok (.lstore_n 1, 1) := by decide +kernel
theorem d_A_digest_134 : decode b_A_digest 134 = .ok (.iinc 3 (1), 3) := by decide +kernel
theorem d_A_digest_137 : decode b_A_digest 137 = .ok (.goto (-27), 3) := by decide +kernel
theorem d_A_digest_140 : decode b_A_digest 140 = .ok (.iconst 0, 1) := by decide +kernel
theorem d_A_digest_141 : decode b_A_digest 141 = .ok (.istore_n 3, 1) := by decide +kernel
theorem d_A_digest_142 : decode b_A_digest 142 = .ok (.iload_n 3, 1) := by decide +kernel
theorem d_A_digest_143 : decode b_A_digest 143 = .ok (.aload_n 0, 1) := by decide +kernel
theorem d_A_digest_144 : decode b_A_digest 144 = .ok (.getfield 35, 3) := by decide +kernel
theorem d_A_digest_147 : decode b_A_digest 147 = .ok (.if_icmp .ge (47), 3) := by decide +kernel
theorem d_A_digest_150 : decode b_A_digest 150 = .ok (.iload_n 3, 1) := by decide +kernel
theorem d_A_digest_151 : decode b_A_digest 151 = .ok (.bipush (8), 2) := by decide +kernel
theorem d_A_digest_153 : decode b_A_digest 153 = .ok (.if_icmp .ge (41), 3) := by decide +kernel
theorem d_A_digest_156 : decode b_A_digest 156 = .ok (.iconst 0, 1) := by decide +kernel
theorem d_A_digest_157 : decode b_A_digest 157 = .ok (.istore 4, 2) := by decide +kernel
theorem d_A_digest_159 : decode b_A_digest 159 = .ok (.iload 4, 2) := by decide +kernel
theorem d_A_digest_161 : decode b_A_digest 161 = .ok (.bipush (12), 2) := by decide +kernel
theorem d_A_digest_163 : decode b_A_digest 163 = .ok (.if_icmp .ge (25), 3) := by decide +kernel
theorem d_A_digest_166 : decode b_A_digest 166 = .ok (.lload_n 1, 1) := by decide +kernel
theorem d_A_digest_167 : decode b_A_digest 167 = .ok (.aload_n 0, 1) := by decide +kernel
theorem d_A_digest_168 : decode b_A_digest 168 = .ok (.getfield 31, 3) := by decide +kernel
theorem d_A_digest_171 : decode b_A_digest 171 = .ok (.iload_n 3, 1) := by decide +kernel
theorem d_A_digest_172 : decode b_A_digest 172 = .ok (.aaload, 1) := by decide +kernel
theorem d_A_digest_173 : decode b_A_digest 173 = .ok (.iload 4, 2) := by decide +kernel
theorem d_A_digest_175 : decode b_A_digest 175 = .ok (.invokevirtual 204, 3) := by decide +kernel
theorem d_A_digest_178 : decode b_A_digest 178 = .ok (.invokestatic 336, 3) := by decide +kernel
theorem d_A_digest_181 : decode b_A_digest 181 = .ok (.lstore_n 1, 1) := by decide +kernel
theorem d_A_digest_182 : decode b_A_digest 182 = .ok (.iinc 4 (1), 3) := by decide +kernel
theorem d_A_digest_185 : decode b_A_digest 185 = .ok (.goto (-26), 3) := by decide +kernel
theorem d_A_digest_188 : decode b_A_digest 188 = .ok (.iinc 3 (1), 3) := by decide +kernel
theorem d_A_digest_191 : decode b_A_digest 191 = .ok (.goto (-49), 3) := by decide +kernel
theorem d_A_digest_194 : decode b_A_digest 194 = .ok (.iconst 0, 1) := by decide +kernel
theorem d_A_digest_195 : decode b_A_digest 195 = .ok (.istore_n 3, 1) := by decide +kernel
theorem d_A_digest_196 : decode b_A_digest 196 = .ok (.iload_n 3, 1) := by decide +kernel
theorem d_A_digest_197 : decode b_A_digest 197 = .ok (.bipush (6), 2) := by decide +kernel
theorem d_A_digest_199 : decode b_A_digest 199 = .ok (.if_icmp .ge (20), 3) := by decide +kernel
theorem d_A_digest_202 : decode b_A_digest 202 = .ok (.aload_n 0, 1) := by decide +kernel
theorem d_A_digest_203 : decode b_A_digest 203 = .ok (.getfield 72, 3) := by decide +kernel
theorem d_A_digest_206 : decode b_A_digest 206 = .ok (.iload_n 3, 1) := by decide +kernel
theorem d_A_digest_207 : decode b_A_digest 207 = .ok (.aaload, 1) := by decide +kernel
theorem d_A_digest_208 : decode b_A_digest 208 = .ok (.lload_n 1, 1) := by decide +kernel
theorem d_A_digest_209 : decode b_A_digest 209 = .ok (.invokevirtual 347, 3) := by decide +kernel
theorem d_A_digest_212 : decode b_A_digest 212 = .ok (.lstore_n 1, 1) := by decide +kernel
theorem d_A_digest_213 : decode b_A_digest 213 = .ok (.iinc 3 (1), 3) := by decide +kernel
theorem d_A_digest_216 : decode b_A_digest 216 = .ok (.goto (-20), 3) := by decide +kernel
theorem d_A_digest_219 : decode b_A_digest 219 = .ok (.lload_n 1, 1) := by decide +kernel
theorem d_A_digest_220 : decode b_A_digest 220 = .ok (.aload_n 0, 1) := by decide +kernel
theorem d_A_digest_221 : decode b_A_digest 221 = .ok (.getfield 66, 3) := by decide +kernel
theorem d_A_digest_224 : decode b_A_digest 224 = .ok (.getfield 255, 3) := by decide +kernel
theorem d_A_digest_227 : decode b_A_digest 227 = .ok (.invokestatic 336, 3) := by decide +kernel
theorem d_A_digest_230 : decode b_A_digest 230 = .ok (.lreturn, 1) := by decide +kernel
def F_A_digest_196_B (rec196 : Nat → Int64 → Int32 → Option (Int64)) (w : AW) (a0 : Nat) (x1 : Int64) (x3 : Int32) : Option (Int64) :=
  if (6 : Int32) ≤ x3 then
    gd (wk w a0 == 1) <|
    gd (wk w (wr w a0 9) == 10) <|
    some (F_A_mixed x1 (wi w (wr w a0 9) 0))
  else
    gd (wk w a0 == 1) <|
    gd (wk w (wr w a0 10) == 108) <|
    gd (inb x3 (wn w (wr w a0 10))) <|
    gd (wk w (wr w (wr w a0 10) (Int32.toNatClampNeg x3)) == 11) <|
    (F_Al_mixInto w (wr w (wr w a0 10) (Int32.toNatClampNeg x3)) x1).bind fun r7 =>
    let v9 : Int32 := (x3 + (1 : Int32))
    rec196 a0 r7 v9
theorem P_A_digest_196_B {X : AX} {l : Launch} {G : AG} {w : AW} {rec196 : Nat → Int64 → Int32 → Option (Int64)} (hX : XOK X b_A_digest "RedSky" 5) (hM : XM X l G { frames := 4, cells := 0, slots := 0, locals := 92 }) {o : Int64} (hR : XR X (some .long) 0 0 (some (vl o)) w) (hrec196 : ∀ (a0 : Nat) (x1 : Int64) (x3 : Int32), rec196 a0 x1 x3 = some o → RJ X 5 0 0 196 [(0, vr a0), (1, vl x1), (3, vi x3)] [] w) (a0 : Nat) (x1 : Int64) (x3 : Int32) (h : F_A_digest_196_B rec196 w a0 x1 x3 = some o) : RJ X 5 0 0 196 [(0, vr a0), (1, vl x1), (3, vi x3)] [] w := by
  unfold F_A_digest_196_B at h
  refine r_iload_n (i := 3) hX d_A_digest_196 2 rfl rfl ?_
  refine r_bipush (v := (6 : Int32)) hX d_A_digest_197 rfl ?_
  refine r_icmp_ge hX d_A_digest_199 rfl h (fun h => ?_) (fun h => ?_)
  · refine r_lload_n (i := 1) hX d_A_digest_219 1 rfl rfl ?_
    refine r_aload_n (i := 0) hX d_A_digest_220 0 rfl rfl ?_
    obtain ⟨hk1, h⟩ := gd_e h
    refine r_getR (i := 0) (f := 9) hX ci_0 (by decide) rfl fl_A_66 hk1 d_A_digest_221 ?_
    obtain ⟨hk2, h⟩ := gd_e h
    refine r_getI (i := 9) (f := 0) hX ci_9 (by decide) rfl fl_A_255 hk2 d_A_digest_224 ?_
    refine r_callS1 (As := [_, _]) hX hM mw_A_336 (T_A_mixed _ _ _) rfl rfl ⟨Nat.le_refl _, Nat.le_refl _⟩ rfl rfl d_A_digest_227 ?_
    cases h; exact r_lret hX hR d_A_digest_230
  · refine r_aload_n (i := 0) hX d_A_digest_202 0 rfl rfl ?_
    obtain ⟨hk3, h⟩ := gd_e h
    refine r_getR (i := 0) (f := 10) hX ci_0 (by decide) rfl fl_A_72 hk3 d_A_digest_203 ?_
    refine r_iload_n (i := 3) hX d_A_digest_206 2 rfl rfl ?_
    obtain ⟨hk4, h⟩ := gd_e h
    obtain ⟨hg5, h⟩ := gd_e h
    refine r_aald (t := 0) (kd := 108) hX (by decide) (fun G => rfl) hk4 hg5 d_A_digest_207 ?_
    refine r_lload_n (i := 1) hX d_A_digest_208 1 rfl rfl ?_
    obtain ⟨hk6, h⟩ := gd_e h
    obtain ⟨r7, hr8, h⟩ := bd_e h
    refine r_callV1 (As := [_]) hX hM mw_A_347 (T_Al_mixInto _ _ _ hr8) (rc_of ci_10 hk6) rfl rfl ⟨Nat.le_refl _, Nat.le_refl _⟩ rfl rfl d_A_digest_209 ?_
    refine r_lstore_n (i := 1) hX d_A_digest_212 rfl (by decide) ?_
    refine r_iinc (i := 3) (v := (1 : Int32)) hX d_A_digest_213 2 rfl rfl (by decide) ?_
    refine r_goto hX d_A_digest_216 rfl ?_
    exact rj_sub [2, 1, 0] rfl (hrec196 _ _ _ h)
def F_A_digest_196 (w : AW) : Nat → Nat → Int64 → Int32 → Option (Int64)
  | 0 => fun _ _ _ => none
  | n + 1 => fun a0 x1 x3 => F_A_digest_196_B (F_A_digest_196 w n) w a0 x1 x3
theorem P_A_digest_196 {X : AX} {l : Launch} {G : AG} {w : AW} (hX : XOK X b_A_digest "RedSky" 5) (hM : XM X l G { frames := 4, cells := 0, slots := 0, locals := 92 }) {o : Int64} (hR : XR X (some .long) 0 0 (some (vl o)) w) (fu : Nat) : ∀ (a0 : Nat) (x1 : Int64) (x3 : Int32), F_A_digest_196 w fu a0 x1 x3 = some o → RJ X 5 0 0 196 [(0, vr a0), (1, vl x1), (3, vi x3)] [] w := by
  induction fu with
  | zero => intro a0 x1 x3 h; cases h
  | succ n9 ih => intro a0 x1 x3 h; exact P_A_digest_196_B hX hM hR ih _ _ _ h
def F_A_digest_159_B (rec142 : Nat → Int64 → Int32 → Option (Int64)) (rec159 : Nat → Int64 → Int32 → Int32 → Option (Int64)) (w : AW) (a0 : Nat) (x1 : Int64) (x3 : Int32) (x4 : Int32) : Option (Int64) :=
  if (12 : Int32) ≤ x4 then
    let v1 : Int32 := (x3 + (1 : Int32))
    rec142 a0 x1 v1
  else
    gd (wk w a0 == 1) <|
    gd (wk w (wr w a0 3) == 107) <|
    gd (inb x3 (wn w (wr w a0 3))) <|
    gd (wk w (wr w (wr w a0 3) (Int32.toNatClampNeg x3)) == 5) <|
    (F_Sa_answer w (wr w (wr w a0 3) (Int32.toNatClampNeg x3)) x4).bind fun r6 =>
    let v8 : Int64 := (F_A_mixed x1 r6)
    let v9 : Int32 := (x4 + (1 : Int32))
    rec159 a0 v8 x3 v9
theorem P_A_digest_159_B {X : AX} {l : Launch} {G : AG} {w : AW} {rec142 : Nat → Int64 → Int32 → Option (Int64)} {rec159 : Nat → Int64 → Int32 → Int32 → Option (Int64)} (hX : XOK X b_A_digest "RedSky" 5) (hM : XM X l G { frames := 4, cells := 0, slots := 0, locals := 92 }) {o : Int64} (hR : XR X (some .long) 0 0 (some (vl o)) w) (hrec142 : ∀ (a0 : Nat) (x1 : Int64) (x3 : Int32), rec142 a0 x1 x3 = some o → RJ X 5 0 0 142 [(0, vr a0), (1, vl x1), (3, vi x3)] [] w) (hrec159 : ∀ (a0 : Nat) (x1 : Int64) (x3 : Int32) (x4 : Int32), rec159 a0 x1 x3 x4 = some o → RJ X 5 0 0 159 [(0, vr a0), (1, vl x1), (3, vi x3), (4, vi x4)] [] w) (a0 : Nat) (x1 : Int64) (x3 : Int32) (x4 : Int32) (h : F_A_digest_159_B rec142 rec159 w a0 x1 x3 x4 = some o) : RJ X 5 0 0 159 [(0, vr a0), (1, vl x1), (3, vi x3), (4, vi x4)] [] w := by
  unfold F_A_digest_159_B at h
  refine r_iload (i := 4) hX d_A_digest_159 3  rfl ?_
  refine r_bipush (v := (12 : Int32)) hX d_A_digest_161 rfl ?_
  refine r_icmp_ge hX d_A_digest_163 rfl h (fun h => ?_) (fun h => ?_)
  · refine r_iinc (i := 3) (v := (1 : Int32)) hX d_A_digest_188 2 rfl rfl (by decide) ?_
    refine r_goto hX d_A_digest_191 rfl ?_
    exact rj_sub [1, 2, 0] rfl (hrec142 _ _ _ h)
  · refine r_lload_n (i := 1) hX d_A_digest_166 1 rfl rfl ?_
    refine r_aload_n (i := 0) hX d_A_digest_167 0 rfl rfl ?_
    obtain ⟨hk2, h⟩ := gd_e h
    refine r_getR (i := 0) (f := 3) hX ci_0 (by decide) rfl fl_A_31 hk2 d_A_digest_168 ?_
    refine r_iload_n (i := 3) hX d_A_digest_171 2 rfl rfl ?_
    obtain ⟨hk3, h⟩ := gd_e h
    obtain ⟨hg4, h⟩ := gd_e h
    refine r_aald (t := 0) (kd := 107) hX (by decide) (fun G => rfl) hk3 hg4 d_A_digest_172 ?_
    refine r_iload (i := 4) hX d_A_digest_173 3  rfl ?_
    obtain ⟨hk5, h⟩ := gd_e h
    obtain ⟨r6, hr7, h⟩ := bd_e h
    refine r_callV1 (As := [_]) hX hM mw_A_204 (T_Sa_answer _ _ _ hr7) (rc_of ci_4 hk5) rfl rfl ⟨Nat.le_refl _, Nat.le_refl _⟩ rfl rfl d_A_digest_175 ?_
    refine r_callS1 (As := [_, _]) hX hM mw_A_336 (T_A_mixed _ _ _) rfl rfl ⟨Nat.le_refl _, Nat.le_refl _⟩ rfl rfl d_A_digest_178 ?_
    refine r_lstore_n (i := 1) hX d_A_digest_181 rfl (by decide) ?_
    refine r_iinc (i := 4) (v := (1 : Int32)) hX d_A_digest_182 3 rfl rfl (by decide) ?_
    refine r_goto hX d_A_digest_185 rfl ?_
    exact rj_sub [2, 1, 3, 0] rfl (hrec159 _ _ _ _ h)
def F_A_digest_159 (rec142 : Nat → Int64 → Int32 → Option (Int64)) (w : AW) : Nat → Nat → Int64 → Int32 → Int32 → Option (Int64)
  | 0 => fun _ _ _ _ => none
  | n + 1 => fun a0 x1 x3 x4 => F_A_digest_159_B rec142 (F_A_digest_159 rec142 w n) w a0 x1 x3 x4
theorem P_A_digest_159 {X : AX} {l : Launch} {G : AG} {w : AW} {rec142 : Nat → Int64 → Int32 → Option (Int64)} (hX : XOK X b_A_digest "RedSky" 5) (hM : XM X l G { frames := 4, cells := 0, slots := 0, locals := 92 }) {o : Int64} (hR : XR X (some .long) 0 0 (some (vl o)) w) (hrec142 : ∀ (a0 : Nat) (x1 : Int64) (x3 : Int32), rec142 a0 x1 x3 = some o → RJ X 5 0 0 142 [(0, vr a0), (1, vl x1), (3, vi x3)] [] w) (fu : Nat) : ∀ (a0 : Nat) (x1 : Int64) (x3 : Int32) (x4 : Int32), F_A_digest_159 rec142 w fu a0 x1 x3 x4 = some o → RJ X 5 0 0 159 [(0, vr a0), (1, vl x1), (3, vi x3), (4, vi x4)] [] w := by
  induction fu with
  | zero => intro a0 x1 x3 x4 h; cases h
  | succ n9 ih => intro a0 x1 x3 x4 h; exact P_A_digest_159_B hX hM hR hrec142 ih _ _ _ _ h
def F_A_digest_142_B (rec142 : Nat → Int64 → Int32 → Option (Int64)) (w : AW) (a0 : Nat) (x1 : Int64) (x3 : Int32) : Option (Int64) :=
  gd (wk w a0 == 1) <|
  if (wi w a0 4) ≤ x3 then
    F_A_digest_196 w FUEL a0 x1 (0 : Int32)
  else
    if (8 : Int32) ≤ x3 then
      F_A_digest_196 w FUEL a0 x1 (0 : Int32)
    else
      F_A_digest_159 rec142 w FUEL a0 x1 x3 (0 : Int32)
theorem P_A_digest_142_B {X : AX} {l : Launch} {G : AG} {w : AW} {rec142 : Nat → Int64 → Int32 → Option (Int64)} (hX : XOK X b_A_digest "RedSky" 5) (hM : XM X l G { frames := 4, cells := 0, slots := 0, locals := 92 }) {o : Int64} (hR : XR X (some .long) 0 0 (some (vl o)) w) (hrec142 : ∀ (a0 : Nat) (x1 : Int64) (x3 : Int32), rec142 a0 x1 x3 = some o → RJ X 5 0 0 142 [(0, vr a0), (1, vl x1), (3, vi x3)] [] w) (a0 : Nat) (x1 : Int64) (x3 : Int32) (h : F_A_digest_142_B rec142 w a0 x1 x3 = some o) : RJ X 5 0 0 142 [(0, vr a0), (1, vl x1), (3, vi x3)] [] w := by
  unfold F_A_digest_142_B at h
  refine r_iload_n (i := 3) hX d_A_digest_142 2 rfl rfl ?_
  refine r_aload_n (i := 0) hX d_A_digest_143 0 rfl rfl ?_
  obtain ⟨hk1, h⟩ := gd_e h
  refine r_getI (i := 0) (f := 4) hX ci_0 (by decide) rfl fl_A_35 hk1 d_A_digest_144 ?_
  refine r_icmp_ge hX d_A_digest_147 rfl h (fun h => ?_) (fun h => ?_)
  · refine r_iconst (v := (0 : Int32)) hX d_A_digest_194 rfl ?_
    refine r_istore_n (i := 3) hX d_A_digest_195 rfl (by decide) ?_
    exact rj_sub [1, 2, 0] rfl (P_A_digest_196 hX hM hR FUEL _ _ _ h)
  · refine r_iload_n (i := 3) hX d_A_digest_150 2 rfl rfl ?_
    refine r_bipush (v := (8 : Int32)) hX d_A_digest_151 rfl ?_
    refine r_icmp_ge hX d_A_digest_153 rfl h (fun h => ?_) (fun h => ?_)
    · refine r_iconst (v := (0 : Int32)) hX d_A_digest_194 rfl ?_
      refine r_istore_n (i := 3) hX d_A_digest_195 rfl (by decide) ?_
      exact rj_sub [1, 2, 0] rfl (P_A_digest_196 hX hM hR FUEL _ _ _ h)
    · refine r_iconst (v := (0 : Int32)) hX d_A_digest_156 rfl ?_
      refine r_istore (i := 4) hX d_A_digest_157  (by decide) ?_
      exact rj_sub [1, 2, 3, 0] rfl (P_A_digest_159 hX hM hR hrec142 FUEL _ _ _ _ h)
def F_A_digest_142 (w : AW) : Nat → Nat → Int64 → Int32 → Option (Int64)
  | 0 => fun _ _ _ => none
  | n + 1 => fun a0 x1 x3 => F_A_digest_142_B (F_A_digest_142 w n) w a0 x1 x3
theorem P_A_digest_142 {X : AX} {l : Launch} {G : AG} {w : AW} (hX : XOK X b_A_digest "RedSky" 5) (hM : XM X l G { frames := 4, cells := 0, slots := 0, locals := 92 }) {o : Int64} (hR : XR X (some .long) 0 0 (some (vl o)) w) (fu : Nat) : ∀ (a0 : Nat) (x1 : Int64) (x3 : Int32), F_A_digest_142 w fu a0 x1 x3 = some o → RJ X 5 0 0 142 [(0, vr a0), (1, vl x1), (3, vi x3)] [] w := by
  induction fu with
  | zero => intro a0 x1 x3 h; cases h
  | succ n9 ih => intro a0 x1 x3 h; exact P_A_digest_142_B hX hM hR ih _ _ _ h
def F_A_digest_110_B (rec110 : Nat → Int64 → Int32 → Option (Int64)) (w : AW) (a0 : Nat) (x1 : Int64) (x3 : Int32) : Option (Int64) :=
  gd (wk w a0 == 1) <|
  gd (wk w (wr w a0 2) == 4) <|
  if (wi w (wr w a0 2) 0) ≤ x3 then
    F_A_digest_142 w FUEL a0 x1 (0 : Int32)
  else
    (F_Pg_letterAt w (wr w a0 2) x3).bind fun r3 =>
    let v5 : Int64 := (F_A_mixed x1 r3)
    let v6 : Int32 := (x3 + (1 : Int32))
    rec110 a0 v5 v6
theorem P_A_digest_110_B {X : AX} {l : Launch} {G : AG} {w : AW} {rec110 : Nat → Int64 → Int32 → Option (Int64)} (hX : XOK X b_A_digest "RedSky" 5) (hM : XM X l G { frames := 4, cells := 0, slots := 0, locals := 92 }) {o : Int64} (hR : XR X (some .long) 0 0 (some (vl o)) w) (hrec110 : ∀ (a0 : Nat) (x1 : Int64) (x3 : Int32), rec110 a0 x1 x3 = some o → RJ X 5 0 0 110 [(0, vr a0), (1, vl x1), (3, vi x3)] [] w) (a0 : Nat) (x1 : Int64) (x3 : Int32) (h : F_A_digest_110_B rec110 w a0 x1 x3 = some o) : RJ X 5 0 0 110 [(0, vr a0), (1, vl x1), (3, vi x3)] [] w := by
  unfold F_A_digest_110_B at h
  refine r_iload_n (i := 3) hX d_A_digest_110 2 rfl rfl ?_
  refine r_aload_n (i := 0) hX d_A_digest_111 0 rfl rfl ?_
  obtain ⟨hk1, h⟩ := gd_e h
  refine r_getR (i := 0) (f := 2) hX ci_0 (by decide) rfl fl_A_25 hk1 d_A_digest_112 ?_
  obtain ⟨hk2, h⟩ := gd_e h
  refine r_getI (i := 3) (f := 0) hX ci_3 (by decide) rfl fl_A_178 hk2 d_A_digest_115 ?_
  refine r_icmp_ge hX d_A_digest_118 rfl h (fun h => ?_) (fun h => ?_)
  · refine r_iconst (v := (0 : Int32)) hX d_A_digest_140 rfl ?_
    refine r_istore_n (i := 3) hX d_A_digest_141 rfl (by decide) ?_
    exact rj_sub [1, 2, 0] rfl (P_A_digest_142 hX hM hR FUEL _ _ _ h)
  · refine r_lload_n (i := 1) hX d_A_digest_121 1 rfl rfl ?_
    refine r_aload_n (i := 0) hX d_A_digest_122 0 rfl rfl ?_
    refine r_getR (i := 0) (f := 2) hX ci_0 (by decide) rfl fl_A_25 hk1 d_A_digest_123 ?_
    refine r_iload_n (i := 3) hX d_A_digest_126 2 rfl rfl ?_
    obtain ⟨r3, hr4, h⟩ := bd_e h
    refine r_callV1 (As := [_]) hX hM mw_A_344 (T_Pg_letterAt _ _ _ hr4) (rc_of ci_3 hk2) rfl rfl ⟨Nat.le_refl _, Nat.le_refl _⟩ rfl rfl d_A_digest_127 ?_
    refine r_callS1 (As := [_, _]) hX hM mw_A_336 (T_A_mixed _ _ _) rfl rfl ⟨Nat.le_refl _, Nat.le_refl _⟩ rfl rfl d_A_digest_130 ?_
    refine r_lstore_n (i := 1) hX d_A_digest_133 rfl (by decide) ?_
    refine r_iinc (i := 3) (v := (1 : Int32)) hX d_A_digest_134 2 rfl rfl (by decide) ?_
    refine r_goto hX d_A_digest_137 rfl ?_
    exact rj_sub [2, 1, 0] rfl (hrec110 _ _ _ h)
def F_A_digest_110 (w : AW) : Nat → Nat → Int64 → Int32 → Option (Int64)
  | 0 => fun _ _ _ => none
  | n + 1 => fun a0 x1 x3 => F_A_digest_110_B (F_A_digest_110 w n) w a0 x1 x3
theorem P_A_digest_110 {X : AX} {l : Launch} {G : AG} {w : AW} (hX : XOK X b_A_digest "RedSky" 5) (hM : XM X l G { frames := 4, cells := 0, slots := 0, locals := 92 }) {o : Int64} (hR : XR X (some .long) 0 0 (some (vl o)) w) (fu : Nat) : ∀ (a0 : Nat) (x1 : Int64) (x3 : Int32), F_A_digest_110 w fu a0 x1 x3 = some o → RJ X 5 0 0 110 [(0, vr a0), (1, vl x1), (3, vi x3)] [] w := by
  induction fu with
  | zero => intro a0 x1 x3 h; cases h
  | succ n9 ih => intro a0 x1 x3 h; exact P_A_digest_110_B hX hM hR ih _ _ _ h
def F_A_digest_86_B (rec86 : Nat → Int64 → Int32 → Option (Int64)) (w : AW) (a0 : Nat) (x1 : Int64) (x3 : Int32) : Option (Int64) :=
  if (3 : Int32) ≤ x3 then
    F_A_digest_110 w FUEL a0 x1 (0 : Int32)
  else
    gd (wk w a0 == 1) <|
    gd (wk w (wr w a0 1) == 106) <|
    gd (inb x3 (wn w (wr w a0 1))) <|
    gd (wk w (wr w (wr w a0 1) (Int32.toNatClampNeg x3)) == 3) <|
    (F_Di_mixInto w (wr w (wr w a0 1) (Int32.toNatClampNeg x3)) x1).bind fun r5 =>
    let v7 : Int32 := (x3 + (1 : Int32))
    rec86 a0 r5 v7
theorem P_A_digest_86_B {X : AX} {l : Launch} {G : AG} {w : AW} {rec86 : Nat → Int64 → Int32 → Option (Int64)} (hX : XOK X b_A_digest "RedSky" 5) (hM : XM X l G { frames := 4, cells := 0, slots := 0, locals := 92 }) {o : Int64} (hR : XR X (some .long) 0 0 (some (vl o)) w) (hrec86 : ∀ (a0 : Nat) (x1 : Int64) (x3 : Int32), rec86 a0 x1 x3 = some o → RJ X 5 0 0 86 [(0, vr a0), (1, vl x1), (3, vi x3)] [] w) (a0 : Nat) (x1 : Int64) (x3 : Int32) (h : F_A_digest_86_B rec86 w a0 x1 x3 = some o) : RJ X 5 0 0 86 [(0, vr a0), (1, vl x1), (3, vi x3)] [] w := by
  unfold F_A_digest_86_B at h
  refine r_iload_n (i := 3) hX d_A_digest_86 2 rfl rfl ?_
  refine r_iconst (v := (3 : Int32)) hX d_A_digest_87 rfl ?_
  refine r_icmp_ge hX d_A_digest_88 rfl h (fun h => ?_) (fun h => ?_)
  · refine r_iconst (v := (0 : Int32)) hX d_A_digest_108 rfl ?_
    refine r_istore_n (i := 3) hX d_A_digest_109 rfl (by decide) ?_
    exact rj_sub [1, 2, 0] rfl (P_A_digest_110 hX hM hR FUEL _ _ _ h)
  · refine r_aload_n (i := 0) hX d_A_digest_91 0 rfl rfl ?_
    obtain ⟨hk1, h⟩ := gd_e h
    refine r_getR (i := 0) (f := 1) hX ci_0 (by decide) rfl fl_A_18 hk1 d_A_digest_92 ?_
    refine r_iload_n (i := 3) hX d_A_digest_95 2 rfl rfl ?_
    obtain ⟨hk2, h⟩ := gd_e h
    obtain ⟨hg3, h⟩ := gd_e h
    refine r_aald (t := 0) (kd := 106) hX (by decide) (fun G => rfl) hk2 hg3 d_A_digest_96 ?_
    refine r_lload_n (i := 1) hX d_A_digest_97 1 rfl rfl ?_
    obtain ⟨hk4, h⟩ := gd_e h
    obtain ⟨r5, hr6, h⟩ := bd_e h
    refine r_callV1 (As := [_]) hX hM mw_A_340 (T_Di_mixInto _ _ _ hr6) (rc_of ci_2 hk4) rfl rfl ⟨Nat.le_refl _, Nat.le_refl _⟩ rfl rfl d_A_digest_98 ?_
    refine r_lstore_n (i := 1) hX d_A_digest_101 rfl (by decide) ?_
    refine r_iinc (i := 3) (v := (1 : Int32)) hX d_A_digest_102 2 rfl rfl (by decide) ?_
    refine r_goto hX d_A_digest_105 rfl ?_
    exact rj_sub [2, 1, 0] rfl (hrec86 _ _ _ h)
def F_A_digest_86 (w : AW) : Nat → Nat → Int64 → Int32 → Option (Int64)
  | 0 => fun _ _ _ => none
  | n + 1 => fun a0 x1 x3 => F_A_digest_86_B (F_A_digest_86 w n) w a0 x1 x3
theorem P_A_digest_86 {X : AX} {l : Launch} {G : AG} {w : AW} (hX : XOK X b_A_digest "RedSky" 5) (hM : XM X l G { frames := 4, cells := 0, slots := 0, locals := 92 }) {o : Int64} (hR : XR X (some .long) 0 0 (some (vl o)) w) (fu : Nat) : ∀ (a0 : Nat) (x1 : Int64) (x3 : Int32), F_A_digest_86 w fu a0 x1 x3 = some o → RJ X 5 0 0 86 [(0, vr a0), (1, vl x1), (3, vi x3)] [] w := by
  induction fu with
  | zero => intro a0 x1 x3 h; cases h
  | succ n9 ih => intro a0 x1 x3 h; exact P_A_digest_86_B hX hM hR ih _ _ _ h
def F_A_digest_16_B (rec16 : Nat → Int64 → Int32 → Option (Int64)) (w : AW) (a0 : Nat) (x1 : Int64) (x3 : Int32) : Option (Int64) :=
  if (8 : Int32) ≤ x3 then
    F_A_digest_86 w FUEL a0 x1 (0 : Int32)
  else
    gd (wk w a0 == 1) <|
    gd (wk w (wr w a0 0) == 2) <|
    gd (wk w (wr w (wr w a0 0) 1) == 100) <|
    gd (inb x3 (wn w (wr w (wr w a0 0) 1))) <|
    let v5 : Int64 := (F_A_mixed x1 (wi w (wr w (wr w a0 0) 1) (Int32.toNatClampNeg x3)))
    gd (wk w (wr w (wr w a0 0) 2) == 100) <|
    gd (inb x3 (wn w (wr w (wr w a0 0) 2))) <|
    let v8 : Int64 := (F_A_mixed v5 (wi w (wr w (wr w a0 0) 2) (Int32.toNatClampNeg x3)))
    gd (wk w (wr w (wr w a0 0) 3) == 100) <|
    gd (inb x3 (wn w (wr w (wr w a0 0) 3))) <|
    let v11 : Int64 := (F_A_mixed v8 (wi w (wr w (wr w a0 0) 3) (Int32.toNatClampNeg x3)))
    gd (wk w (wr w (wr w a0 0) 4) == 100) <|
    gd (inb x3 (wn w (wr w (wr w a0 0) 4))) <|
    let v14 : Int64 := (F_A_mixed v11 (wi w (wr w (wr w a0 0) 4) (Int32.toNatClampNeg x3)))
    let v15 : Int32 := (x3 + (1 : Int32))
    rec16 a0 v14 v15
theorem P_A_digest_16_B {X : AX} {l : Launch} {G : AG} {w : AW} {rec16 : Nat → Int64 → Int32 → Option (Int64)} (hX : XOK X b_A_digest "RedSky" 5) (hM : XM X l G { frames := 4, cells := 0, slots := 0, locals := 92 }) {o : Int64} (hR : XR X (some .long) 0 0 (some (vl o)) w) (hrec16 : ∀ (a0 : Nat) (x1 : Int64) (x3 : Int32), rec16 a0 x1 x3 = some o → RJ X 5 0 0 16 [(0, vr a0), (1, vl x1), (3, vi x3)] [] w) (a0 : Nat) (x1 : Int64) (x3 : Int32) (h : F_A_digest_16_B rec16 w a0 x1 x3 = some o) : RJ X 5 0 0 16 [(0, vr a0), (1, vl x1), (3, vi x3)] [] w := by
  unfold F_A_digest_16_B at h
  refine r_iload_n (i := 3) hX d_A_digest_16 2 rfl rfl ?_
  refine r_bipush (v := (8 : Int32)) hX d_A_digest_17 rfl ?_
  refine r_icmp_ge hX d_A_digest_19 rfl h (fun h => ?_) (fun h => ?_)
  · refine r_iconst (v := (0 : Int32)) hX d_A_digest_84 rfl ?_
    refine r_istore_n (i := 3) hX d_A_digest_85 rfl (by decide) ?_
    exact rj_sub [1, 2, 0] rfl (P_A_digest_86 hX hM hR FUEL _ _ _ h)
  · refine r_lload_n (i := 1) hX d_A_digest_22 1 rfl rfl ?_
    refine r_aload_n (i := 0) hX d_A_digest_23 0 rfl rfl ?_
    obtain ⟨hk1, h⟩ := gd_e h
    refine r_getR (i := 0) (f := 0) hX ci_0 (by decide) rfl fl_A_10 hk1 d_A_digest_24 ?_
    obtain ⟨hk2, h⟩ := gd_e h
    refine r_getR (i := 1) (f := 1) hX ci_1 (by decide) rfl fl_A_124 hk2 d_A_digest_27 ?_
    refine r_iload_n (i := 3) hX d_A_digest_30 2 rfl rfl ?_
    obtain ⟨hk3, h⟩ := gd_e h
    obtain ⟨hg4, h⟩ := gd_e h
    refine r_iald hX hk3 hg4 d_A_digest_31 ?_
    refine r_callS1 (As := [_, _]) hX hM mw_A_336 (T_A_mixed _ _ _) rfl rfl ⟨Nat.le_refl _, Nat.le_refl _⟩ rfl rfl d_A_digest_32 ?_
    refine r_lstore_n (i := 1) hX d_A_digest_35 rfl (by decide) ?_
    refine r_lload_n (i := 1) hX d_A_digest_36 0 rfl rfl ?_
    refine r_aload_n (i := 0) hX d_A_digest_37 1 rfl rfl ?_
    refine r_getR (i := 0) (f := 0) hX ci_0 (by decide) rfl fl_A_10 hk1 d_A_digest_38 ?_
    refine r_getR (i := 1) (f := 2) hX ci_1 (by decide) rfl fl_A_128 hk2 d_A_digest_41 ?_
    refine r_iload_n (i := 3) hX d_A_digest_44 2 rfl rfl ?_
    obtain ⟨hk6, h⟩ := gd_e h
    obtain ⟨hg7, h⟩ := gd_e h
    refine r_iald hX hk6 hg7 d_A_digest_45 ?_
    refine r_callS1 (As := [_, _]) hX hM mw_A_336 (T_A_mixed _ _ _) rfl rfl ⟨Nat.le_refl _, Nat.le_refl _⟩ rfl rfl d_A_digest_46 ?_
    refine r_lstore_n (i := 1) hX d_A_digest_49 rfl (by decide) ?_
    refine r_lload_n (i := 1) hX d_A_digest_50 0 rfl rfl ?_
    refine r_aload_n (i := 0) hX d_A_digest_51 1 rfl rfl ?_
    refine r_getR (i := 0) (f := 0) hX ci_0 (by decide) rfl fl_A_10 hk1 d_A_digest_52 ?_
    refine r_getR (i := 1) (f := 3) hX ci_1 (by decide) rfl fl_A_131 hk2 d_A_digest_55 ?_
    refine r_iload_n (i := 3) hX d_A_digest_58 2 rfl rfl ?_
    obtain ⟨hk9, h⟩ := gd_e h
    obtain ⟨hg10, h⟩ := gd_e h
    refine r_iald hX hk9 hg10 d_A_digest_59 ?_
    refine r_callS1 (As := [_, _]) hX hM mw_A_336 (T_A_mixed _ _ _) rfl rfl ⟨Nat.le_refl _, Nat.le_refl _⟩ rfl rfl d_A_digest_60 ?_
    refine r_lstore_n (i := 1) hX d_A_digest_63 rfl (by decide) ?_
    refine r_lload_n (i := 1) hX d_A_digest_64 0 rfl rfl ?_
    refine r_aload_n (i := 0) hX d_A_digest_65 1 rfl rfl ?_
    refine r_getR (i := 0) (f := 0) hX ci_0 (by decide) rfl fl_A_10 hk1 d_A_digest_66 ?_
    refine r_getR (i := 1) (f := 4) hX ci_1 (by decide) rfl fl_A_134 hk2 d_A_digest_69 ?_
    refine r_iload_n (i := 3) hX d_A_digest_72 2 rfl rfl ?_
    obtain ⟨hk12, h⟩ := gd_e h
    obtain ⟨hg13, h⟩ := gd_e h
    refine r_iald hX hk12 hg13 d_A_digest_73 ?_
    refine r_callS1 (As := [_, _]) hX hM mw_A_336 (T_A_mixed _ _ _) rfl rfl ⟨Nat.le_refl _, Nat.le_refl _⟩ rfl rfl d_A_digest_74 ?_
    refine r_lstore_n (i := 1) hX d_A_digest_77 rfl (by decide) ?_
    refine r_iinc (i := 3) (v := (1 : Int32)) hX d_A_digest_78 2 rfl rfl (by decide) ?_
    refine r_goto hX d_A_digest_81 rfl ?_
    exact rj_sub [2, 1, 0] rfl (hrec16 _ _ _ h)
def F_A_digest_16 (w : AW) : Nat → Nat → Int64 → Int32 → Option (Int64)
  | 0 => fun _ _ _ => none
  | n + 1 => fun a0 x1 x3 => F_A_digest_16_B (F_A_digest_16 w n) w a0 x1 x3
theorem P_A_digest_16 {X : AX} {l : Launch} {G : AG} {w : AW} (hX : XOK X b_A_digest "RedSky" 5) (hM : XM X l G { frames := 4, cells := 0, slots := 0, locals := 92 }) {o : Int64} (hR : XR X (some .long) 0 0 (some (vl o)) w) (fu : Nat) : ∀ (a0 : Nat) (x1 : Int64) (x3 : Int32), F_A_digest_16 w fu a0 x1 x3 = some o → RJ X 5 0 0 16 [(0, vr a0), (1, vl x1), (3, vi x3)] [] w := by
  induction fu with
  | zero => intro a0 x1 x3 h; cases h
  | succ n9 ih => intro a0 x1 x3 h; exact P_A_digest_16_B hX hM hR ih _ _ _ h
def F_A_digest (w : AW) (a0 : Nat) : Option (Int64) :=
  gd (wk w a0 == 1) <|
  gd (wk w (wr w a0 0) == 2) <|
  let v3 : Int64 := (F_A_mixed (199 : Int64) (wi w (wr w a0 0) 0))
  F_A_digest_16 w FUEL a0 v3 (0 : Int32)
theorem P_A_digest_0 {X : AX} {l : Launch} {G : AG} {w : AW} (hX : XOK X b_A_digest "RedSky" 5) (hM : XM X l G { frames := 4, cells := 0, slots := 0, locals := 92 }) {o : Int64} (hR : XR X (some .long) 0 0 (some (vl o)) w) (a0 : Nat) (h : F_A_digest w a0 = some o) : RJ X 5 0 0 0 [(0, vr a0)] [] w := by
  unfold F_A_digest at h
  refine r_ldc2 hX d_A_digest_0 cw_A_334 ?_
  refine r_aload_n (i := 0) hX d_A_digest_3 0 rfl rfl ?_
  obtain ⟨hk1, h⟩ := gd_e h
  refine r_getR (i := 0) (f := 0) hX ci_0 (by decide) rfl fl_A_10 hk1 d_A_digest_4 ?_
  obtain ⟨hk2, h⟩ := gd_e h
  refine r_getI (i := 1) (f := 0) hX ci_1 (by decide) rfl fl_A_90 hk2 d_A_digest_7 ?_
  refine r_callS1 (As := [_, _]) hX hM mw_A_336 (T_A_mixed _ _ _) rfl rfl ⟨Nat.le_refl _, Nat.le_refl _⟩ rfl rfl d_A_digest_10 ?_
  refine r_lstore_n (i := 1) hX d_A_digest_13 rfl (by decide) ?_
  refine r_iconst (v := (0 : Int32)) hX d_A_digest_14 rfl ?_
  refine r_istore_n (i := 3) hX d_A_digest_15 rfl (by decide) ?_
  exact rj_sub [2, 1, 0] rfl (P_A_digest_16 hX hM hR FUEL _ _ _ h)
theorem T_A_digest {l : Launch} {G : AG} (w : AW) (a0 : Nat) {o : Int64} (h : F_A_digest w a0 = some o) : Mt l G y_A_digest b_A_digest 5 (some (.long)) 4 92 0 0 [vr a0] w (some (vl o)) w := mt_of (by decide) (Nat.le_of_ble_eq_true rfl) (fun X hX hR hM hI => P_A_digest_0 hX hM hR _ h)
/-! RedSkyModel.digest()J -/
theorem d_M_digest_0 : decode b_M_digest 0 = .ok (.ldc2_w 395, 3) := by decide +kernel
theorem d_M_digest_3 : decode b_M_digest 3 = .ok (.aload_n 0, 1) := by decide +kernel
theorem d_M_digest_4 : decode b_M_digest 4 = .ok (.getfield 95, 3) := by decide +kernel
theorem d_M_digest_7 : decode b_M_digest 7 = .ok (.i2l, 1) := by decide +kernel
theorem d_M_digest_8 : decode b_M_digest 8 = .ok (.ladd, 1) := by decide +kernel
theorem d_M_digest_9 : decode b_M_digest 9 = .ok (.lstore_n 1, 1) := by decide +kernel
theorem d_M_digest_10 : decode b_M_digest 10 = .ok (.iconst 0, 1) := by decide +kernel
theorem d_M_digest_11 : decode b_M_digest 11 = .ok (.istore_n 3, 1) := by decide +kernel
theorem d_M_digest_12 : decode b_M_digest 12 = .ok (.iload_n 3, 1) := by decide +kernel
theorem d_M_digest_13 : decode b_M_digest 13 = .ok (.bipush (8), 2) := by decide +kernel
theorem d_M_digest_15 : decode b_M_digest 15 = .ok (.if_icmp .ge (65), 3) := by decide +kernel
theorem d_M_digest_18 : decode b_M_digest 18 = .ok (.ldc2_w 130, 3) := by decide +kernel
theorem d_M_digest_21 : decode b_M_digest 21 = .ok (.lload_n 1, 1) := by decide +kernel
theorem d_M_digest_22 : decode b_M_digest 22 = .ok (.lmul, 1) := by decide +kernel
theorem d_M_digest_23 : decode b_M_digest 23 = .ok (.aload_n 0, 1) := by decide +kernel
theorem d_M_digest_24 : decode b_M_digest 24 = .ok (.getfield 7, 3) := by decide +kernel
theorem d_M_digest_27 : decode b_M_digest 27 = .ok (.iload_n 3, 1) := by decide +kernel
theorem d_M_digest_28 : decode b_M_digest 28 = .ok (.iaload, 1) := by decide +kernel
theorem d_M_digest_29 : decode b_M_digest 29 = .ok (.i2l, 1) := by decide +kernel
theorem d_M_digest_30 : decode b_M_digest 30 = .ok (.ladd, 1) := by decide +kernel
theorem d_M_digest_31 : decode b_M_digest 31 = .ok (.lstore_n 1, 1) := by decide +kernel
theorem d_M_digest_32 : decode b_M_digest 32 = .ok (.ldc2_w 130, 3) := by decide +kernel
theorem d_M_digest_35 : decode b_M_digest 35 = .ok (.lload_n 1, 1) := by decide +kernel
theorem d_M_digest_36 : decode b_M_digest 36 = .ok (.lmul, 1) := by decide +kernel
theorem d_M_digest_37 : decode b_M_digest 37 = .ok (.aload_n 0, 1) := by decide +kernel
theorem d_M_digest_38 : decode b_M_digest 38 = .ok (.getfield 13, 3) := by decide +kernel
theorem d_M_digest_41 : decode b_M_digest 41 = .ok (.iload_n 3, 1) := by decide +kernel
theorem d_M_digest_42 : decode b_M_digest 42 = .ok (.iaload, 1) := by decide +kernel
theorem d_M_digest_43 : decode b_M_digest 43 = .ok (.i2l, 1) := by decide +kernel
theorem d_M_digest_44 : decode b_M_digest 44 = .ok (.ladd, 1) := by decide +kernel
theorem d_M_digest_45 : decode b_M_digest 45 = .ok (.lstore_n 1, 1) := by decide +kernel
theorem d_M_digest_46 : decode b_M_digest 46 = .ok (.ldc2_w 130, 3) := by decide +kernel
theorem d_M_digest_49 : decode b_M_digest 49 = .ok (.lload_n 1, 1) := by decide +kernel
theorem d_M_digest_50 : decode b_M_digest 50 = .ok (.lmul, 1) := by decide +kernel
theorem d_M_digest_51 : decode b_M_digest 51 = .ok (.aload_n 0, 1) := by decide +kernel
theorem d_M_digest_52 : decode b_M_digest 52 = .ok (.getfield 16, 3) := by decide +kernel
theorem d_M_digest_55 : decode b_M_digest 55 = .ok (.iload_n 3, 1) := by decide +kernel
theorem d_M_digest_56 : decode b_M_digest 56 = .ok (.iaload, 1) := by decide +kernel
theorem d_M_digest_57 : decode b_M_digest 57 = .ok (.i2l, 1) := by decide +kernel
theorem d_M_digest_58 : decode b_M_digest 58 = .ok (.ladd, 1) := by decide +kernel
theorem d_M_digest_59 : decode b_M_digest 59 = .ok (.lstore_n 1, 1) := by decide +kernel
theorem d_M_digest_60 : decode b_M_digest 60 = .ok (.ldc2_w 130, 3) := by decide +kernel
theorem d_M_digest_63 : decode b_M_digest 63 = .ok (.lload_n 1, 1) := by decide +kernel
theorem d_M_digest_64 : decode b_M_digest 64 = .ok (.lmul, 1) := by decide +kernel
theorem d_M_digest_65 : decode b_M_digest 65 = .ok (.aload_n 0, 1) := by decide +kernel
theorem d_M_digest_66 : decode b_M_digest 66 = .ok (.getfield 19, 3) := by decide +kernel
theorem d_M_digest_69 : decode b_M_digest 69 = .ok (.iload_n 3, 1) := by decide +kernel
theorem d_M_digest_70 : decode b_M_digest 70 = .ok (.iaload, 1) := by decide +kernel
theorem d_M_digest_71 : decode b_M_digest 71 = .ok (.i2l, 1) := by decide +kernel
theorem d_M_digest_72 : decode b_M_digest 72 = .ok (.ladd, 1) := by decide +kernel
theorem d_M_digest_73 : decode b_M_digest 73 = .ok (.lstore_n 1, 1) := by decide +kernel
theorem d_M_digest_74 : decode b_M_digest 74 = .ok (.iinc 3 (1), 3) := by decide +kernel
theorem d_M_digest_77 : decode b_M_digest 77 = .ok (.goto (-65), 3) := by decide +kernel
theorem d_M_digest_80 : decode b_M_digest 80 = .ok (.iconst 0, 1) := by decide +kernel
theorem d_M_digest_81 : decode b_M_digest 81 = .ok (.istore_n 3, 1) := by decide +kernel
theorem d_M_digest_82 : decode b_M_digest 82 = .ok (.iload_n 3, 1) := by decide +kernel
theorem d_M_digest_83 : decode b_M_digest 83 = .ok (.iconst 3, 1) := by decide +kernel
theorem d_M_digest_84 : decode b_M_digest 84 = .ok (.if_icmp .ge (92), 3) := by decide +kernel
theorem d_M_digest_87 : decode b_M_digest 87 = .ok (.iconst 0, 1) := by decide +kernel
theorem d_M_digest_88 : decode b_M_digest 88 = .ok (.istore 4, 2) := by decide +kernel
theorem d_M_digest_90 : decode b_M_digest 90 = .ok (.iload 4, 2) := by decide +kernel
theorem d_M_digest_92 : decode b_M_digest 92 = .ok (.sipush (1461), 3) := by decide +kernel
theorem d_M_digest_95 : decode b_M_digest 95 = .ok (.if_icmp .ge (75), 3) := by decide +kernel
theorem d_M_digest_98 : decode b_M_digest 98 = .ok (.iconst 0, 1) := by decide +kernel
theorem d_M_digest_99 : decode b_M_digest 99 = .ok (.istore 5, 2) := by decide +kernel
theorem d_M_digest_101 : decode b_M_digest 101 = .ok (.iload 5, 2) := by decide +kernel
theorem d_M_digest_103 : decode b_M_digest 103 = .ok (.iconst 4, 1) := by decide +kernel
theorem d_M_digest_104 : decode b_M_digest 104 = .ok (.if_icmp .ge (60), 3) := by decide +kernel
theorem d_M_digest_107 : decode b_M_digest 107 = .ok (.aload_n 0, 1) := by decide +kernel
theorem d_M_digest_108 : decode b_M_digest 108 = .ok (.getfield 22, 3) := by decide +kernel
theorem d_M_digest_111 : decode b_M_digest 111 = .ok (.iload_n 3, 1) := by decide +kernel
theorem d_M_digest_112 : decode b_M_digest 112 = .ok (.iload 4, 2) := by decide +kernel
theorem d_M_digest_114 : decode b_M_digest 114 = .ok (.iload 5, 2) := by decide +kernel
theorem d_M_digest_116 : decode b_M_digest 116 = .ok (.invokestatic 167, 3) := by decide +kernel
theorem d_M_digest_119 : decode b_M_digest 119 = .ok (.iaload, 1) := by decide +kernel
theorem d_M_digest_120 : decode b_M_digest 120 = .ok (.istore 6, 2) := by decide +kernel
theorem d_M_digest_122 : decode b_M_digest 122 = .ok (.iload 6, 2) := by decide +kernel
theorem d_M_digest_124 : decode b_M_digest 124 = .ok (.sipush (-1000), 3) := by decide +kernel
theorem d_M_digest_127 : decode b_M_digest 127 = .ok (.if_icmp .ne (7), 3) := by decide +kernel
theorem d_M_digest_130 : decode b_M_digest 130 = .ok (.lload_n 1, 1) := by decide +kernel
theorem d_M_digest_131 : decode b_M_digest 131 = .ok (.goto (26), 3) := by decide +kernel
theorem d_M_digest_134 : decode b_M_digest 134 = .ok (.ldc2_w 130, 3) := by decide +kernel
theorem d_M_digest_137 : decode b_M_digest 137 = .ok (.lload_n 1, 1) := by decide +kernel
theorem d_M_digest_138 : decode b_M_digest 138 = .ok (.lmul, 1) := by decide +kernel
theorem d_M_digest_139 : decode b_M_digest 139 = .ok (.sipush (2048), 3) := by decide +kernel
theorem d_M_digest_142 : decode b_M_digest 142 = .ok (.iload 4, 2) := by decide +kernel
theorem d_M_digest_144 : decode b_M_digest 144 = .ok (.imul, 1) := by decide +kernel
theorem d_M_digest_145 : decode b_M_digest 145 = .ok (.sipush (256), 3) := by decide +kernel
theorem d_M_digest_148 : decode b_M_digest 148 = .ok (.iload 5, 2) := by decide +kernel
theorem d_M_digest_150 : decode b_M_digest 150 = .ok (.imul, 1) := by decide +kernel
theorem d_M_digest_151 : decode b_M_digest 151 = .ok (.iadd, 1) := by decide +kernel
theorem d_M_digest_152 : decode b_M_digest 152 = .ok (.iload 6, 2) := by decide +kernel
theorem d_M_digest_154 : decode b_M_digest 154 = .ok (.iadd, 1) := by decide +kernel
theorem d_M_digest_155 : decode b_M_digest 155 = .ok (.i2l, 1) := by decide +kernel
theorem d_M_digest_156 : decode b_M_digest 156 = .ok (.ladd, 1) := by decide +kernel
theorem d_M_digest_157 : decode b_M_digest 157 = .ok (.lstore_n 1, 1) := by decide +kernel
theorem d_M_digest_158 : decode b_M_digest 158 = .ok (.iinc 5 (1), 3) := by decide +kernel
theorem d_M_digest_161 : decode b_M_digest 161 = .ok (.goto (-60), 3) := by decide +kernel
theorem d_M_digest_164 : decode b_M_digest 164 = .ok (.iinc 4 (1), 3) := by decide +kernel
theorem d_M_digest_167 : decode b_M_digest 167 = .ok (.goto (-77), 3) := by decide +kernel
theorem d_M_digest_170 : decode b_M_digest 170 = .ok (.iinc 3 (1), 3) := by decide +kernel
theorem d_M_digest_173 : decode b_M_digest 173 = .ok (.goto (-91), 3) := by decide +kernel
theorem d_M_digest_176 : decode b_M_digest 176 = .ok (.iconst 0, 1) := by decide +kernel
theorem d_M_digest_177 : decode b_M_digest 177 = .ok (.istore_n 3, 1) := by decide +kernel
theorem d_M_digest_178 : decode b_M_digest 178 = .ok (.iload_n 3, 1) := by decide +kernel
theorem d_M_digest_179 : decode b_M_digest 179 = .ok (.aload_n 0, 1) := by decide +kernel
theorem d_M_digest_180 : decode b_M_digest 180 = .ok (.getfield 178, 3) := by decide +kernel
theorem d_M_digest_183 : decode b_M_digest 183 = .ok (.if_icmp .ge (23), 3) := by decide +kernel
theorem d_M_digest_186 : decode b_M_digest 186 = .ok (.ldc2_w 130, 3) := by decide +kernel
theorem d_M_digest_189 : decode b_M_digest 189 = .ok (.lload_n 1, 1) := by decide +kernel
theorem d_M_digest_190 : decode b_M_digest 190 = .ok (.lmul, 1) := by decide +kernel
theorem d_M_digest_191 : decode b_M_digest 191 = .ok (.aload_n 0, 1) := by decide +kernel
theorem d_M_digest_192 : decode b_M_digest 192 = .ok (.getfield 31, 3) := by decide +kernel
theorem d_M_digest_195 : decode b_M_digest 195 = .ok (.iload_n 3, 1) := by decide +kernel
theorem d_M_digest_196 : decode b_M_digest 196 = .ok (.iaload, 1) := by decide +kernel
theorem d_M_digest_197 : decode b_M_digest 197 = .ok (.i2l, 1) := by decide +kernel
theorem d_M_digest_198 : decode b_M_digest 198 = .ok (.ladd, 1) := by decide +kernel
theorem d_M_digest_199 : decode b_M_digest 199 = .ok (.lstore_n 1, 1) := by decide +kernel
theorem d_M_digest_200 : decode b_M_digest 200 = .ok (.iinc 3 (1), 3) := by decide +kernel
theorem d_M_digest_203 : decode b_M_digest 203 = .ok (.goto (-25), 3) := by decide +kernel
theorem d_M_digest_206 : decode b_M_digest 206 = .ok (.iconst 0, 1) := by decide +kernel
theorem d_M_digest_207 : decode b_M_digest 207 = .ok (.istore_n 3, 1) := by decide +kernel
theorem d_M_digest_208 : decode b_M_digest 208 = .ok (.iload_n 3, 1) := by decide +kernel
theorem d_M_digest_209 : decode b_M_digest 209 = .ok (.bipush (12), 2) := by decide +kernel
theorem d_M_digest_211 : decode b_M_digest 211 = .ok (.aload_n 0, 1) := by decide +kernel
theorem d_M_digest_212 : decode b_M_digest 212 = .ok (.getfield 294, 3) := by decide +kernel
theorem d_M_digest_215 : decode b_M_digest 215 = .ok (.imul, 1) := by decide +kernel
theorem d_M_digest_216 : decode b_M_digest 216 = .ok (.if_icmp .ge (23), 3) := by decide +kernel
theorem d_M_digest_219 : decode b_M_digest 219 = .ok (.ldc2_w 130, 3) := by decide +kernel
theorem d_M_digest_222 : decode b_M_digest 222 = .ok (.lload_n 1, 1) := by decide +kernel
theorem d_M_digest_223 : decode b_M_digest 223 = .ok (.lmul, 1) := by decide +kernel
theorem d_M_digest_224 : decode b_M_digest 224 = .ok (.aload_n 0, 1) := by decide +kernel
theorem d_M_digest_225 : decode b_M_digest 225 = .ok (.getfield 46, 3) := by decide +kernel
theorem d_M_digest_228 : decode b_M_digest 228 = .ok (.iload_n 3, 1) := by decide +kernel
theorem d_M_digest_229 : decode b_M_digest 229 = .ok (.iaload, 1) := by decide +kernel
theorem d_M_digest_230 : decode b_M_digest 230 = .ok (.i2l, 1) := by decide +kernel
theorem d_M_digest_231 : decode b_M_digest 231 = .ok (.ladd, 1) := by decide +kernel
theorem d_M_digest_232 : decode b_M_digest 232 = .ok (.lstore_n 1, 1) := by decide +kernel
theorem d_M_digest_233 : decode b_M_digest 233 = .ok (.iinc 3 (1), 3) := by decide +kernel
theorem d_M_digest_236 : decode b_M_digest 236 = .ok (.goto (-28), 3) := by decide +kernel
theorem d_M_digest_239 : decode b_M_digest 239 = .ok (.iconst 0, 1) := by decide +kernel
theorem d_M_digest_240 : decode b_M_digest 240 = .ok (.istore_n 3, 1) := by decide +kernel
theorem d_M_digest_241 : decode b_M_digest 241 = .ok (.iload_n 3, 1) := by decide +kernel
theorem d_M_digest_242 : decode b_M_digest 242 = .ok (.bipush (6), 2) := by decide +kernel
theorem d_M_digest_244 : decode b_M_digest 244 = .ok (.if_icmp .ge (80), 3) := by decide +kernel
theorem d_M_digest_247 : decode b_M_digest 247 = .ok (.ldc2_w 130, 3) := by decide +kernel
theorem d_M_digest_250 : decode b_M_digest 250 = .ok (.lload_n 1, 1) := by decide +kernel
theorem d_M_digest_251 : decode b_M_digest 251 = .ok (.lmul, 1) := by decide +kernel
theorem d_M_digest_252 : decode b_M_digest 252 = .ok (.aload_n 0, 1) := by decide +kernel
theorem d_M_digest_253 : decode b_M_digest 253 = .ok (.getfield 25, 3) := by decide +kernel
theorem d_M_digest_256 : decode b_M_digest 256 = .ok (.iload_n 3, 1) := by decide +kernel
theorem d_M_digest_257 : decode b_M_digest 257 = .ok (.iaload, 1) := by decide +kernel
theorem d_M_digest_258 : decode b_M_digest 258 = .ok (.i2l, 1) := by decide +kernel
theorem d_M_digest_259 : decode b_M_digest 259 = .ok (.ladd, 1) := by decide +kernel
theorem d_M_digest_260 : decode b_M_digest 260 = .ok (.lstore_n 1, 1) := by decide +kernel
theorem d_M_digest_261 : decode b_M_digest 261 = .ok (.iconst 0, 1) := by decide +kernel
theorem d_M_digest_262 : decode b_M_digest 262 = .ok (.istore 4, 2) := by decide +kernel
theorem d_M_digest_264 : decode b_M_digest 264 = .ok (.iload 4, 2) := by decide +kernel
theorem d_M_digest_266 : decode b_M_digest 266 = .ok (.sipush (1461), 3) := by decide +kernel
theorem d_M_digest_269 : decode b_M_digest 269 = .ok (.if_icmp .ge (49), 3) := by decide +kernel
theorem d_M_digest_272 : decode b_M_digest 272 = .ok (.aload_n 0, 1) := by decide +kernel
theorem d_M_digest_273 : decode b_M_digest 273 = .ok (.getfield 28, 3) := by decide +kernel
theorem d_M_digest_276 : decode b_M_digest 276 = .ok (.sipush (1461), 3) := by decide +kernel
theorem d_M_digest_279 : decode b_M_digest 279 = .ok (.iload_n 3, 1) := by decide +kernel
theorem d_M_digest_280 : decode b_M_digest 280 = .ok (.imul, 1) := by decide +kernel
theorem d_M_digest_281 : decode b_M_digest 281 = .ok (.iload 4, 2) := by decide +kernel
theorem d_M_digest_283 : decode b_M_digest 283 = .ok (.iadd, 1) := by decide +kernel
theorem d_M_digest_284 : decode b_M_digest 284 = .ok (.iaload, 1) := by decide +kernel
theorem d_M_digest_285 : decode b_M_digest 285 = .ok (.istore 5, 2) := by decide +kernel
theorem d_M_digest_287 : decode b_M_digest 287 = .ok (.iload 5, 2) := by decide +kernel
theorem d_M_digest_289 : decode b_M_digest 289 = .ok (.iconst (-1), 1) := by decide +kernel
theorem d_M_digest_290 : decode b_M_digest 290 = .ok (.if_icmp .ne (7), 3) := by decide +kernel
theorem d_M_digest_293 : decode b_M_digest 293 = .ok (.lload_n 1, 1) := by decide +kernel
theorem d_M_digest_294 : decode b_M_digest 294 = .ok (.goto (17), 3) := by decide +kernel
theorem d_M_digest_297 : decode b_M_digest 297 = .ok (.ldc2_w 130, 3) := by decide +kernel
theorem d_M_digest_300 : decode b_M_digest 300 = .ok (.lload_n 1, 1) := by decide +kernel
theorem d_M_digest_301 : decode b_M_digest 301 = .ok (.lmul, 1) := by decide +kernel
theorem d_M_digest_302 : decode b_M_digest 302 = .ok (.iconst 2, 1) := by decide +kernel
theorem d_M_digest_303 : decode b_M_digest 303 = .ok (.iload 4, 2) := by decide +kernel
theorem d_M_digest_305 : decode b_M_digest 305 = .ok (.imul, 1) := by decide +kernel
theorem d_M_digest_306 : decode b_M_digest 306 = .ok (.iload 5, 2) := by decide +kernel
theorem d_M_digest_308 : decode b_M_digest 308 = .ok (.iadd, 1) := by decide +kernel
theorem d_M_digest_309 : decode b_M_digest 309 = .ok (.i2l, 1) := by decide +kernel
theorem d_M_digest_310 : decode b_M_digest 310 = .ok (.ladd, 1) := by decide +kernel
theorem d_M_digest_311 : decode b_M_digest 311 = .ok (.lstore_n 1, 1) := by decide +kernel
theorem d_M_digest_312 : decode b_M_digest 312 = .ok (.iinc 4 (1), 3) := by decide +kernel
theorem d_M_digest_315 : decode b_M_digest 315 = .ok (.goto (-51), 3) := by decide +kernel
theorem d_M_digest_318 : decode b_M_digest 318 = .ok (.iinc 3 (1), 3) := by decide +kernel
theorem d_M_digest_321 : decode b_M_digest 321 = .ok (.goto (-80), 3) := by decide +kernel
theorem d_M_digest_324 : decode b_M_digest 324 = .ok (.ldc2_w 130, 3) := by decide +kernel
theorem d_M_digest_327 : decode b_M_digest 327 = .ok (.lload_n 1, 1) := by decide +kernel
theorem d_M_digest_328 : decode b_M_digest 328 = .ok (.lmul, 1) := by decide +kernel
theorem d_M_digest_329 : decode b_M_digest 329 = .ok (.aload_n 0, 1) := by decide +kernel
theorem d_M_digest_330 : decode b_M_digest 330 = .ok (.getfield 354, 3) := by decide +kernel
theorem d_M_digest_333 : decode b_M_digest 333 = .ok (.i2l, 1) := by decide +kernel
theorem d_M_digest_334 : decode b_M_digest 334 = .ok (.ladd, 1) := by decide +kernel
theorem d_M_digest_335 : decode b_M_digest 335 = .ok (.lreturn, 1) := by decide +kernel
def F_M_digest_264_B (rec241 : Nat → Int64 → Int32 → Option (Int64)) (rec264 : Nat → Int64 → Int32 → Int32 → Option (Int64)) (w : AW) (a0 : Nat) (x1 : Int64) (x3 : Int32) (x4 : Int32) : Option (Int64) :=
  if (1461 : Int32) ≤ x4 then
    let v1 : Int32 := (x3 + (1 : Int32))
    rec241 a0 x1 v1
  else
    gd (wk w a0 == 13) <|
    gd (wk w (wr w a0 7) == 100) <|
    gd (inb (((1461 : Int32) * x3) + x4) (wn w (wr w a0 7))) <|
    let v5 : Int32 := (wi w (wr w a0 7) (Int32.toNatClampNeg (((1461 : Int32) * x3) + x4)))
    if v5 = (-1 : Int32) then
      let v8 : Int32 := (x4 + (1 : Int32))
      rec264 a0 x1 x3 v8
    else
      let v6 : Int64 := (((31 : Int64) * x1) + (Int32.toInt64 (((2 : Int32) * x4) + v5)))
      let v7 : Int32 := (x4 + (1 : Int32))
      rec264 a0 v6 x3 v7
theorem P_M_digest_264_B {X : AX} {l : Launch} {G : AG} {w : AW} {rec241 : Nat → Int64 → Int32 → Option (Int64)} {rec264 : Nat → Int64 → Int32 → Int32 → Option (Int64)} (hX : XOK X b_M_digest "RedSkyModel" 7) (hM : XM X l G { frames := 1, cells := 0, slots := 0, locals := 22 }) {o : Int64} (hR : XR X (some .long) 0 0 (some (vl o)) w) (hrec241 : ∀ (a0 : Nat) (x1 : Int64) (x3 : Int32), rec241 a0 x1 x3 = some o → RJ X 7 0 0 241 [(0, vr a0), (1, vl x1), (3, vi x3)] [] w) (hrec264 : ∀ (a0 : Nat) (x1 : Int64) (x3 : Int32) (x4 : Int32), rec264 a0 x1 x3 x4 = some o → RJ X 7 0 0 264 [(0, vr a0), (1, vl x1), (3, vi x3), (4, vi x4)] [] w) (a0 : Nat) (x1 : Int64) (x3 : Int32) (x4 : Int32) (h : F_M_digest_264_B rec241 rec264 w a0 x1 x3 x4 = some o) : RJ X 7 0 0 264 [(0, vr a0), (1, vl x1), (3, vi x3), (4, vi x4)] [] w := by
  unfold F_M_digest_264_B at h
  refine r_iload (i := 4) hX d_M_digest_264 3  rfl ?_
  refine r_sipush (v := (1461 : Int32)) hX d_M_digest_266 rfl ?_
  refine r_icmp_ge hX d_M_digest_269 rfl h (fun h => ?_) (fun h => ?_)
  · refine r_iinc (i := 3) (v := (1 : Int32)) hX d_M_digest_318 2 rfl rfl (by decide) ?_
    refine r_goto hX d_M_digest_321 rfl ?_
    exact rj_sub [1, 2, 0] rfl (hrec241 _ _ _ h)
  · refine r_aload_n (i := 0) hX d_M_digest_272 0 rfl rfl ?_
    obtain ⟨hk2, h⟩ := gd_e h
    refine r_getR (i := 12) (f := 7) hX ci_12 (by decide) rfl fl_M_28 hk2 d_M_digest_273 ?_
    refine r_sipush (v := (1461 : Int32)) hX d_M_digest_276 rfl ?_
    refine r_iload_n (i := 3) hX d_M_digest_279 2 rfl rfl ?_
    refine r_imul hX d_M_digest_280 ?_
    refine r_iload (i := 4) hX d_M_digest_281 3  rfl ?_
    refine r_iadd hX d_M_digest_283 ?_
    obtain ⟨hk3, h⟩ := gd_e h
    obtain ⟨hg4, h⟩ := gd_e h
    refine r_iald hX hk3 hg4 d_M_digest_284 ?_
    refine r_istore (i := 5) hX d_M_digest_285  (by decide) ?_
    refine r_iload (i := 5) hX d_M_digest_287 0  rfl ?_
    refine r_iconst (v := (-1 : Int32)) hX d_M_digest_289 rfl ?_
    refine r_icmp_ne hX d_M_digest_290 rfl h (fun h => ?_) (fun h => ?_)
    · refine r_ldc2 hX d_M_digest_297 cw_M_130 ?_
      refine r_lload_n (i := 1) hX d_M_digest_300 2 rfl rfl ?_
      refine r_lmul hX d_M_digest_301 ?_
      refine r_iconst (v := (2 : Int32)) hX d_M_digest_302 rfl ?_
      refine r_iload (i := 4) hX d_M_digest_303 4  rfl ?_
      refine r_imul hX d_M_digest_305 ?_
      refine r_iload (i := 5) hX d_M_digest_306 0  rfl ?_
      refine r_iadd hX d_M_digest_308 ?_
      refine r_i2l hX d_M_digest_309 ?_
      refine r_ladd hX d_M_digest_310 ?_
      refine r_lstore_n (i := 1) hX d_M_digest_311 rfl (by decide) ?_
      refine r_iinc (i := 4) (v := (1 : Int32)) hX d_M_digest_312 4 rfl rfl (by decide) ?_
      refine r_goto hX d_M_digest_315 rfl ?_
      exact rj_sub [3, 1, 4, 0] rfl (hrec264 _ _ _ _ h)
    · refine r_lload_n (i := 1) hX d_M_digest_293 2 rfl rfl ?_
      refine r_goto hX d_M_digest_294 rfl ?_
      refine r_lstore_n (i := 1) hX d_M_digest_311 rfl (by decide) ?_
      refine r_iinc (i := 4) (v := (1 : Int32)) hX d_M_digest_312 4 rfl rfl (by decide) ?_
      refine r_goto hX d_M_digest_315 rfl ?_
      exact rj_sub [3, 1, 4, 0] rfl (hrec264 _ _ _ _ h)
def F_M_digest_264 (rec241 : Nat → Int64 → Int32 → Option (Int64)) (w : AW) : Nat → Nat → Int64 → Int32 → Int32 → Option (Int64)
  | 0 => fun _ _ _ _ => none
  | n + 1 => fun a0 x1 x3 x4 => F_M_digest_264_B rec241 (F_M_digest_264 rec241 w n) w a0 x1 x3 x4
theorem P_M_digest_264 {X : AX} {l : Launch} {G : AG} {w : AW} {rec241 : Nat → Int64 → Int32 → Option (Int64)} (hX : XOK X b_M_digest "RedSkyModel" 7) (hM : XM X l G { frames := 1, cells := 0, slots := 0, locals := 22 }) {o : Int64} (hR : XR X (some .long) 0 0 (some (vl o)) w) (hrec241 : ∀ (a0 : Nat) (x1 : Int64) (x3 : Int32), rec241 a0 x1 x3 = some o → RJ X 7 0 0 241 [(0, vr a0), (1, vl x1), (3, vi x3)] [] w) (fu : Nat) : ∀ (a0 : Nat) (x1 : Int64) (x3 : Int32) (x4 : Int32), F_M_digest_264 rec241 w fu a0 x1 x3 x4 = some o → RJ X 7 0 0 264 [(0, vr a0), (1, vl x1), (3, vi x3), (4, vi x4)] [] w := by
  induction fu with
  | zero => intro a0 x1 x3 x4 h; cases h
  | succ n9 ih => intro a0 x1 x3 x4 h; exact P_M_digest_264_B hX hM hR hrec241 ih _ _ _ _ h
def F_M_digest_241_B (rec241 : Nat → Int64 → Int32 → Option (Int64)) (w : AW) (a0 : Nat) (x1 : Int64) (x3 : Int32) : Option (Int64) :=
  if (6 : Int32) ≤ x3 then
    gd (wk w a0 == 13) <|
    some (((31 : Int64) * x1) + (Int32.toInt64 (wi w a0 40)))
  else
    gd (wk w a0 == 13) <|
    gd (wk w (wr w a0 6) == 100) <|
    gd (inb x3 (wn w (wr w a0 6))) <|
    let v5 : Int64 := (((31 : Int64) * x1) + (Int32.toInt64 (wi w (wr w a0 6) (Int32.toNatClampNeg x3))))
    F_M_digest_264 rec241 w FUEL a0 v5 x3 (0 : Int32)
theorem P_M_digest_241_B {X : AX} {l : Launch} {G : AG} {w : AW} {rec241 : Nat → Int64 → Int32 → Option (Int64)} (hX : XOK X b_M_digest "RedSkyModel" 7) (hM : XM X l G { frames := 1, cells := 0, slots := 0, locals := 22 }) {o : Int64} (hR : XR X (some .long) 0 0 (some (vl o)) w) (hrec241 : ∀ (a0 : Nat) (x1 : Int64) (x3 : Int32), rec241 a0 x1 x3 = some o → RJ X 7 0 0 241 [(0, vr a0), (1, vl x1), (3, vi x3)] [] w) (a0 : Nat) (x1 : Int64) (x3 : Int32) (h : F_M_digest_241_B rec241 w a0 x1 x3 = some o) : RJ X 7 0 0 241 [(0, vr a0), (1, vl x1), (3, vi x3)] [] w := by
  unfold F_M_digest_241_B at h
  refine r_iload_n (i := 3) hX d_M_digest_241 2 rfl rfl ?_
  refine r_bipush (v := (6 : Int32)) hX d_M_digest_242 rfl ?_
  refine r_icmp_ge hX d_M_digest_244 rfl h (fun h => ?_) (fun h => ?_)
  · refine r_ldc2 hX d_M_digest_324 cw_M_130 ?_
    refine r_lload_n (i := 1) hX d_M_digest_327 1 rfl rfl ?_
    refine r_lmul hX d_M_digest_328 ?_
    refine r_aload_n (i := 0) hX d_M_digest_329 0 rfl rfl ?_
    obtain ⟨hk1, h⟩ := gd_e h
    refine r_getI (i := 12) (f := 40) hX ci_12 (by decide) rfl fl_M_354 hk1 d_M_digest_330 ?_
    refine r_i2l hX d_M_digest_333 ?_
    refine r_ladd hX d_M_digest_334 ?_
    cases h; exact r_lret hX hR d_M_digest_335
  · refine r_ldc2 hX d_M_digest_247 cw_M_130 ?_
    refine r_lload_n (i := 1) hX d_M_digest_250 1 rfl rfl ?_
    refine r_lmul hX d_M_digest_251 ?_
    refine r_aload_n (i := 0) hX d_M_digest_252 0 rfl rfl ?_
    obtain ⟨hk2, h⟩ := gd_e h
    refine r_getR (i := 12) (f := 6) hX ci_12 (by decide) rfl fl_M_25 hk2 d_M_digest_253 ?_
    refine r_iload_n (i := 3) hX d_M_digest_256 2 rfl rfl ?_
    obtain ⟨hk3, h⟩ := gd_e h
    obtain ⟨hg4, h⟩ := gd_e h
    refine r_iald hX hk3 hg4 d_M_digest_257 ?_
    refine r_i2l hX d_M_digest_258 ?_
    refine r_ladd hX d_M_digest_259 ?_
    refine r_lstore_n (i := 1) hX d_M_digest_260 rfl (by decide) ?_
    refine r_iconst (v := (0 : Int32)) hX d_M_digest_261 rfl ?_
    refine r_istore (i := 4) hX d_M_digest_262  (by decide) ?_
    exact rj_sub [2, 1, 3, 0] rfl (P_M_digest_264 hX hM hR hrec241 FUEL _ _ _ _ h)
def F_M_digest_241 (w : AW) : Nat → Nat → Int64 → Int32 → Option (Int64)
  | 0 => fun _ _ _ => none
  | n + 1 => fun a0 x1 x3 => F_M_digest_241_B (F_M_digest_241 w n) w a0 x1 x3
theorem P_M_digest_241 {X : AX} {l : Launch} {G : AG} {w : AW} (hX : XOK X b_M_digest "RedSkyModel" 7) (hM : XM X l G { frames := 1, cells := 0, slots := 0, locals := 22 }) {o : Int64} (hR : XR X (some .long) 0 0 (some (vl o)) w) (fu : Nat) : ∀ (a0 : Nat) (x1 : Int64) (x3 : Int32), F_M_digest_241 w fu a0 x1 x3 = some o → RJ X 7 0 0 241 [(0, vr a0), (1, vl x1), (3, vi x3)] [] w := by
  induction fu with
  | zero => intro a0 x1 x3 h; cases h
  | succ n9 ih => intro a0 x1 x3 h; exact P_M_digest_241_B hX hM hR ih _ _ _ h
def F_M_digest_208_B (rec208 : Nat → Int64 → Int32 → Option (Int64)) (w : AW) (a0 : Nat) (x1 : Int64) (x3 : Int32) : Option (Int64) :=
  gd (wk w a0 == 13) <|
  if ((12 : Int32) * (wi w a0 29)) ≤ x3 then
    F_M_digest_241 w FUEL a0 x1 (0 : Int32)
  else
    gd (wk w (wr w a0 30) == 100) <|
    gd (inb x3 (wn w (wr w a0 30))) <|
    let v4 : Int64 := (((31 : Int64) * x1) + (Int32.toInt64 (wi w (wr w a0 30) (Int32.toNatClampNeg x3))))
    let v5 : Int32 := (x3 + (1 : Int32))
    rec208 a0 v4 v5
theorem P_M_digest_208_B {X : AX} {l : Launch} {G : AG} {w : AW} {rec208 : Nat → Int64 → Int32 → Option (Int64)} (hX : XOK X b_M_digest "RedSkyModel" 7) (hM : XM X l G { frames := 1, cells := 0, slots := 0, locals := 22 }) {o : Int64} (hR : XR X (some .long) 0 0 (some (vl o)) w) (hrec208 : ∀ (a0 : Nat) (x1 : Int64) (x3 : Int32), rec208 a0 x1 x3 = some o → RJ X 7 0 0 208 [(0, vr a0), (1, vl x1), (3, vi x3)] [] w) (a0 : Nat) (x1 : Int64) (x3 : Int32) (h : F_M_digest_208_B rec208 w a0 x1 x3 = some o) : RJ X 7 0 0 208 [(0, vr a0), (1, vl x1), (3, vi x3)] [] w := by
  unfold F_M_digest_208_B at h
  refine r_iload_n (i := 3) hX d_M_digest_208 2 rfl rfl ?_
  refine r_bipush (v := (12 : Int32)) hX d_M_digest_209 rfl ?_
  refine r_aload_n (i := 0) hX d_M_digest_211 0 rfl rfl ?_
  obtain ⟨hk1, h⟩ := gd_e h
  refine r_getI (i := 12) (f := 29) hX ci_12 (by decide) rfl fl_M_294 hk1 d_M_digest_212 ?_
  refine r_imul hX d_M_digest_215 ?_
  refine r_icmp_ge hX d_M_digest_216 rfl h (fun h => ?_) (fun h => ?_)
  · refine r_iconst (v := (0 : Int32)) hX d_M_digest_239 rfl ?_
    refine r_istore_n (i := 3) hX d_M_digest_240 rfl (by decide) ?_
    exact rj_sub [1, 2, 0] rfl (P_M_digest_241 hX hM hR FUEL _ _ _ h)
  · refine r_ldc2 hX d_M_digest_219 cw_M_130 ?_
    refine r_lload_n (i := 1) hX d_M_digest_222 1 rfl rfl ?_
    refine r_lmul hX d_M_digest_223 ?_
    refine r_aload_n (i := 0) hX d_M_digest_224 0 rfl rfl ?_
    refine r_getR (i := 12) (f := 30) hX ci_12 (by decide) rfl fl_M_46 hk1 d_M_digest_225 ?_
    refine r_iload_n (i := 3) hX d_M_digest_228 2 rfl rfl ?_
    obtain ⟨hk2, h⟩ := gd_e h
    obtain ⟨hg3, h⟩ := gd_e h
    refine r_iald hX hk2 hg3 d_M_digest_229 ?_
    refine r_i2l hX d_M_digest_230 ?_
    refine r_ladd hX d_M_digest_231 ?_
    refine r_lstore_n (i := 1) hX d_M_digest_232 rfl (by decide) ?_
    refine r_iinc (i := 3) (v := (1 : Int32)) hX d_M_digest_233 2 rfl rfl (by decide) ?_
    refine r_goto hX d_M_digest_236 rfl ?_
    exact rj_sub [2, 1, 0] rfl (hrec208 _ _ _ h)
def F_M_digest_208 (w : AW) : Nat → Nat → Int64 → Int32 → Option (Int64)
  | 0 => fun _ _ _ => none
  | n + 1 => fun a0 x1 x3 => F_M_digest_208_B (F_M_digest_208 w n) w a0 x1 x3
theorem P_M_digest_208 {X : AX} {l : Launch} {G : AG} {w : AW} (hX : XOK X b_M_digest "RedSkyModel" 7) (hM : XM X l G { frames := 1, cells := 0, slots := 0, locals := 22 }) {o : Int64} (hR : XR X (some .long) 0 0 (some (vl o)) w) (fu : Nat) : ∀ (a0 : Nat) (x1 : Int64) (x3 : Int32), F_M_digest_208 w fu a0 x1 x3 = some o → RJ X 7 0 0 208 [(0, vr a0), (1, vl x1), (3, vi x3)] [] w := by
  induction fu with
  | zero => intro a0 x1 x3 h; cases h
  | succ n9 ih => intro a0 x1 x3 h; exact P_M_digest_208_B hX hM hR ih _ _ _ h
def F_M_digest_178_B (rec178 : Nat → Int64 → Int32 → Option (Int64)) (w : AW) (a0 : Nat) (x1 : Int64) (x3 : Int32) : Option (Int64) :=
  gd (wk w a0 == 13) <|
  if (wi w a0 9) ≤ x3 then
    F_M_digest_208 w FUEL a0 x1 (0 : Int32)
  else
    gd (wk w (wr w a0 8) == 100) <|
    gd (inb x3 (wn w (wr w a0 8))) <|
    let v4 : Int64 := (((31 : Int64) * x1) + (Int32.toInt64 (wi w (wr w a0 8) (Int32.toNatClampNeg x3))))
    let v5 : Int32 := (x3 + (1 : Int32))
    rec178 a0 v4 v5
theorem P_M_digest_178_B {X : AX} {l : Launch} {G : AG} {w : AW} {rec178 : Nat → Int64 → Int32 → Option (Int64)} (hX : XOK X b_M_digest "RedSkyModel" 7) (hM : XM X l G { frames := 1, cells := 0, slots := 0, locals := 22 }) {o : Int64} (hR : XR X (some .long) 0 0 (some (vl o)) w) (hrec178 : ∀ (a0 : Nat) (x1 : Int64) (x3 : Int32), rec178 a0 x1 x3 = some o → RJ X 7 0 0 178 [(0, vr a0), (1, vl x1), (3, vi x3)] [] w) (a0 : Nat) (x1 : Int64) (x3 : Int32) (h : F_M_digest_178_B rec178 w a0 x1 x3 = some o) : RJ X 7 0 0 178 [(0, vr a0), (1, vl x1), (3, vi x3)] [] w := by
  unfold F_M_digest_178_B at h
  refine r_iload_n (i := 3) hX d_M_digest_178 2 rfl rfl ?_
  refine r_aload_n (i := 0) hX d_M_digest_179 0 rfl rfl ?_
  obtain ⟨hk1, h⟩ := gd_e h
  refine r_getI (i := 12) (f := 9) hX ci_12 (by decide) rfl fl_M_178 hk1 d_M_digest_180 ?_
  refine r_icmp_ge hX d_M_digest_183 rfl h (fun h => ?_) (fun h => ?_)
  · refine r_iconst (v := (0 : Int32)) hX d_M_digest_206 rfl ?_
    refine r_istore_n (i := 3) hX d_M_digest_207 rfl (by decide) ?_
    exact rj_sub [1, 2, 0] rfl (P_M_digest_208 hX hM hR FUEL _ _ _ h)
  · refine r_ldc2 hX d_M_digest_186 cw_M_130 ?_
    refine r_lload_n (i := 1) hX d_M_digest_189 1 rfl rfl ?_
    refine r_lmul hX d_M_digest_190 ?_
    refine r_aload_n (i := 0) hX d_M_digest_191 0 rfl rfl ?_
    refine r_getR (i := 12) (f := 8) hX ci_12 (by decide) rfl fl_M_31 hk1 d_M_digest_192 ?_
    refine r_iload_n (i := 3) hX d_M_digest_195 2 rfl rfl ?_
    obtain ⟨hk2, h⟩ := gd_e h
    obtain ⟨hg3, h⟩ := gd_e h
    refine r_iald hX hk2 hg3 d_M_digest_196 ?_
    refine r_i2l hX d_M_digest_197 ?_
    refine r_ladd hX d_M_digest_198 ?_
    refine r_lstore_n (i := 1) hX d_M_digest_199 rfl (by decide) ?_
    refine r_iinc (i := 3) (v := (1 : Int32)) hX d_M_digest_200 2 rfl rfl (by decide) ?_
    refine r_goto hX d_M_digest_203 rfl ?_
    exact rj_sub [2, 1, 0] rfl (hrec178 _ _ _ h)
def F_M_digest_178 (w : AW) : Nat → Nat → Int64 → Int32 → Option (Int64)
  | 0 => fun _ _ _ => none
  | n + 1 => fun a0 x1 x3 => F_M_digest_178_B (F_M_digest_178 w n) w a0 x1 x3
theorem P_M_digest_178 {X : AX} {l : Launch} {G : AG} {w : AW} (hX : XOK X b_M_digest "RedSkyModel" 7) (hM : XM X l G { frames := 1, cells := 0, slots := 0, locals := 22 }) {o : Int64} (hR : XR X (some .long) 0 0 (some (vl o)) w) (fu : Nat) : ∀ (a0 : Nat) (x1 : Int64) (x3 : Int32), F_M_digest_178 w fu a0 x1 x3 = some o → RJ X 7 0 0 178 [(0, vr a0), (1, vl x1), (3, vi x3)] [] w := by
  induction fu with
  | zero => intro a0 x1 x3 h; cases h
  | succ n9 ih => intro a0 x1 x3 h; exact P_M_digest_178_B hX hM hR ih _ _ _ h
def F_M_digest_101_B (rec82 : Nat → Int64 → Int32 → Option (Int64)) (rec90 : Nat → Int64 → Int32 → Int32 → Option (Int64)) (rec101 : Nat → Int64 → Int32 → Int32 → Int32 → Option (Int64)) (w : AW) (a0 : Nat) (x1 : Int64) (x3 : Int32) (x4 : Int32) (x5 : Int32) : Option (Int64) :=
  if (4 : Int32) ≤ x5 then
    let v1 : Int32 := (x4 + (1 : Int32))
    rec90 a0 x1 x3 v1
  else
    gd (wk w a0 == 13) <|
    gd (wk w (wr w a0 5) == 100) <|
    gd (inb (F_M_at x3 x4 x5) (wn w (wr w a0 5))) <|
    let v5 : Int32 := (wi w (wr w a0 5) (Int32.toNatClampNeg (F_M_at x3 x4 x5)))
    if v5 = (-1000 : Int32) then
      let v8 : Int32 := (x5 + (1 : Int32))
      rec101 a0 x1 x3 x4 v8
    else
      let v6 : Int64 := (((31 : Int64) * x1) + (Int32.toInt64 ((((2048 : Int32) * x4) + ((256 : Int32) * x5)) + v5)))
      let v7 : Int32 := (x5 + (1 : Int32))
      rec101 a0 v6 x3 x4 v7
theorem P_M_digest_101_B {X : AX} {l : Launch} {G : AG} {w : AW} {rec82 : Nat → Int64 → Int32 → Option (Int64)} {rec90 : Nat → Int64 → Int32 → Int32 → Option (Int64)} {rec101 : Nat → Int64 → Int32 → Int32 → Int32 → Option (Int64)} (hX : XOK X b_M_digest "RedSkyModel" 7) (hM : XM X l G { frames := 1, cells := 0, slots := 0, locals := 22 }) {o : Int64} (hR : XR X (some .long) 0 0 (some (vl o)) w) (hrec82 : ∀ (a0 : Nat) (x1 : Int64) (x3 : Int32), rec82 a0 x1 x3 = some o → RJ X 7 0 0 82 [(0, vr a0), (1, vl x1), (3, vi x3)] [] w) (hrec90 : ∀ (a0 : Nat) (x1 : Int64) (x3 : Int32) (x4 : Int32), rec90 a0 x1 x3 x4 = some o → RJ X 7 0 0 90 [(0, vr a0), (1, vl x1), (3, vi x3), (4, vi x4)] [] w) (hrec101 : ∀ (a0 : Nat) (x1 : Int64) (x3 : Int32) (x4 : Int32) (x5 : Int32), rec101 a0 x1 x3 x4 x5 = some o → RJ X 7 0 0 101 [(0, vr a0), (1, vl x1), (3, vi x3), (4, vi x4), (5, vi x5)] [] w) (a0 : Nat) (x1 : Int64) (x3 : Int32) (x4 : Int32) (x5 : Int32) (h : F_M_digest_101_B rec82 rec90 rec101 w a0 x1 x3 x4 x5 = some o) : RJ X 7 0 0 101 [(0, vr a0), (1, vl x1), (3, vi x3), (4, vi x4), (5, vi x5)] [] w := by
  unfold F_M_digest_101_B at h
  refine r_iload (i := 5) hX d_M_digest_101 4  rfl ?_
  refine r_iconst (v := (4 : Int32)) hX d_M_digest_103 rfl ?_
  refine r_icmp_ge hX d_M_digest_104 rfl h (fun h => ?_) (fun h => ?_)
  · refine r_iinc (i := 4) (v := (1 : Int32)) hX d_M_digest_164 3 rfl rfl (by decide) ?_
    refine r_goto hX d_M_digest_167 rfl ?_
    exact rj_sub [1, 2, 3, 0] rfl (hrec90 _ _ _ _ h)
  · refine r_aload_n (i := 0) hX d_M_digest_107 0 rfl rfl ?_
    obtain ⟨hk2, h⟩ := gd_e h
    refine r_getR (i := 12) (f := 5) hX ci_12 (by decide) rfl fl_M_22 hk2 d_M_digest_108 ?_
    refine r_iload_n (i := 3) hX d_M_digest_111 2 rfl rfl ?_
    refine r_iload (i := 4) hX d_M_digest_112 3  rfl ?_
    refine r_iload (i := 5) hX d_M_digest_114 4  rfl ?_
    refine r_callS1 (As := [_, _, _]) hX hM mw_M_167 (T_M_at _ _ _ _) rfl rfl ⟨Nat.le_refl _, Nat.le_refl _⟩ rfl rfl d_M_digest_116 ?_
    obtain ⟨hk3, h⟩ := gd_e h
    obtain ⟨hg4, h⟩ := gd_e h
    refine r_iald hX hk3 hg4 d_M_digest_119 ?_
    refine r_istore (i := 6) hX d_M_digest_120  (by decide) ?_
    refine r_iload (i := 6) hX d_M_digest_122 0  rfl ?_
    refine r_sipush (v := (-1000 : Int32)) hX d_M_digest_124 rfl ?_
    refine r_icmp_ne hX d_M_digest_127 rfl h (fun h => ?_) (fun h => ?_)
    · refine r_ldc2 hX d_M_digest_134 cw_M_130 ?_
      refine r_lload_n (i := 1) hX d_M_digest_137 2 rfl rfl ?_
      refine r_lmul hX d_M_digest_138 ?_
      refine r_sipush (v := (2048 : Int32)) hX d_M_digest_139 rfl ?_
      refine r_iload (i := 4) hX d_M_digest_142 4  rfl ?_
      refine r_imul hX d_M_digest_144 ?_
      refine r_sipush (v := (256 : Int32)) hX d_M_digest_145 rfl ?_
      refine r_iload (i := 5) hX d_M_digest_148 5  rfl ?_
      refine r_imul hX d_M_digest_150 ?_
      refine r_iadd hX d_M_digest_151 ?_
      refine r_iload (i := 6) hX d_M_digest_152 0  rfl ?_
      refine r_iadd hX d_M_digest_154 ?_
      refine r_i2l hX d_M_digest_155 ?_
      refine r_ladd hX d_M_digest_156 ?_
      refine r_lstore_n (i := 1) hX d_M_digest_157 rfl (by decide) ?_
      refine r_iinc (i := 5) (v := (1 : Int32)) hX d_M_digest_158 5 rfl rfl (by decide) ?_
      refine r_goto hX d_M_digest_161 rfl ?_
      exact rj_sub [3, 1, 4, 5, 0] rfl (hrec101 _ _ _ _ _ h)
    · refine r_lload_n (i := 1) hX d_M_digest_130 2 rfl rfl ?_
      refine r_goto hX d_M_digest_131 rfl ?_
      refine r_lstore_n (i := 1) hX d_M_digest_157 rfl (by decide) ?_
      refine r_iinc (i := 5) (v := (1 : Int32)) hX d_M_digest_158 5 rfl rfl (by decide) ?_
      refine r_goto hX d_M_digest_161 rfl ?_
      exact rj_sub [3, 1, 4, 5, 0] rfl (hrec101 _ _ _ _ _ h)
def F_M_digest_101 (rec82 : Nat → Int64 → Int32 → Option (Int64)) (rec90 : Nat → Int64 → Int32 → Int32 → Option (Int64)) (w : AW) : Nat → Nat → Int64 → Int32 → Int32 → Int32 → Option (Int64)
  | 0 => fun _ _ _ _ _ => none
  | n + 1 => fun a0 x1 x3 x4 x5 => F_M_digest_101_B rec82 rec90 (F_M_digest_101 rec82 rec90 w n) w a0 x1 x3 x4 x5
theorem P_M_digest_101 {X : AX} {l : Launch} {G : AG} {w : AW} {rec82 : Nat → Int64 → Int32 → Option (Int64)} {rec90 : Nat → Int64 → Int32 → Int32 → Option (Int64)} (hX : XOK X b_M_digest "RedSkyModel" 7) (hM : XM X l G { frames := 1, cells := 0, slots := 0, locals := 22 }) {o : Int64} (hR : XR X (some .long) 0 0 (some (vl o)) w) (hrec82 : ∀ (a0 : Nat) (x1 : Int64) (x3 : Int32), rec82 a0 x1 x3 = some o → RJ X 7 0 0 82 [(0, vr a0), (1, vl x1), (3, vi x3)] [] w) (hrec90 : ∀ (a0 : Nat) (x1 : Int64) (x3 : Int32) (x4 : Int32), rec90 a0 x1 x3 x4 = some o → RJ X 7 0 0 90 [(0, vr a0), (1, vl x1), (3, vi x3), (4, vi x4)] [] w) (fu : Nat) : ∀ (a0 : Nat) (x1 : Int64) (x3 : Int32) (x4 : Int32) (x5 : Int32), F_M_digest_101 rec82 rec90 w fu a0 x1 x3 x4 x5 = some o → RJ X 7 0 0 101 [(0, vr a0), (1, vl x1), (3, vi x3), (4, vi x4), (5, vi x5)] [] w := by
  induction fu with
  | zero => intro a0 x1 x3 x4 x5 h; cases h
  | succ n9 ih => intro a0 x1 x3 x4 x5 h; exact P_M_digest_101_B hX hM hR hrec82 hrec90 ih _ _ _ _ _ h
def F_M_digest_90_B (rec82 : Nat → Int64 → Int32 → Option (Int64)) (rec90 : Nat → Int64 → Int32 → Int32 → Option (Int64)) (w : AW) (a0 : Nat) (x1 : Int64) (x3 : Int32) (x4 : Int32) : Option (Int64) :=
  if (1461 : Int32) ≤ x4 then
    let v1 : Int32 := (x3 + (1 : Int32))
    rec82 a0 x1 v1
  else
    F_M_digest_101 rec82 rec90 w FUEL a0 x1 x3 x4 (0 : Int32)
theorem P_M_digest_90_B {X : AX} {l : Launch} {G : AG} {w : AW} {rec82 : Nat → Int64 → Int32 → Option (Int64)} {rec90 : Nat → Int64 → Int32 → Int32 → Option (Int64)} (hX : XOK X b_M_digest "RedSkyModel" 7) (hM : XM X l G { frames := 1, cells := 0, slots := 0, locals := 22 }) {o : Int64} (hR : XR X (some .long) 0 0 (some (vl o)) w) (hrec82 : ∀ (a0 : Nat) (x1 : Int64) (x3 : Int32), rec82 a0 x1 x3 = some o → RJ X 7 0 0 82 [(0, vr a0), (1, vl x1), (3, vi x3)] [] w) (hrec90 : ∀ (a0 : Nat) (x1 : Int64) (x3 : Int32) (x4 : Int32), rec90 a0 x1 x3 x4 = some o → RJ X 7 0 0 90 [(0, vr a0), (1, vl x1), (3, vi x3), (4, vi x4)] [] w) (a0 : Nat) (x1 : Int64) (x3 : Int32) (x4 : Int32) (h : F_M_digest_90_B rec82 rec90 w a0 x1 x3 x4 = some o) : RJ X 7 0 0 90 [(0, vr a0), (1, vl x1), (3, vi x3), (4, vi x4)] [] w := by
  unfold F_M_digest_90_B at h
  refine r_iload (i := 4) hX d_M_digest_90 3  rfl ?_
  refine r_sipush (v := (1461 : Int32)) hX d_M_digest_92 rfl ?_
  refine r_icmp_ge hX d_M_digest_95 rfl h (fun h => ?_) (fun h => ?_)
  · refine r_iinc (i := 3) (v := (1 : Int32)) hX d_M_digest_170 2 rfl rfl (by decide) ?_
    refine r_goto hX d_M_digest_173 rfl ?_
    exact rj_sub [1, 2, 0] rfl (hrec82 _ _ _ h)
  · refine r_iconst (v := (0 : Int32)) hX d_M_digest_98 rfl ?_
    refine r_istore (i := 5) hX d_M_digest_99  (by decide) ?_
    exact rj_sub [1, 2, 3, 4, 0] rfl (P_M_digest_101 hX hM hR hrec82 hrec90 FUEL _ _ _ _ _ h)
def F_M_digest_90 (rec82 : Nat → Int64 → Int32 → Option (Int64)) (w : AW) : Nat → Nat → Int64 → Int32 → Int32 → Option (Int64)
  | 0 => fun _ _ _ _ => none
  | n + 1 => fun a0 x1 x3 x4 => F_M_digest_90_B rec82 (F_M_digest_90 rec82 w n) w a0 x1 x3 x4
theorem P_M_digest_90 {X : AX} {l : Launch} {G : AG} {w : AW} {rec82 : Nat → Int64 → Int32 → Option (Int64)} (hX : XOK X b_M_digest "RedSkyModel" 7) (hM : XM X l G { frames := 1, cells := 0, slots := 0, locals := 22 }) {o : Int64} (hR : XR X (some .long) 0 0 (some (vl o)) w) (hrec82 : ∀ (a0 : Nat) (x1 : Int64) (x3 : Int32), rec82 a0 x1 x3 = some o → RJ X 7 0 0 82 [(0, vr a0), (1, vl x1), (3, vi x3)] [] w) (fu : Nat) : ∀ (a0 : Nat) (x1 : Int64) (x3 : Int32) (x4 : Int32), F_M_digest_90 rec82 w fu a0 x1 x3 x4 = some o → RJ X 7 0 0 90 [(0, vr a0), (1, vl x1), (3, vi x3), (4, vi x4)] [] w := by
  induction fu with
  | zero => intro a0 x1 x3 x4 h; cases h
  | succ n9 ih => intro a0 x1 x3 x4 h; exact P_M_digest_90_B hX hM hR hrec82 ih _ _ _ _ h
def F_M_digest_82_B (rec82 : Nat → Int64 → Int32 → Option (Int64)) (w : AW) (a0 : Nat) (x1 : Int64) (x3 : Int32) : Option (Int64) :=
  if (3 : Int32) ≤ x3 then
    F_M_digest_178 w FUEL a0 x1 (0 : Int32)
  else
    F_M_digest_90 rec82 w FUEL a0 x1 x3 (0 : Int32)
theorem P_M_digest_82_B {X : AX} {l : Launch} {G : AG} {w : AW} {rec82 : Nat → Int64 → Int32 → Option (Int64)} (hX : XOK X b_M_digest "RedSkyModel" 7) (hM : XM X l G { frames := 1, cells := 0, slots := 0, locals := 22 }) {o : Int64} (hR : XR X (some .long) 0 0 (some (vl o)) w) (hrec82 : ∀ (a0 : Nat) (x1 : Int64) (x3 : Int32), rec82 a0 x1 x3 = some o → RJ X 7 0 0 82 [(0, vr a0), (1, vl x1), (3, vi x3)] [] w) (a0 : Nat) (x1 : Int64) (x3 : Int32) (h : F_M_digest_82_B rec82 w a0 x1 x3 = some o) : RJ X 7 0 0 82 [(0, vr a0), (1, vl x1), (3, vi x3)] [] w := by
  unfold F_M_digest_82_B at h
  refine r_iload_n (i := 3) hX d_M_digest_82 2 rfl rfl ?_
  refine r_iconst (v := (3 : Int32)) hX d_M_digest_83 rfl ?_
  refine r_icmp_ge hX d_M_digest_84 rfl h (fun h => ?_) (fun h => ?_)
  · refine r_iconst (v := (0 : Int32)) hX d_M_digest_176 rfl ?_
    refine r_istore_n (i := 3) hX d_M_digest_177 rfl (by decide) ?_
    exact rj_sub [1, 2, 0] rfl (P_M_digest_178 hX hM hR FUEL _ _ _ h)
  · refine r_iconst (v := (0 : Int32)) hX d_M_digest_87 rfl ?_
    refine r_istore (i := 4) hX d_M_digest_88  (by decide) ?_
    exact rj_sub [1, 2, 3, 0] rfl (P_M_digest_90 hX hM hR hrec82 FUEL _ _ _ _ h)
def F_M_digest_82 (w : AW) : Nat → Nat → Int64 → Int32 → Option (Int64)
  | 0 => fun _ _ _ => none
  | n + 1 => fun a0 x1 x3 => F_M_digest_82_B (F_M_digest_82 w n) w a0 x1 x3
theorem P_M_digest_82 {X : AX} {l : Launch} {G : AG} {w : AW} (hX : XOK X b_M_digest "RedSkyModel" 7) (hM : XM X l G { frames := 1, cells := 0, slots := 0, locals := 22 }) {o : Int64} (hR : XR X (some .long) 0 0 (some (vl o)) w) (fu : Nat) : ∀ (a0 : Nat) (x1 : Int64) (x3 : Int32), F_M_digest_82 w fu a0 x1 x3 = some o → RJ X 7 0 0 82 [(0, vr a0), (1, vl x1), (3, vi x3)] [] w := by
  induction fu with
  | zero => intro a0 x1 x3 h; cases h
  | succ n9 ih => intro a0 x1 x3 h; exact P_M_digest_82_B hX hM hR ih _ _ _ h
def F_M_digest_12_B (rec12 : Nat → Int64 → Int32 → Option (Int64)) (w : AW) (a0 : Nat) (x1 : Int64) (x3 : Int32) : Option (Int64) :=
  if (8 : Int32) ≤ x3 then
    F_M_digest_82 w FUEL a0 x1 (0 : Int32)
  else
    gd (wk w a0 == 13) <|
    gd (wk w (wr w a0 1) == 100) <|
    gd (inb x3 (wn w (wr w a0 1))) <|
    let v4 : Int64 := (((31 : Int64) * x1) + (Int32.toInt64 (wi w (wr w a0 1) (Int32.toNatClampNeg x3))))
    gd (wk w (wr w a0 2) == 100) <|
    gd (inb x3 (wn w (wr w a0 2))) <|
    let v7 : Int64 := (((31 : Int64) * v4) + (Int32.toInt64 (wi w (wr w a0 2) (Int32.toNatClampNeg x3))))
    gd (wk w (wr w a0 3) == 100) <|
    gd (inb x3 (wn w (wr w a0 3))) <|
    let v10 : Int64 := (((31 : Int64) * v7) + (Int32.toInt64 (wi w (wr w a0 3) (Int32.toNatClampNeg x3))))
    gd (wk w (wr w a0 4) == 100) <|
    gd (inb x3 (wn w (wr w a0 4))) <|
    let v13 : Int64 := (((31 : Int64) * v10) + (Int32.toInt64 (wi w (wr w a0 4) (Int32.toNatClampNeg x3))))
    let v14 : Int32 := (x3 + (1 : Int32))
    rec12 a0 v13 v14
theorem P_M_digest_12_B {X : AX} {l : Launch} {G : AG} {w : AW} {rec12 : Nat → Int64 → Int32 → Option (Int64)} (hX : XOK X b_M_digest "RedSkyModel" 7) (hM : XM X l G { frames := 1, cells := 0, slots := 0, locals := 22 }) {o : Int64} (hR : XR X (some .long) 0 0 (some (vl o)) w) (hrec12 : ∀ (a0 : Nat) (x1 : Int64) (x3 : Int32), rec12 a0 x1 x3 = some o → RJ X 7 0 0 12 [(0, vr a0), (1, vl x1), (3, vi x3)] [] w) (a0 : Nat) (x1 : Int64) (x3 : Int32) (h : F_M_digest_12_B rec12 w a0 x1 x3 = some o) : RJ X 7 0 0 12 [(0, vr a0), (1, vl x1), (3, vi x3)] [] w := by
  unfold F_M_digest_12_B at h
  refine r_iload_n (i := 3) hX d_M_digest_12 2 rfl rfl ?_
  refine r_bipush (v := (8 : Int32)) hX d_M_digest_13 rfl ?_
  refine r_icmp_ge hX d_M_digest_15 rfl h (fun h => ?_) (fun h => ?_)
  · refine r_iconst (v := (0 : Int32)) hX d_M_digest_80 rfl ?_
    refine r_istore_n (i := 3) hX d_M_digest_81 rfl (by decide) ?_
    exact rj_sub [1, 2, 0] rfl (P_M_digest_82 hX hM hR FUEL _ _ _ h)
  · refine r_ldc2 hX d_M_digest_18 cw_M_130 ?_
    refine r_lload_n (i := 1) hX d_M_digest_21 1 rfl rfl ?_
    refine r_lmul hX d_M_digest_22 ?_
    refine r_aload_n (i := 0) hX d_M_digest_23 0 rfl rfl ?_
    obtain ⟨hk1, h⟩ := gd_e h
    refine r_getR (i := 12) (f := 1) hX ci_12 (by decide) rfl fl_M_7 hk1 d_M_digest_24 ?_
    refine r_iload_n (i := 3) hX d_M_digest_27 2 rfl rfl ?_
    obtain ⟨hk2, h⟩ := gd_e h
    obtain ⟨hg3, h⟩ := gd_e h
    refine r_iald hX hk2 hg3 d_M_digest_28 ?_
    refine r_i2l hX d_M_digest_29 ?_
    refine r_ladd hX d_M_digest_30 ?_
    refine r_lstore_n (i := 1) hX d_M_digest_31 rfl (by decide) ?_
    refine r_ldc2 hX d_M_digest_32 cw_M_130 ?_
    refine r_lload_n (i := 1) hX d_M_digest_35 0 rfl rfl ?_
    refine r_lmul hX d_M_digest_36 ?_
    refine r_aload_n (i := 0) hX d_M_digest_37 1 rfl rfl ?_
    refine r_getR (i := 12) (f := 2) hX ci_12 (by decide) rfl fl_M_13 hk1 d_M_digest_38 ?_
    refine r_iload_n (i := 3) hX d_M_digest_41 2 rfl rfl ?_
    obtain ⟨hk5, h⟩ := gd_e h
    obtain ⟨hg6, h⟩ := gd_e h
    refine r_iald hX hk5 hg6 d_M_digest_42 ?_
    refine r_i2l hX d_M_digest_43 ?_
    refine r_ladd hX d_M_digest_44 ?_
    refine r_lstore_n (i := 1) hX d_M_digest_45 rfl (by decide) ?_
    refine r_ldc2 hX d_M_digest_46 cw_M_130 ?_
    refine r_lload_n (i := 1) hX d_M_digest_49 0 rfl rfl ?_
    refine r_lmul hX d_M_digest_50 ?_
    refine r_aload_n (i := 0) hX d_M_digest_51 1 rfl rfl ?_
    refine r_getR (i := 12) (f := 3) hX ci_12 (by decide) rfl fl_M_16 hk1 d_M_digest_52 ?_
    refine r_iload_n (i := 3) hX d_M_digest_55 2 rfl rfl ?_
    obtain ⟨hk8, h⟩ := gd_e h
    obtain ⟨hg9, h⟩ := gd_e h
    refine r_iald hX hk8 hg9 d_M_digest_56 ?_
    refine r_i2l hX d_M_digest_57 ?_
    refine r_ladd hX d_M_digest_58 ?_
    refine r_lstore_n (i := 1) hX d_M_digest_59 rfl (by decide) ?_
    refine r_ldc2 hX d_M_digest_60 cw_M_130 ?_
    refine r_lload_n (i := 1) hX d_M_digest_63 0 rfl rfl ?_
    refine r_lmul hX d_M_digest_64 ?_
    refine r_aload_n (i := 0) hX d_M_digest_65 1 rfl rfl ?_
    refine r_getR (i := 12) (f := 4) hX ci_12 (by decide) rfl fl_M_19 hk1 d_M_digest_66 ?_
    refine r_iload_n (i := 3) hX d_M_digest_69 2 rfl rfl ?_
    obtain ⟨hk11, h⟩ := gd_e h
    obtain ⟨hg12, h⟩ := gd_e h
    refine r_iald hX hk11 hg12 d_M_digest_70 ?_
    refine r_i2l hX d_M_digest_71 ?_
    refine r_ladd hX d_M_digest_72 ?_
    refine r_lstore_n (i := 1) hX d_M_digest_73 rfl (by decide) ?_
    refine r_iinc (i := 3) (v := (1 : Int32)) hX d_M_digest_74 2 rfl rfl (by decide) ?_
    refine r_goto hX d_M_digest_77 rfl ?_
    exact rj_sub [2, 1, 0] rfl (hrec12 _ _ _ h)
def F_M_digest_12 (w : AW) : Nat → Nat → Int64 → Int32 → Option (Int64)
  | 0 => fun _ _ _ => none
  | n + 1 => fun a0 x1 x3 => F_M_digest_12_B (F_M_digest_12 w n) w a0 x1 x3
theorem P_M_digest_12 {X : AX} {l : Launch} {G : AG} {w : AW} (hX : XOK X b_M_digest "RedSkyModel" 7) (hM : XM X l G { frames := 1, cells := 0, slots := 0, locals := 22 }) {o : Int64} (hR : XR X (some .long) 0 0 (some (vl o)) w) (fu : Nat) : ∀ (a0 : Nat) (x1 : Int64) (x3 : Int32), F_M_digest_12 w fu a0 x1 x3 = some o → RJ X 7 0 0 12 [(0, vr a0), (1, vl x1), (3, vi x3)] [] w := by
  induction fu with
  | zero => intro a0 x1 x3 h; cases h
  | succ n9 ih => intro a0 x1 x3 h; exact P_M_digest_12_B hX hM hR ih _ _ _ h
def F_M_digest (w : AW) (a0 : Nat) : Option (Int64) :=
  gd (wk w a0 == 13) <|
  let v2 : Int64 := ((6169 : Int64) + (Int32.toInt64 (wi w a0 0)))
  F_M_digest_12 w FUEL a0 v2 (0 : Int32)
theorem P_M_digest_0 {X : AX} {l : Launch} {G : AG} {w : AW} (hX : XOK X b_M_digest "RedSkyModel" 7) (hM : XM X l G { frames := 1, cells := 0, slots := 0, locals := 22 }) {o : Int64} (hR : XR X (some .long) 0 0 (some (vl o)) w) (a0 : Nat) (h : F_M_digest w a0 = some o) : RJ X 7 0 0 0 [(0, vr a0)] [] w := by
  unfold F_M_digest at h
  refine r_ldc2 hX d_M_digest_0 cw_M_395 ?_
  refine r_aload_n (i := 0) hX d_M_digest_3 0 rfl rfl ?_
  obtain ⟨hk1, h⟩ := gd_e h
  refine r_getI (i := 12) (f := 0) hX ci_12 (by decide) rfl fl_M_95 hk1 d_M_digest_4 ?_
  refine r_i2l hX d_M_digest_7 ?_
  refine r_ladd hX d_M_digest_8 ?_
  refine r_lstore_n (i := 1) hX d_M_digest_9 rfl (by decide) ?_
  refine r_iconst (v := (0 : Int32)) hX d_M_digest_10 rfl ?_
  refine r_istore_n (i := 3) hX d_M_digest_11 rfl (by decide) ?_
  exact rj_sub [2, 1, 0] rfl (P_M_digest_12 hX hM hR FUEL _ _ _ h)
theorem T_M_digest {l : Launch} {G : AG} (w : AW) (a0 : Nat) {o : Int64} (h : F_M_digest w a0 = some o) : Mt l G y_M_digest b_M_digest 7 (some (.long)) 1 22 0 0 [vr a0] w (some (vl o)) w := mt_of (by decide) (Nat.le_of_ble_eq_true rfl) (fun X hX hR hM hI => P_M_digest_0 hX hM hR _ h)
