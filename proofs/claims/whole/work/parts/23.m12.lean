/-! RedSky$Learner.settle()V -/
theorem d_Le_settle_0 : decode b_Le_settle 0 = .ok (.aload_n 0, 1) := by decide +kernel
theorem d_Le_settle_1 : decode b_Le_settle 1 = .ok (.aload_n 0, 1) := by decide +kernel
theorem d_Le_settle_2 : decode b_Le_settle 2 = .ok (.getfield 25, 3) := by decide +kernel
theorem d_Le_settle_5 : decode b_Le_settle 5 = .ok (.invokevirtual 96, 3) := by decide +kernel
theorem d_Le_settle_8 : decode b_Le_settle 8 = .ok (.putfield 59, 3) := by decide +kernel
theorem d_Le_settle_11 : decode b_Le_settle 11 = .ok (.aload_n 0, 1) := by decide +kernel
theorem d_Le_settle_12 : decode b_Le_settle 12 = .ok (.getfield 35, 3) := by decide +kernel
theorem d_Le_settle_15 : decode b_Le_settle 15 = .ok (.aload_n 0, 1) := by decide +kernel
theorem d_Le_settle_16 : decode b_Le_settle 16 = .ok (.getfield 25, 3) := by decide +kernel
theorem d_Le_settle_19 : decode b_Le_settle 19 = .ok (.invokevirtual 68, 3) := by decide +kernel
theorem d_Le_settle_22 : decode b_Le_settle 22 = .ok (.iconst 0, 1) := by decide +kernel
theorem d_Le_settle_23 : decode b_Le_settle 23 = .ok (.istore_n 1, 1) := by decide +kernel
theorem d_Le_settle_24 : decode b_Le_settle 24 = .ok (.iload_n 1, 1) := by decide +kernel
theorem d_Le_settle_25 : decode b_Le_settle 25 = .ok (.aload_n 0, 1) := by decide +kernel
theorem d_Le_settle_26 : decode b_Le_settle 26 = .ok (.getfield 52, 3) := by decide +kernel
theorem d_Le_settle_29 : decode b_Le_settle 29 = .ok (.if_icmp .ge (38), 3) := by decide +kernel
theorem d_Le_settle_32 : decode b_Le_settle 32 = .ok (.iload_n 1, 1) := by decide +kernel
theorem d_Le_settle_33 : decode b_Le_settle 33 = .ok (.iconst 2, 1) := by decide +kernel
theorem d_Le_settle_34 : decode b_Le_settle 34 = .ok (.if_icmp .ge (33), 3) := by decide +kernel
theorem d_Le_settle_37 : decode b_Le_settle 37 = .ok (.aload_n 0, 1) := by decide +kernel
theorem d_Le_settle_38 : decode b_Le_settle 38 = .ok (.aload_n 0, 1) := by decide +kernel
theorem d_Le_settle_39 : decode b_Le_settle 39 = .ok (.getfield 45, 3) := by decide +kernel
theorem d_Le_settle_42 : decode b_Le_settle 42 = .ok (.iload_n 1, 1) := by decide +kernel
theorem d_Le_settle_43 : decode b_Le_settle 43 = .ok (.iaload, 1) := by decide +kernel
theorem d_Le_settle_44 : decode b_Le_settle 44 = .ok (.invokevirtual 89, 3) := by decide +kernel
theorem d_Le_settle_47 : decode b_Le_settle 47 = .ok (.aload_n 0, 1) := by decide +kernel
theorem d_Le_settle_48 : decode b_Le_settle 48 = .ok (.getfield 48, 3) := by decide +kernel
theorem d_Le_settle_51 : decode b_Le_settle 51 = .ok (.iload_n 1, 1) := by decide +kernel
theorem d_Le_settle_52 : decode b_Le_settle 52 = .ok (.aload_n 0, 1) := by decide +kernel
theorem d_Le_settle_53 : decode b_Le_settle 53 = .ok (.aload_n 0, 1) := by decide +kernel
theorem d_Le_settle_54 : decode b_Le_settle 54 = .ok (.getfield 38, 3) := by decide +kernel
theorem d_Le_settle_57 : decode b_Le_settle 57 = .ok (.invokevirtual 115, 3) := by decide +kernel
theorem d_Le_settle_60 : decode b_Le_settle 60 = .ok (.bastore, 1) := by decide +kernel
theorem d_Le_settle_61 : decode b_Le_settle 61 = .ok (.iinc 1 (1), 3) := by decide +kernel
theorem d_Le_settle_64 : decode b_Le_settle 64 = .ok (.goto (-40), 3) := by decide +kernel
theorem d_Le_settle_67 : decode b_Le_settle 67 = .ok (.aload_n 0, 1) := by decide +kernel
theorem d_Le_settle_68 : decode b_Le_settle 68 = .ok (.aload_n 0, 1) := by decide +kernel
theorem d_Le_settle_69 : decode b_Le_settle 69 = .ok (.aload_n 0, 1) := by decide +kernel
theorem d_Le_settle_70 : decode b_Le_settle 70 = .ok (.getfield 35, 3) := by decide +kernel
theorem d_Le_settle_73 : decode b_Le_settle 73 = .ok (.invokevirtual 115, 3) := by decide +kernel
theorem d_Le_settle_76 : decode b_Le_settle 76 = .ok (.putfield 55, 3) := by decide +kernel
theorem d_Le_settle_79 : decode b_Le_settle 79 = .ok (.aload_n 0, 1) := by decide +kernel
theorem d_Le_settle_80 : decode b_Le_settle 80 = .ok (.aload_n 0, 1) := by decide +kernel
theorem d_Le_settle_81 : decode b_Le_settle 81 = .ok (.getfield 29, 3) := by decide +kernel
theorem d_Le_settle_84 : decode b_Le_settle 84 = .ok (.invokevirtual 96, 3) := by decide +kernel
theorem d_Le_settle_87 : decode b_Le_settle 87 = .ok (.putfield 62, 3) := by decide +kernel
theorem d_Le_settle_90 : decode b_Le_settle 90 = .ok (.aload_n 0, 1) := by decide +kernel
theorem d_Le_settle_91 : decode b_Le_settle 91 = .ok (.iconst 0, 1) := by decide +kernel
theorem d_Le_settle_92 : decode b_Le_settle 92 = .ok (.putfield 65, 3) := by decide +kernel
theorem d_Le_settle_95 : decode b_Le_settle 95 = .ok (.aload_n 0, 1) := by decide +kernel
theorem d_Le_settle_96 : decode b_Le_settle 96 = .ok (.getfield 35, 3) := by decide +kernel
theorem d_Le_settle_99 : decode b_Le_settle 99 = .ok (.aload_n 0, 1) := by decide +kernel
theorem d_Le_settle_100 : decode b_Le_settle 100 = .ok (.getfield 29, 3) := by decide +kernel
theorem d_Le_settle_103 : decode b_Le_settle 103 = .ok (.invokevirtual 68, 3) := by decide +kernel
theorem d_Le_settle_106 : decode b_Le_settle 106 = .ok (.iconst 0, 1) := by decide +kernel
theorem d_Le_settle_107 : decode b_Le_settle 107 = .ok (.istore_n 1, 1) := by decide +kernel
theorem d_Le_settle_108 : decode b_Le_settle 108 = .ok (.iload_n 1, 1) := by decide +kernel
theorem d_Le_settle_109 : decode b_Le_settle 109 = .ok (.aload_n 0, 1) := by decide +kernel
theorem d_Le_settle_110 : decode b_Le_settle 110 = .ok (.getfield 52, 3) := by decide +kernel
theorem d_Le_settle_113 : decode b_Le_settle 113 = .ok (.if_icmp .ge (47), 3) := by decide +kernel
theorem d_Le_settle_116 : decode b_Le_settle 116 = .ok (.iload_n 1, 1) := by decide +kernel
theorem d_Le_settle_117 : decode b_Le_settle 117 = .ok (.iconst 2, 1) := by decide +kernel
theorem d_Le_settle_118 : decode b_Le_settle 118 = .ok (.if_icmp .ge (42), 3) := by decide +kernel
theorem d_Le_settle_121 : decode b_Le_settle 121 = .ok (.aload_n 0, 1) := by decide +kernel
theorem d_Le_settle_122 : decode b_Le_settle 122 = .ok (.aload_n 0, 1) := by decide +kernel
theorem d_Le_settle_123 : decode b_Le_settle 123 = .ok (.getfield 45, 3) := by decide +kernel
theorem d_Le_settle_126 : decode b_Le_settle 126 = .ok (.iload_n 1, 1) := by decide +kernel
theorem d_Le_settle_127 : decode b_Le_settle 127 = .ok (.iaload, 1) := by decide +kernel
theorem d_Le_settle_128 : decode b_Le_settle 128 = .ok (.invokevirtual 89, 3) := by decide +kernel
theorem d_Le_settle_131 : decode b_Le_settle 131 = .ok (.aload_n 0, 1) := by decide +kernel
theorem d_Le_settle_132 : decode b_Le_settle 132 = .ok (.dup, 1) := by decide +kernel
theorem d_Le_settle_133 : decode b_Le_settle 133 = .ok (.getfield 65, 3) := by decide +kernel
theorem d_Le_settle_136 : decode b_Le_settle 136 = .ok (.aload_n 0, 1) := by decide +kernel
theorem d_Le_settle_137 : decode b_Le_settle 137 = .ok (.aload_n 0, 1) := by decide +kernel
theorem d_Le_settle_138 : decode b_Le_settle 138 = .ok (.getfield 38, 3) := by decide +kernel
theorem d_Le_settle_141 : decode b_Le_settle 141 = .ok (.aload_n 0, 1) := by decide +kernel
theorem d_Le_settle_142 : decode b_Le_settle 142 = .ok (.getfield 48, 3) := by decide +kernel
theorem d_Le_settle_145 : decode b_Le_settle 145 = .ok (.iload_n 1, 1) := by decide +kernel
theorem d_Le_settle_146 : decode b_Le_settle 146 = .ok (.baload, 1) := by decide +kernel
theorem d_Le_settle_147 : decode b_Le_settle 147 = .ok (.invokevirtual 119, 3) := by decide +kernel
theorem d_Le_settle_150 : decode b_Le_settle 150 = .ok (.iadd, 1) := by decide +kernel
theorem d_Le_settle_151 : decode b_Le_settle 151 = .ok (.putfield 65, 3) := by decide +kernel
theorem d_Le_settle_154 : decode b_Le_settle 154 = .ok (.iinc 1 (1), 3) := by decide +kernel
theorem d_Le_settle_157 : decode b_Le_settle 157 = .ok (.goto (-49), 3) := by decide +kernel
theorem d_Le_settle_160 : decode b_Le_settle 160 = .ok (.aload_n 0, 1) := by decide +kernel
theorem d_Le_settle_161 : decode b_Le_settle 161 = .ok (.dup, 1) := by decide +kernel
theorem d_Le_settle_162 : decode b_Le_settle 162 = .ok (.getfield 65, 3) := by decide +kernel
theorem d_Le_settle_165 : decode b_Le_settle 165 = .ok (.aload_n 0, 1) := by decide +kernel
theorem d_Le_settle_166 : decode b_Le_settle 166 = .ok (.aload_n 0, 1) := by decide +kernel
theorem d_Le_settle_167 : decode b_Le_settle 167 = .ok (.getfield 35, 3) := by decide +kernel
theorem d_Le_settle_170 : decode b_Le_settle 170 = .ok (.aload_n 0, 1) := by decide +kernel
theorem d_Le_settle_171 : decode b_Le_settle 171 = .ok (.getfield 55, 3) := by decide +kernel
theorem d_Le_settle_174 : decode b_Le_settle 174 = .ok (.invokevirtual 119, 3) := by decide +kernel
theorem d_Le_settle_177 : decode b_Le_settle 177 = .ok (.iadd, 1) := by decide +kernel
theorem d_Le_settle_178 : decode b_Le_settle 178 = .ok (.putfield 65, 3) := by decide +kernel
theorem d_Le_settle_181 : decode b_Le_settle 181 = .ok (.return_, 1) := by decide +kernel
def F_Le_settle_160 (a0 : Nat) (w : AW) : Option (AW) :=
  gd (wk w a0 == 10) <|
  (F_Le_rightOn w a0 (wr w a0 6) (wi w a0 12)).bind fun r2 =>
  let w4 : AW := upI w a0 15 ((wi w a0 15) + r2)
  some w4
theorem P_Le_settle_160 {X : AX} {l : Launch} {G : AG} (hX : XOK X b_Le_settle "RedSky$Learner" 2) (hM : XM X l G { frames := 3, cells := 0, slots := 0, locals := 82 }) {o : AW} (hR : XR X none 0 0 none o) (a0 : Nat) (w : AW) (h : F_Le_settle_160 a0 w = some o) : RJ X 2 0 0 160 [(0, vr a0)] [] w := by
  unfold F_Le_settle_160 at h
  refine r_aload_n (i := 0) hX d_Le_settle_160 0 rfl rfl ?_
  refine r_dup hX d_Le_settle_161 rfl ?_
  obtain ⟨hk1, h⟩ := gd_e h
  refine r_getI (i := 9) (f := 15) hX ci_9 (by decide) rfl fl_Le_65 hk1 d_Le_settle_162 ?_
  refine r_aload_n (i := 0) hX d_Le_settle_165 0 rfl rfl ?_
  refine r_aload_n (i := 0) hX d_Le_settle_166 0 rfl rfl ?_
  refine r_getR (i := 9) (f := 6) hX ci_9 (by decide) rfl fl_Le_35 hk1 d_Le_settle_167 ?_
  refine r_aload_n (i := 0) hX d_Le_settle_170 0 rfl rfl ?_
  refine r_getI (i := 9) (f := 12) hX ci_9 (by decide) rfl fl_Le_55 hk1 d_Le_settle_171 ?_
  obtain ⟨r2, hr3, h⟩ := bd_e h
  refine r_callV1 (As := [_, _]) hX hM mw_Le_119 (T_Le_rightOn _ _ _ _ hr3) (rc_of ci_9 hk1) rfl rfl ⟨Nat.le_refl _, Nat.le_refl _⟩ rfl rfl d_Le_settle_174 ?_
  refine r_iadd hX d_Le_settle_177 ?_
  refine r_putI (i := 9) (f := 15) hX ci_9 (by decide) rfl rfl (fun G => rfl) (fun G => rfl) fl_Le_65 hk1 d_Le_settle_178 ?_
  cases h; exact r_vret hX hR d_Le_settle_181
def F_Le_settle_108_B (rec108 : Nat → Int32 → AW → Option (AW)) (a0 : Nat) (x1 : Int32) (w : AW) : Option (AW) :=
  gd (wk w a0 == 10) <|
  if (wi w a0 11) ≤ x1 then
    F_Le_settle_160 a0 w
  else
    if (2 : Int32) ≤ x1 then
      F_Le_settle_160 a0 w
    else
      gd (wk w (wr w a0 9) == 100) <|
      gd (inb x1 (wn w (wr w a0 9))) <|
      (F_Le_tellBy a0 (wi w (wr w a0 9) (Int32.toNatClampNeg x1)) w).bind fun r4 =>
      gd (wk r4 a0 == 10) <|
      gd (wk r4 (wr r4 a0 10) == 104) <|
      gd (inb x1 (wn r4 (wr r4 a0 10))) <|
      (F_Le_rightOn r4 a0 (wr r4 a0 7) (wi r4 (wr r4 a0 10) (Int32.toNatClampNeg x1))).bind fun r9 =>
      let w11 : AW := upI r4 a0 15 ((wi r4 a0 15) + r9)
      let v12 : Int32 := (x1 + (1 : Int32))
      rec108 a0 v12 w11
theorem P_Le_settle_108_B {X : AX} {l : Launch} {G : AG} {rec108 : Nat → Int32 → AW → Option (AW)} (hX : XOK X b_Le_settle "RedSky$Learner" 2) (hM : XM X l G { frames := 3, cells := 0, slots := 0, locals := 82 }) {o : AW} (hR : XR X none 0 0 none o) (hrec108 : ∀ (a0 : Nat) (x1 : Int32) (w : AW), rec108 a0 x1 w = some o → RJ X 2 0 0 108 [(0, vr a0), (1, vi x1)] [] w) (a0 : Nat) (x1 : Int32) (w : AW) (h : F_Le_settle_108_B rec108 a0 x1 w = some o) : RJ X 2 0 0 108 [(0, vr a0), (1, vi x1)] [] w := by
  unfold F_Le_settle_108_B at h
  refine r_iload_n (i := 1) hX d_Le_settle_108 1 rfl rfl ?_
  refine r_aload_n (i := 0) hX d_Le_settle_109 0 rfl rfl ?_
  obtain ⟨hk1, h⟩ := gd_e h
  refine r_getI (i := 9) (f := 11) hX ci_9 (by decide) rfl fl_Le_52 hk1 d_Le_settle_110 ?_
  refine r_icmp_ge hX d_Le_settle_113 rfl h (fun h => ?_) (fun h => ?_)
  · exact rj_sub [0] rfl (P_Le_settle_160 hX hM hR _ _ h)
  · refine r_iload_n (i := 1) hX d_Le_settle_116 1 rfl rfl ?_
    refine r_iconst (v := (2 : Int32)) hX d_Le_settle_117 rfl ?_
    refine r_icmp_ge hX d_Le_settle_118 rfl h (fun h => ?_) (fun h => ?_)
    · exact rj_sub [0] rfl (P_Le_settle_160 hX hM hR _ _ h)
    · refine r_aload_n (i := 0) hX d_Le_settle_121 0 rfl rfl ?_
      refine r_aload_n (i := 0) hX d_Le_settle_122 0 rfl rfl ?_
      refine r_getR (i := 9) (f := 9) hX ci_9 (by decide) rfl fl_Le_45 hk1 d_Le_settle_123 ?_
      refine r_iload_n (i := 1) hX d_Le_settle_126 1 rfl rfl ?_
      obtain ⟨hk2, h⟩ := gd_e h
      obtain ⟨hg3, h⟩ := gd_e h
      refine r_iald hX hk2 hg3 d_Le_settle_127 ?_
      obtain ⟨r4, hr5, h⟩ := bd_e h
      refine r_callV0 (As := [_]) hX hM mw_Le_89 (T_Le_tellBy _ _ _ hr5) (rc_of ci_9 hk1) rfl rfl ⟨Nat.le_refl _, Nat.le_refl _⟩ rfl rfl d_Le_settle_128 ?_
      refine r_aload_n (i := 0) hX d_Le_settle_131 0 rfl rfl ?_
      refine r_dup hX d_Le_settle_132 rfl ?_
      obtain ⟨hk6, h⟩ := gd_e h
      refine r_getI (i := 9) (f := 15) hX ci_9 (by decide) rfl fl_Le_65 hk6 d_Le_settle_133 ?_
      refine r_aload_n (i := 0) hX d_Le_settle_136 0 rfl rfl ?_
      refine r_aload_n (i := 0) hX d_Le_settle_137 0 rfl rfl ?_
      refine r_getR (i := 9) (f := 7) hX ci_9 (by decide) rfl fl_Le_38 hk6 d_Le_settle_138 ?_
      refine r_aload_n (i := 0) hX d_Le_settle_141 0 rfl rfl ?_
      refine r_getR (i := 9) (f := 10) hX ci_9 (by decide) rfl fl_Le_48 hk6 d_Le_settle_142 ?_
      refine r_iload_n (i := 1) hX d_Le_settle_145 1 rfl rfl ?_
      obtain ⟨hk7, h⟩ := gd_e h
      obtain ⟨hg8, h⟩ := gd_e h
      refine r_zald hX hk7 hg8 d_Le_settle_146 ?_
      obtain ⟨r9, hr10, h⟩ := bd_e h
      refine r_callV1 (As := [_, _]) hX hM mw_Le_119 (T_Le_rightOn _ _ _ _ hr10) (rc_of ci_9 hk6) rfl rfl ⟨Nat.le_refl _, Nat.le_refl _⟩ rfl rfl d_Le_settle_147 ?_
      refine r_iadd hX d_Le_settle_150 ?_
      refine r_putI (i := 9) (f := 15) hX ci_9 (by decide) rfl rfl (fun G => rfl) (fun G => rfl) fl_Le_65 hk6 d_Le_settle_151 ?_
      refine r_iinc (i := 1) (v := (1 : Int32)) hX d_Le_settle_154 1 rfl rfl (by decide) ?_
      refine r_goto hX d_Le_settle_157 rfl ?_
      exact rj_sub [1, 0] rfl (hrec108 _ _ _ h)
def F_Le_settle_108 : Nat → Nat → Int32 → AW → Option (AW)
  | 0 => fun _ _ _ => none
  | n + 1 => fun a0 x1 w => F_Le_settle_108_B (F_Le_settle_108 n) a0 x1 w
theorem P_Le_settle_108 {X : AX} {l : Launch} {G : AG} (hX : XOK X b_Le_settle "RedSky$Learner" 2) (hM : XM X l G { frames := 3, cells := 0, slots := 0, locals := 82 }) {o : AW} (hR : XR X none 0 0 none o) (fu : Nat) : ∀ (a0 : Nat) (x1 : Int32) (w : AW), F_Le_settle_108 fu a0 x1 w = some o → RJ X 2 0 0 108 [(0, vr a0), (1, vi x1)] [] w := by
  induction fu with
  | zero => intro a0 x1 w h; cases h
  | succ n9 ih => intro a0 x1 w h; exact P_Le_settle_108_B hX hM hR ih _ _ _ h
def F_Le_settle_67 (a0 : Nat) (w : AW) : Option (AW) :=
  gd (wk w a0 == 10) <|
  (F_Le_isMostlyTrue w a0 (wr w a0 6)).bind fun r2 =>
  gd (r2 == 0 || r2 == 1) <|
  let w5 : AW := upI w a0 12 r2
  gd (wk w5 (wr w5 a0 4) == 8) <|
  (F_Dy_size w5 (wr w5 a0 4)).bind fun r7 =>
  let w9 : AW := upI w5 a0 14 r7
  let w10 : AW := upI w9 a0 15 (0 : Int32)
  gd (wk w10 (wr w10 a0 6) == 8) <|
  (F_Dy_take (wr w10 a0 6) (wr w10 a0 4) w10).bind fun r12 =>
  F_Le_settle_108 FUEL a0 (0 : Int32) r12
theorem P_Le_settle_67 {X : AX} {l : Launch} {G : AG} (hX : XOK X b_Le_settle "RedSky$Learner" 2) (hM : XM X l G { frames := 3, cells := 0, slots := 0, locals := 82 }) {o : AW} (hR : XR X none 0 0 none o) (a0 : Nat) (w : AW) (h : F_Le_settle_67 a0 w = some o) : RJ X 2 0 0 67 [(0, vr a0)] [] w := by
  unfold F_Le_settle_67 at h
  refine r_aload_n (i := 0) hX d_Le_settle_67 0 rfl rfl ?_
  refine r_aload_n (i := 0) hX d_Le_settle_68 0 rfl rfl ?_
  refine r_aload_n (i := 0) hX d_Le_settle_69 0 rfl rfl ?_
  obtain ⟨hk1, h⟩ := gd_e h
  refine r_getR (i := 9) (f := 6) hX ci_9 (by decide) rfl fl_Le_35 hk1 d_Le_settle_70 ?_
  obtain ⟨r2, hr3, h⟩ := bd_e h
  refine r_callV1 (As := [_]) hX hM mw_Le_115 (T_Le_isMostlyTrue _ _ _ hr3) (rc_of ci_9 hk1) rfl rfl ⟨Nat.le_refl _, Nat.le_refl _⟩ rfl rfl d_Le_settle_73 ?_
  obtain ⟨hg4, h⟩ := gd_e h
  refine r_putI (i := 9) (f := 12) hX ci_9 (by decide) rfl rfl (fun G => nw_z _ hg4) (fun G => ft_z _ hg4) fl_Le_55 hk1 d_Le_settle_76 ?_
  refine r_aload_n (i := 0) hX d_Le_settle_79 0 rfl rfl ?_
  refine r_aload_n (i := 0) hX d_Le_settle_80 0 rfl rfl ?_
  refine r_getR (i := 9) (f := 4) hX ci_9 (by decide) rfl fl_Le_29 (kI hk1) d_Le_settle_81 ?_
  obtain ⟨hk6, h⟩ := gd_e h
  obtain ⟨r7, hr8, h⟩ := bd_e h
  refine r_callV1 (As := []) hX hM mw_Le_96 (T_Dy_size _ _ hr8) (rc_of ci_7 hk6) rfl rfl ⟨Nat.le_refl _, Nat.le_refl _⟩ rfl rfl d_Le_settle_84 ?_
  refine r_putI (i := 9) (f := 14) hX ci_9 (by decide) rfl rfl (fun G => rfl) (fun G => rfl) fl_Le_62 (kI hk1) d_Le_settle_87 ?_
  refine r_aload_n (i := 0) hX d_Le_settle_90 0 rfl rfl ?_
  refine r_iconst (v := (0 : Int32)) hX d_Le_settle_91 rfl ?_
  refine r_putI (i := 9) (f := 15) hX ci_9 (by decide) rfl rfl (fun G => rfl) (fun G => rfl) fl_Le_65 (kI (kI hk1)) d_Le_settle_92 ?_
  refine r_aload_n (i := 0) hX d_Le_settle_95 0 rfl rfl ?_
  refine r_getR (i := 9) (f := 6) hX ci_9 (by decide) rfl fl_Le_35 (kI (kI (kI hk1))) d_Le_settle_96 ?_
  refine r_aload_n (i := 0) hX d_Le_settle_99 0 rfl rfl ?_
  refine r_getR (i := 9) (f := 4) hX ci_9 (by decide) rfl fl_Le_29 (kI (kI (kI hk1))) d_Le_settle_100 ?_
  obtain ⟨hk11, h⟩ := gd_e h
  obtain ⟨r12, hr13, h⟩ := bd_e h
  refine r_callV0 (As := [_]) hX hM mw_Le_68 (T_Dy_take _ _ _ hr13) (rc_of ci_7 hk11) rfl rfl ⟨Nat.le_refl _, Nat.le_refl _⟩ rfl rfl d_Le_settle_103 ?_
  refine r_iconst (v := (0 : Int32)) hX d_Le_settle_106 rfl ?_
  refine r_istore_n (i := 1) hX d_Le_settle_107 rfl (by decide) ?_
  exact rj_sub [1, 0] rfl (P_Le_settle_108 hX hM hR FUEL _ _ _ h)
def F_Le_settle_24_B (rec24 : Nat → Int32 → AW → Option (AW)) (a0 : Nat) (x1 : Int32) (w : AW) : Option (AW) :=
  gd (wk w a0 == 10) <|
  if (wi w a0 11) ≤ x1 then
    F_Le_settle_67 a0 w
  else
    if (2 : Int32) ≤ x1 then
      F_Le_settle_67 a0 w
    else
      gd (wk w (wr w a0 9) == 100) <|
      gd (inb x1 (wn w (wr w a0 9))) <|
      (F_Le_tellBy a0 (wi w (wr w a0 9) (Int32.toNatClampNeg x1)) w).bind fun r4 =>
      gd (wk r4 a0 == 10) <|
      (F_Le_isMostlyTrue r4 a0 (wr r4 a0 7)).bind fun r7 =>
      gd (wk r4 (wr r4 a0 10) == 104) <|
      gd (inb x1 (wn r4 (wr r4 a0 10))) <|
      let w11 : AW := upI r4 (wr r4 a0 10) (Int32.toNatClampNeg x1) (r7 &&& 1)
      let v12 : Int32 := (x1 + (1 : Int32))
      rec24 a0 v12 w11
theorem P_Le_settle_24_B {X : AX} {l : Launch} {G : AG} {rec24 : Nat → Int32 → AW → Option (AW)} (hX : XOK X b_Le_settle "RedSky$Learner" 2) (hM : XM X l G { frames := 3, cells := 0, slots := 0, locals := 82 }) {o : AW} (hR : XR X none 0 0 none o) (hrec24 : ∀ (a0 : Nat) (x1 : Int32) (w : AW), rec24 a0 x1 w = some o → RJ X 2 0 0 24 [(0, vr a0), (1, vi x1)] [] w) (a0 : Nat) (x1 : Int32) (w : AW) (h : F_Le_settle_24_B rec24 a0 x1 w = some o) : RJ X 2 0 0 24 [(0, vr a0), (1, vi x1)] [] w := by
  unfold F_Le_settle_24_B at h
  refine r_iload_n (i := 1) hX d_Le_settle_24 1 rfl rfl ?_
  refine r_aload_n (i := 0) hX d_Le_settle_25 0 rfl rfl ?_
  obtain ⟨hk1, h⟩ := gd_e h
  refine r_getI (i := 9) (f := 11) hX ci_9 (by decide) rfl fl_Le_52 hk1 d_Le_settle_26 ?_
  refine r_icmp_ge hX d_Le_settle_29 rfl h (fun h => ?_) (fun h => ?_)
  · exact rj_sub [0] rfl (P_Le_settle_67 hX hM hR _ _ h)
  · refine r_iload_n (i := 1) hX d_Le_settle_32 1 rfl rfl ?_
    refine r_iconst (v := (2 : Int32)) hX d_Le_settle_33 rfl ?_
    refine r_icmp_ge hX d_Le_settle_34 rfl h (fun h => ?_) (fun h => ?_)
    · exact rj_sub [0] rfl (P_Le_settle_67 hX hM hR _ _ h)
    · refine r_aload_n (i := 0) hX d_Le_settle_37 0 rfl rfl ?_
      refine r_aload_n (i := 0) hX d_Le_settle_38 0 rfl rfl ?_
      refine r_getR (i := 9) (f := 9) hX ci_9 (by decide) rfl fl_Le_45 hk1 d_Le_settle_39 ?_
      refine r_iload_n (i := 1) hX d_Le_settle_42 1 rfl rfl ?_
      obtain ⟨hk2, h⟩ := gd_e h
      obtain ⟨hg3, h⟩ := gd_e h
      refine r_iald hX hk2 hg3 d_Le_settle_43 ?_
      obtain ⟨r4, hr5, h⟩ := bd_e h
      refine r_callV0 (As := [_]) hX hM mw_Le_89 (T_Le_tellBy _ _ _ hr5) (rc_of ci_9 hk1) rfl rfl ⟨Nat.le_refl _, Nat.le_refl _⟩ rfl rfl d_Le_settle_44 ?_
      refine r_aload_n (i := 0) hX d_Le_settle_47 0 rfl rfl ?_
      obtain ⟨hk6, h⟩ := gd_e h
      refine r_getR (i := 9) (f := 10) hX ci_9 (by decide) rfl fl_Le_48 hk6 d_Le_settle_48 ?_
      refine r_iload_n (i := 1) hX d_Le_settle_51 1 rfl rfl ?_
      refine r_aload_n (i := 0) hX d_Le_settle_52 0 rfl rfl ?_
      refine r_aload_n (i := 0) hX d_Le_settle_53 0 rfl rfl ?_
      refine r_getR (i := 9) (f := 7) hX ci_9 (by decide) rfl fl_Le_38 hk6 d_Le_settle_54 ?_
      obtain ⟨r7, hr8, h⟩ := bd_e h
      refine r_callV1 (As := [_]) hX hM mw_Le_115 (T_Le_isMostlyTrue _ _ _ hr8) (rc_of ci_9 hk6) rfl rfl ⟨Nat.le_refl _, Nat.le_refl _⟩ rfl rfl d_Le_settle_57 ?_
      obtain ⟨hk9, h⟩ := gd_e h
      obtain ⟨hg10, h⟩ := gd_e h
      refine r_zast hX hk9 hg10 d_Le_settle_60 ?_
      refine r_iinc (i := 1) (v := (1 : Int32)) hX d_Le_settle_61 1 rfl rfl (by decide) ?_
      refine r_goto hX d_Le_settle_64 rfl ?_
      exact rj_sub [1, 0] rfl (hrec24 _ _ _ h)
def F_Le_settle_24 : Nat → Nat → Int32 → AW → Option (AW)
  | 0 => fun _ _ _ => none
  | n + 1 => fun a0 x1 w => F_Le_settle_24_B (F_Le_settle_24 n) a0 x1 w
theorem P_Le_settle_24 {X : AX} {l : Launch} {G : AG} (hX : XOK X b_Le_settle "RedSky$Learner" 2) (hM : XM X l G { frames := 3, cells := 0, slots := 0, locals := 82 }) {o : AW} (hR : XR X none 0 0 none o) (fu : Nat) : ∀ (a0 : Nat) (x1 : Int32) (w : AW), F_Le_settle_24 fu a0 x1 w = some o → RJ X 2 0 0 24 [(0, vr a0), (1, vi x1)] [] w := by
  induction fu with
  | zero => intro a0 x1 w h; cases h
  | succ n9 ih => intro a0 x1 w h; exact P_Le_settle_24_B hX hM hR ih _ _ _ h
def F_Le_settle (a0 : Nat) (w : AW) : Option (AW) :=
  gd (wk w a0 == 10) <|
  gd (wk w (wr w a0 3) == 8) <|
  (F_Dy_size w (wr w a0 3)).bind fun r3 =>
  let w5 : AW := upI w a0 13 r3
  gd (wk w5 (wr w5 a0 6) == 8) <|
  (F_Dy_take (wr w5 a0 6) (wr w5 a0 3) w5).bind fun r7 =>
  F_Le_settle_24 FUEL a0 (0 : Int32) r7
theorem P_Le_settle_0 {X : AX} {l : Launch} {G : AG} (hX : XOK X b_Le_settle "RedSky$Learner" 2) (hM : XM X l G { frames := 3, cells := 0, slots := 0, locals := 82 }) {o : AW} (hR : XR X none 0 0 none o) (a0 : Nat) (w : AW) (h : F_Le_settle a0 w = some o) : RJ X 2 0 0 0 [(0, vr a0)] [] w := by
  unfold F_Le_settle at h
  refine r_aload_n (i := 0) hX d_Le_settle_0 0 rfl rfl ?_
  refine r_aload_n (i := 0) hX d_Le_settle_1 0 rfl rfl ?_
  obtain ⟨hk1, h⟩ := gd_e h
  refine r_getR (i := 9) (f := 3) hX ci_9 (by decide) rfl fl_Le_25 hk1 d_Le_settle_2 ?_
  obtain ⟨hk2, h⟩ := gd_e h
  obtain ⟨r3, hr4, h⟩ := bd_e h
  refine r_callV1 (As := []) hX hM mw_Le_96 (T_Dy_size _ _ hr4) (rc_of ci_7 hk2) rfl rfl ⟨Nat.le_refl _, Nat.le_refl _⟩ rfl rfl d_Le_settle_5 ?_
  refine r_putI (i := 9) (f := 13) hX ci_9 (by decide) rfl rfl (fun G => rfl) (fun G => rfl) fl_Le_59 hk1 d_Le_settle_8 ?_
  refine r_aload_n (i := 0) hX d_Le_settle_11 0 rfl rfl ?_
  refine r_getR (i := 9) (f := 6) hX ci_9 (by decide) rfl fl_Le_35 (kI hk1) d_Le_settle_12 ?_
  refine r_aload_n (i := 0) hX d_Le_settle_15 0 rfl rfl ?_
  refine r_getR (i := 9) (f := 3) hX ci_9 (by decide) rfl fl_Le_25 (kI hk1) d_Le_settle_16 ?_
  obtain ⟨hk6, h⟩ := gd_e h
  obtain ⟨r7, hr8, h⟩ := bd_e h
  refine r_callV0 (As := [_]) hX hM mw_Le_68 (T_Dy_take _ _ _ hr8) (rc_of ci_7 hk6) rfl rfl ⟨Nat.le_refl _, Nat.le_refl _⟩ rfl rfl d_Le_settle_19 ?_
  refine r_iconst (v := (0 : Int32)) hX d_Le_settle_22 rfl ?_
  refine r_istore_n (i := 1) hX d_Le_settle_23 rfl (by decide) ?_
  exact rj_sub [1, 0] rfl (P_Le_settle_24 hX hM hR FUEL _ _ _ h)
theorem T_Le_settle {l : Launch} {G : AG} (a0 : Nat) (w : AW) {o : AW} (h : F_Le_settle a0 w = some o) : Mt l G y_Le_settle b_Le_settle 2 none 3 82 0 0 [vr a0] w none o := mt_of (by decide) (Nat.le_of_ble_eq_true rfl) (fun X hX hR hM hI => P_Le_settle_0 hX hM hR _ _ h)
/-! RedSky$Learner.choose(II)V -/
theorem d_Le_choose_0 : decode b_Le_choose 0 = .ok (.aload_n 0, 1) := by decide +kernel
theorem d_Le_choose_1 : decode b_Le_choose 1 = .ok (.iconst (-1), 1) := by decide +kernel
theorem d_Le_choose_2 : decode b_Le_choose 2 = .ok (.putfield 15, 3) := by decide +kernel
theorem d_Le_choose_5 : decode b_Le_choose 5 = .ok (.aload_n 0, 1) := by decide +kernel
theorem d_Le_choose_6 : decode b_Le_choose 6 = .ok (.iconst 0, 1) := by decide +kernel
theorem d_Le_choose_7 : decode b_Le_choose 7 = .ok (.invokevirtual 82, 3) := by decide +kernel
theorem d_Le_choose_10 : decode b_Le_choose 10 = .ok (.iconst 0, 1) := by decide +kernel
theorem d_Le_choose_11 : decode b_Le_choose 11 = .ok (.istore_n 3, 1) := by decide +kernel
theorem d_Le_choose_12 : decode b_Le_choose 12 = .ok (.iload_n 2, 1) := by decide +kernel
theorem d_Le_choose_13 : decode b_Le_choose 13 = .ok (.iconst 1, 1) := by decide +kernel
theorem d_Le_choose_14 : decode b_Le_choose 14 = .ok (.if_icmp .lt (26), 3) := by decide +kernel
theorem d_Le_choose_17 : decode b_Le_choose 17 = .ok (.iload_n 3, 1) := by decide +kernel
theorem d_Le_choose_18 : decode b_Le_choose 18 = .ok (.iload_n 1, 1) := by decide +kernel
theorem d_Le_choose_19 : decode b_Le_choose 19 = .ok (.if_icmp .ge (21), 3) := by decide +kernel
theorem d_Le_choose_22 : decode b_Le_choose 22 = .ok (.aload_n 0, 1) := by decide +kernel
theorem d_Le_choose_23 : decode b_Le_choose 23 = .ok (.getfield 41, 3) := by decide +kernel
theorem d_Le_choose_26 : decode b_Le_choose 26 = .ok (.iconst 0, 1) := by decide +kernel
theorem d_Le_choose_27 : decode b_Le_choose 27 = .ok (.iload_n 3, 1) := by decide +kernel
theorem d_Le_choose_28 : decode b_Le_choose 28 = .ok (.iastore, 1) := by decide +kernel
theorem d_Le_choose_29 : decode b_Le_choose 29 = .ok (.aload_n 0, 1) := by decide +kernel
theorem d_Le_choose_30 : decode b_Le_choose 30 = .ok (.iconst 1, 1) := by decide +kernel
theorem d_Le_choose_31 : decode b_Le_choose 31 = .ok (.invokevirtual 82, 3) := by decide +kernel
theorem d_Le_choose_34 : decode b_Le_choose 34 = .ok (.iinc 3 (1), 3) := by decide +kernel
theorem d_Le_choose_37 : decode b_Le_choose 37 = .ok (.goto (-25), 3) := by decide +kernel
theorem d_Le_choose_40 : decode b_Le_choose 40 = .ok (.iconst 0, 1) := by decide +kernel
theorem d_Le_choose_41 : decode b_Le_choose 41 = .ok (.istore_n 3, 1) := by decide +kernel
theorem d_Le_choose_42 : decode b_Le_choose 42 = .ok (.iload_n 2, 1) := by decide +kernel
theorem d_Le_choose_43 : decode b_Le_choose 43 = .ok (.iconst 2, 1) := by decide +kernel
theorem d_Le_choose_44 : decode b_Le_choose 44 = .ok (.if_icmp .lt (55), 3) := by decide +kernel
theorem d_Le_choose_47 : decode b_Le_choose 47 = .ok (.iload_n 3, 1) := by decide +kernel
theorem d_Le_choose_48 : decode b_Le_choose 48 = .ok (.iload_n 1, 1) := by decide +kernel
theorem d_Le_choose_49 : decode b_Le_choose 49 = .ok (.if_icmp .ge (50), 3) := by decide +kernel
theorem d_Le_choose_52 : decode b_Le_choose 52 = .ok (.iconst 0, 1) := by decide +kernel
theorem d_Le_choose_53 : decode b_Le_choose 53 = .ok (.istore 4, 2) := by decide +kernel
theorem d_Le_choose_55 : decode b_Le_choose 55 = .ok (.iload 4, 2) := by decide +kernel
theorem d_Le_choose_57 : decode b_Le_choose 57 = .ok (.iload_n 1, 1) := by decide +kernel
theorem d_Le_choose_58 : decode b_Le_choose 58 = .ok (.if_icmp .ge (35), 3) := by decide +kernel
theorem d_Le_choose_61 : decode b_Le_choose 61 = .ok (.aload_n 0, 1) := by decide +kernel
theorem d_Le_choose_62 : decode b_Le_choose 62 = .ok (.getfield 41, 3) := by decide +kernel
theorem d_Le_choose_65 : decode b_Le_choose 65 = .ok (.iconst 0, 1) := by decide +kernel
theorem d_Le_choose_66 : decode b_Le_choose 66 = .ok (.iload_n 3, 1) := by decide +kernel
theorem d_Le_choose_67 : decode b_Le_choose 67 = .ok (.iastore, 1) := by decide +kernel
theorem d_Le_choose_68 : decode b_Le_choose 68 = .ok (.aload_n 0, 1) := by decide +kernel
theorem d_Le_choose_69 : decode b_Le_choose 69 = .ok (.getfield 41, 3) := by decide +kernel
theorem d_Le_choose_72 : decode b_Le_choose 72 = .ok (.iconst 1, 1) := by decide +kernel
theorem d_Le_choose_73 : decode b_Le_choose 73 = .ok (.iload 4, 2) := by decide +kernel
theorem d_Le_choose_75 : decode b_Le_choose 75 = .ok (.iastore, 1) := by decide +kernel
theorem d_Le_choose_76 : decode b_Le_choose 76 = .ok (.iload 4, 2) := by decide +kernel
theorem d_Le_choose_78 : decode b_Le_choose 78 = .ok (.iload_n 3, 1) := by decide +kernel
theorem d_Le_choose_79 : decode b_Le_choose 79 = .ok (.if_icmp .eq (8), 3) := by decide +kernel
theorem d_Le_choose_82 : decode b_Le_choose 82 = .ok (.aload_n 0, 1) := by decide +kernel
theorem d_Le_choose_83 : decode b_Le_choose 83 = .ok (.iconst 2, 1) := by decide +kernel
theorem d_Le_choose_84 : decode b_Le_choose 84 = .ok (.invokevirtual 82, 3) := by decide +kernel
theorem d_Le_choose_87 : decode b_Le_choose 87 = .ok (.iinc 4 (1), 3) := by decide +kernel
theorem d_Le_choose_90 : decode b_Le_choose 90 = .ok (.goto (-35), 3) := by decide +kernel
theorem d_Le_choose_93 : decode b_Le_choose 93 = .ok (.iinc 3 (1), 3) := by decide +kernel
theorem d_Le_choose_96 : decode b_Le_choose 96 = .ok (.goto (-54), 3) := by decide +kernel
theorem d_Le_choose_99 : decode b_Le_choose 99 = .ok (.aload_n 0, 1) := by decide +kernel
theorem d_Le_choose_100 : decode b_Le_choose 100 = .ok (.invokevirtual 86, 3) := by decide +kernel
theorem d_Le_choose_103 : decode b_Le_choose 103 = .ok (.aload_n 0, 1) := by decide +kernel
theorem d_Le_choose_104 : decode b_Le_choose 104 = .ok (.dup, 1) := by decide +kernel
theorem d_Le_choose_105 : decode b_Le_choose 105 = .ok (.getfield 9, 3) := by decide +kernel
theorem d_Le_choose_108 : decode b_Le_choose 108 = .ok (.iconst 1, 1) := by decide +kernel
theorem d_Le_choose_109 : decode b_Le_choose 109 = .ok (.iadd, 1) := by decide +kernel
theorem d_Le_choose_110 : decode b_Le_choose 110 = .ok (.putfield 9, 3) := by decide +kernel
theorem d_Le_choose_113 : decode b_Le_choose 113 = .ok (.return_, 1) := by decide +kernel
def F_Le_choose_99 (a0 : Nat) (w : AW) : Option (AW) :=
  gd (wk w a0 == 10) <|
  (F_Le_settle a0 w).bind fun r2 =>
  gd (wk r2 a0 == 10) <|
  let w5 : AW := upI r2 a0 0 ((wi r2 a0 0) + (1 : Int32))
  some w5
theorem P_Le_choose_99 {X : AX} {l : Launch} {G : AG} (hX : XOK X b_Le_choose "RedSky$Learner" 5) (hM : XM X l G { frames := 4, cells := 0, slots := 0, locals := 105 }) {o : AW} (hR : XR X none 0 0 none o) (a0 : Nat) (w : AW) (h : F_Le_choose_99 a0 w = some o) : RJ X 5 0 0 99 [(0, vr a0)] [] w := by
  unfold F_Le_choose_99 at h
  refine r_aload_n (i := 0) hX d_Le_choose_99 0 rfl rfl ?_
  obtain ⟨hk1, h⟩ := gd_e h
  obtain ⟨r2, hr3, h⟩ := bd_e h
  refine r_callV0 (As := []) hX hM mw_Le_86 (T_Le_settle _ _ hr3) (rc_of ci_9 hk1) rfl rfl ⟨Nat.le_refl _, Nat.le_refl _⟩ rfl rfl d_Le_choose_100 ?_
  refine r_aload_n (i := 0) hX d_Le_choose_103 0 rfl rfl ?_
  refine r_dup hX d_Le_choose_104 rfl ?_
  obtain ⟨hk4, h⟩ := gd_e h
  refine r_getI (i := 9) (f := 0) hX ci_9 (by decide) rfl fl_Le_9 hk4 d_Le_choose_105 ?_
  refine r_iconst (v := (1 : Int32)) hX d_Le_choose_108 rfl ?_
  refine r_iadd hX d_Le_choose_109 ?_
  refine r_putI (i := 9) (f := 0) hX ci_9 (by decide) rfl rfl (fun G => rfl) (fun G => rfl) fl_Le_9 hk4 d_Le_choose_110 ?_
  cases h; exact r_vret hX hR d_Le_choose_113
def F_Le_choose_55_B (rec42 : Nat → Int32 → Int32 → Int32 → AW → Option (AW)) (rec55 : Nat → Int32 → Int32 → Int32 → Int32 → AW → Option (AW)) (a0 : Nat) (x1 : Int32) (x2 : Int32) (x3 : Int32) (x4 : Int32) (w : AW) : Option (AW) :=
  if x1 ≤ x4 then
    let v1 : Int32 := (x3 + (1 : Int32))
    rec42 a0 x1 x2 v1 w
  else
    gd (wk w a0 == 10) <|
    gd (wk w (wr w a0 8) == 100) <|
    gd (inb (0 : Int32) (wn w (wr w a0 8))) <|
    let w5 : AW := upI w (wr w a0 8) (Int32.toNatClampNeg (0 : Int32)) x3
    gd (wk w5 (wr w5 a0 8) == 100) <|
    gd (inb (1 : Int32) (wn w5 (wr w5 a0 8))) <|
    let w8 : AW := upI w5 (wr w5 a0 8) (Int32.toNatClampNeg (1 : Int32)) x4
    if x4 = x3 then
      let v9 : Int32 := (x4 + (1 : Int32))
      rec55 a0 x1 x2 x3 v9 w8
    else
      (F_Le_tryList a0 (2 : Int32) w8).bind fun r10 =>
      let v12 : Int32 := (x4 + (1 : Int32))
      rec55 a0 x1 x2 x3 v12 r10
theorem P_Le_choose_55_B {X : AX} {l : Launch} {G : AG} {rec42 : Nat → Int32 → Int32 → Int32 → AW → Option (AW)} {rec55 : Nat → Int32 → Int32 → Int32 → Int32 → AW → Option (AW)} (hX : XOK X b_Le_choose "RedSky$Learner" 5) (hM : XM X l G { frames := 4, cells := 0, slots := 0, locals := 105 }) {o : AW} (hR : XR X none 0 0 none o) (hrec42 : ∀ (a0 : Nat) (x1 : Int32) (x2 : Int32) (x3 : Int32) (w : AW), rec42 a0 x1 x2 x3 w = some o → RJ X 5 0 0 42 [(0, vr a0), (1, vi x1), (2, vi x2), (3, vi x3)] [] w) (hrec55 : ∀ (a0 : Nat) (x1 : Int32) (x2 : Int32) (x3 : Int32) (x4 : Int32) (w : AW), rec55 a0 x1 x2 x3 x4 w = some o → RJ X 5 0 0 55 [(0, vr a0), (1, vi x1), (2, vi x2), (3, vi x3), (4, vi x4)] [] w) (a0 : Nat) (x1 : Int32) (x2 : Int32) (x3 : Int32) (x4 : Int32) (w : AW) (h : F_Le_choose_55_B rec42 rec55 a0 x1 x2 x3 x4 w = some o) : RJ X 5 0 0 55 [(0, vr a0), (1, vi x1), (2, vi x2), (3, vi x3), (4, vi x4)] [] w := by
  unfold F_Le_choose_55_B at h
  refine r_iload (i := 4) hX d_Le_choose_55 4  rfl ?_
  refine r_iload_n (i := 1) hX d_Le_choose_57 1 rfl rfl ?_
  refine r_icmp_ge hX d_Le_choose_58 rfl h (fun h => ?_) (fun h => ?_)
  · refine r_iinc (i := 3) (v := (1 : Int32)) hX d_Le_choose_93 3 rfl rfl (by decide) ?_
    refine r_goto hX d_Le_choose_96 rfl ?_
    exact rj_sub [1, 2, 3, 0] rfl (hrec42 _ _ _ _ _ h)
  · refine r_aload_n (i := 0) hX d_Le_choose_61 0 rfl rfl ?_
    obtain ⟨hk2, h⟩ := gd_e h
    refine r_getR (i := 9) (f := 8) hX ci_9 (by decide) rfl fl_Le_41 hk2 d_Le_choose_62 ?_
    refine r_iconst (v := (0 : Int32)) hX d_Le_choose_65 rfl ?_
    refine r_iload_n (i := 3) hX d_Le_choose_66 3 rfl rfl ?_
    obtain ⟨hk3, h⟩ := gd_e h
    obtain ⟨hg4, h⟩ := gd_e h
    refine r_iast hX hk3 hg4 d_Le_choose_67 ?_
    refine r_aload_n (i := 0) hX d_Le_choose_68 0 rfl rfl ?_
    refine r_getR (i := 9) (f := 8) hX ci_9 (by decide) rfl fl_Le_41 (kI hk2) d_Le_choose_69 ?_
    refine r_iconst (v := (1 : Int32)) hX d_Le_choose_72 rfl ?_
    refine r_iload (i := 4) hX d_Le_choose_73 4  rfl ?_
    obtain ⟨hk6, h⟩ := gd_e h
    obtain ⟨hg7, h⟩ := gd_e h
    refine r_iast hX hk6 hg7 d_Le_choose_75 ?_
    refine r_iload (i := 4) hX d_Le_choose_76 4  rfl ?_
    refine r_iload_n (i := 3) hX d_Le_choose_78 3 rfl rfl ?_
    refine r_icmp_eq hX d_Le_choose_79 rfl h (fun h => ?_) (fun h => ?_)
    · refine r_iinc (i := 4) (v := (1 : Int32)) hX d_Le_choose_87 4 rfl rfl (by decide) ?_
      refine r_goto hX d_Le_choose_90 rfl ?_
      exact rj_sub [1, 2, 3, 4, 0] rfl (hrec55 _ _ _ _ _ _ h)
    · refine r_aload_n (i := 0) hX d_Le_choose_82 0 rfl rfl ?_
      refine r_iconst (v := (2 : Int32)) hX d_Le_choose_83 rfl ?_
      obtain ⟨r10, hr11, h⟩ := bd_e h
      refine r_callV0 (As := [_]) hX hM mw_Le_82 (T_Le_tryList _ _ _ hr11) (rc_of ci_9 (kI (kI hk2))) rfl rfl ⟨Nat.le_refl _, Nat.le_refl _⟩ rfl rfl d_Le_choose_84 ?_
      refine r_iinc (i := 4) (v := (1 : Int32)) hX d_Le_choose_87 4 rfl rfl (by decide) ?_
      refine r_goto hX d_Le_choose_90 rfl ?_
      exact rj_sub [1, 2, 3, 4, 0] rfl (hrec55 _ _ _ _ _ _ h)
def F_Le_choose_55 (rec42 : Nat → Int32 → Int32 → Int32 → AW → Option (AW)) : Nat → Nat → Int32 → Int32 → Int32 → Int32 → AW → Option (AW)
  | 0 => fun _ _ _ _ _ _ => none
  | n + 1 => fun a0 x1 x2 x3 x4 w => F_Le_choose_55_B rec42 (F_Le_choose_55 rec42 n) a0 x1 x2 x3 x4 w
theorem P_Le_choose_55 {X : AX} {l : Launch} {G : AG} {rec42 : Nat → Int32 → Int32 → Int32 → AW → Option (AW)} (hX : XOK X b_Le_choose "RedSky$Learner" 5) (hM : XM X l G { frames := 4, cells := 0, slots := 0, locals := 105 }) {o : AW} (hR : XR X none 0 0 none o) (hrec42 : ∀ (a0 : Nat) (x1 : Int32) (x2 : Int32) (x3 : Int32) (w : AW), rec42 a0 x1 x2 x3 w = some o → RJ X 5 0 0 42 [(0, vr a0), (1, vi x1), (2, vi x2), (3, vi x3)] [] w) (fu : Nat) : ∀ (a0 : Nat) (x1 : Int32) (x2 : Int32) (x3 : Int32) (x4 : Int32) (w : AW), F_Le_choose_55 rec42 fu a0 x1 x2 x3 x4 w = some o → RJ X 5 0 0 55 [(0, vr a0), (1, vi x1), (2, vi x2), (3, vi x3), (4, vi x4)] [] w := by
  induction fu with
  | zero => intro a0 x1 x2 x3 x4 w h; cases h
  | succ n9 ih => intro a0 x1 x2 x3 x4 w h; exact P_Le_choose_55_B hX hM hR hrec42 ih _ _ _ _ _ _ h
def F_Le_choose_42_B (rec42 : Nat → Int32 → Int32 → Int32 → AW → Option (AW)) (a0 : Nat) (x1 : Int32) (x2 : Int32) (x3 : Int32) (w : AW) : Option (AW) :=
  if x2 < (2 : Int32) then
    F_Le_choose_99 a0 w
  else
    if x1 ≤ x3 then
      F_Le_choose_99 a0 w
    else
      F_Le_choose_55 rec42 FUEL a0 x1 x2 x3 (0 : Int32) w
theorem P_Le_choose_42_B {X : AX} {l : Launch} {G : AG} {rec42 : Nat → Int32 → Int32 → Int32 → AW → Option (AW)} (hX : XOK X b_Le_choose "RedSky$Learner" 5) (hM : XM X l G { frames := 4, cells := 0, slots := 0, locals := 105 }) {o : AW} (hR : XR X none 0 0 none o) (hrec42 : ∀ (a0 : Nat) (x1 : Int32) (x2 : Int32) (x3 : Int32) (w : AW), rec42 a0 x1 x2 x3 w = some o → RJ X 5 0 0 42 [(0, vr a0), (1, vi x1), (2, vi x2), (3, vi x3)] [] w) (a0 : Nat) (x1 : Int32) (x2 : Int32) (x3 : Int32) (w : AW) (h : F_Le_choose_42_B rec42 a0 x1 x2 x3 w = some o) : RJ X 5 0 0 42 [(0, vr a0), (1, vi x1), (2, vi x2), (3, vi x3)] [] w := by
  unfold F_Le_choose_42_B at h
  refine r_iload_n (i := 2) hX d_Le_choose_42 2 rfl rfl ?_
  refine r_iconst (v := (2 : Int32)) hX d_Le_choose_43 rfl ?_
  refine r_icmp_lt hX d_Le_choose_44 rfl h (fun h => ?_) (fun h => ?_)
  · exact rj_sub [0] rfl (P_Le_choose_99 hX hM hR _ _ h)
  · refine r_iload_n (i := 3) hX d_Le_choose_47 3 rfl rfl ?_
    refine r_iload_n (i := 1) hX d_Le_choose_48 1 rfl rfl ?_
    refine r_icmp_ge hX d_Le_choose_49 rfl h (fun h => ?_) (fun h => ?_)
    · exact rj_sub [0] rfl (P_Le_choose_99 hX hM hR _ _ h)
    · refine r_iconst (v := (0 : Int32)) hX d_Le_choose_52 rfl ?_
      refine r_istore (i := 4) hX d_Le_choose_53  (by decide) ?_
      exact rj_sub [1, 2, 3, 4, 0] rfl (P_Le_choose_55 hX hM hR hrec42 FUEL _ _ _ _ _ _ h)
def F_Le_choose_42 : Nat → Nat → Int32 → Int32 → Int32 → AW → Option (AW)
  | 0 => fun _ _ _ _ _ => none
  | n + 1 => fun a0 x1 x2 x3 w => F_Le_choose_42_B (F_Le_choose_42 n) a0 x1 x2 x3 w
theorem P_Le_choose_42 {X : AX} {l : Launch} {G : AG} (hX : XOK X b_Le_choose "RedSky$Learner" 5) (hM : XM X l G { frames := 4, cells := 0, slots := 0, locals := 105 }) {o : AW} (hR : XR X none 0 0 none o) (fu : Nat) : ∀ (a0 : Nat) (x1 : Int32) (x2 : Int32) (x3 : Int32) (w : AW), F_Le_choose_42 fu a0 x1 x2 x3 w = some o → RJ X 5 0 0 42 [(0, vr a0), (1, vi x1), (2, vi x2), (3, vi x3)] [] w := by
  induction fu with
  | zero => intro a0 x1 x2 x3 w h; cases h
  | succ n9 ih => intro a0 x1 x2 x3 w h; exact P_Le_choose_42_B hX hM hR ih _ _ _ _ _ h
def F_Le_choose_12_B (rec12 : Nat → Int32 → Int32 → Int32 → AW → Option (AW)) (a0 : Nat) (x1 : Int32) (x2 : Int32) (x3 : Int32) (w : AW) : Option (AW) :=
  if x2 < (1 : Int32) then
    F_Le_choose_42 FUEL a0 x1 x2 (0 : Int32) w
  else
    if x1 ≤ x3 then
      F_Le_choose_42 FUEL a0 x1 x2 (0 : Int32) w
    else
      gd (wk w a0 == 10) <|
      gd (wk w (wr w a0 8) == 100) <|
      gd (inb (0 : Int32) (wn w (wr w a0 8))) <|
      let w4 : AW := upI w (wr w a0 8) (Int32.toNatClampNeg (0 : Int32)) x3
      (F_Le_tryList a0 (1 : Int32) w4).bind fun r5 =>
      let v7 : Int32 := (x3 + (1 : Int32))
      rec12 a0 x1 x2 v7 r5
theorem P_Le_choose_12_B {X : AX} {l : Launch} {G : AG} {rec12 : Nat → Int32 → Int32 → Int32 → AW → Option (AW)} (hX : XOK X b_Le_choose "RedSky$Learner" 5) (hM : XM X l G { frames := 4, cells := 0, slots := 0, locals := 105 }) {o : AW} (hR : XR X none 0 0 none o) (hrec12 : ∀ (a0 : Nat) (x1 : Int32) (x2 : Int32) (x3 : Int32) (w : AW), rec12 a0 x1 x2 x3 w = some o → RJ X 5 0 0 12 [(0, vr a0), (1, vi x1), (2, vi x2), (3, vi x3)] [] w) (a0 : Nat) (x1 : Int32) (x2 : Int32) (x3 : Int32) (w : AW) (h : F_Le_choose_12_B rec12 a0 x1 x2 x3 w = some o) : RJ X 5 0 0 12 [(0, vr a0), (1, vi x1), (2, vi x2), (3, vi x3)] [] w := by
  unfold F_Le_choose_12_B at h
  refine r_iload_n (i := 2) hX d_Le_choose_12 2 rfl rfl ?_
  refine r_iconst (v := (1 : Int32)) hX d_Le_choose_13 rfl ?_
  refine r_icmp_lt hX d_Le_choose_14 rfl h (fun h => ?_) (fun h => ?_)
  · refine r_iconst (v := (0 : Int32)) hX d_Le_choose_40 rfl ?_
    refine r_istore_n (i := 3) hX d_Le_choose_41 rfl (by decide) ?_
    exact rj_sub [1, 2, 3, 0] rfl (P_Le_choose_42 hX hM hR FUEL _ _ _ _ _ h)
  · refine r_iload_n (i := 3) hX d_Le_choose_17 3 rfl rfl ?_
    refine r_iload_n (i := 1) hX d_Le_choose_18 1 rfl rfl ?_
    refine r_icmp_ge hX d_Le_choose_19 rfl h (fun h => ?_) (fun h => ?_)
    · refine r_iconst (v := (0 : Int32)) hX d_Le_choose_40 rfl ?_
      refine r_istore_n (i := 3) hX d_Le_choose_41 rfl (by decide) ?_
      exact rj_sub [1, 2, 3, 0] rfl (P_Le_choose_42 hX hM hR FUEL _ _ _ _ _ h)
    · refine r_aload_n (i := 0) hX d_Le_choose_22 0 rfl rfl ?_
      obtain ⟨hk1, h⟩ := gd_e h
      refine r_getR (i := 9) (f := 8) hX ci_9 (by decide) rfl fl_Le_41 hk1 d_Le_choose_23 ?_
      refine r_iconst (v := (0 : Int32)) hX d_Le_choose_26 rfl ?_
      refine r_iload_n (i := 3) hX d_Le_choose_27 3 rfl rfl ?_
      obtain ⟨hk2, h⟩ := gd_e h
      obtain ⟨hg3, h⟩ := gd_e h
      refine r_iast hX hk2 hg3 d_Le_choose_28 ?_
      refine r_aload_n (i := 0) hX d_Le_choose_29 0 rfl rfl ?_
      refine r_iconst (v := (1 : Int32)) hX d_Le_choose_30 rfl ?_
      obtain ⟨r5, hr6, h⟩ := bd_e h
      refine r_callV0 (As := [_]) hX hM mw_Le_82 (T_Le_tryList _ _ _ hr6) (rc_of ci_9 (kI hk1)) rfl rfl ⟨Nat.le_refl _, Nat.le_refl _⟩ rfl rfl d_Le_choose_31 ?_
      refine r_iinc (i := 3) (v := (1 : Int32)) hX d_Le_choose_34 3 rfl rfl (by decide) ?_
      refine r_goto hX d_Le_choose_37 rfl ?_
      exact rj_sub [1, 2, 3, 0] rfl (hrec12 _ _ _ _ _ h)
def F_Le_choose_12 : Nat → Nat → Int32 → Int32 → Int32 → AW → Option (AW)
  | 0 => fun _ _ _ _ _ => none
  | n + 1 => fun a0 x1 x2 x3 w => F_Le_choose_12_B (F_Le_choose_12 n) a0 x1 x2 x3 w
theorem P_Le_choose_12 {X : AX} {l : Launch} {G : AG} (hX : XOK X b_Le_choose "RedSky$Learner" 5) (hM : XM X l G { frames := 4, cells := 0, slots := 0, locals := 105 }) {o : AW} (hR : XR X none 0 0 none o) (fu : Nat) : ∀ (a0 : Nat) (x1 : Int32) (x2 : Int32) (x3 : Int32) (w : AW), F_Le_choose_12 fu a0 x1 x2 x3 w = some o → RJ X 5 0 0 12 [(0, vr a0), (1, vi x1), (2, vi x2), (3, vi x3)] [] w := by
  induction fu with
  | zero => intro a0 x1 x2 x3 w h; cases h
  | succ n9 ih => intro a0 x1 x2 x3 w h; exact P_Le_choose_12_B hX hM hR ih _ _ _ _ _ h
def F_Le_choose (a0 : Nat) (x1 : Int32) (x2 : Int32) (w : AW) : Option (AW) :=
  gd (wk w a0 == 10) <|
  let w2 : AW := upI w a0 1 (-1 : Int32)
  (F_Le_tryList a0 (0 : Int32) w2).bind fun r3 =>
  F_Le_choose_12 FUEL a0 x1 x2 (0 : Int32) r3
theorem P_Le_choose_0 {X : AX} {l : Launch} {G : AG} (hX : XOK X b_Le_choose "RedSky$Learner" 5) (hM : XM X l G { frames := 4, cells := 0, slots := 0, locals := 105 }) {o : AW} (hR : XR X none 0 0 none o) (a0 : Nat) (x1 : Int32) (x2 : Int32) (w : AW) (h : F_Le_choose a0 x1 x2 w = some o) : RJ X 5 0 0 0 [(0, vr a0), (1, vi x1), (2, vi x2)] [] w := by
  unfold F_Le_choose at h
  refine r_aload_n (i := 0) hX d_Le_choose_0 0 rfl rfl ?_
  refine r_iconst (v := (-1 : Int32)) hX d_Le_choose_1 rfl ?_
  obtain ⟨hk1, h⟩ := gd_e h
  refine r_putI (i := 9) (f := 1) hX ci_9 (by decide) rfl rfl (fun G => rfl) (fun G => rfl) fl_Le_15 hk1 d_Le_choose_2 ?_
  refine r_aload_n (i := 0) hX d_Le_choose_5 0 rfl rfl ?_
  refine r_iconst (v := (0 : Int32)) hX d_Le_choose_6 rfl ?_
  obtain ⟨r3, hr4, h⟩ := bd_e h
  refine r_callV0 (As := [_]) hX hM mw_Le_82 (T_Le_tryList _ _ _ hr4) (rc_of ci_9 (kI hk1)) rfl rfl ⟨Nat.le_refl _, Nat.le_refl _⟩ rfl rfl d_Le_choose_7 ?_
  refine r_iconst (v := (0 : Int32)) hX d_Le_choose_10 rfl ?_
  refine r_istore_n (i := 3) hX d_Le_choose_11 rfl (by decide) ?_
  exact rj_sub [1, 2, 3, 0] rfl (P_Le_choose_12 hX hM hR FUEL _ _ _ _ _ h)
theorem T_Le_choose {l : Launch} {G : AG} (a0 : Nat) (x1 : Int32) (x2 : Int32) (w : AW) {o : AW} (h : F_Le_choose a0 x1 x2 w = some o) : Mt l G y_Le_choose b_Le_choose 5 none 4 105 0 0 [vr a0, vi x1, vi x2] w none o := mt_of (by decide) (Nat.le_of_ble_eq_true rfl) (fun X hX hR hM hI => P_Le_choose_0 hX hM hR _ _ _ _ h)
/-! RedSky.learn(IIII)I -/
theorem d_A_learn_0 : decode b_A_learn 0 = .ok (.aload_n 0, 1) := by decide +kernel
theorem d_A_learn_1 : decode b_A_learn 1 = .ok (.iload_n 1, 1) := by decide +kernel
theorem d_A_learn_2 : decode b_A_learn 2 = .ok (.invokevirtual 141, 3) := by decide +kernel
theorem d_A_learn_5 : decode b_A_learn 5 = .ok (.astore 5, 2) := by decide +kernel
theorem d_A_learn_7 : decode b_A_learn 7 = .ok (.aload_n 0, 1) := by decide +kernel
theorem d_A_learn_8 : decode b_A_learn 8 = .ok (.iload_n 2, 1) := by decide +kernel
theorem d_A_learn_9 : decode b_A_learn 9 = .ok (.invokevirtual 200, 3) := by decide +kernel
theorem d_A_learn_12 : decode b_A_learn 12 = .ok (.astore 6, 2) := by decide +kernel
theorem d_A_learn_14 : decode b_A_learn 14 = .ok (.aload 5, 2) := by decide +kernel
theorem d_A_learn_16 : decode b_A_learn 16 = .ok (.ifnull (8), 3) := by decide +kernel
theorem d_A_learn_19 : decode b_A_learn 19 = .ok (.aload 6, 2) := by decide +kernel
theorem d_A_learn_21 : decode b_A_learn 21 = .ok (.ifnonnull (6), 3) := by decide +kernel
theorem d_A_learn_24 : decode b_A_learn 24 = .ok (.bipush (-101), 2) := by decide +kernel
theorem d_A_learn_26 : decode b_A_learn 26 = .ok (.ireturn, 1) := by decide +kernel
theorem d_A_learn_27 : decode b_A_learn 27 = .ok (.iload_n 3, 1) := by decide +kernel
theorem d_A_learn_28 : decode b_A_learn 28 = .ok (.iconst 0, 1) := by decide +kernel
theorem d_A_learn_29 : decode b_A_learn 29 = .ok (.iconst 2, 1) := by decide +kernel
theorem d_A_learn_30 : decode b_A_learn 30 = .ok (.invokestatic 86, 3) := by decide +kernel
theorem d_A_learn_33 : decode b_A_learn 33 = .ok (.ifCond .eq (14), 3) := by decide +kernel
theorem d_A_learn_36 : decode b_A_learn 36 = .ok (.iload 4, 2) := by decide +kernel
theorem d_A_learn_38 : decode b_A_learn 38 = .ok (.iconst 0, 1) := by decide +kernel
theorem d_A_learn_39 : decode b_A_learn 39 = .ok (.bipush (15), 2) := by decide +kernel
theorem d_A_learn_41 : decode b_A_learn 41 = .ok (.invokestatic 86, 3) := by decide +kernel
theorem d_A_learn_44 : decode b_A_learn 44 = .ok (.ifCond .ne (6), 3) := by decide +kernel
theorem d_A_learn_47 : decode b_A_learn 47 = .ok (.bipush (-102), 2) := by decide +kernel
theorem d_A_learn_49 : decode b_A_learn 49 = .ok (.ireturn, 1) := by decide +kernel
theorem d_A_learn_50 : decode b_A_learn 50 = .ok (.aload_n 0, 1) := by decide +kernel
theorem d_A_learn_51 : decode b_A_learn 51 = .ok (.getfield 66, 3) := by decide +kernel
theorem d_A_learn_54 : decode b_A_learn 54 = .ok (.getfield 255, 3) := by decide +kernel
theorem d_A_learn_57 : decode b_A_learn 57 = .ok (.bipush (12), 2) := by decide +kernel
theorem d_A_learn_59 : decode b_A_learn 59 = .ok (.if_icmp .lt (6), 3) := by decide +kernel
theorem d_A_learn_62 : decode b_A_learn 62 = .ok (.bipush (-103), 2) := by decide +kernel
theorem d_A_learn_64 : decode b_A_learn 64 = .ok (.ireturn, 1) := by decide +kernel
theorem d_A_learn_65 : decode b_A_learn 65 = .ok (.aload_n 0, 1) := by decide +kernel
theorem d_A_learn_66 : decode b_A_learn 66 = .ok (.getfield 49, 3) := by decide +kernel
theorem d_A_learn_69 : decode b_A_learn 69 = .ok (.aload 6, 2) := by decide +kernel
theorem d_A_learn_71 : decode b_A_learn 71 = .ok (.aload 5, 2) := by decide +kernel
theorem d_A_learn_73 : decode b_A_learn 73 = .ok (.aload_n 0, 1) := by decide +kernel
theorem d_A_learn_74 : decode b_A_learn 74 = .ok (.getfield 10, 3) := by decide +kernel
theorem d_A_learn_77 : decode b_A_learn 77 = .ok (.aload_n 0, 1) := by decide +kernel
theorem d_A_learn_78 : decode b_A_learn 78 = .ok (.getfield 42, 3) := by decide +kernel
theorem d_A_learn_81 : decode b_A_learn 81 = .ok (.invokevirtual 207, 3) := by decide +kernel
theorem d_A_learn_84 : decode b_A_learn 84 = .ok (.aload_n 0, 1) := by decide +kernel
theorem d_A_learn_85 : decode b_A_learn 85 = .ok (.getfield 59, 3) := by decide +kernel
theorem d_A_learn_88 : decode b_A_learn 88 = .ok (.invokevirtual 214, 3) := by decide +kernel
theorem d_A_learn_91 : decode b_A_learn 91 = .ok (.aload_n 0, 1) := by decide +kernel
theorem d_A_learn_92 : decode b_A_learn 92 = .ok (.getfield 10, 3) := by decide +kernel
theorem d_A_learn_95 : decode b_A_learn 95 = .ok (.iload 4, 2) := by decide +kernel
theorem d_A_learn_97 : decode b_A_learn 97 = .ok (.aload_n 0, 1) := by decide +kernel
theorem d_A_learn_98 : decode b_A_learn 98 = .ok (.getfield 59, 3) := by decide +kernel
theorem d_A_learn_101 : decode b_A_learn 101 = .ok (.invokevirtual 258, 3) := by decide +kernel
theorem d_A_learn_104 : decode b_A_learn 104 = .ok (.aload_n 0, 1) := by decide +kernel
theorem d_A_learn_105 : decode b_A_learn 105 = .ok (.getfield 66, 3) := by decide +kernel
theorem d_A_learn_108 : decode b_A_learn 108 = .ok (.aload_n 0, 1) := by decide +kernel
theorem d_A_learn_109 : decode b_A_learn 109 = .ok (.getfield 49, 3) := by decide +kernel
theorem d_A_learn_112 : decode b_A_learn 112 = .ok (.getfield 262, 3) := by decide +kernel
theorem d_A_learn_115 : decode b_A_learn 115 = .ok (.aload_n 0, 1) := by decide +kernel
theorem d_A_learn_116 : decode b_A_learn 116 = .ok (.getfield 49, 3) := by decide +kernel
theorem d_A_learn_119 : decode b_A_learn 119 = .ok (.getfield 265, 3) := by decide +kernel
theorem d_A_learn_122 : decode b_A_learn 122 = .ok (.aload_n 0, 1) := by decide +kernel
theorem d_A_learn_123 : decode b_A_learn 123 = .ok (.getfield 59, 3) := by decide +kernel
theorem d_A_learn_126 : decode b_A_learn 126 = .ok (.invokevirtual 268, 3) := by decide +kernel
theorem d_A_learn_129 : decode b_A_learn 129 = .ok (.iconst 0, 1) := by decide +kernel
theorem d_A_learn_130 : decode b_A_learn 130 = .ok (.istore 7, 2) := by decide +kernel
theorem d_A_learn_132 : decode b_A_learn 132 = .ok (.iload 7, 2) := by decide +kernel
theorem d_A_learn_134 : decode b_A_learn 134 = .ok (.aload_n 0, 1) := by decide +kernel
theorem d_A_learn_135 : decode b_A_learn 135 = .ok (.getfield 35, 3) := by decide +kernel
theorem d_A_learn_138 : decode b_A_learn 138 = .ok (.if_icmp .ge (63), 3) := by decide +kernel
theorem d_A_learn_141 : decode b_A_learn 141 = .ok (.iload 7, 2) := by decide +kernel
theorem d_A_learn_143 : decode b_A_learn 143 = .ok (.bipush (8), 2) := by decide +kernel
theorem d_A_learn_145 : decode b_A_learn 145 = .ok (.if_icmp .ge (56), 3) := by decide +kernel
theorem d_A_learn_148 : decode b_A_learn 148 = .ok (.aload_n 0, 1) := by decide +kernel
theorem d_A_learn_149 : decode b_A_learn 149 = .ok (.getfield 49, 3) := by decide +kernel
theorem d_A_learn_152 : decode b_A_learn 152 = .ok (.aload_n 0, 1) := by decide +kernel
theorem d_A_learn_153 : decode b_A_learn 153 = .ok (.getfield 31, 3) := by decide +kernel
theorem d_A_learn_156 : decode b_A_learn 156 = .ok (.iload 7, 2) := by decide +kernel
theorem d_A_learn_158 : decode b_A_learn 158 = .ok (.aaload, 1) := by decide +kernel
theorem d_A_learn_159 : decode b_A_learn 159 = .ok (.aload 5, 2) := by decide +kernel
theorem d_A_learn_161 : decode b_A_learn 161 = .ok (.aload_n 0, 1) := by decide +kernel
theorem d_A_learn_162 : decode b_A_learn 162 = .ok (.getfield 10, 3) := by decide +kernel
theorem d_A_learn_165 : decode b_A_learn 165 = .ok (.aload_n 0, 1) := by decide +kernel
theorem d_A_learn_166 : decode b_A_learn 166 = .ok (.getfield 42, 3) := by decide +kernel
theorem d_A_learn_169 : decode b_A_learn 169 = .ok (.invokevirtual 272, 3) := by decide +kernel
theorem d_A_learn_172 : decode b_A_learn 172 = .ok (.aload_n 0, 1) := by decide +kernel
theorem d_A_learn_173 : decode b_A_learn 173 = .ok (.getfield 66, 3) := by decide +kernel
theorem d_A_learn_176 : decode b_A_learn 176 = .ok (.iload 7, 2) := by decide +kernel
theorem d_A_learn_178 : decode b_A_learn 178 = .ok (.aload_n 0, 1) := by decide +kernel
theorem d_A_learn_179 : decode b_A_learn 179 = .ok (.getfield 49, 3) := by decide +kernel
theorem d_A_learn_182 : decode b_A_learn 182 = .ok (.getfield 275, 3) := by decide +kernel
theorem d_A_learn_185 : decode b_A_learn 185 = .ok (.aload_n 0, 1) := by decide +kernel
theorem d_A_learn_186 : decode b_A_learn 186 = .ok (.getfield 49, 3) := by decide +kernel
theorem d_A_learn_189 : decode b_A_learn 189 = .ok (.getfield 278, 3) := by decide +kernel
theorem d_A_learn_192 : decode b_A_learn 192 = .ok (.invokevirtual 281, 3) := by decide +kernel
theorem d_A_learn_195 : decode b_A_learn 195 = .ok (.iinc 7 (1), 3) := by decide +kernel
theorem d_A_learn_198 : decode b_A_learn 198 = .ok (.goto (-66), 3) := by decide +kernel
theorem d_A_learn_201 : decode b_A_learn 201 = .ok (.aload_n 0, 1) := by decide +kernel
theorem d_A_learn_202 : decode b_A_learn 202 = .ok (.getfield 66, 3) := by decide +kernel
theorem d_A_learn_205 : decode b_A_learn 205 = .ok (.aload_n 0, 1) := by decide +kernel
theorem d_A_learn_206 : decode b_A_learn 206 = .ok (.getfield 35, 3) := by decide +kernel
theorem d_A_learn_209 : decode b_A_learn 209 = .ok (.iload_n 3, 1) := by decide +kernel
theorem d_A_learn_210 : decode b_A_learn 210 = .ok (.invokevirtual 285, 3) := by decide +kernel
theorem d_A_learn_213 : decode b_A_learn 213 = .ok (.aload_n 0, 1) := by decide +kernel
theorem d_A_learn_214 : decode b_A_learn 214 = .ok (.getfield 66, 3) := by decide +kernel
theorem d_A_learn_217 : decode b_A_learn 217 = .ok (.getfield 288, 3) := by decide +kernel
theorem d_A_learn_220 : decode b_A_learn 220 = .ok (.ireturn, 1) := by decide +kernel
def F_A_learn_201 (a0 : Nat) (x3 : Int32) (w : AW) : Option (Int32 × AW) :=
  gd (wk w a0 == 1) <|
  gd (wk w (wr w a0 9) == 10) <|
  (F_Le_choose (wr w a0 9) (wi w a0 4) x3 w).bind fun r3 =>
  gd (wk r3 a0 == 1) <|
  gd (wk r3 (wr r3 a0 9) == 10) <|
  some ((wi r3 (wr r3 a0 9) 1), r3)
theorem P_A_learn_201 {X : AX} {l : Launch} {G : AG} (hX : XOK X b_A_learn "RedSky" 8) (hM : XM X l G { frames := 6, cells := 0, slots := 0, locals := 147 }) {o : Int32 × AW} (hR : XR X (some .int) 0 0 (some (vi o.1)) o.2) (a0 : Nat) (x3 : Int32) (w : AW) (h : F_A_learn_201 a0 x3 w = some o) : RJ X 8 0 0 201 [(0, vr a0), (3, vi x3)] [] w := by
  unfold F_A_learn_201 at h
  refine r_aload_n (i := 0) hX d_A_learn_201 0 rfl rfl ?_
  obtain ⟨hk1, h⟩ := gd_e h
  refine r_getR (i := 0) (f := 9) hX ci_0 (by decide) rfl fl_A_66 hk1 d_A_learn_202 ?_
  refine r_aload_n (i := 0) hX d_A_learn_205 0 rfl rfl ?_
  refine r_getI (i := 0) (f := 4) hX ci_0 (by decide) rfl fl_A_35 hk1 d_A_learn_206 ?_
  refine r_iload_n (i := 3) hX d_A_learn_209 1 rfl rfl ?_
  obtain ⟨hk2, h⟩ := gd_e h
  obtain ⟨r3, hr4, h⟩ := bd_e h
  refine r_callV0 (As := [_, _]) hX hM mw_A_285 (T_Le_choose _ _ _ _ hr4) (rc_of ci_9 hk2) rfl rfl ⟨Nat.le_refl _, Nat.le_refl _⟩ rfl rfl d_A_learn_210 ?_
  refine r_aload_n (i := 0) hX d_A_learn_213 0 rfl rfl ?_
  obtain ⟨hk5, h⟩ := gd_e h
  refine r_getR (i := 0) (f := 9) hX ci_0 (by decide) rfl fl_A_66 hk5 d_A_learn_214 ?_
  obtain ⟨hk6, h⟩ := gd_e h
  refine r_getI (i := 9) (f := 1) hX ci_9 (by decide) rfl fl_A_288 hk6 d_A_learn_217 ?_
  cases h; exact r_iret hX hR d_A_learn_220
def F_A_learn_132_B (rec132 : Nat → Int32 → Nat → Int32 → AW → Option (Int32 × AW)) (a0 : Nat) (x3 : Int32) (a5 : Nat) (x7 : Int32) (w : AW) : Option (Int32 × AW) :=
  gd (wk w a0 == 1) <|
  if (wi w a0 4) ≤ x7 then
    F_A_learn_201 a0 x3 w
  else
    if (8 : Int32) ≤ x7 then
      F_A_learn_201 a0 x3 w
    else
      gd (wk w (wr w a0 3) == 107) <|
      gd (inb x7 (wn w (wr w a0 3))) <|
      gd (wk w (wr w a0 6) == 9) <|
      (F_Rd_readFirst (wr w a0 6) (wr w (wr w a0 3) (Int32.toNatClampNeg x7)) a5 (wr w a0 0) (wr w a0 5) w).bind fun r5 =>
      gd (wk r5 a0 == 1) <|
      gd (wk r5 (wr r5 a0 6) == 9) <|
      gd (wk r5 (wr r5 a0 9) == 10) <|
      (F_Le_hear (wr r5 a0 9) x7 (wr r5 (wr r5 a0 6) 0) (wr r5 (wr r5 a0 6) 2) r5).bind fun r10 =>
      let v12 : Int32 := (x7 + (1 : Int32))
      rec132 a0 x3 a5 v12 r10
theorem P_A_learn_132_B {X : AX} {l : Launch} {G : AG} {rec132 : Nat → Int32 → Nat → Int32 → AW → Option (Int32 × AW)} (hX : XOK X b_A_learn "RedSky" 8) (hM : XM X l G { frames := 6, cells := 0, slots := 0, locals := 147 }) {o : Int32 × AW} (hR : XR X (some .int) 0 0 (some (vi o.1)) o.2) (hrec132 : ∀ (a0 : Nat) (x3 : Int32) (a5 : Nat) (x7 : Int32) (w : AW), rec132 a0 x3 a5 x7 w = some o → RJ X 8 0 0 132 [(0, vr a0), (3, vi x3), (5, vr a5), (7, vi x7)] [] w) (a0 : Nat) (x3 : Int32) (a5 : Nat) (x7 : Int32) (w : AW) (h : F_A_learn_132_B rec132 a0 x3 a5 x7 w = some o) : RJ X 8 0 0 132 [(0, vr a0), (3, vi x3), (5, vr a5), (7, vi x7)] [] w := by
  unfold F_A_learn_132_B at h
  refine r_iload (i := 7) hX d_A_learn_132 3  rfl ?_
  refine r_aload_n (i := 0) hX d_A_learn_134 0 rfl rfl ?_
  obtain ⟨hk1, h⟩ := gd_e h
  refine r_getI (i := 0) (f := 4) hX ci_0 (by decide) rfl fl_A_35 hk1 d_A_learn_135 ?_
  refine r_icmp_ge hX d_A_learn_138 rfl h (fun h => ?_) (fun h => ?_)
  · exact rj_sub [0, 1] rfl (P_A_learn_201 hX hM hR _ _ _ h)
  · refine r_iload (i := 7) hX d_A_learn_141 3  rfl ?_
    refine r_bipush (v := (8 : Int32)) hX d_A_learn_143 rfl ?_
    refine r_icmp_ge hX d_A_learn_145 rfl h (fun h => ?_) (fun h => ?_)
    · exact rj_sub [0, 1] rfl (P_A_learn_201 hX hM hR _ _ _ h)
    · refine r_aload_n (i := 0) hX d_A_learn_148 0 rfl rfl ?_
      refine r_getR (i := 0) (f := 6) hX ci_0 (by decide) rfl fl_A_49 hk1 d_A_learn_149 ?_
      refine r_aload_n (i := 0) hX d_A_learn_152 0 rfl rfl ?_
      refine r_getR (i := 0) (f := 3) hX ci_0 (by decide) rfl fl_A_31 hk1 d_A_learn_153 ?_
      refine r_iload (i := 7) hX d_A_learn_156 3  rfl ?_
      obtain ⟨hk2, h⟩ := gd_e h
      obtain ⟨hg3, h⟩ := gd_e h
      refine r_aald (t := 0) (kd := 107) hX (by decide) (fun G => rfl) hk2 hg3 d_A_learn_158 ?_
      refine r_aload (i := 5) hX d_A_learn_159 2  rfl ?_
      refine r_aload_n (i := 0) hX d_A_learn_161 0 rfl rfl ?_
      refine r_getR (i := 0) (f := 0) hX ci_0 (by decide) rfl fl_A_10 hk1 d_A_learn_162 ?_
      refine r_aload_n (i := 0) hX d_A_learn_165 0 rfl rfl ?_
      refine r_getR (i := 0) (f := 5) hX ci_0 (by decide) rfl fl_A_42 hk1 d_A_learn_166 ?_
      obtain ⟨hk4, h⟩ := gd_e h
      obtain ⟨r5, hr6, h⟩ := bd_e h
      refine r_callV0 (As := [_, _, _, _]) hX hM mw_A_272 (T_Rd_readFirst _ _ _ _ _ _ hr6) (rc_of ci_8 hk4) rfl rfl ⟨Nat.le_refl _, Nat.le_refl _⟩ rfl rfl d_A_learn_169 ?_
      refine r_aload_n (i := 0) hX d_A_learn_172 0 rfl rfl ?_
      obtain ⟨hk7, h⟩ := gd_e h
      refine r_getR (i := 0) (f := 9) hX ci_0 (by decide) rfl fl_A_66 hk7 d_A_learn_173 ?_
      refine r_iload (i := 7) hX d_A_learn_176 3  rfl ?_
      refine r_aload_n (i := 0) hX d_A_learn_178 0 rfl rfl ?_
      refine r_getR (i := 0) (f := 6) hX ci_0 (by decide) rfl fl_A_49 hk7 d_A_learn_179 ?_
      obtain ⟨hk8, h⟩ := gd_e h
      refine r_getR (i := 8) (f := 0) hX ci_8 (by decide) rfl fl_A_275 hk8 d_A_learn_182 ?_
      refine r_aload_n (i := 0) hX d_A_learn_185 0 rfl rfl ?_
      refine r_getR (i := 0) (f := 6) hX ci_0 (by decide) rfl fl_A_49 hk7 d_A_learn_186 ?_
      refine r_getR (i := 8) (f := 2) hX ci_8 (by decide) rfl fl_A_278 hk8 d_A_learn_189 ?_
      obtain ⟨hk9, h⟩ := gd_e h
      obtain ⟨r10, hr11, h⟩ := bd_e h
      refine r_callV0 (As := [_, _, _]) hX hM mw_A_281 (T_Le_hear _ _ _ _ _ hr11) (rc_of ci_9 hk9) rfl rfl ⟨Nat.le_refl _, Nat.le_refl _⟩ rfl rfl d_A_learn_192 ?_
      refine r_iinc (i := 7) (v := (1 : Int32)) hX d_A_learn_195 3 rfl rfl (by decide) ?_
      refine r_goto hX d_A_learn_198 rfl ?_
      exact rj_sub [1, 2, 3, 0] rfl (hrec132 _ _ _ _ _ h)
def F_A_learn_132 : Nat → Nat → Int32 → Nat → Int32 → AW → Option (Int32 × AW)
  | 0 => fun _ _ _ _ _ => none
  | n + 1 => fun a0 x3 a5 x7 w => F_A_learn_132_B (F_A_learn_132 n) a0 x3 a5 x7 w
theorem P_A_learn_132 {X : AX} {l : Launch} {G : AG} (hX : XOK X b_A_learn "RedSky" 8) (hM : XM X l G { frames := 6, cells := 0, slots := 0, locals := 147 }) {o : Int32 × AW} (hR : XR X (some .int) 0 0 (some (vi o.1)) o.2) (fu : Nat) : ∀ (a0 : Nat) (x3 : Int32) (a5 : Nat) (x7 : Int32) (w : AW), F_A_learn_132 fu a0 x3 a5 x7 w = some o → RJ X 8 0 0 132 [(0, vr a0), (3, vi x3), (5, vr a5), (7, vi x7)] [] w := by
  induction fu with
  | zero => intro a0 x3 a5 x7 w h; cases h
  | succ n9 ih => intro a0 x3 a5 x7 w h; exact P_A_learn_132_B hX hM hR ih _ _ _ _ _ h
def F_A_learn (a0 : Nat) (x1 : Int32) (x2 : Int32) (x3 : Int32) (x4 : Int32) (w : AW) : Option (Int32 × AW) :=
  gd (wk w a0 == 1) <|
  (F_A_diaryOf w a0 x1).bind fun r2 =>
  (F_A_sayingOf w a0 x2).bind fun r4 =>
  if r2 = 0 then
    some ((-101 : Int32), w)
  else
    if r4 = 0 then
      some ((-101 : Int32), w)
    else
      if (F_A_within x3 (0 : Int32) (2 : Int32)) = 0 then
        some ((-102 : Int32), w)
      else
        if (F_A_within x4 (0 : Int32) (15 : Int32)) = 0 then
          some ((-102 : Int32), w)
        else
          gd (wk w (wr w a0 9) == 10) <|
          if (wi w (wr w a0 9) 0) < (12 : Int32) then
            gd (wk w (wr w a0 6) == 9) <|
            (F_Rd_read (wr w a0 6) r4 r2 (wr w a0 0) (wr w a0 5) w).bind fun r8 =>
            gd (wk r8 a0 == 1) <|
            gd (wk r8 (wr r8 a0 8) == 8) <|
            (F_Dy_clear (wr r8 a0 8) r8).bind fun r12 =>
            gd (wk r12 a0 == 1) <|
            gd (wk r12 (wr r12 a0 0) == 2) <|
            (F_Ca_addYears (wr r12 a0 0) x4 (wr r12 a0 8) r12).bind fun r16 =>
            gd (wk r16 a0 == 1) <|
            gd (wk r16 (wr r16 a0 6) == 9) <|
            gd (wk r16 (wr r16 a0 9) == 10) <|
            (F_Le_aimAt (wr r16 a0 9) (wr r16 (wr r16 a0 6) 3) (wr r16 (wr r16 a0 6) 4) (wr r16 a0 8) r16).bind fun r21 =>
            F_A_learn_132 FUEL a0 x3 r2 (0 : Int32) r21
          else
            some ((-103 : Int32), w)
theorem P_A_learn_0 {X : AX} {l : Launch} {G : AG} (hX : XOK X b_A_learn "RedSky" 8) (hM : XM X l G { frames := 6, cells := 0, slots := 0, locals := 147 }) {o : Int32 × AW} (hR : XR X (some .int) 0 0 (some (vi o.1)) o.2) (a0 : Nat) (x1 : Int32) (x2 : Int32) (x3 : Int32) (x4 : Int32) (w : AW) (h : F_A_learn a0 x1 x2 x3 x4 w = some o) : RJ X 8 0 0 0 [(0, vr a0), (1, vi x1), (2, vi x2), (3, vi x3), (4, vi x4)] [] w := by
  unfold F_A_learn at h
  refine r_aload_n (i := 0) hX d_A_learn_0 0 rfl rfl ?_
  refine r_iload_n (i := 1) hX d_A_learn_1 1 rfl rfl ?_
  obtain ⟨hk1, h⟩ := gd_e h
  obtain ⟨r2, hr3, h⟩ := bd_e h
  refine r_callV1 (As := [_]) hX hM mw_A_141 (T_A_diaryOf _ _ _ hr3) (rc_of ci_0 hk1) rfl rfl ⟨Nat.le_refl _, Nat.le_refl _⟩ rfl rfl d_A_learn_2 ?_
  refine r_astore (i := 5) hX d_A_learn_5  (by decide) ?_
  refine r_aload_n (i := 0) hX d_A_learn_7 1 rfl rfl ?_
  refine r_iload_n (i := 2) hX d_A_learn_8 3 rfl rfl ?_
  obtain ⟨r4, hr5, h⟩ := bd_e h
  refine r_callV1 (As := [_]) hX hM mw_A_200 (T_A_sayingOf _ _ _ hr5) (rc_of ci_0 hk1) rfl rfl ⟨Nat.le_refl _, Nat.le_refl _⟩ rfl rfl d_A_learn_9 ?_
  refine r_astore (i := 6) hX d_A_learn_12  (by decide) ?_
  refine r_aload (i := 5) hX d_A_learn_14 1  rfl ?_
  refine r_ifnull hX d_A_learn_16 rfl h (fun h => ?_) (fun h => ?_)
  · refine r_bipush (v := (-101 : Int32)) hX d_A_learn_24 rfl ?_
    cases h; exact r_iret hX hR d_A_learn_26
  · refine r_aload (i := 6) hX d_A_learn_19 0  rfl ?_
    refine r_ifnonnull hX d_A_learn_21 rfl h (fun h => ?_) (fun h => ?_)
    · refine r_iload_n (i := 3) hX d_A_learn_27 5 rfl rfl ?_
      refine r_iconst (v := (0 : Int32)) hX d_A_learn_28 rfl ?_
      refine r_iconst (v := (2 : Int32)) hX d_A_learn_29 rfl ?_
      refine r_callS1 (As := [_, _, _]) hX hM mw_A_86 (T_A_within _ _ _ _) rfl rfl ⟨Nat.le_refl _, Nat.le_refl _⟩ rfl rfl d_A_learn_30 ?_
      refine r_if_eq hX d_A_learn_33 rfl h (fun h => ?_) (fun h => ?_)
      · refine r_bipush (v := (-102 : Int32)) hX d_A_learn_47 rfl ?_
        cases h; exact r_iret hX hR d_A_learn_49
      · refine r_iload (i := 4) hX d_A_learn_36 6  rfl ?_
        refine r_iconst (v := (0 : Int32)) hX d_A_learn_38 rfl ?_
        refine r_bipush (v := (15 : Int32)) hX d_A_learn_39 rfl ?_
        refine r_callS1 (As := [_, _, _]) hX hM mw_A_86 (T_A_within _ _ _ _) rfl rfl ⟨Nat.le_refl _, Nat.le_refl _⟩ rfl rfl d_A_learn_41 ?_
        refine r_if_ne hX d_A_learn_44 rfl h (fun h => ?_) (fun h => ?_)
        · refine r_aload_n (i := 0) hX d_A_learn_50 2 rfl rfl ?_
          refine r_getR (i := 0) (f := 9) hX ci_0 (by decide) rfl fl_A_66 hk1 d_A_learn_51 ?_
          obtain ⟨hk6, h⟩ := gd_e h
          refine r_getI (i := 9) (f := 0) hX ci_9 (by decide) rfl fl_A_255 hk6 d_A_learn_54 ?_
          refine r_bipush (v := (12 : Int32)) hX d_A_learn_57 rfl ?_
          refine r_icmp_lt hX d_A_learn_59 rfl h (fun h => ?_) (fun h => ?_)
          · refine r_aload_n (i := 0) hX d_A_learn_65 2 rfl rfl ?_
            refine r_getR (i := 0) (f := 6) hX ci_0 (by decide) rfl fl_A_49 hk1 d_A_learn_66 ?_
            refine r_aload (i := 6) hX d_A_learn_69 0  rfl ?_
            refine r_aload (i := 5) hX d_A_learn_71 1  rfl ?_
            refine r_aload_n (i := 0) hX d_A_learn_73 2 rfl rfl ?_
            refine r_getR (i := 0) (f := 0) hX ci_0 (by decide) rfl fl_A_10 hk1 d_A_learn_74 ?_
            refine r_aload_n (i := 0) hX d_A_learn_77 2 rfl rfl ?_
            refine r_getR (i := 0) (f := 5) hX ci_0 (by decide) rfl fl_A_42 hk1 d_A_learn_78 ?_
            obtain ⟨hk7, h⟩ := gd_e h
            obtain ⟨r8, hr9, h⟩ := bd_e h
            refine r_callV0 (As := [_, _, _, _]) hX hM mw_A_207 (T_Rd_read _ _ _ _ _ _ hr9) (rc_of ci_8 hk7) rfl rfl ⟨Nat.le_refl _, Nat.le_refl _⟩ rfl rfl d_A_learn_81 ?_
            refine r_aload_n (i := 0) hX d_A_learn_84 2 rfl rfl ?_
            obtain ⟨hk10, h⟩ := gd_e h
            refine r_getR (i := 0) (f := 8) hX ci_0 (by decide) rfl fl_A_59 hk10 d_A_learn_85 ?_
            obtain ⟨hk11, h⟩ := gd_e h
            obtain ⟨r12, hr13, h⟩ := bd_e h
            refine r_callV0 (As := []) hX hM mw_A_214 (T_Dy_clear _ _ hr13) (rc_of ci_7 hk11) rfl rfl ⟨Nat.le_refl _, Nat.le_refl _⟩ rfl rfl d_A_learn_88 ?_
            refine r_aload_n (i := 0) hX d_A_learn_91 2 rfl rfl ?_
            obtain ⟨hk14, h⟩ := gd_e h
            refine r_getR (i := 0) (f := 0) hX ci_0 (by decide) rfl fl_A_10 hk14 d_A_learn_92 ?_
            refine r_iload (i := 4) hX d_A_learn_95 6  rfl ?_
            refine r_aload_n (i := 0) hX d_A_learn_97 2 rfl rfl ?_
            refine r_getR (i := 0) (f := 8) hX ci_0 (by decide) rfl fl_A_59 hk14 d_A_learn_98 ?_
            obtain ⟨hk15, h⟩ := gd_e h
            obtain ⟨r16, hr17, h⟩ := bd_e h
            refine r_callV0 (As := [_, _]) hX hM mw_A_258 (T_Ca_addYears _ _ _ _ hr17) (rc_of ci_1 hk15) rfl rfl ⟨Nat.le_refl _, Nat.le_refl _⟩ rfl rfl d_A_learn_101 ?_
            refine r_aload_n (i := 0) hX d_A_learn_104 2 rfl rfl ?_
            obtain ⟨hk18, h⟩ := gd_e h
            refine r_getR (i := 0) (f := 9) hX ci_0 (by decide) rfl fl_A_66 hk18 d_A_learn_105 ?_
            refine r_aload_n (i := 0) hX d_A_learn_108 2 rfl rfl ?_
            refine r_getR (i := 0) (f := 6) hX ci_0 (by decide) rfl fl_A_49 hk18 d_A_learn_109 ?_
            obtain ⟨hk19, h⟩ := gd_e h
            refine r_getR (i := 8) (f := 3) hX ci_8 (by decide) rfl fl_A_262 hk19 d_A_learn_112 ?_
            refine r_aload_n (i := 0) hX d_A_learn_115 2 rfl rfl ?_
            refine r_getR (i := 0) (f := 6) hX ci_0 (by decide) rfl fl_A_49 hk18 d_A_learn_116 ?_
            refine r_getR (i := 8) (f := 4) hX ci_8 (by decide) rfl fl_A_265 hk19 d_A_learn_119 ?_
            refine r_aload_n (i := 0) hX d_A_learn_122 2 rfl rfl ?_
            refine r_getR (i := 0) (f := 8) hX ci_0 (by decide) rfl fl_A_59 hk18 d_A_learn_123 ?_
            obtain ⟨hk20, h⟩ := gd_e h
            obtain ⟨r21, hr22, h⟩ := bd_e h
            refine r_callV0 (As := [_, _, _]) hX hM mw_A_268 (T_Le_aimAt _ _ _ _ _ hr22) (rc_of ci_9 hk20) rfl rfl ⟨Nat.le_refl _, Nat.le_refl _⟩ rfl rfl d_A_learn_126 ?_
            refine r_iconst (v := (0 : Int32)) hX d_A_learn_129 rfl ?_
            refine r_istore (i := 7) hX d_A_learn_130  (by decide) ?_
            exact rj_sub [3, 6, 2, 0] rfl (P_A_learn_132 hX hM hR FUEL _ _ _ _ _ h)
          · refine r_bipush (v := (-103 : Int32)) hX d_A_learn_62 rfl ?_
            cases h; exact r_iret hX hR d_A_learn_64
        · refine r_bipush (v := (-102 : Int32)) hX d_A_learn_47 rfl ?_
          cases h; exact r_iret hX hR d_A_learn_49
    · refine r_bipush (v := (-101 : Int32)) hX d_A_learn_24 rfl ?_
      cases h; exact r_iret hX hR d_A_learn_26
theorem T_A_learn {l : Launch} {G : AG} (a0 : Nat) (x1 : Int32) (x2 : Int32) (x3 : Int32) (x4 : Int32) (w : AW) {o : Int32 × AW} (h : F_A_learn a0 x1 x2 x3 x4 w = some o) : Mt l G y_A_learn b_A_learn 8 (some (.int)) 6 147 0 0 [vr a0, vi x1, vi x2, vi x3, vi x4] w (some (vi o.1)) o.2 := mt_of (by decide) (Nat.le_of_ble_eq_true rfl) (fun X hX hR hM hI => P_A_learn_0 hX hM hR _ _ _ _ _ _ h)
/-! RedSkyModel.countBy(III)V -/
theorem d_M_countBy_0 : decode b_M_countBy 0 = .ok (.iconst 0, 1) := by decide +kernel
theorem d_M_countBy_1 : decode b_M_countBy 1 = .ok (.istore 4, 2) := by decide +kernel
theorem d_M_countBy_3 : decode b_M_countBy 3 = .ok (.iload 4, 2) := by decide +kernel
theorem d_M_countBy_5 : decode b_M_countBy 5 = .ok (.iconst 3, 1) := by decide +kernel
theorem d_M_countBy_6 : decode b_M_countBy 6 = .ok (.if_icmp .ge (25), 3) := by decide +kernel
theorem d_M_countBy_9 : decode b_M_countBy 9 = .ok (.aload_n 0, 1) := by decide +kernel
theorem d_M_countBy_10 : decode b_M_countBy 10 = .ok (.getfield 89, 3) := by decide +kernel
theorem d_M_countBy_13 : decode b_M_countBy 13 = .ok (.iload 4, 2) := by decide +kernel
theorem d_M_countBy_15 : decode b_M_countBy 15 = .ok (.iconst 0, 1) := by decide +kernel
theorem d_M_countBy_16 : decode b_M_countBy 16 = .ok (.iastore, 1) := by decide +kernel
theorem d_M_countBy_17 : decode b_M_countBy 17 = .ok (.aload_n 0, 1) := by decide +kernel
theorem d_M_countBy_18 : decode b_M_countBy 18 = .ok (.getfield 92, 3) := by decide +kernel
theorem d_M_countBy_21 : decode b_M_countBy 21 = .ok (.iload 4, 2) := by decide +kernel
theorem d_M_countBy_23 : decode b_M_countBy 23 = .ok (.iconst 0, 1) := by decide +kernel
theorem d_M_countBy_24 : decode b_M_countBy 24 = .ok (.iastore, 1) := by decide +kernel
theorem d_M_countBy_25 : decode b_M_countBy 25 = .ok (.iinc 4 (1), 3) := by decide +kernel
theorem d_M_countBy_28 : decode b_M_countBy 28 = .ok (.goto (-25), 3) := by decide +kernel
theorem d_M_countBy_31 : decode b_M_countBy 31 = .ok (.iconst 0, 1) := by decide +kernel
theorem d_M_countBy_32 : decode b_M_countBy 32 = .ok (.istore 4, 2) := by decide +kernel
theorem d_M_countBy_34 : decode b_M_countBy 34 = .ok (.iload 4, 2) := by decide +kernel
theorem d_M_countBy_36 : decode b_M_countBy 36 = .ok (.iconst 4, 1) := by decide +kernel
theorem d_M_countBy_37 : decode b_M_countBy 37 = .ok (.if_icmp .ge (135), 3) := by decide +kernel
theorem d_M_countBy_40 : decode b_M_countBy 40 = .ok (.iload_n 1, 1) := by decide +kernel
theorem d_M_countBy_41 : decode b_M_countBy 41 = .ok (.iload 4, 2) := by decide +kernel
theorem d_M_countBy_43 : decode b_M_countBy 43 = .ok (.ishr, 1) := by decide +kernel
theorem d_M_countBy_44 : decode b_M_countBy 44 = .ok (.iconst 1, 1) := by decide +kernel
theorem d_M_countBy_45 : decode b_M_countBy 45 = .ok (.iand, 1) := by decide +kernel
theorem d_M_countBy_46 : decode b_M_countBy 46 = .ok (.iconst 1, 1) := by decide +kernel
theorem d_M_countBy_47 : decode b_M_countBy 47 = .ok (.if_icmp .ne (119), 3) := by decide +kernel
theorem d_M_countBy_50 : decode b_M_countBy 50 = .ok (.aload_n 0, 1) := by decide +kernel
theorem d_M_countBy_51 : decode b_M_countBy 51 = .ok (.iload 4, 2) := by decide +kernel
theorem d_M_countBy_53 : decode b_M_countBy 53 = .ok (.iconst 1, 1) := by decide +kernel
theorem d_M_countBy_54 : decode b_M_countBy 54 = .ok (.invokevirtual 110, 3) := by decide +kernel
theorem d_M_countBy_57 : decode b_M_countBy 57 = .ok (.istore 5, 2) := by decide +kernel
theorem d_M_countBy_59 : decode b_M_countBy 59 = .ok (.iload 5, 2) := by decide +kernel
theorem d_M_countBy_61 : decode b_M_countBy 61 = .ok (.aload_n 0, 1) := by decide +kernel
theorem d_M_countBy_62 : decode b_M_countBy 62 = .ok (.iload 4, 2) := by decide +kernel
theorem d_M_countBy_64 : decode b_M_countBy 64 = .ok (.invokevirtual 160, 3) := by decide +kernel
theorem d_M_countBy_67 : decode b_M_countBy 67 = .ok (.if_icmp .ge (99), 3) := by decide +kernel
theorem d_M_countBy_70 : decode b_M_countBy 70 = .ok (.aload_n 0, 1) := by decide +kernel
theorem d_M_countBy_71 : decode b_M_countBy 71 = .ok (.getfield 80, 3) := by decide +kernel
theorem d_M_countBy_74 : decode b_M_countBy 74 = .ok (.iload 5, 2) := by decide +kernel
theorem d_M_countBy_76 : decode b_M_countBy 76 = .ok (.iaload, 1) := by decide +kernel
theorem d_M_countBy_77 : decode b_M_countBy 77 = .ok (.iconst (-1), 1) := by decide +kernel
theorem d_M_countBy_78 : decode b_M_countBy 78 = .ok (.if_icmp .eq (82), 3) := by decide +kernel
theorem d_M_countBy_81 : decode b_M_countBy 81 = .ok (.iload_n 2, 1) := by decide +kernel
theorem d_M_countBy_82 : decode b_M_countBy 82 = .ok (.iconst (-1), 1) := by decide +kernel
theorem d_M_countBy_83 : decode b_M_countBy 83 = .ok (.if_icmp .eq (22), 3) := by decide +kernel
theorem d_M_countBy_86 : decode b_M_countBy 86 = .ok (.aload_n 0, 1) := by decide +kernel
theorem d_M_countBy_87 : decode b_M_countBy 87 = .ok (.getfield 77, 3) := by decide +kernel
theorem d_M_countBy_90 : decode b_M_countBy 90 = .ok (.iload 5, 2) := by decide +kernel
theorem d_M_countBy_92 : decode b_M_countBy 92 = .ok (.iaload, 1) := by decide +kernel
theorem d_M_countBy_93 : decode b_M_countBy 93 = .ok (.iload_n 2, 1) := by decide +kernel
theorem d_M_countBy_94 : decode b_M_countBy 94 = .ok (.ishr, 1) := by decide +kernel
theorem d_M_countBy_95 : decode b_M_countBy 95 = .ok (.iconst 1, 1) := by decide +kernel
theorem d_M_countBy_96 : decode b_M_countBy 96 = .ok (.iand, 1) := by decide +kernel
theorem d_M_countBy_97 : decode b_M_countBy 97 = .ok (.iconst 1, 1) := by decide +kernel
theorem d_M_countBy_98 : decode b_M_countBy 98 = .ok (.if_icmp .ne (7), 3) := by decide +kernel
theorem d_M_countBy_101 : decode b_M_countBy 101 = .ok (.iconst 0, 1) := by decide +kernel
theorem d_M_countBy_102 : decode b_M_countBy 102 = .ok (.goto (28), 3) := by decide +kernel
theorem d_M_countBy_105 : decode b_M_countBy 105 = .ok (.iload_n 3, 1) := by decide +kernel
theorem d_M_countBy_106 : decode b_M_countBy 106 = .ok (.iconst (-1), 1) := by decide +kernel
theorem d_M_countBy_107 : decode b_M_countBy 107 = .ok (.if_icmp .eq (22), 3) := by decide +kernel
theorem d_M_countBy_110 : decode b_M_countBy 110 = .ok (.aload_n 0, 1) := by decide +kernel
theorem d_M_countBy_111 : decode b_M_countBy 111 = .ok (.getfield 77, 3) := by decide +kernel
theorem d_M_countBy_114 : decode b_M_countBy 114 = .ok (.iload 5, 2) := by decide +kernel
theorem d_M_countBy_116 : decode b_M_countBy 116 = .ok (.iaload, 1) := by decide +kernel
theorem d_M_countBy_117 : decode b_M_countBy 117 = .ok (.iload_n 3, 1) := by decide +kernel
theorem d_M_countBy_118 : decode b_M_countBy 118 = .ok (.ishr, 1) := by decide +kernel
theorem d_M_countBy_119 : decode b_M_countBy 119 = .ok (.iconst 1, 1) := by decide +kernel
theorem d_M_countBy_120 : decode b_M_countBy 120 = .ok (.iand, 1) := by decide +kernel
theorem d_M_countBy_121 : decode b_M_countBy 121 = .ok (.iconst 1, 1) := by decide +kernel
theorem d_M_countBy_122 : decode b_M_countBy 122 = .ok (.if_icmp .ne (7), 3) := by decide +kernel
theorem d_M_countBy_125 : decode b_M_countBy 125 = .ok (.iconst 1, 1) := by decide +kernel
theorem d_M_countBy_126 : decode b_M_countBy 126 = .ok (.goto (4), 3) := by decide +kernel
theorem d_M_countBy_129 : decode b_M_countBy 129 = .ok (.iconst 2, 1) := by decide +kernel
theorem d_M_countBy_130 : decode b_M_countBy 130 = .ok (.istore 6, 2) := by decide +kernel
theorem d_M_countBy_132 : decode b_M_countBy 132 = .ok (.aload_n 0, 1) := by decide +kernel
theorem d_M_countBy_133 : decode b_M_countBy 133 = .ok (.getfield 89, 3) := by decide +kernel
theorem d_M_countBy_136 : decode b_M_countBy 136 = .ok (.iload 6, 2) := by decide +kernel
theorem d_M_countBy_138 : decode b_M_countBy 138 = .ok (.dup2, 1) := by decide +kernel
theorem d_M_countBy_139 : decode b_M_countBy 139 = .ok (.iaload, 1) := by decide +kernel
theorem d_M_countBy_140 : decode b_M_countBy 140 = .ok (.iconst 1, 1) := by decide +kernel
theorem d_M_countBy_141 : decode b_M_countBy 141 = .ok (.iadd, 1) := by decide +kernel
theorem d_M_countBy_142 : decode b_M_countBy 142 = .ok (.iastore, 1) := by decide +kernel
theorem d_M_countBy_143 : decode b_M_countBy 143 = .ok (.aload_n 0, 1) := by decide +kernel
theorem d_M_countBy_144 : decode b_M_countBy 144 = .ok (.getfield 92, 3) := by decide +kernel
theorem d_M_countBy_147 : decode b_M_countBy 147 = .ok (.iload 6, 2) := by decide +kernel
theorem d_M_countBy_149 : decode b_M_countBy 149 = .ok (.dup2, 1) := by decide +kernel
theorem d_M_countBy_150 : decode b_M_countBy 150 = .ok (.iaload, 1) := by decide +kernel
theorem d_M_countBy_151 : decode b_M_countBy 151 = .ok (.aload_n 0, 1) := by decide +kernel
theorem d_M_countBy_152 : decode b_M_countBy 152 = .ok (.getfield 80, 3) := by decide +kernel
theorem d_M_countBy_155 : decode b_M_countBy 155 = .ok (.iload 5, 2) := by decide +kernel
theorem d_M_countBy_157 : decode b_M_countBy 157 = .ok (.iaload, 1) := by decide +kernel
theorem d_M_countBy_158 : decode b_M_countBy 158 = .ok (.iadd, 1) := by decide +kernel
theorem d_M_countBy_159 : decode b_M_countBy 159 = .ok (.iastore, 1) := by decide +kernel
theorem d_M_countBy_160 : decode b_M_countBy 160 = .ok (.iinc 5 (1), 3) := by decide +kernel
theorem d_M_countBy_163 : decode b_M_countBy 163 = .ok (.goto (-104), 3) := by decide +kernel
theorem d_M_countBy_166 : decode b_M_countBy 166 = .ok (.iinc 4 (1), 3) := by decide +kernel
theorem d_M_countBy_169 : decode b_M_countBy 169 = .ok (.goto (-135), 3) := by decide +kernel
theorem d_M_countBy_172 : decode b_M_countBy 172 = .ok (.return_, 1) := by decide +kernel
def F_M_countBy_130 (rec34 : Nat → Int32 → Int32 → Int32 → Int32 → AW → Option (AW)) (rec59 : Nat → Int32 → Int32 → Int32 → Int32 → Int32 → AW → Option (AW)) (a0 : Nat) (x1 : Int32) (x2 : Int32) (x3 : Int32) (x4 : Int32) (x5 : Int32) (s0 : Int32) (w : AW) : Option (AW) :=
  gd (wk w a0 == 13) <|
  gd (wk w (wr w a0 47) == 100) <|
  gd (inb s0 (wn w (wr w a0 47))) <|
  gd (inb s0 (wn w (wr w a0 47))) <|
  let w5 : AW := upI w (wr w a0 47) (Int32.toNatClampNeg s0) ((wi w (wr w a0 47) (Int32.toNatClampNeg s0)) + (1 : Int32))
  gd (wk w5 (wr w5 a0 48) == 100) <|
  gd (inb s0 (wn w5 (wr w5 a0 48))) <|
  gd (wk w5 (wr w5 a0 43) == 100) <|
  gd (inb x5 (wn w5 (wr w5 a0 43))) <|
  gd (inb s0 (wn w5 (wr w5 a0 48))) <|
  let w11 : AW := upI w5 (wr w5 a0 48) (Int32.toNatClampNeg s0) ((wi w5 (wr w5 a0 48) (Int32.toNatClampNeg s0)) + (wi w5 (wr w5 a0 43) (Int32.toNatClampNeg x5)))
  let v12 : Int32 := (x5 + (1 : Int32))
  rec59 a0 x1 x2 x3 x4 v12 w11
theorem P_M_countBy_130 {X : AX} {l : Launch} {G : AG} {rec34 : Nat → Int32 → Int32 → Int32 → Int32 → AW → Option (AW)} {rec59 : Nat → Int32 → Int32 → Int32 → Int32 → Int32 → AW → Option (AW)} (hX : XOK X b_M_countBy "RedSkyModel" 7) (hM : XM X l G { frames := 4, cells := 0, slots := 0, locals := 88 }) {o : AW} (hR : XR X none 0 0 none o) (hrec34 : ∀ (a0 : Nat) (x1 : Int32) (x2 : Int32) (x3 : Int32) (x4 : Int32) (w : AW), rec34 a0 x1 x2 x3 x4 w = some o → RJ X 7 0 0 34 [(0, vr a0), (1, vi x1), (2, vi x2), (3, vi x3), (4, vi x4)] [] w) (hrec59 : ∀ (a0 : Nat) (x1 : Int32) (x2 : Int32) (x3 : Int32) (x4 : Int32) (x5 : Int32) (w : AW), rec59 a0 x1 x2 x3 x4 x5 w = some o → RJ X 7 0 0 59 [(0, vr a0), (1, vi x1), (2, vi x2), (3, vi x3), (4, vi x4), (5, vi x5)] [] w) (a0 : Nat) (x1 : Int32) (x2 : Int32) (x3 : Int32) (x4 : Int32) (x5 : Int32) (s0 : Int32) (w : AW) (h : F_M_countBy_130 rec34 rec59 a0 x1 x2 x3 x4 x5 s0 w = some o) : RJ X 7 0 0 130 [(0, vr a0), (1, vi x1), (2, vi x2), (3, vi x3), (4, vi x4), (5, vi x5)] [vi s0] w := by
  unfold F_M_countBy_130 at h
  refine r_istore (i := 6) hX d_M_countBy_130  (by decide) ?_
  refine r_aload_n (i := 0) hX d_M_countBy_132 1 rfl rfl ?_
  obtain ⟨hk1, h⟩ := gd_e h
  refine r_getR (i := 12) (f := 47) hX ci_12 (by decide) rfl fl_M_89 hk1 d_M_countBy_133 ?_
  refine r_iload (i := 6) hX d_M_countBy_136 0  rfl ?_
  refine r_dup2 hX d_M_countBy_138 rfl rfl ?_
  obtain ⟨hk2, h⟩ := gd_e h
  obtain ⟨hg3, h⟩ := gd_e h
  refine r_iald hX hk2 hg3 d_M_countBy_139 ?_
  refine r_iconst (v := (1 : Int32)) hX d_M_countBy_140 rfl ?_
  refine r_iadd hX d_M_countBy_141 ?_
  obtain ⟨hg4, h⟩ := gd_e h
  refine r_iast hX hk2 hg4 d_M_countBy_142 ?_
  refine r_aload_n (i := 0) hX d_M_countBy_143 1 rfl rfl ?_
  refine r_getR (i := 12) (f := 48) hX ci_12 (by decide) rfl fl_M_92 (kI hk1) d_M_countBy_144 ?_
  refine r_iload (i := 6) hX d_M_countBy_147 0  rfl ?_
  refine r_dup2 hX d_M_countBy_149 rfl rfl ?_
  obtain ⟨hk6, h⟩ := gd_e h
  obtain ⟨hg7, h⟩ := gd_e h
  refine r_iald hX hk6 hg7 d_M_countBy_150 ?_
  refine r_aload_n (i := 0) hX d_M_countBy_151 1 rfl rfl ?_
  refine r_getR (i := 12) (f := 43) hX ci_12 (by decide) rfl fl_M_80 (kI hk1) d_M_countBy_152 ?_
  refine r_iload (i := 5) hX d_M_countBy_155 6  rfl ?_
  obtain ⟨hk8, h⟩ := gd_e h
  obtain ⟨hg9, h⟩ := gd_e h
  refine r_iald hX hk8 hg9 d_M_countBy_157 ?_
  refine r_iadd hX d_M_countBy_158 ?_
  obtain ⟨hg10, h⟩ := gd_e h
  refine r_iast hX hk6 hg10 d_M_countBy_159 ?_
  refine r_iinc (i := 5) (v := (1 : Int32)) hX d_M_countBy_160 6 rfl rfl (by decide) ?_
  refine r_goto hX d_M_countBy_163 rfl ?_
  exact rj_sub [2, 3, 4, 5, 6, 0] rfl (hrec59 _ _ _ _ _ _ _ h)
def F_M_countBy_105 (rec34 : Nat → Int32 → Int32 → Int32 → Int32 → AW → Option (AW)) (rec59 : Nat → Int32 → Int32 → Int32 → Int32 → Int32 → AW → Option (AW)) (a0 : Nat) (x1 : Int32) (x2 : Int32) (x3 : Int32) (x4 : Int32) (x5 : Int32) (w : AW) : Option (AW) :=
  if x3 = (-1 : Int32) then
    F_M_countBy_130 rec34 rec59 a0 x1 x2 x3 x4 x5 (2 : Int32) w
  else
    gd (wk w a0 == 13) <|
    gd (wk w (wr w a0 42) == 100) <|
    gd (inb x5 (wn w (wr w a0 42))) <|
    if (((wi w (wr w a0 42) (Int32.toNatClampNeg x5)) >>> (x3 &&& 31)) &&& (1 : Int32)) = (1 : Int32) then
      F_M_countBy_130 rec34 rec59 a0 x1 x2 x3 x4 x5 (1 : Int32) w
    else
      F_M_countBy_130 rec34 rec59 a0 x1 x2 x3 x4 x5 (2 : Int32) w
theorem P_M_countBy_105 {X : AX} {l : Launch} {G : AG} {rec34 : Nat → Int32 → Int32 → Int32 → Int32 → AW → Option (AW)} {rec59 : Nat → Int32 → Int32 → Int32 → Int32 → Int32 → AW → Option (AW)} (hX : XOK X b_M_countBy "RedSkyModel" 7) (hM : XM X l G { frames := 4, cells := 0, slots := 0, locals := 88 }) {o : AW} (hR : XR X none 0 0 none o) (hrec34 : ∀ (a0 : Nat) (x1 : Int32) (x2 : Int32) (x3 : Int32) (x4 : Int32) (w : AW), rec34 a0 x1 x2 x3 x4 w = some o → RJ X 7 0 0 34 [(0, vr a0), (1, vi x1), (2, vi x2), (3, vi x3), (4, vi x4)] [] w) (hrec59 : ∀ (a0 : Nat) (x1 : Int32) (x2 : Int32) (x3 : Int32) (x4 : Int32) (x5 : Int32) (w : AW), rec59 a0 x1 x2 x3 x4 x5 w = some o → RJ X 7 0 0 59 [(0, vr a0), (1, vi x1), (2, vi x2), (3, vi x3), (4, vi x4), (5, vi x5)] [] w) (a0 : Nat) (x1 : Int32) (x2 : Int32) (x3 : Int32) (x4 : Int32) (x5 : Int32) (w : AW) (h : F_M_countBy_105 rec34 rec59 a0 x1 x2 x3 x4 x5 w = some o) : RJ X 7 0 0 105 [(0, vr a0), (1, vi x1), (2, vi x2), (3, vi x3), (4, vi x4), (5, vi x5)] [] w := by
  unfold F_M_countBy_105 at h
  refine r_iload_n (i := 3) hX d_M_countBy_105 3 rfl rfl ?_
  refine r_iconst (v := (-1 : Int32)) hX d_M_countBy_106 rfl ?_
  refine r_icmp_eq hX d_M_countBy_107 rfl h (fun h => ?_) (fun h => ?_)
  · refine r_iconst (v := (2 : Int32)) hX d_M_countBy_129 rfl ?_
    exact rj_sub [0, 1, 2, 3, 4, 5] rfl (P_M_countBy_130 hX hM hR hrec34 hrec59 _ _ _ _ _ _ _ _ h)
  · refine r_aload_n (i := 0) hX d_M_countBy_110 0 rfl rfl ?_
    obtain ⟨hk1, h⟩ := gd_e h
    refine r_getR (i := 12) (f := 42) hX ci_12 (by decide) rfl fl_M_77 hk1 d_M_countBy_111 ?_
    refine r_iload (i := 5) hX d_M_countBy_114 5  rfl ?_
    obtain ⟨hk2, h⟩ := gd_e h
    obtain ⟨hg3, h⟩ := gd_e h
    refine r_iald hX hk2 hg3 d_M_countBy_116 ?_
    refine r_iload_n (i := 3) hX d_M_countBy_117 3 rfl rfl ?_
    refine r_ishr hX d_M_countBy_118 ?_
    refine r_iconst (v := (1 : Int32)) hX d_M_countBy_119 rfl ?_
    refine r_iand hX d_M_countBy_120 ?_
    refine r_iconst (v := (1 : Int32)) hX d_M_countBy_121 rfl ?_
    refine r_icmp_ne hX d_M_countBy_122 rfl h (fun h => ?_) (fun h => ?_)
    · refine r_iconst (v := (2 : Int32)) hX d_M_countBy_129 rfl ?_
      exact rj_sub [0, 1, 2, 3, 4, 5] rfl (P_M_countBy_130 hX hM hR hrec34 hrec59 _ _ _ _ _ _ _ _ h)
    · refine r_iconst (v := (1 : Int32)) hX d_M_countBy_125 rfl ?_
      refine r_goto hX d_M_countBy_126 rfl ?_
      exact rj_sub [0, 1, 2, 3, 4, 5] rfl (P_M_countBy_130 hX hM hR hrec34 hrec59 _ _ _ _ _ _ _ _ h)
def F_M_countBy_59_B (rec34 : Nat → Int32 → Int32 → Int32 → Int32 → AW → Option (AW)) (rec59 : Nat → Int32 → Int32 → Int32 → Int32 → Int32 → AW → Option (AW)) (a0 : Nat) (x1 : Int32) (x2 : Int32) (x3 : Int32) (x4 : Int32) (x5 : Int32) (w : AW) : Option (AW) :=
  gd (wk w a0 == 13) <|
  (F_M_yearEnd w a0 x4).bind fun r2 =>
  if r2 ≤ x5 then
    let v4 : Int32 := (x4 + (1 : Int32))
    rec34 a0 x1 x2 x3 v4 w
  else
    gd (wk w (wr w a0 43) == 100) <|
    gd (inb x5 (wn w (wr w a0 43))) <|
    if (wi w (wr w a0 43) (Int32.toNatClampNeg x5)) = (-1 : Int32) then
      let v7 : Int32 := (x5 + (1 : Int32))
      rec59 a0 x1 x2 x3 x4 v7 w
    else
      if x2 = (-1 : Int32) then
        F_M_countBy_105 rec34 rec59 a0 x1 x2 x3 x4 x5 w
      else
        gd (wk w (wr w a0 42) == 100) <|
        gd (inb x5 (wn w (wr w a0 42))) <|
        if (((wi w (wr w a0 42) (Int32.toNatClampNeg x5)) >>> (x2 &&& 31)) &&& (1 : Int32)) = (1 : Int32) then
          F_M_countBy_130 rec34 rec59 a0 x1 x2 x3 x4 x5 (0 : Int32) w
        else
          F_M_countBy_105 rec34 rec59 a0 x1 x2 x3 x4 x5 w
theorem P_M_countBy_59_B {X : AX} {l : Launch} {G : AG} {rec34 : Nat → Int32 → Int32 → Int32 → Int32 → AW → Option (AW)} {rec59 : Nat → Int32 → Int32 → Int32 → Int32 → Int32 → AW → Option (AW)} (hX : XOK X b_M_countBy "RedSkyModel" 7) (hM : XM X l G { frames := 4, cells := 0, slots := 0, locals := 88 }) {o : AW} (hR : XR X none 0 0 none o) (hrec34 : ∀ (a0 : Nat) (x1 : Int32) (x2 : Int32) (x3 : Int32) (x4 : Int32) (w : AW), rec34 a0 x1 x2 x3 x4 w = some o → RJ X 7 0 0 34 [(0, vr a0), (1, vi x1), (2, vi x2), (3, vi x3), (4, vi x4)] [] w) (hrec59 : ∀ (a0 : Nat) (x1 : Int32) (x2 : Int32) (x3 : Int32) (x4 : Int32) (x5 : Int32) (w : AW), rec59 a0 x1 x2 x3 x4 x5 w = some o → RJ X 7 0 0 59 [(0, vr a0), (1, vi x1), (2, vi x2), (3, vi x3), (4, vi x4), (5, vi x5)] [] w) (a0 : Nat) (x1 : Int32) (x2 : Int32) (x3 : Int32) (x4 : Int32) (x5 : Int32) (w : AW) (h : F_M_countBy_59_B rec34 rec59 a0 x1 x2 x3 x4 x5 w = some o) : RJ X 7 0 0 59 [(0, vr a0), (1, vi x1), (2, vi x2), (3, vi x3), (4, vi x4), (5, vi x5)] [] w := by
  unfold F_M_countBy_59_B at h
  refine r_iload (i := 5) hX d_M_countBy_59 5  rfl ?_
  refine r_aload_n (i := 0) hX d_M_countBy_61 0 rfl rfl ?_
  refine r_iload (i := 4) hX d_M_countBy_62 4  rfl ?_
  obtain ⟨hk1, h⟩ := gd_e h
  obtain ⟨r2, hr3, h⟩ := bd_e h
  refine r_callV1 (As := [_]) hX hM mw_M_160 (T_M_yearEnd _ _ _ hr3) (rc_of ci_12 hk1) rfl rfl ⟨Nat.le_refl _, Nat.le_refl _⟩ rfl rfl d_M_countBy_64 ?_
  refine r_icmp_ge hX d_M_countBy_67 rfl h (fun h => ?_) (fun h => ?_)
  · refine r_iinc (i := 4) (v := (1 : Int32)) hX d_M_countBy_166 4 rfl rfl (by decide) ?_
    refine r_goto hX d_M_countBy_169 rfl ?_
    exact rj_sub [1, 2, 3, 4, 0] rfl (hrec34 _ _ _ _ _ _ h)
  · refine r_aload_n (i := 0) hX d_M_countBy_70 0 rfl rfl ?_
    refine r_getR (i := 12) (f := 43) hX ci_12 (by decide) rfl fl_M_80 hk1 d_M_countBy_71 ?_
    refine r_iload (i := 5) hX d_M_countBy_74 5  rfl ?_
    obtain ⟨hk5, h⟩ := gd_e h
    obtain ⟨hg6, h⟩ := gd_e h
    refine r_iald hX hk5 hg6 d_M_countBy_76 ?_
    refine r_iconst (v := (-1 : Int32)) hX d_M_countBy_77 rfl ?_
    refine r_icmp_eq hX d_M_countBy_78 rfl h (fun h => ?_) (fun h => ?_)
    · refine r_iinc (i := 5) (v := (1 : Int32)) hX d_M_countBy_160 5 rfl rfl (by decide) ?_
      refine r_goto hX d_M_countBy_163 rfl ?_
      exact rj_sub [1, 2, 3, 4, 5, 0] rfl (hrec59 _ _ _ _ _ _ _ h)
    · refine r_iload_n (i := 2) hX d_M_countBy_81 2 rfl rfl ?_
      refine r_iconst (v := (-1 : Int32)) hX d_M_countBy_82 rfl ?_
      refine r_icmp_eq hX d_M_countBy_83 rfl h (fun h => ?_) (fun h => ?_)
      · exact rj_sub [0, 1, 2, 3, 4, 5] rfl (P_M_countBy_105 hX hM hR hrec34 hrec59 _ _ _ _ _ _ _ h)
      · refine r_aload_n (i := 0) hX d_M_countBy_86 0 rfl rfl ?_
        refine r_getR (i := 12) (f := 42) hX ci_12 (by decide) rfl fl_M_77 hk1 d_M_countBy_87 ?_
        refine r_iload (i := 5) hX d_M_countBy_90 5  rfl ?_
        obtain ⟨hk8, h⟩ := gd_e h
        obtain ⟨hg9, h⟩ := gd_e h
        refine r_iald hX hk8 hg9 d_M_countBy_92 ?_
        refine r_iload_n (i := 2) hX d_M_countBy_93 2 rfl rfl ?_
        refine r_ishr hX d_M_countBy_94 ?_
        refine r_iconst (v := (1 : Int32)) hX d_M_countBy_95 rfl ?_
        refine r_iand hX d_M_countBy_96 ?_
        refine r_iconst (v := (1 : Int32)) hX d_M_countBy_97 rfl ?_
        refine r_icmp_ne hX d_M_countBy_98 rfl h (fun h => ?_) (fun h => ?_)
        · exact rj_sub [0, 1, 2, 3, 4, 5] rfl (P_M_countBy_105 hX hM hR hrec34 hrec59 _ _ _ _ _ _ _ h)
        · refine r_iconst (v := (0 : Int32)) hX d_M_countBy_101 rfl ?_
          refine r_goto hX d_M_countBy_102 rfl ?_
          exact rj_sub [0, 1, 2, 3, 4, 5] rfl (P_M_countBy_130 hX hM hR hrec34 hrec59 _ _ _ _ _ _ _ _ h)
def F_M_countBy_59 (rec34 : Nat → Int32 → Int32 → Int32 → Int32 → AW → Option (AW)) : Nat → Nat → Int32 → Int32 → Int32 → Int32 → Int32 → AW → Option (AW)
  | 0 => fun _ _ _ _ _ _ _ => none
  | n + 1 => fun a0 x1 x2 x3 x4 x5 w => F_M_countBy_59_B rec34 (F_M_countBy_59 rec34 n) a0 x1 x2 x3 x4 x5 w
theorem P_M_countBy_59 {X : AX} {l : Launch} {G : AG} {rec34 : Nat → Int32 → Int32 → Int32 → Int32 → AW → Option (AW)} (hX : XOK X b_M_countBy "RedSkyModel" 7) (hM : XM X l G { frames := 4, cells := 0, slots := 0, locals := 88 }) {o : AW} (hR : XR X none 0 0 none o) (hrec34 : ∀ (a0 : Nat) (x1 : Int32) (x2 : Int32) (x3 : Int32) (x4 : Int32) (w : AW), rec34 a0 x1 x2 x3 x4 w = some o → RJ X 7 0 0 34 [(0, vr a0), (1, vi x1), (2, vi x2), (3, vi x3), (4, vi x4)] [] w) (fu : Nat) : ∀ (a0 : Nat) (x1 : Int32) (x2 : Int32) (x3 : Int32) (x4 : Int32) (x5 : Int32) (w : AW), F_M_countBy_59 rec34 fu a0 x1 x2 x3 x4 x5 w = some o → RJ X 7 0 0 59 [(0, vr a0), (1, vi x1), (2, vi x2), (3, vi x3), (4, vi x4), (5, vi x5)] [] w := by
  induction fu with
  | zero => intro a0 x1 x2 x3 x4 x5 w h; cases h
  | succ n9 ih => intro a0 x1 x2 x3 x4 x5 w h; exact P_M_countBy_59_B hX hM hR hrec34 ih _ _ _ _ _ _ _ h
def F_M_countBy_34_B (rec34 : Nat → Int32 → Int32 → Int32 → Int32 → AW → Option (AW)) (a0 : Nat) (x1 : Int32) (x2 : Int32) (x3 : Int32) (x4 : Int32) (w : AW) : Option (AW) :=
  if (4 : Int32) ≤ x4 then
    some w
  else
    if ((x1 >>> (x4 &&& 31)) &&& (1 : Int32)) = (1 : Int32) then
      gd (wk w a0 == 13) <|
      (F_M_begin w a0 x4 (1 : Int32)).bind fun r3 =>
      F_M_countBy_59 rec34 FUEL a0 x1 x2 x3 x4 r3 w
    else
      let v1 : Int32 := (x4 + (1 : Int32))
      rec34 a0 x1 x2 x3 v1 w
theorem P_M_countBy_34_B {X : AX} {l : Launch} {G : AG} {rec34 : Nat → Int32 → Int32 → Int32 → Int32 → AW → Option (AW)} (hX : XOK X b_M_countBy "RedSkyModel" 7) (hM : XM X l G { frames := 4, cells := 0, slots := 0, locals := 88 }) {o : AW} (hR : XR X none 0 0 none o) (hrec34 : ∀ (a0 : Nat) (x1 : Int32) (x2 : Int32) (x3 : Int32) (x4 : Int32) (w : AW), rec34 a0 x1 x2 x3 x4 w = some o → RJ X 7 0 0 34 [(0, vr a0), (1, vi x1), (2, vi x2), (3, vi x3), (4, vi x4)] [] w) (a0 : Nat) (x1 : Int32) (x2 : Int32) (x3 : Int32) (x4 : Int32) (w : AW) (h : F_M_countBy_34_B rec34 a0 x1 x2 x3 x4 w = some o) : RJ X 7 0 0 34 [(0, vr a0), (1, vi x1), (2, vi x2), (3, vi x3), (4, vi x4)] [] w := by
  unfold F_M_countBy_34_B at h
  refine r_iload (i := 4) hX d_M_countBy_34 4  rfl ?_
  refine r_iconst (v := (4 : Int32)) hX d_M_countBy_36 rfl ?_
  refine r_icmp_ge hX d_M_countBy_37 rfl h (fun h => ?_) (fun h => ?_)
  · cases h; exact r_vret hX hR d_M_countBy_172
  · refine r_iload_n (i := 1) hX d_M_countBy_40 1 rfl rfl ?_
    refine r_iload (i := 4) hX d_M_countBy_41 4  rfl ?_
    refine r_ishr hX d_M_countBy_43 ?_
    refine r_iconst (v := (1 : Int32)) hX d_M_countBy_44 rfl ?_
    refine r_iand hX d_M_countBy_45 ?_
    refine r_iconst (v := (1 : Int32)) hX d_M_countBy_46 rfl ?_
    refine r_icmp_ne hX d_M_countBy_47 rfl h (fun h => ?_) (fun h => ?_)
    · refine r_iinc (i := 4) (v := (1 : Int32)) hX d_M_countBy_166 4 rfl rfl (by decide) ?_
      refine r_goto hX d_M_countBy_169 rfl ?_
      exact rj_sub [1, 2, 3, 4, 0] rfl (hrec34 _ _ _ _ _ _ h)
    · refine r_aload_n (i := 0) hX d_M_countBy_50 0 rfl rfl ?_
      refine r_iload (i := 4) hX d_M_countBy_51 4  rfl ?_
      refine r_iconst (v := (1 : Int32)) hX d_M_countBy_53 rfl ?_
      obtain ⟨hk2, h⟩ := gd_e h
      obtain ⟨r3, hr4, h⟩ := bd_e h
      refine r_callV1 (As := [_, _]) hX hM mw_M_110 (T_M_begin _ _ _ _ hr4) (rc_of ci_12 hk2) rfl rfl ⟨Nat.le_refl _, Nat.le_refl _⟩ rfl rfl d_M_countBy_54 ?_
      refine r_istore (i := 5) hX d_M_countBy_57  (by decide) ?_
      exact rj_sub [1, 2, 3, 4, 5, 0] rfl (P_M_countBy_59 hX hM hR hrec34 FUEL _ _ _ _ _ _ _ h)
def F_M_countBy_34 : Nat → Nat → Int32 → Int32 → Int32 → Int32 → AW → Option (AW)
  | 0 => fun _ _ _ _ _ _ => none
  | n + 1 => fun a0 x1 x2 x3 x4 w => F_M_countBy_34_B (F_M_countBy_34 n) a0 x1 x2 x3 x4 w
theorem P_M_countBy_34 {X : AX} {l : Launch} {G : AG} (hX : XOK X b_M_countBy "RedSkyModel" 7) (hM : XM X l G { frames := 4, cells := 0, slots := 0, locals := 88 }) {o : AW} (hR : XR X none 0 0 none o) (fu : Nat) : ∀ (a0 : Nat) (x1 : Int32) (x2 : Int32) (x3 : Int32) (x4 : Int32) (w : AW), F_M_countBy_34 fu a0 x1 x2 x3 x4 w = some o → RJ X 7 0 0 34 [(0, vr a0), (1, vi x1), (2, vi x2), (3, vi x3), (4, vi x4)] [] w := by
  induction fu with
  | zero => intro a0 x1 x2 x3 x4 w h; cases h
  | succ n9 ih => intro a0 x1 x2 x3 x4 w h; exact P_M_countBy_34_B hX hM hR ih _ _ _ _ _ _ h
def F_M_countBy_3_B (rec3 : Nat → Int32 → Int32 → Int32 → Int32 → AW → Option (AW)) (a0 : Nat) (x1 : Int32) (x2 : Int32) (x3 : Int32) (x4 : Int32) (w : AW) : Option (AW) :=
  if (3 : Int32) ≤ x4 then
    F_M_countBy_34 FUEL a0 x1 x2 x3 (0 : Int32) w
  else
    gd (wk w a0 == 13) <|
    gd (wk w (wr w a0 47) == 100) <|
    gd (inb x4 (wn w (wr w a0 47))) <|
    let w4 : AW := upI w (wr w a0 47) (Int32.toNatClampNeg x4) (0 : Int32)
    gd (wk w4 (wr w4 a0 48) == 100) <|
    gd (inb x4 (wn w4 (wr w4 a0 48))) <|
    let w7 : AW := upI w4 (wr w4 a0 48) (Int32.toNatClampNeg x4) (0 : Int32)
    let v8 : Int32 := (x4 + (1 : Int32))
    rec3 a0 x1 x2 x3 v8 w7
theorem P_M_countBy_3_B {X : AX} {l : Launch} {G : AG} {rec3 : Nat → Int32 → Int32 → Int32 → Int32 → AW → Option (AW)} (hX : XOK X b_M_countBy "RedSkyModel" 7) (hM : XM X l G { frames := 4, cells := 0, slots := 0, locals := 88 }) {o : AW} (hR : XR X none 0 0 none o) (hrec3 : ∀ (a0 : Nat) (x1 : Int32) (x2 : Int32) (x3 : Int32) (x4 : Int32) (w : AW), rec3 a0 x1 x2 x3 x4 w = some o → RJ X 7 0 0 3 [(0, vr a0), (1, vi x1), (2, vi x2), (3, vi x3), (4, vi x4)] [] w) (a0 : Nat) (x1 : Int32) (x2 : Int32) (x3 : Int32) (x4 : Int32) (w : AW) (h : F_M_countBy_3_B rec3 a0 x1 x2 x3 x4 w = some o) : RJ X 7 0 0 3 [(0, vr a0), (1, vi x1), (2, vi x2), (3, vi x3), (4, vi x4)] [] w := by
  unfold F_M_countBy_3_B at h
  refine r_iload (i := 4) hX d_M_countBy_3 4  rfl ?_
  refine r_iconst (v := (3 : Int32)) hX d_M_countBy_5 rfl ?_
  refine r_icmp_ge hX d_M_countBy_6 rfl h (fun h => ?_) (fun h => ?_)
  · refine r_iconst (v := (0 : Int32)) hX d_M_countBy_31 rfl ?_
    refine r_istore (i := 4) hX d_M_countBy_32  (by decide) ?_
    exact rj_sub [1, 2, 3, 4, 0] rfl (P_M_countBy_34 hX hM hR FUEL _ _ _ _ _ _ h)
  · refine r_aload_n (i := 0) hX d_M_countBy_9 0 rfl rfl ?_
    obtain ⟨hk1, h⟩ := gd_e h
    refine r_getR (i := 12) (f := 47) hX ci_12 (by decide) rfl fl_M_89 hk1 d_M_countBy_10 ?_
    refine r_iload (i := 4) hX d_M_countBy_13 4  rfl ?_
    refine r_iconst (v := (0 : Int32)) hX d_M_countBy_15 rfl ?_
    obtain ⟨hk2, h⟩ := gd_e h
    obtain ⟨hg3, h⟩ := gd_e h
    refine r_iast hX hk2 hg3 d_M_countBy_16 ?_
    refine r_aload_n (i := 0) hX d_M_countBy_17 0 rfl rfl ?_
    refine r_getR (i := 12) (f := 48) hX ci_12 (by decide) rfl fl_M_92 (kI hk1) d_M_countBy_18 ?_
    refine r_iload (i := 4) hX d_M_countBy_21 4  rfl ?_
    refine r_iconst (v := (0 : Int32)) hX d_M_countBy_23 rfl ?_
    obtain ⟨hk5, h⟩ := gd_e h
    obtain ⟨hg6, h⟩ := gd_e h
    refine r_iast hX hk5 hg6 d_M_countBy_24 ?_
    refine r_iinc (i := 4) (v := (1 : Int32)) hX d_M_countBy_25 4 rfl rfl (by decide) ?_
    refine r_goto hX d_M_countBy_28 rfl ?_
    exact rj_sub [1, 2, 3, 4, 0] rfl (hrec3 _ _ _ _ _ _ h)
def F_M_countBy_3 : Nat → Nat → Int32 → Int32 → Int32 → Int32 → AW → Option (AW)
  | 0 => fun _ _ _ _ _ _ => none
  | n + 1 => fun a0 x1 x2 x3 x4 w => F_M_countBy_3_B (F_M_countBy_3 n) a0 x1 x2 x3 x4 w
theorem P_M_countBy_3 {X : AX} {l : Launch} {G : AG} (hX : XOK X b_M_countBy "RedSkyModel" 7) (hM : XM X l G { frames := 4, cells := 0, slots := 0, locals := 88 }) {o : AW} (hR : XR X none 0 0 none o) (fu : Nat) : ∀ (a0 : Nat) (x1 : Int32) (x2 : Int32) (x3 : Int32) (x4 : Int32) (w : AW), F_M_countBy_3 fu a0 x1 x2 x3 x4 w = some o → RJ X 7 0 0 3 [(0, vr a0), (1, vi x1), (2, vi x2), (3, vi x3), (4, vi x4)] [] w := by
  induction fu with
  | zero => intro a0 x1 x2 x3 x4 w h; cases h
  | succ n9 ih => intro a0 x1 x2 x3 x4 w h; exact P_M_countBy_3_B hX hM hR ih _ _ _ _ _ _ h
def F_M_countBy (a0 : Nat) (x1 : Int32) (x2 : Int32) (x3 : Int32) (w : AW) : Option (AW) :=
  F_M_countBy_3 FUEL a0 x1 x2 x3 (0 : Int32) w
theorem P_M_countBy_0 {X : AX} {l : Launch} {G : AG} (hX : XOK X b_M_countBy "RedSkyModel" 7) (hM : XM X l G { frames := 4, cells := 0, slots := 0, locals := 88 }) {o : AW} (hR : XR X none 0 0 none o) (a0 : Nat) (x1 : Int32) (x2 : Int32) (x3 : Int32) (w : AW) (h : F_M_countBy a0 x1 x2 x3 w = some o) : RJ X 7 0 0 0 [(0, vr a0), (1, vi x1), (2, vi x2), (3, vi x3)] [] w := by
  unfold F_M_countBy at h
  refine r_iconst (v := (0 : Int32)) hX d_M_countBy_0 rfl ?_
  refine r_istore (i := 4) hX d_M_countBy_1  (by decide) ?_
  exact rj_sub [1, 2, 3, 4, 0] rfl (P_M_countBy_3 hX hM hR FUEL _ _ _ _ _ _ h)
theorem T_M_countBy {l : Launch} {G : AG} (a0 : Nat) (x1 : Int32) (x2 : Int32) (x3 : Int32) (w : AW) {o : AW} (h : F_M_countBy a0 x1 x2 x3 w = some o) : Mt l G y_M_countBy b_M_countBy 7 none 4 88 0 0 [vr a0, vi x1, vi x2, vi x3] w none o := mt_of (by decide) (Nat.le_of_ble_eq_true rfl) (fun X hX hR hM hI => P_M_countBy_0 hX hM hR _ _ _ _ _ h)
/-! RedSkyModel.rightOf()I -/
theorem d_M_rightOf_0 : decode b_M_rightOf 0 = .ok (.iconst 0, 1) := by decide +kernel
theorem d_M_rightOf_1 : decode b_M_rightOf 1 = .ok (.istore_n 1, 1) := by decide +kernel
theorem d_M_rightOf_2 : decode b_M_rightOf 2 = .ok (.iconst 0, 1) := by decide +kernel
theorem d_M_rightOf_3 : decode b_M_rightOf 3 = .ok (.istore_n 2, 1) := by decide +kernel
theorem d_M_rightOf_4 : decode b_M_rightOf 4 = .ok (.iload_n 2, 1) := by decide +kernel
theorem d_M_rightOf_5 : decode b_M_rightOf 5 = .ok (.iconst 3, 1) := by decide +kernel
theorem d_M_rightOf_6 : decode b_M_rightOf 6 = .ok (.if_icmp .ge (51), 3) := by decide +kernel
theorem d_M_rightOf_9 : decode b_M_rightOf 9 = .ok (.iload_n 1, 1) := by decide +kernel
theorem d_M_rightOf_10 : decode b_M_rightOf 10 = .ok (.iconst 2, 1) := by decide +kernel
theorem d_M_rightOf_11 : decode b_M_rightOf 11 = .ok (.aload_n 0, 1) := by decide +kernel
theorem d_M_rightOf_12 : decode b_M_rightOf 12 = .ok (.getfield 92, 3) := by decide +kernel
theorem d_M_rightOf_15 : decode b_M_rightOf 15 = .ok (.iload_n 2, 1) := by decide +kernel
theorem d_M_rightOf_16 : decode b_M_rightOf 16 = .ok (.iaload, 1) := by decide +kernel
theorem d_M_rightOf_17 : decode b_M_rightOf 17 = .ok (.imul, 1) := by decide +kernel
theorem d_M_rightOf_18 : decode b_M_rightOf 18 = .ok (.aload_n 0, 1) := by decide +kernel
theorem d_M_rightOf_19 : decode b_M_rightOf 19 = .ok (.getfield 89, 3) := by decide +kernel
theorem d_M_rightOf_22 : decode b_M_rightOf 22 = .ok (.iload_n 2, 1) := by decide +kernel
theorem d_M_rightOf_23 : decode b_M_rightOf 23 = .ok (.iaload, 1) := by decide +kernel
theorem d_M_rightOf_24 : decode b_M_rightOf 24 = .ok (.if_icmp .le (12), 3) := by decide +kernel
theorem d_M_rightOf_27 : decode b_M_rightOf 27 = .ok (.aload_n 0, 1) := by decide +kernel
theorem d_M_rightOf_28 : decode b_M_rightOf 28 = .ok (.getfield 92, 3) := by decide +kernel
theorem d_M_rightOf_31 : decode b_M_rightOf 31 = .ok (.iload_n 2, 1) := by decide +kernel
theorem d_M_rightOf_32 : decode b_M_rightOf 32 = .ok (.iaload, 1) := by decide +kernel
theorem d_M_rightOf_33 : decode b_M_rightOf 33 = .ok (.goto (16), 3) := by decide +kernel
theorem d_M_rightOf_36 : decode b_M_rightOf 36 = .ok (.aload_n 0, 1) := by decide +kernel
theorem d_M_rightOf_37 : decode b_M_rightOf 37 = .ok (.getfield 89, 3) := by decide +kernel
theorem d_M_rightOf_40 : decode b_M_rightOf 40 = .ok (.iload_n 2, 1) := by decide +kernel
theorem d_M_rightOf_41 : decode b_M_rightOf 41 = .ok (.iaload, 1) := by decide +kernel
theorem d_M_rightOf_42 : decode b_M_rightOf 42 = .ok (.aload_n 0, 1) := by decide +kernel
theorem d_M_rightOf_43 : decode b_M_rightOf 43 = .ok (.getfield 92, 3) := by decide +kernel
theorem d_M_rightOf_46 : decode b_M_rightOf 46 = .ok (.iload_n 2, 1) := by decide +kernel
theorem d_M_rightOf_47 : decode b_M_rightOf 47 = .ok (.iaload, 1) := by decide +kernel
theorem d_M_rightOf_48 : decode b_M_rightOf 48 = .ok (.isub, 1) := by decide +kernel
theorem d_M_rightOf_49 : decode b_M_rightOf 49 = .ok (.iadd, 1) := by decide +kernel
theorem d_M_rightOf_50 : decode b_M_rightOf 50 = .ok (.istore_n 1, 1) := by decide +kernel
theorem d_M_rightOf_51 : decode b_M_rightOf 51 = .ok (.iinc 2 (1), 3) := by decide +kernel
theorem d_M_rightOf_54 : decode b_M_rightOf 54 = .ok (.goto (-50), 3) := by decide +kernel
theorem d_M_rightOf_57 : decode b_M_rightOf 57 = .ok (.iload_n 1, 1) := by decide +kernel
theorem d_M_rightOf_58 : decode b_M_rightOf 58 = .ok (.ireturn, 1) := by decide +kernel
def F_M_rightOf_4_B (rec4 : Nat → Int32 → Int32 → Option (Int32)) (w : AW) (a0 : Nat) (x1 : Int32) (x2 : Int32) : Option (Int32) :=
  if (3 : Int32) ≤ x2 then
    some x1
  else
    gd (wk w a0 == 13) <|
    gd (wk w (wr w a0 48) == 100) <|
    gd (inb x2 (wn w (wr w a0 48))) <|
    gd (wk w (wr w a0 47) == 100) <|
    gd (inb x2 (wn w (wr w a0 47))) <|
    if ((2 : Int32) * (wi w (wr w a0 48) (Int32.toNatClampNeg x2))) ≤ (wi w (wr w a0 47) (Int32.toNatClampNeg x2)) then
      gd (inb x2 (wn w (wr w a0 47))) <|
      gd (inb x2 (wn w (wr w a0 48))) <|
      let v8 : Int32 := (x1 + ((wi w (wr w a0 47) (Int32.toNatClampNeg x2)) - (wi w (wr w a0 48) (Int32.toNatClampNeg x2))))
      let v9 : Int32 := (x2 + (1 : Int32))
      rec4 a0 v8 v9
    else
      gd (inb x2 (wn w (wr w a0 48))) <|
      let v11 : Int32 := (x1 + (wi w (wr w a0 48) (Int32.toNatClampNeg x2)))
      let v12 : Int32 := (x2 + (1 : Int32))
      rec4 a0 v11 v12
theorem P_M_rightOf_4_B {X : AX} {l : Launch} {G : AG} {w : AW} {rec4 : Nat → Int32 → Int32 → Option (Int32)} (hX : XOK X b_M_rightOf "RedSkyModel" 3) (hM : XM X l G { frames := 0, cells := 0, slots := 0, locals := 0 }) {o : Int32} (hR : XR X (some .int) 0 0 (some (vi o)) w) (hrec4 : ∀ (a0 : Nat) (x1 : Int32) (x2 : Int32), rec4 a0 x1 x2 = some o → RJ X 3 0 0 4 [(0, vr a0), (1, vi x1), (2, vi x2)] [] w) (a0 : Nat) (x1 : Int32) (x2 : Int32) (h : F_M_rightOf_4_B rec4 w a0 x1 x2 = some o) : RJ X 3 0 0 4 [(0, vr a0), (1, vi x1), (2, vi x2)] [] w := by
  unfold F_M_rightOf_4_B at h
  refine r_iload_n (i := 2) hX d_M_rightOf_4 2 rfl rfl ?_
  refine r_iconst (v := (3 : Int32)) hX d_M_rightOf_5 rfl ?_
  refine r_icmp_ge hX d_M_rightOf_6 rfl h (fun h => ?_) (fun h => ?_)
  · refine r_iload_n (i := 1) hX d_M_rightOf_57 1 rfl rfl ?_
    cases h; exact r_iret hX hR d_M_rightOf_58
  · refine r_iload_n (i := 1) hX d_M_rightOf_9 1 rfl rfl ?_
    refine r_iconst (v := (2 : Int32)) hX d_M_rightOf_10 rfl ?_
    refine r_aload_n (i := 0) hX d_M_rightOf_11 0 rfl rfl ?_
    obtain ⟨hk1, h⟩ := gd_e h
    refine r_getR (i := 12) (f := 48) hX ci_12 (by decide) rfl fl_M_92 hk1 d_M_rightOf_12 ?_
    refine r_iload_n (i := 2) hX d_M_rightOf_15 2 rfl rfl ?_
    obtain ⟨hk2, h⟩ := gd_e h
    obtain ⟨hg3, h⟩ := gd_e h
    refine r_iald hX hk2 hg3 d_M_rightOf_16 ?_
    refine r_imul hX d_M_rightOf_17 ?_
    refine r_aload_n (i := 0) hX d_M_rightOf_18 0 rfl rfl ?_
    refine r_getR (i := 12) (f := 47) hX ci_12 (by decide) rfl fl_M_89 hk1 d_M_rightOf_19 ?_
    refine r_iload_n (i := 2) hX d_M_rightOf_22 2 rfl rfl ?_
    obtain ⟨hk4, h⟩ := gd_e h
    obtain ⟨hg5, h⟩ := gd_e h
    refine r_iald hX hk4 hg5 d_M_rightOf_23 ?_
    refine r_icmp_le hX d_M_rightOf_24 rfl h (fun h => ?_) (fun h => ?_)
    · refine r_aload_n (i := 0) hX d_M_rightOf_36 0 rfl rfl ?_
      refine r_getR (i := 12) (f := 47) hX ci_12 (by decide) rfl fl_M_89 hk1 d_M_rightOf_37 ?_
      refine r_iload_n (i := 2) hX d_M_rightOf_40 2 rfl rfl ?_
      obtain ⟨hg6, h⟩ := gd_e h
      refine r_iald hX hk4 hg6 d_M_rightOf_41 ?_
      refine r_aload_n (i := 0) hX d_M_rightOf_42 0 rfl rfl ?_
      refine r_getR (i := 12) (f := 48) hX ci_12 (by decide) rfl fl_M_92 hk1 d_M_rightOf_43 ?_
      refine r_iload_n (i := 2) hX d_M_rightOf_46 2 rfl rfl ?_
      obtain ⟨hg7, h⟩ := gd_e h
      refine r_iald hX hk2 hg7 d_M_rightOf_47 ?_
      refine r_isub hX d_M_rightOf_48 ?_
      refine r_iadd hX d_M_rightOf_49 ?_
      refine r_istore_n (i := 1) hX d_M_rightOf_50 rfl (by decide) ?_
      refine r_iinc (i := 2) (v := (1 : Int32)) hX d_M_rightOf_51 2 rfl rfl (by decide) ?_
      refine r_goto hX d_M_rightOf_54 rfl ?_
      exact rj_sub [2, 1, 0] rfl (hrec4 _ _ _ h)
    · refine r_aload_n (i := 0) hX d_M_rightOf_27 0 rfl rfl ?_
      refine r_getR (i := 12) (f := 48) hX ci_12 (by decide) rfl fl_M_92 hk1 d_M_rightOf_28 ?_
      refine r_iload_n (i := 2) hX d_M_rightOf_31 2 rfl rfl ?_
      obtain ⟨hg10, h⟩ := gd_e h
      refine r_iald hX hk2 hg10 d_M_rightOf_32 ?_
      refine r_goto hX d_M_rightOf_33 rfl ?_
      refine r_iadd hX d_M_rightOf_49 ?_
      refine r_istore_n (i := 1) hX d_M_rightOf_50 rfl (by decide) ?_
      refine r_iinc (i := 2) (v := (1 : Int32)) hX d_M_rightOf_51 2 rfl rfl (by decide) ?_
      refine r_goto hX d_M_rightOf_54 rfl ?_
      exact rj_sub [2, 1, 0] rfl (hrec4 _ _ _ h)
def F_M_rightOf_4 (w : AW) : Nat → Nat → Int32 → Int32 → Option (Int32)
  | 0 => fun _ _ _ => none
  | n + 1 => fun a0 x1 x2 => F_M_rightOf_4_B (F_M_rightOf_4 w n) w a0 x1 x2
theorem P_M_rightOf_4 {X : AX} {l : Launch} {G : AG} {w : AW} (hX : XOK X b_M_rightOf "RedSkyModel" 3) (hM : XM X l G { frames := 0, cells := 0, slots := 0, locals := 0 }) {o : Int32} (hR : XR X (some .int) 0 0 (some (vi o)) w) (fu : Nat) : ∀ (a0 : Nat) (x1 : Int32) (x2 : Int32), F_M_rightOf_4 w fu a0 x1 x2 = some o → RJ X 3 0 0 4 [(0, vr a0), (1, vi x1), (2, vi x2)] [] w := by
  induction fu with
  | zero => intro a0 x1 x2 h; cases h
  | succ n9 ih => intro a0 x1 x2 h; exact P_M_rightOf_4_B hX hM hR ih _ _ _ h
def F_M_rightOf (w : AW) (a0 : Nat) : Option (Int32) :=
  F_M_rightOf_4 w FUEL a0 (0 : Int32) (0 : Int32)
theorem P_M_rightOf_0 {X : AX} {l : Launch} {G : AG} {w : AW} (hX : XOK X b_M_rightOf "RedSkyModel" 3) (hM : XM X l G { frames := 0, cells := 0, slots := 0, locals := 0 }) {o : Int32} (hR : XR X (some .int) 0 0 (some (vi o)) w) (a0 : Nat) (h : F_M_rightOf w a0 = some o) : RJ X 3 0 0 0 [(0, vr a0)] [] w := by
  unfold F_M_rightOf at h
  refine r_iconst (v := (0 : Int32)) hX d_M_rightOf_0 rfl ?_
  refine r_istore_n (i := 1) hX d_M_rightOf_1 rfl (by decide) ?_
  refine r_iconst (v := (0 : Int32)) hX d_M_rightOf_2 rfl ?_
  refine r_istore_n (i := 2) hX d_M_rightOf_3 rfl (by decide) ?_
  exact rj_sub [2, 1, 0] rfl (P_M_rightOf_4 hX hM hR FUEL _ _ _ h)
theorem T_M_rightOf {l : Launch} {G : AG} (w : AW) (a0 : Nat) {o : Int32} (h : F_M_rightOf w a0 = some o) : Mt l G y_M_rightOf b_M_rightOf 3 (some (.int)) 0 0 0 0 [vr a0] w (some (vi o)) w := mt_of (by decide) (Nat.le_of_ble_eq_true rfl) (fun X hX hR hM hI => P_M_rightOf_0 hX hM hR _ h)
