/-! java/util/Arrays.fill([II)V -/
theorem d_Jarr_fill_aII_0 : decode b_Jarr_fill_aII 0 = .ok (.iconst 0, 1) := by decide +kernel
theorem d_Jarr_fill_aII_1 : decode b_Jarr_fill_aII 1 = .ok (.istore_n 2, 1) := by decide +kernel
theorem d_Jarr_fill_aII_2 : decode b_Jarr_fill_aII 2 = .ok (.aload_n 0, 1) := by decide +kernel
theorem d_Jarr_fill_aII_3 : decode b_Jarr_fill_aII 3 = .ok (.arraylength, 1) := by decide +kernel
theorem d_Jarr_fill_aII_4 : decode b_Jarr_fill_aII 4 = .ok (.istore_n 3, 1) := by decide +kernel
theorem d_Jarr_fill_aII_5 : decode b_Jarr_fill_aII 5 = .ok (.iload_n 2, 1) := by decide +kernel
theorem d_Jarr_fill_aII_6 : decode b_Jarr_fill_aII 6 = .ok (.iload_n 3, 1) := by decide +kernel
theorem d_Jarr_fill_aII_7 : decode b_Jarr_fill_aII 7 = .ok (.if_icmp .ge (13), 3) := by decide +kernel
theorem d_Jarr_fill_aII_10 : decode b_Jarr_fill_aII 10 = .ok (.aload_n 0, 1) := by decide +kernel
theorem d_Jarr_fill_aII_11 : decode b_Jarr_fill_aII 11 = .ok (.iload_n 2, 1) := by decide +kernel
theorem d_Jarr_fill_aII_12 : decode b_Jarr_fill_aII 12 = .ok (.iload_n 1, 1) := by decide +kernel
theorem d_Jarr_fill_aII_13 : decode b_Jarr_fill_aII 13 = .ok (.iastore, 1) := by decide +kernel
theorem d_Jarr_fill_aII_14 : decode b_Jarr_fill_aII 14 = .ok (.iinc 2 (1), 3) := by decide +kernel
theorem d_Jarr_fill_aII_17 : decode b_Jarr_fill_aII 17 = .ok (.goto (-12), 3) := by decide +kernel
theorem d_Jarr_fill_aII_20 : decode b_Jarr_fill_aII 20 = .ok (.return_, 1) := by decide +kernel
def F_Jarr_fill_aII_5_B (rec5 : Nat → Int32 → Int32 → Int32 → AW → Option (AW)) (a0 : Nat) (x1 : Int32) (x2 : Int32) (x3 : Int32) (w : AW) : Option (AW) :=
  if x3 ≤ x2 then
    some w
  else
    gd (wk w a0 == 100) <|
    gd (inb x2 (wn w a0)) <|
    let w3 : AW := upI w a0 (Int32.toNatClampNeg x2) x1
    let v4 : Int32 := (x2 + (1 : Int32))
    rec5 a0 x1 v4 x3 w3
theorem P_Jarr_fill_aII_5_B {X : AX} {l : Launch} {G : AG} {rec5 : Nat → Int32 → Int32 → Int32 → AW → Option (AW)} (hX : XOK X b_Jarr_fill_aII "java/util/Arrays" 4) (hM : XM X l G { frames := 0, cells := 0, slots := 0, locals := 0 }) {o : AW} (hR : XR X none 0 0 none o) (hrec5 : ∀ (a0 : Nat) (x1 : Int32) (x2 : Int32) (x3 : Int32) (w : AW), rec5 a0 x1 x2 x3 w = some o → RJ X 4 0 0 5 [(0, vr a0), (1, vi x1), (2, vi x2), (3, vi x3)] [] w) (a0 : Nat) (x1 : Int32) (x2 : Int32) (x3 : Int32) (w : AW) (h : F_Jarr_fill_aII_5_B rec5 a0 x1 x2 x3 w = some o) : RJ X 4 0 0 5 [(0, vr a0), (1, vi x1), (2, vi x2), (3, vi x3)] [] w := by
  unfold F_Jarr_fill_aII_5_B at h
  refine r_iload_n (i := 2) hX d_Jarr_fill_aII_5 2 rfl rfl ?_
  refine r_iload_n (i := 3) hX d_Jarr_fill_aII_6 3 rfl rfl ?_
  refine r_icmp_ge hX d_Jarr_fill_aII_7 rfl h (fun h => ?_) (fun h => ?_)
  · cases h; exact r_vret hX hR d_Jarr_fill_aII_20
  · refine r_aload_n (i := 0) hX d_Jarr_fill_aII_10 0 rfl rfl ?_
    refine r_iload_n (i := 2) hX d_Jarr_fill_aII_11 2 rfl rfl ?_
    refine r_iload_n (i := 1) hX d_Jarr_fill_aII_12 1 rfl rfl ?_
    obtain ⟨hk1, h⟩ := gd_e h
    obtain ⟨hg2, h⟩ := gd_e h
    refine r_iast hX hk1 hg2 d_Jarr_fill_aII_13 ?_
    refine r_iinc (i := 2) (v := (1 : Int32)) hX d_Jarr_fill_aII_14 2 rfl rfl (by decide) ?_
    refine r_goto hX d_Jarr_fill_aII_17 rfl ?_
    exact rj_sub [1, 2, 0, 3] rfl (hrec5 _ _ _ _ _ h)
def F_Jarr_fill_aII_5 : Nat → Nat → Int32 → Int32 → Int32 → AW → Option (AW)
  | 0 => fun _ _ _ _ _ => none
  | n + 1 => fun a0 x1 x2 x3 w => F_Jarr_fill_aII_5_B (F_Jarr_fill_aII_5 n) a0 x1 x2 x3 w
theorem P_Jarr_fill_aII_5 {X : AX} {l : Launch} {G : AG} (hX : XOK X b_Jarr_fill_aII "java/util/Arrays" 4) (hM : XM X l G { frames := 0, cells := 0, slots := 0, locals := 0 }) {o : AW} (hR : XR X none 0 0 none o) (fu : Nat) : ∀ (a0 : Nat) (x1 : Int32) (x2 : Int32) (x3 : Int32) (w : AW), F_Jarr_fill_aII_5 fu a0 x1 x2 x3 w = some o → RJ X 4 0 0 5 [(0, vr a0), (1, vi x1), (2, vi x2), (3, vi x3)] [] w := by
  induction fu with
  | zero => intro a0 x1 x2 x3 w h; cases h
  | succ n9 ih => intro a0 x1 x2 x3 w h; exact P_Jarr_fill_aII_5_B hX hM hR ih _ _ _ _ _ h
def F_Jarr_fill_aII (a0 : Nat) (x1 : Int32) (w : AW) : Option (AW) :=
  gd (wk w a0 == 100) <|
  let v2 : Int32 := (Int32.ofNat (wn w a0))
  F_Jarr_fill_aII_5 FUEL a0 x1 (0 : Int32) v2 w
theorem P_Jarr_fill_aII_0 {X : AX} {l : Launch} {G : AG} (hX : XOK X b_Jarr_fill_aII "java/util/Arrays" 4) (hM : XM X l G { frames := 0, cells := 0, slots := 0, locals := 0 }) {o : AW} (hR : XR X none 0 0 none o) (a0 : Nat) (x1 : Int32) (w : AW) (h : F_Jarr_fill_aII a0 x1 w = some o) : RJ X 4 0 0 0 [(0, vr a0), (1, vi x1)] [] w := by
  unfold F_Jarr_fill_aII at h
  refine r_iconst (v := (0 : Int32)) hX d_Jarr_fill_aII_0 rfl ?_
  refine r_istore_n (i := 2) hX d_Jarr_fill_aII_1 rfl (by decide) ?_
  refine r_aload_n (i := 0) hX d_Jarr_fill_aII_2 1 rfl rfl ?_
  obtain ⟨hk1, h⟩ := gd_e h
  refine r_alenI hX hk1 d_Jarr_fill_aII_3 ?_
  refine r_istore_n (i := 3) hX d_Jarr_fill_aII_4 rfl (by decide) ?_
  exact rj_sub [2, 3, 1, 0] rfl (P_Jarr_fill_aII_5 hX hM hR FUEL _ _ _ _ _ h)
theorem T_Jarr_fill_aII {l : Launch} {G : AG} (a0 : Nat) (x1 : Int32) (w : AW) {o : AW} (h : F_Jarr_fill_aII a0 x1 w = some o) : Mt l G y_Jarr_fill_aII b_Jarr_fill_aII 4 none 0 0 0 0 [vr a0, vi x1] w none o := mt_of (by decide) (Nat.le_of_ble_eq_true rfl) (fun X hX hR hM hI => P_Jarr_fill_aII_0 hX hM hR _ _ _ h)
/-! RedSky$Calendar.<init>()V -/
theorem d_Ca_init_0 : decode b_Ca_init 0 = .ok (.aload_n 0, 1) := by decide +kernel
theorem d_Ca_init_1 : decode b_Ca_init 1 = .ok (.invokespecial 3, 3) := by decide +kernel
theorem d_Ca_init_4 : decode b_Ca_init 4 = .ok (.aload_n 0, 1) := by decide +kernel
theorem d_Ca_init_5 : decode b_Ca_init 5 = .ok (.iconst 1, 1) := by decide +kernel
theorem d_Ca_init_6 : decode b_Ca_init 6 = .ok (.putfield 9, 3) := by decide +kernel
theorem d_Ca_init_9 : decode b_Ca_init 9 = .ok (.aload_n 0, 1) := by decide +kernel
theorem d_Ca_init_10 : decode b_Ca_init 10 = .ok (.bipush (8), 2) := by decide +kernel
theorem d_Ca_init_12 : decode b_Ca_init 12 = .ok (.newarray .int, 2) := by decide +kernel
theorem d_Ca_init_14 : decode b_Ca_init 14 = .ok (.putfield 15, 3) := by decide +kernel
theorem d_Ca_init_17 : decode b_Ca_init 17 = .ok (.aload_n 0, 1) := by decide +kernel
theorem d_Ca_init_18 : decode b_Ca_init 18 = .ok (.bipush (8), 2) := by decide +kernel
theorem d_Ca_init_20 : decode b_Ca_init 20 = .ok (.newarray .int, 2) := by decide +kernel
theorem d_Ca_init_22 : decode b_Ca_init 22 = .ok (.putfield 19, 3) := by decide +kernel
theorem d_Ca_init_25 : decode b_Ca_init 25 = .ok (.aload_n 0, 1) := by decide +kernel
theorem d_Ca_init_26 : decode b_Ca_init 26 = .ok (.bipush (8), 2) := by decide +kernel
theorem d_Ca_init_28 : decode b_Ca_init 28 = .ok (.newarray .int, 2) := by decide +kernel
theorem d_Ca_init_30 : decode b_Ca_init 30 = .ok (.putfield 22, 3) := by decide +kernel
theorem d_Ca_init_33 : decode b_Ca_init 33 = .ok (.aload_n 0, 1) := by decide +kernel
theorem d_Ca_init_34 : decode b_Ca_init 34 = .ok (.bipush (8), 2) := by decide +kernel
theorem d_Ca_init_36 : decode b_Ca_init 36 = .ok (.newarray .int, 2) := by decide +kernel
theorem d_Ca_init_38 : decode b_Ca_init 38 = .ok (.putfield 25, 3) := by decide +kernel
theorem d_Ca_init_41 : decode b_Ca_init 41 = .ok (.aload_n 0, 1) := by decide +kernel
theorem d_Ca_init_42 : decode b_Ca_init 42 = .ok (.getfield 15, 3) := by decide +kernel
theorem d_Ca_init_45 : decode b_Ca_init 45 = .ok (.iconst 1, 1) := by decide +kernel
theorem d_Ca_init_46 : decode b_Ca_init 46 = .ok (.invokestatic 28, 3) := by decide +kernel
theorem d_Ca_init_49 : decode b_Ca_init 49 = .ok (.aload_n 0, 1) := by decide +kernel
theorem d_Ca_init_50 : decode b_Ca_init 50 = .ok (.getfield 19, 3) := by decide +kernel
theorem d_Ca_init_53 : decode b_Ca_init 53 = .ok (.iconst 1, 1) := by decide +kernel
theorem d_Ca_init_54 : decode b_Ca_init 54 = .ok (.invokestatic 28, 3) := by decide +kernel
theorem d_Ca_init_57 : decode b_Ca_init 57 = .ok (.return_, 1) := by decide +kernel
def F_Ca_init_33 (z0 q0 : Nat) (a0 : Nat) (w : AW) : Option (AW) :=
  gd (Nat.blt (wz w) (z0 + 4) && Nat.ble (wq w + 8) (q0 + 32)) <|
  let p2 : Nat := wz w
  let w3 : AW := wnew w 100 8 8
  gd (wk w3 a0 == 2) <|
  let w5 : AW := upR w3 a0 4 p2
  gd (Nat.ble (wz w5 + 0) (z0 + 4) && Nat.ble (wq w5 + 0) (q0 + 32)) <|
  (F_Jarr_fill_aII (wr w5 a0 1) (1 : Int32) w5).bind fun r7 =>
  gd ((wz r7 == wz w5 + 0) && (wq r7 == wq w5 + 0)) <|
  gd (wk r7 a0 == 2) <|
  gd (Nat.ble (wz r7 + 0) (z0 + 4) && Nat.ble (wq r7 + 0) (q0 + 32)) <|
  (F_Jarr_fill_aII (wr r7 a0 2) (1 : Int32) r7).bind fun r12 =>
  gd ((wz r12 == wz r7 + 0) && (wq r12 == wq r7 + 0)) <|
  gd ((wz r12 == z0 + 4) && (wq r12 == q0 + 32)) <|
  some r12
theorem P_Ca_init_33 {X : AX} {l : Launch} {G : AG} {z0 q0 : Nat} (hX : XOK X b_Ca_init "RedSky$Calendar" 1) (hM : XM X l G { frames := 1, cells := 4, slots := 32, locals := 24 }) {o : AW} (hR : XR X none 4 32 none o) (hI : XI X) (k n : Nat) (a0 : Nat) (w : AW) (h : F_Ca_init_33 z0 q0 a0 w = some o) (hzz : z0 + k = wz w) (hqq : q0 + n = wq w) : RJ X 1 k n 33 [(0, vr a0)] [] w := by
  unfold F_Ca_init_33 at h
  refine r_aload_n (i := 0) hX d_Ca_init_33 0 rfl rfl ?_
  refine r_bipush (v := (8 : Int32)) hX d_Ca_init_34 rfl ?_
  obtain ⟨hg1, h⟩ := gd_e h
  refine r_newarr (kd := 100) (N := 8) hX hM (by decide) aw_int (fun G => rfl) (by intro D9 h9; cases h9) rfl (by decide) (by decide) (by decide) (al_1 hzz hg1) (al_2 hqq hg1) d_Ca_init_36 ?_
  obtain ⟨hk4, h⟩ := gd_e h
  refine r_putRF (i := 1) (f := 4) hX ci_1 (by decide) rfl rfl hI rfl (fun G => nw_r _ _) (fun G => ft_r _ _) fl_Ca_25 hk4 d_Ca_init_38 ?_
  refine r_aload_n (i := 0) hX d_Ca_init_41 0 rfl rfl ?_
  refine r_getR (i := 1) (f := 1) hX ci_1 (by decide) rfl fl_Ca_15 (kR hk4) d_Ca_init_42 ?_
  refine r_iconst (v := (1 : Int32)) hX d_Ca_init_45 rfl ?_
  obtain ⟨hg6, h⟩ := gd_e h
  obtain ⟨r7, hr8, h⟩ := bd_e h
  refine r_callS0 (As := [_, _]) hX hM mw_Ca_28 (T_Jarr_fill_aII _ _ _ hr8) rfl rfl (al_3 (zR (al_k 100 8 8 hzz)) (qR (al_q 100 8 8 hqq)) hg6) rfl rfl d_Ca_init_46 ?_
  obtain ⟨hg9, h⟩ := gd_e h
  refine r_aload_n (i := 0) hX d_Ca_init_49 0 rfl rfl ?_
  obtain ⟨hk10, h⟩ := gd_e h
  refine r_getR (i := 1) (f := 2) hX ci_1 (by decide) rfl fl_Ca_19 hk10 d_Ca_init_50 ?_
  refine r_iconst (v := (1 : Int32)) hX d_Ca_init_53 rfl ?_
  obtain ⟨hg11, h⟩ := gd_e h
  obtain ⟨r12, hr13, h⟩ := bd_e h
  refine r_callS0 (As := [_, _]) hX hM mw_Ca_28 (T_Jarr_fill_aII _ _ _ hr13) rfl rfl (al_3 (al_ck (c := 0) (zR (al_k 100 8 8 hzz)) hg9) (al_cq (d := 0) (qR (al_q 100 8 8 hqq)) hg9) hg11) rfl rfl d_Ca_init_54 ?_
  obtain ⟨hg14, h⟩ := gd_e h
  obtain ⟨hg15, h⟩ := gd_e h
  cases h; exact rj_kn (al_e (al_ck (c := 0) (al_ck (c := 0) (zR (al_k 100 8 8 hzz)) hg9) hg14) (al_cq (d := 0) (al_cq (d := 0) (qR (al_q 100 8 8 hqq)) hg9) hg14) hg15) (r_vret hX hR d_Ca_init_57)
def F_Ca_init (a0 : Nat) (w : AW) : Option (AW) :=
  gd (wk w a0 == 2) <|
  let w2 : AW := upI w a0 0 (1 : Int32)
  gd (Nat.blt (wz w2) ((wz w) + 4) && Nat.ble (wq w2 + 8) ((wq w) + 32)) <|
  let p4 : Nat := wz w2
  let w5 : AW := wnew w2 100 8 8
  gd (wk w5 a0 == 2) <|
  let w7 : AW := upR w5 a0 1 p4
  gd (Nat.blt (wz w7) ((wz w) + 4) && Nat.ble (wq w7 + 8) ((wq w) + 32)) <|
  let p9 : Nat := wz w7
  let w10 : AW := wnew w7 100 8 8
  gd (wk w10 a0 == 2) <|
  let w12 : AW := upR w10 a0 2 p9
  gd (Nat.blt (wz w12) ((wz w) + 4) && Nat.ble (wq w12 + 8) ((wq w) + 32)) <|
  let p14 : Nat := wz w12
  let w15 : AW := wnew w12 100 8 8
  gd (wk w15 a0 == 2) <|
  let w17 : AW := upR w15 a0 3 p14
  F_Ca_init_33 (wz w) (wq w) a0 w17
theorem P_Ca_init_0 {X : AX} {l : Launch} {G : AG} (hX : XOK X b_Ca_init "RedSky$Calendar" 1) (hM : XM X l G { frames := 1, cells := 4, slots := 32, locals := 24 }) {o : AW} (hR : XR X none 4 32 none o) (hI : XI X) (k n : Nat) (a0 : Nat) (w : AW) (h : F_Ca_init a0 w = some o) (hzz : wz w + k = wz w) (hqq : wq w + n = wq w) : RJ X 1 k n 0 [(0, vr a0)] [] w := by
  unfold F_Ca_init at h
  refine r_aload_n (i := 0) hX d_Ca_init_0 0 rfl rfl ?_
  obtain ⟨hk1, h⟩ := gd_e h
  refine r_objInit hX hM ow_Ca (kn_ne hk1) (by decide) (by decide) d_Ca_init_1 ?_
  refine r_aload_n (i := 0) hX d_Ca_init_4 0 rfl rfl ?_
  refine r_iconst (v := (1 : Int32)) hX d_Ca_init_5 rfl ?_
  refine r_putI (i := 1) (f := 0) hX ci_1 (by decide) rfl rfl (fun G => rfl) (fun G => rfl) fl_Ca_9 hk1 d_Ca_init_6 ?_
  refine r_aload_n (i := 0) hX d_Ca_init_9 0 rfl rfl ?_
  refine r_bipush (v := (8 : Int32)) hX d_Ca_init_10 rfl ?_
  obtain ⟨hg3, h⟩ := gd_e h
  refine r_newarr (kd := 100) (N := 8) hX hM (by decide) aw_int (fun G => rfl) (by intro D9 h9; cases h9) rfl (by decide) (by decide) (by decide) (al_1 (zI hzz) hg3) (al_2 (qI hqq) hg3) d_Ca_init_12 ?_
  obtain ⟨hk6, h⟩ := gd_e h
  refine r_putRF (i := 1) (f := 1) hX ci_1 (by decide) rfl rfl hI rfl (fun G => nw_r _ _) (fun G => ft_r _ _) fl_Ca_15 hk6 d_Ca_init_14 ?_
  refine r_aload_n (i := 0) hX d_Ca_init_17 0 rfl rfl ?_
  refine r_bipush (v := (8 : Int32)) hX d_Ca_init_18 rfl ?_
  obtain ⟨hg8, h⟩ := gd_e h
  refine r_newarr (kd := 100) (N := 8) hX hM (by decide) aw_int (fun G => rfl) (by intro D9 h9; cases h9) rfl (by decide) (by decide) (by decide) (al_1 (zR (al_k 100 8 8 (zI hzz))) hg8) (al_2 (qR (al_q 100 8 8 (qI hqq))) hg8) d_Ca_init_20 ?_
  obtain ⟨hk11, h⟩ := gd_e h
  refine r_putRF (i := 1) (f := 2) hX ci_1 (by decide) rfl rfl hI rfl (fun G => nw_r _ _) (fun G => ft_r _ _) fl_Ca_19 hk11 d_Ca_init_22 ?_
  refine r_aload_n (i := 0) hX d_Ca_init_25 0 rfl rfl ?_
  refine r_bipush (v := (8 : Int32)) hX d_Ca_init_26 rfl ?_
  obtain ⟨hg13, h⟩ := gd_e h
  refine r_newarr (kd := 100) (N := 8) hX hM (by decide) aw_int (fun G => rfl) (by intro D9 h9; cases h9) rfl (by decide) (by decide) (by decide) (al_1 (zR (al_k 100 8 8 (zR (al_k 100 8 8 (zI hzz))))) hg13) (al_2 (qR (al_q 100 8 8 (qR (al_q 100 8 8 (qI hqq))))) hg13) d_Ca_init_28 ?_
  obtain ⟨hk16, h⟩ := gd_e h
  refine r_putRF (i := 1) (f := 3) hX ci_1 (by decide) rfl rfl hI rfl (fun G => nw_r _ _) (fun G => ft_r _ _) fl_Ca_22 hk16 d_Ca_init_30 ?_
  exact rj_sub [0] rfl (P_Ca_init_33 hX hM hR hI _ _ _ _ h  (zR (al_k 100 8 8 (zR (al_k 100 8 8 (zR (al_k 100 8 8 (zI hzz))))))) (qR (al_q 100 8 8 (qR (al_q 100 8 8 (qR (al_q 100 8 8 (qI hqq))))))))
theorem T_Ca_init {l : Launch} {G : AG} (a0 : Nat) (w : AW) {o : AW} (h : F_Ca_init a0 w = some o) : Mt l G y_Ca_init b_Ca_init 1 none 1 24 4 32 [vr a0] w none o := mt_of (by decide) (Nat.le_of_ble_eq_true rfl) (fun X hX hR hM hI => P_Ca_init_0 hX hM hR (hI rfl) 0 0 _ _ h rfl rfl)
/-! RedSky$Condition.<init>()V -/
theorem d_Co_init_0 : decode b_Co_init 0 = .ok (.aload_n 0, 1) := by decide +kernel
theorem d_Co_init_1 : decode b_Co_init 1 = .ok (.invokespecial 3, 3) := by decide +kernel
theorem d_Co_init_4 : decode b_Co_init 4 = .ok (.aload_n 0, 1) := by decide +kernel
theorem d_Co_init_5 : decode b_Co_init 5 = .ok (.bipush (80), 2) := by decide +kernel
theorem d_Co_init_7 : decode b_Co_init 7 = .ok (.newarray .byte, 2) := by decide +kernel
theorem d_Co_init_9 : decode b_Co_init 9 = .ok (.putfield 9, 3) := by decide +kernel
theorem d_Co_init_12 : decode b_Co_init 12 = .ok (.aload_n 0, 1) := by decide +kernel
theorem d_Co_init_13 : decode b_Co_init 13 = .ok (.bipush (80), 2) := by decide +kernel
theorem d_Co_init_15 : decode b_Co_init 15 = .ok (.newarray .short, 2) := by decide +kernel
theorem d_Co_init_17 : decode b_Co_init 17 = .ok (.putfield 15, 3) := by decide +kernel
theorem d_Co_init_20 : decode b_Co_init 20 = .ok (.return_, 1) := by decide +kernel
def F_Co_init (a0 : Nat) (w : AW) : Option (AW) :=
  gd (wk w a0 == 6) <|
  gd (Nat.blt (wz w) ((wz w) + 2) && Nat.ble (wq w + 80) ((wq w) + 160)) <|
  let p3 : Nat := wz w
  let w4 : AW := wnew w 102 80 80
  gd (wk w4 a0 == 6) <|
  let w6 : AW := upR w4 a0 0 p3
  gd (Nat.blt (wz w6) ((wz w) + 2) && Nat.ble (wq w6 + 80) ((wq w) + 160)) <|
  let p8 : Nat := wz w6
  let w9 : AW := wnew w6 103 80 80
  gd (wk w9 a0 == 6) <|
  let w11 : AW := upR w9 a0 1 p8
  gd ((wz w11 == (wz w) + 2) && (wq w11 == (wq w) + 160)) <|
  some w11
theorem P_Co_init_0 {X : AX} {l : Launch} {G : AG} (hX : XOK X b_Co_init "RedSky$Condition" 1) (hM : XM X l G { frames := 1, cells := 2, slots := 160, locals := 24 }) {o : AW} (hR : XR X none 2 160 none o) (hI : XI X) (k n : Nat) (a0 : Nat) (w : AW) (h : F_Co_init a0 w = some o) (hzz : wz w + k = wz w) (hqq : wq w + n = wq w) : RJ X 1 k n 0 [(0, vr a0)] [] w := by
  unfold F_Co_init at h
  refine r_aload_n (i := 0) hX d_Co_init_0 0 rfl rfl ?_
  obtain ⟨hk1, h⟩ := gd_e h
  refine r_objInit hX hM ow_Co (kn_ne hk1) (by decide) (by decide) d_Co_init_1 ?_
  refine r_aload_n (i := 0) hX d_Co_init_4 0 rfl rfl ?_
  refine r_bipush (v := (80 : Int32)) hX d_Co_init_5 rfl ?_
  obtain ⟨hg2, h⟩ := gd_e h
  refine r_newarr (kd := 102) (N := 80) hX hM (by decide) aw_byte (fun G => rfl) (by intro D9 h9; cases h9) rfl (by decide) (by decide) (by decide) (al_1 hzz hg2) (al_2 hqq hg2) d_Co_init_7 ?_
  obtain ⟨hk5, h⟩ := gd_e h
  refine r_putRF (i := 5) (f := 0) hX ci_5 (by decide) rfl rfl hI rfl (fun G => nw_r _ _) (fun G => ft_r _ _) fl_Co_9 hk5 d_Co_init_9 ?_
  refine r_aload_n (i := 0) hX d_Co_init_12 0 rfl rfl ?_
  refine r_bipush (v := (80 : Int32)) hX d_Co_init_13 rfl ?_
  obtain ⟨hg7, h⟩ := gd_e h
  refine r_newarr (kd := 103) (N := 80) hX hM (by decide) aw_short (fun G => rfl) (by intro D9 h9; cases h9) rfl (by decide) (by decide) (by decide) (al_1 (zR (al_k 102 80 80 hzz)) hg7) (al_2 (qR (al_q 102 80 80 hqq)) hg7) d_Co_init_15 ?_
  obtain ⟨hk10, h⟩ := gd_e h
  refine r_putRF (i := 5) (f := 1) hX ci_5 (by decide) rfl rfl hI rfl (fun G => nw_r _ _) (fun G => ft_r _ _) fl_Co_15 hk10 d_Co_init_17 ?_
  obtain ⟨hg12, h⟩ := gd_e h
  cases h; exact rj_kn (al_e (zR (al_k 103 80 80 (zR (al_k 102 80 80 hzz)))) (qR (al_q 103 80 80 (qR (al_q 102 80 80 hqq)))) hg12) (r_vret hX hR d_Co_init_20)
theorem T_Co_init {l : Launch} {G : AG} (a0 : Nat) (w : AW) {o : AW} (h : F_Co_init a0 w = some o) : Mt l G y_Co_init b_Co_init 1 none 1 24 2 160 [vr a0] w none o := mt_of (by decide) (Nat.le_of_ble_eq_true rfl) (fun X hX hR hM hI => P_Co_init_0 hX hM hR (hI rfl) 0 0 _ _ h rfl rfl)
/-! RedSky$Saying.<init>()V -/
theorem d_Sa_init_0 : decode b_Sa_init 0 = .ok (.aload_n 0, 1) := by decide +kernel
theorem d_Sa_init_1 : decode b_Sa_init 1 = .ok (.invokespecial 3, 3) := by decide +kernel
theorem d_Sa_init_4 : decode b_Sa_init 4 = .ok (.aload_n 0, 1) := by decide +kernel
theorem d_Sa_init_5 : decode b_Sa_init 5 = .ok (.new 9, 3) := by decide +kernel
theorem d_Sa_init_8 : decode b_Sa_init 8 = .ok (.dup, 1) := by decide +kernel
theorem d_Sa_init_9 : decode b_Sa_init 9 = .ok (.invokespecial 11, 3) := by decide +kernel
theorem d_Sa_init_12 : decode b_Sa_init 12 = .ok (.putfield 12, 3) := by decide +kernel
theorem d_Sa_init_15 : decode b_Sa_init 15 = .ok (.aload_n 0, 1) := by decide +kernel
theorem d_Sa_init_16 : decode b_Sa_init 16 = .ok (.new 9, 3) := by decide +kernel
theorem d_Sa_init_19 : decode b_Sa_init 19 = .ok (.dup, 1) := by decide +kernel
theorem d_Sa_init_20 : decode b_Sa_init 20 = .ok (.invokespecial 11, 3) := by decide +kernel
theorem d_Sa_init_23 : decode b_Sa_init 23 = .ok (.putfield 18, 3) := by decide +kernel
theorem d_Sa_init_26 : decode b_Sa_init 26 = .ok (.return_, 1) := by decide +kernel
def F_Sa_init (a0 : Nat) (w : AW) : Option (AW) :=
  gd (wk w a0 == 5) <|
  gd (Nat.blt (wz w) ((wz w) + 6) && Nat.ble (wq w + 6) ((wq w) + 332)) <|
  let p3 : Nat := wz w
  let w4 : AW := wnew w 6 0 6
  gd (Nat.ble (wz w4 + 2) ((wz w) + 6) && Nat.ble (wq w4 + 160) ((wq w) + 332)) <|
  (F_Co_init p3 w4).bind fun r6 =>
  gd ((wz r6 == wz w4 + 2) && (wq r6 == wq w4 + 160)) <|
  gd (wk r6 a0 == 5) <|
  let w10 : AW := upR r6 a0 0 p3
  gd (Nat.blt (wz w10) ((wz w) + 6) && Nat.ble (wq w10 + 6) ((wq w) + 332)) <|
  let p12 : Nat := wz w10
  let w13 : AW := wnew w10 6 0 6
  gd (Nat.ble (wz w13 + 2) ((wz w) + 6) && Nat.ble (wq w13 + 160) ((wq w) + 332)) <|
  (F_Co_init p12 w13).bind fun r15 =>
  gd ((wz r15 == wz w13 + 2) && (wq r15 == wq w13 + 160)) <|
  gd (wk r15 a0 == 5) <|
  let w19 : AW := upR r15 a0 1 p12
  gd ((wz w19 == (wz w) + 6) && (wq w19 == (wq w) + 332)) <|
  some w19
theorem P_Sa_init_0 {X : AX} {l : Launch} {G : AG} (hX : XOK X b_Sa_init "RedSky$Saying" 1) (hM : XM X l G { frames := 2, cells := 6, slots := 332, locals := 44 }) {o : AW} (hR : XR X none 6 332 none o) (hI : XI X) (k n : Nat) (a0 : Nat) (w : AW) (h : F_Sa_init a0 w = some o) (hzz : wz w + k = wz w) (hqq : wq w + n = wq w) : RJ X 1 k n 0 [(0, vr a0)] [] w := by
  unfold F_Sa_init at h
  refine r_aload_n (i := 0) hX d_Sa_init_0 0 rfl rfl ?_
  obtain ⟨hk1, h⟩ := gd_e h
  refine r_objInit hX hM ow_Sa (kn_ne hk1) (by decide) (by decide) d_Sa_init_1 ?_
  refine r_aload_n (i := 0) hX d_Sa_init_4 0 rfl rfl ?_
  obtain ⟨hg2, h⟩ := gd_e h
  refine r_new (i := 5) hX hM ci_5 cn_Sa_9 df_5 (al_1 hzz hg2) (al_2 hqq hg2) d_Sa_init_5 ?_
  refine r_dup hX d_Sa_init_8 rfl ?_
  obtain ⟨hg5, h⟩ := gd_e h
  obtain ⟨r6, hr7, h⟩ := bd_e h
  refine r_callIN (As := []) hX hM mw_Sa_11 (T_Co_init _ _ hr7) (kn_ne kn_new) rfl rfl (al_3 (al_k 6 0 6 hzz) (al_q 6 0 6 hqq) hg5) rfl rfl d_Sa_init_9 ?_
  obtain ⟨hg8, h⟩ := gd_e h
  obtain ⟨hk9, h⟩ := gd_e h
  refine r_putRF (i := 4) (f := 0) hX ci_4 (by decide) rfl rfl hI rfl (fun G => nw_o _ _) (fun G => ft_o _ _) fl_Sa_12 hk9 d_Sa_init_12 ?_
  refine r_aload_n (i := 0) hX d_Sa_init_15 0 rfl rfl ?_
  obtain ⟨hg11, h⟩ := gd_e h
  refine r_new (i := 5) hX hM ci_5 cn_Sa_9 df_5 (al_1 (zR (al_ck (c := 2) (al_k 6 0 6 hzz) hg8)) hg11) (al_2 (qR (al_cq (d := 160) (al_q 6 0 6 hqq) hg8)) hg11) d_Sa_init_16 ?_
  refine r_dup hX d_Sa_init_19 rfl ?_
  obtain ⟨hg14, h⟩ := gd_e h
  obtain ⟨r15, hr16, h⟩ := bd_e h
  refine r_callIN (As := []) hX hM mw_Sa_11 (T_Co_init _ _ hr16) (kn_ne kn_new) rfl rfl (al_3 (al_k 6 0 6 (zR (al_ck (c := 2) (al_k 6 0 6 hzz) hg8))) (al_q 6 0 6 (qR (al_cq (d := 160) (al_q 6 0 6 hqq) hg8))) hg14) rfl rfl d_Sa_init_20 ?_
  obtain ⟨hg17, h⟩ := gd_e h
  obtain ⟨hk18, h⟩ := gd_e h
  refine r_putRF (i := 4) (f := 1) hX ci_4 (by decide) rfl rfl hI rfl (fun G => nw_o _ _) (fun G => ft_o _ _) fl_Sa_18 hk18 d_Sa_init_23 ?_
  obtain ⟨hg20, h⟩ := gd_e h
  cases h; exact rj_kn (al_e (zR (al_ck (c := 2) (al_k 6 0 6 (zR (al_ck (c := 2) (al_k 6 0 6 hzz) hg8))) hg17)) (qR (al_cq (d := 160) (al_q 6 0 6 (qR (al_cq (d := 160) (al_q 6 0 6 hqq) hg8))) hg17)) hg20) (r_vret hX hR d_Sa_init_26)
theorem T_Sa_init {l : Launch} {G : AG} (a0 : Nat) (w : AW) {o : AW} (h : F_Sa_init a0 w = some o) : Mt l G y_Sa_init b_Sa_init 1 none 2 44 6 332 [vr a0] w none o := mt_of (by decide) (Nat.le_of_ble_eq_true rfl) (fun X hX hR hM hI => P_Sa_init_0 hX hM hR (hI rfl) 0 0 _ _ h rfl rfl)
/-! RedSky$Page.<init>()V -/
theorem d_Pg_init_0 : decode b_Pg_init 0 = .ok (.aload_n 0, 1) := by decide +kernel
theorem d_Pg_init_1 : decode b_Pg_init 1 = .ok (.invokespecial 3, 3) := by decide +kernel
theorem d_Pg_init_4 : decode b_Pg_init 4 = .ok (.aload_n 0, 1) := by decide +kernel
theorem d_Pg_init_5 : decode b_Pg_init 5 = .ok (.iconst 0, 1) := by decide +kernel
theorem d_Pg_init_6 : decode b_Pg_init 6 = .ok (.putfield 9, 3) := by decide +kernel
theorem d_Pg_init_9 : decode b_Pg_init 9 = .ok (.aload_n 0, 1) := by decide +kernel
theorem d_Pg_init_10 : decode b_Pg_init 10 = .ok (.bipush (80), 2) := by decide +kernel
theorem d_Pg_init_12 : decode b_Pg_init 12 = .ok (.newarray .byte, 2) := by decide +kernel
theorem d_Pg_init_14 : decode b_Pg_init 14 = .ok (.putfield 15, 3) := by decide +kernel
theorem d_Pg_init_17 : decode b_Pg_init 17 = .ok (.aload_n 0, 1) := by decide +kernel
theorem d_Pg_init_18 : decode b_Pg_init 18 = .ok (.new 19, 3) := by decide +kernel
theorem d_Pg_init_21 : decode b_Pg_init 21 = .ok (.dup, 1) := by decide +kernel
theorem d_Pg_init_22 : decode b_Pg_init 22 = .ok (.invokespecial 21, 3) := by decide +kernel
theorem d_Pg_init_25 : decode b_Pg_init 25 = .ok (.putfield 22, 3) := by decide +kernel
theorem d_Pg_init_28 : decode b_Pg_init 28 = .ok (.aload_n 0, 1) := by decide +kernel
theorem d_Pg_init_29 : decode b_Pg_init 29 = .ok (.aload_n 0, 1) := by decide +kernel
theorem d_Pg_init_30 : decode b_Pg_init 30 = .ok (.getfield 22, 3) := by decide +kernel
theorem d_Pg_init_33 : decode b_Pg_init 33 = .ok (.getfield 26, 3) := by decide +kernel
theorem d_Pg_init_36 : decode b_Pg_init 36 = .ok (.putfield 30, 3) := by decide +kernel
theorem d_Pg_init_39 : decode b_Pg_init 39 = .ok (.aload_n 0, 1) := by decide +kernel
theorem d_Pg_init_40 : decode b_Pg_init 40 = .ok (.iconst 0, 1) := by decide +kernel
theorem d_Pg_init_41 : decode b_Pg_init 41 = .ok (.putfield 33, 3) := by decide +kernel
theorem d_Pg_init_44 : decode b_Pg_init 44 = .ok (.aload_n 0, 1) := by decide +kernel
theorem d_Pg_init_45 : decode b_Pg_init 45 = .ok (.iconst 0, 1) := by decide +kernel
theorem d_Pg_init_46 : decode b_Pg_init 46 = .ok (.putfield 37, 3) := by decide +kernel
theorem d_Pg_init_49 : decode b_Pg_init 49 = .ok (.aload_n 0, 1) := by decide +kernel
theorem d_Pg_init_50 : decode b_Pg_init 50 = .ok (.iconst 0, 1) := by decide +kernel
theorem d_Pg_init_51 : decode b_Pg_init 51 = .ok (.putfield 40, 3) := by decide +kernel
theorem d_Pg_init_54 : decode b_Pg_init 54 = .ok (.aload_n 0, 1) := by decide +kernel
theorem d_Pg_init_55 : decode b_Pg_init 55 = .ok (.iconst 0, 1) := by decide +kernel
theorem d_Pg_init_56 : decode b_Pg_init 56 = .ok (.putfield 43, 3) := by decide +kernel
theorem d_Pg_init_59 : decode b_Pg_init 59 = .ok (.aload_n 0, 1) := by decide +kernel
theorem d_Pg_init_60 : decode b_Pg_init 60 = .ok (.iconst 0, 1) := by decide +kernel
theorem d_Pg_init_61 : decode b_Pg_init 61 = .ok (.putfield 46, 3) := by decide +kernel
theorem d_Pg_init_64 : decode b_Pg_init 64 = .ok (.aload_n 0, 1) := by decide +kernel
theorem d_Pg_init_65 : decode b_Pg_init 65 = .ok (.iconst 0, 1) := by decide +kernel
theorem d_Pg_init_66 : decode b_Pg_init 66 = .ok (.putfield 49, 3) := by decide +kernel
theorem d_Pg_init_69 : decode b_Pg_init 69 = .ok (.aload_n 0, 1) := by decide +kernel
theorem d_Pg_init_70 : decode b_Pg_init 70 = .ok (.iconst 0, 1) := by decide +kernel
theorem d_Pg_init_71 : decode b_Pg_init 71 = .ok (.putfield 52, 3) := by decide +kernel
theorem d_Pg_init_74 : decode b_Pg_init 74 = .ok (.aload_n 0, 1) := by decide +kernel
theorem d_Pg_init_75 : decode b_Pg_init 75 = .ok (.iconst 0, 1) := by decide +kernel
theorem d_Pg_init_76 : decode b_Pg_init 76 = .ok (.putfield 55, 3) := by decide +kernel
theorem d_Pg_init_79 : decode b_Pg_init 79 = .ok (.aload_n 0, 1) := by decide +kernel
theorem d_Pg_init_80 : decode b_Pg_init 80 = .ok (.bipush (81), 2) := by decide +kernel
theorem d_Pg_init_82 : decode b_Pg_init 82 = .ok (.newarray .int, 2) := by decide +kernel
theorem d_Pg_init_84 : decode b_Pg_init 84 = .ok (.putfield 58, 3) := by decide +kernel
theorem d_Pg_init_87 : decode b_Pg_init 87 = .ok (.aload_n 0, 1) := by decide +kernel
theorem d_Pg_init_88 : decode b_Pg_init 88 = .ok (.bipush (81), 2) := by decide +kernel
theorem d_Pg_init_90 : decode b_Pg_init 90 = .ok (.newarray .int, 2) := by decide +kernel
theorem d_Pg_init_92 : decode b_Pg_init 92 = .ok (.putfield 62, 3) := by decide +kernel
theorem d_Pg_init_95 : decode b_Pg_init 95 = .ok (.aload_n 0, 1) := by decide +kernel
theorem d_Pg_init_96 : decode b_Pg_init 96 = .ok (.bipush (81), 2) := by decide +kernel
theorem d_Pg_init_98 : decode b_Pg_init 98 = .ok (.newarray .int, 2) := by decide +kernel
theorem d_Pg_init_100 : decode b_Pg_init 100 = .ok (.putfield 65, 3) := by decide +kernel
theorem d_Pg_init_103 : decode b_Pg_init 103 = .ok (.aload_n 0, 1) := by decide +kernel
theorem d_Pg_init_104 : decode b_Pg_init 104 = .ok (.bipush (81), 2) := by decide +kernel
theorem d_Pg_init_106 : decode b_Pg_init 106 = .ok (.newarray .int, 2) := by decide +kernel
theorem d_Pg_init_108 : decode b_Pg_init 108 = .ok (.putfield 68, 3) := by decide +kernel
theorem d_Pg_init_111 : decode b_Pg_init 111 = .ok (.aload_n 0, 1) := by decide +kernel
theorem d_Pg_init_112 : decode b_Pg_init 112 = .ok (.bipush (81), 2) := by decide +kernel
theorem d_Pg_init_114 : decode b_Pg_init 114 = .ok (.newarray .int, 2) := by decide +kernel
theorem d_Pg_init_116 : decode b_Pg_init 116 = .ok (.putfield 71, 3) := by decide +kernel
theorem d_Pg_init_119 : decode b_Pg_init 119 = .ok (.return_, 1) := by decide +kernel
def F_Pg_init_95 (z0 q0 : Nat) (a0 : Nat) (w : AW) : Option (AW) :=
  gd (Nat.blt (wz w) (z0 + 13) && Nat.ble (wq w + 81) (q0 + 825)) <|
  let p2 : Nat := wz w
  let w3 : AW := wnew w 100 81 81
  gd (wk w3 a0 == 4) <|
  let w5 : AW := upR w3 a0 14 p2
  gd (Nat.blt (wz w5) (z0 + 13) && Nat.ble (wq w5 + 81) (q0 + 825)) <|
  let p7 : Nat := wz w5
  let w8 : AW := wnew w5 100 81 81
  gd (wk w8 a0 == 4) <|
  let w10 : AW := upR w8 a0 15 p7
  gd (Nat.blt (wz w10) (z0 + 13) && Nat.ble (wq w10 + 81) (q0 + 825)) <|
  let p12 : Nat := wz w10
  let w13 : AW := wnew w10 100 81 81
  gd (wk w13 a0 == 4) <|
  let w15 : AW := upR w13 a0 16 p12
  gd ((wz w15 == z0 + 13) && (wq w15 == q0 + 825)) <|
  some w15
theorem P_Pg_init_95 {X : AX} {l : Launch} {G : AG} {z0 q0 : Nat} (hX : XOK X b_Pg_init "RedSky$Page" 1) (hM : XM X l G { frames := 3, cells := 13, slots := 825, locals := 64 }) {o : AW} (hR : XR X none 13 825 none o) (hI : XI X) (k n : Nat) (a0 : Nat) (w : AW) (h : F_Pg_init_95 z0 q0 a0 w = some o) (hzz : z0 + k = wz w) (hqq : q0 + n = wq w) : RJ X 1 k n 95 [(0, vr a0)] [] w := by
  unfold F_Pg_init_95 at h
  refine r_aload_n (i := 0) hX d_Pg_init_95 0 rfl rfl ?_
  refine r_bipush (v := (81 : Int32)) hX d_Pg_init_96 rfl ?_
  obtain ⟨hg1, h⟩ := gd_e h
  refine r_newarr (kd := 100) (N := 81) hX hM (by decide) aw_int (fun G => rfl) (by intro D9 h9; cases h9) rfl (by decide) (by decide) (by decide) (al_1 hzz hg1) (al_2 hqq hg1) d_Pg_init_98 ?_
  obtain ⟨hk4, h⟩ := gd_e h
  refine r_putRF (i := 3) (f := 14) hX ci_3 (by decide) rfl rfl hI rfl (fun G => nw_r _ _) (fun G => ft_r _ _) fl_Pg_65 hk4 d_Pg_init_100 ?_
  refine r_aload_n (i := 0) hX d_Pg_init_103 0 rfl rfl ?_
  refine r_bipush (v := (81 : Int32)) hX d_Pg_init_104 rfl ?_
  obtain ⟨hg6, h⟩ := gd_e h
  refine r_newarr (kd := 100) (N := 81) hX hM (by decide) aw_int (fun G => rfl) (by intro D9 h9; cases h9) rfl (by decide) (by decide) (by decide) (al_1 (zR (al_k 100 81 81 hzz)) hg6) (al_2 (qR (al_q 100 81 81 hqq)) hg6) d_Pg_init_106 ?_
  obtain ⟨hk9, h⟩ := gd_e h
  refine r_putRF (i := 3) (f := 15) hX ci_3 (by decide) rfl rfl hI rfl (fun G => nw_r _ _) (fun G => ft_r _ _) fl_Pg_68 hk9 d_Pg_init_108 ?_
  refine r_aload_n (i := 0) hX d_Pg_init_111 0 rfl rfl ?_
  refine r_bipush (v := (81 : Int32)) hX d_Pg_init_112 rfl ?_
  obtain ⟨hg11, h⟩ := gd_e h
  refine r_newarr (kd := 100) (N := 81) hX hM (by decide) aw_int (fun G => rfl) (by intro D9 h9; cases h9) rfl (by decide) (by decide) (by decide) (al_1 (zR (al_k 100 81 81 (zR (al_k 100 81 81 hzz)))) hg11) (al_2 (qR (al_q 100 81 81 (qR (al_q 100 81 81 hqq)))) hg11) d_Pg_init_114 ?_
  obtain ⟨hk14, h⟩ := gd_e h
  refine r_putRF (i := 3) (f := 16) hX ci_3 (by decide) rfl rfl hI rfl (fun G => nw_r _ _) (fun G => ft_r _ _) fl_Pg_71 hk14 d_Pg_init_116 ?_
  obtain ⟨hg16, h⟩ := gd_e h
  cases h; exact rj_kn (al_e (zR (al_k 100 81 81 (zR (al_k 100 81 81 (zR (al_k 100 81 81 hzz)))))) (qR (al_q 100 81 81 (qR (al_q 100 81 81 (qR (al_q 100 81 81 hqq)))))) hg16) (r_vret hX hR d_Pg_init_119)
def F_Pg_init_69 (z0 q0 : Nat) (a0 : Nat) (w : AW) : Option (AW) :=
  gd (wk w a0 == 4) <|
  let w2 : AW := upI w a0 10 (0 : Int32)
  let w3 : AW := upI w2 a0 11 (0 : Int32)
  gd (Nat.blt (wz w3) (z0 + 13) && Nat.ble (wq w3 + 81) (q0 + 825)) <|
  let p5 : Nat := wz w3
  let w6 : AW := wnew w3 100 81 81
  gd (wk w6 a0 == 4) <|
  let w8 : AW := upR w6 a0 12 p5
  gd (Nat.blt (wz w8) (z0 + 13) && Nat.ble (wq w8 + 81) (q0 + 825)) <|
  let p10 : Nat := wz w8
  let w11 : AW := wnew w8 100 81 81
  gd (wk w11 a0 == 4) <|
  let w13 : AW := upR w11 a0 13 p10
  F_Pg_init_95 z0 q0 a0 w13
theorem P_Pg_init_69 {X : AX} {l : Launch} {G : AG} {z0 q0 : Nat} (hX : XOK X b_Pg_init "RedSky$Page" 1) (hM : XM X l G { frames := 3, cells := 13, slots := 825, locals := 64 }) {o : AW} (hR : XR X none 13 825 none o) (hI : XI X) (k n : Nat) (a0 : Nat) (w : AW) (h : F_Pg_init_69 z0 q0 a0 w = some o) (hzz : z0 + k = wz w) (hqq : q0 + n = wq w) : RJ X 1 k n 69 [(0, vr a0)] [] w := by
  unfold F_Pg_init_69 at h
  refine r_aload_n (i := 0) hX d_Pg_init_69 0 rfl rfl ?_
  refine r_iconst (v := (0 : Int32)) hX d_Pg_init_70 rfl ?_
  obtain ⟨hk1, h⟩ := gd_e h
  refine r_putI (i := 3) (f := 10) hX ci_3 (by decide) rfl rfl (fun G => rfl) (fun G => rfl) fl_Pg_52 hk1 d_Pg_init_71 ?_
  refine r_aload_n (i := 0) hX d_Pg_init_74 0 rfl rfl ?_
  refine r_iconst (v := (0 : Int32)) hX d_Pg_init_75 rfl ?_
  refine r_putI (i := 3) (f := 11) hX ci_3 (by decide) rfl rfl (fun G => rfl) (fun G => rfl) fl_Pg_55 (kI hk1) d_Pg_init_76 ?_
  refine r_aload_n (i := 0) hX d_Pg_init_79 0 rfl rfl ?_
  refine r_bipush (v := (81 : Int32)) hX d_Pg_init_80 rfl ?_
  obtain ⟨hg4, h⟩ := gd_e h
  refine r_newarr (kd := 100) (N := 81) hX hM (by decide) aw_int (fun G => rfl) (by intro D9 h9; cases h9) rfl (by decide) (by decide) (by decide) (al_1 (zI (zI hzz)) hg4) (al_2 (qI (qI hqq)) hg4) d_Pg_init_82 ?_
  obtain ⟨hk7, h⟩ := gd_e h
  refine r_putRF (i := 3) (f := 12) hX ci_3 (by decide) rfl rfl hI rfl (fun G => nw_r _ _) (fun G => ft_r _ _) fl_Pg_58 hk7 d_Pg_init_84 ?_
  refine r_aload_n (i := 0) hX d_Pg_init_87 0 rfl rfl ?_
  refine r_bipush (v := (81 : Int32)) hX d_Pg_init_88 rfl ?_
  obtain ⟨hg9, h⟩ := gd_e h
  refine r_newarr (kd := 100) (N := 81) hX hM (by decide) aw_int (fun G => rfl) (by intro D9 h9; cases h9) rfl (by decide) (by decide) (by decide) (al_1 (zR (al_k 100 81 81 (zI (zI hzz)))) hg9) (al_2 (qR (al_q 100 81 81 (qI (qI hqq)))) hg9) d_Pg_init_90 ?_
  obtain ⟨hk12, h⟩ := gd_e h
  refine r_putRF (i := 3) (f := 13) hX ci_3 (by decide) rfl rfl hI rfl (fun G => nw_r _ _) (fun G => ft_r _ _) fl_Pg_62 hk12 d_Pg_init_92 ?_
  exact rj_sub [0] rfl (P_Pg_init_95 hX hM hR hI _ _ _ _ h  (zR (al_k 100 81 81 (zR (al_k 100 81 81 (zI (zI hzz)))))) (qR (al_q 100 81 81 (qR (al_q 100 81 81 (qI (qI hqq)))))))
def F_Pg_init_39 (z0 q0 : Nat) (a0 : Nat) (w : AW) : Option (AW) :=
  gd (wk w a0 == 4) <|
  let w2 : AW := upI w a0 4 (0 : Int32)
  let w3 : AW := upI w2 a0 5 (0 : Int32)
  let w4 : AW := upI w3 a0 6 (0 : Int32)
  let w5 : AW := upI w4 a0 7 (0 : Int32)
  let w6 : AW := upI w5 a0 8 (0 : Int32)
  let w7 : AW := upI w6 a0 9 (0 : Int32)
  F_Pg_init_69 z0 q0 a0 w7
theorem P_Pg_init_39 {X : AX} {l : Launch} {G : AG} {z0 q0 : Nat} (hX : XOK X b_Pg_init "RedSky$Page" 1) (hM : XM X l G { frames := 3, cells := 13, slots := 825, locals := 64 }) {o : AW} (hR : XR X none 13 825 none o) (hI : XI X) (k n : Nat) (a0 : Nat) (w : AW) (h : F_Pg_init_39 z0 q0 a0 w = some o) (hzz : z0 + k = wz w) (hqq : q0 + n = wq w) : RJ X 1 k n 39 [(0, vr a0)] [] w := by
  unfold F_Pg_init_39 at h
  refine r_aload_n (i := 0) hX d_Pg_init_39 0 rfl rfl ?_
  refine r_iconst (v := (0 : Int32)) hX d_Pg_init_40 rfl ?_
  obtain ⟨hk1, h⟩ := gd_e h
  refine r_putI (i := 3) (f := 4) hX ci_3 (by decide) rfl rfl (fun G => rfl) (fun G => rfl) fl_Pg_33 hk1 d_Pg_init_41 ?_
  refine r_aload_n (i := 0) hX d_Pg_init_44 0 rfl rfl ?_
  refine r_iconst (v := (0 : Int32)) hX d_Pg_init_45 rfl ?_
  refine r_putI (i := 3) (f := 5) hX ci_3 (by decide) rfl rfl (fun G => rfl) (fun G => rfl) fl_Pg_37 (kI hk1) d_Pg_init_46 ?_
  refine r_aload_n (i := 0) hX d_Pg_init_49 0 rfl rfl ?_
  refine r_iconst (v := (0 : Int32)) hX d_Pg_init_50 rfl ?_
  refine r_putI (i := 3) (f := 6) hX ci_3 (by decide) rfl rfl (fun G => rfl) (fun G => rfl) fl_Pg_40 (kI (kI hk1)) d_Pg_init_51 ?_
  refine r_aload_n (i := 0) hX d_Pg_init_54 0 rfl rfl ?_
  refine r_iconst (v := (0 : Int32)) hX d_Pg_init_55 rfl ?_
  refine r_putI (i := 3) (f := 7) hX ci_3 (by decide) rfl rfl (fun G => rfl) (fun G => rfl) fl_Pg_43 (kI (kI (kI hk1))) d_Pg_init_56 ?_
  refine r_aload_n (i := 0) hX d_Pg_init_59 0 rfl rfl ?_
  refine r_iconst (v := (0 : Int32)) hX d_Pg_init_60 rfl ?_
  refine r_putI (i := 3) (f := 8) hX ci_3 (by decide) rfl rfl (fun G => rfl) (fun G => rfl) fl_Pg_46 (kI (kI (kI (kI hk1)))) d_Pg_init_61 ?_
  refine r_aload_n (i := 0) hX d_Pg_init_64 0 rfl rfl ?_
  refine r_iconst (v := (0 : Int32)) hX d_Pg_init_65 rfl ?_
  refine r_putI (i := 3) (f := 9) hX ci_3 (by decide) rfl rfl (fun G => rfl) (fun G => rfl) fl_Pg_49 (kI (kI (kI (kI (kI hk1))))) d_Pg_init_66 ?_
  exact rj_sub [0] rfl (P_Pg_init_69 hX hM hR hI _ _ _ _ h  (zI (zI (zI (zI (zI (zI hzz)))))) (qI (qI (qI (qI (qI (qI hqq)))))))
def F_Pg_init (a0 : Nat) (w : AW) : Option (AW) :=
  gd (wk w a0 == 4) <|
  let w2 : AW := upI w a0 0 (0 : Int32)
  gd (Nat.blt (wz w2) ((wz w) + 13) && Nat.ble (wq w2 + 80) ((wq w) + 825)) <|
  let p4 : Nat := wz w2
  let w5 : AW := wnew w2 102 80 80
  gd (wk w5 a0 == 4) <|
  let w7 : AW := upR w5 a0 1 p4
  gd (Nat.blt (wz w7) ((wz w) + 13) && Nat.ble (wq w7 + 8) ((wq w) + 825)) <|
  let p9 : Nat := wz w7
  let w10 : AW := wnew w7 5 0 8
  gd (Nat.ble (wz w10 + 6) ((wz w) + 13) && Nat.ble (wq w10 + 332) ((wq w) + 825)) <|
  (F_Sa_init p9 w10).bind fun r12 =>
  gd ((wz r12 == wz w10 + 6) && (wq r12 == wq w10 + 332)) <|
  gd (wk r12 a0 == 4) <|
  let w16 : AW := upR r12 a0 2 p9
  gd (wk w16 (wr w16 a0 2) == 5) <|
  let w18 : AW := upR w16 a0 3 (wr w16 (wr w16 a0 2) 0)
  F_Pg_init_39 (wz w) (wq w) a0 w18
theorem P_Pg_init_0 {X : AX} {l : Launch} {G : AG} (hX : XOK X b_Pg_init "RedSky$Page" 1) (hM : XM X l G { frames := 3, cells := 13, slots := 825, locals := 64 }) {o : AW} (hR : XR X none 13 825 none o) (hI : XI X) (k n : Nat) (a0 : Nat) (w : AW) (h : F_Pg_init a0 w = some o) (hzz : wz w + k = wz w) (hqq : wq w + n = wq w) : RJ X 1 k n 0 [(0, vr a0)] [] w := by
  unfold F_Pg_init at h
  refine r_aload_n (i := 0) hX d_Pg_init_0 0 rfl rfl ?_
  obtain ⟨hk1, h⟩ := gd_e h
  refine r_objInit hX hM ow_Pg (kn_ne hk1) (by decide) (by decide) d_Pg_init_1 ?_
  refine r_aload_n (i := 0) hX d_Pg_init_4 0 rfl rfl ?_
  refine r_iconst (v := (0 : Int32)) hX d_Pg_init_5 rfl ?_
  refine r_putI (i := 3) (f := 0) hX ci_3 (by decide) rfl rfl (fun G => rfl) (fun G => rfl) fl_Pg_9 hk1 d_Pg_init_6 ?_
  refine r_aload_n (i := 0) hX d_Pg_init_9 0 rfl rfl ?_
  refine r_bipush (v := (80 : Int32)) hX d_Pg_init_10 rfl ?_
  obtain ⟨hg3, h⟩ := gd_e h
  refine r_newarr (kd := 102) (N := 80) hX hM (by decide) aw_byte (fun G => rfl) (by intro D9 h9; cases h9) rfl (by decide) (by decide) (by decide) (al_1 (zI hzz) hg3) (al_2 (qI hqq) hg3) d_Pg_init_12 ?_
  obtain ⟨hk6, h⟩ := gd_e h
  refine r_putRF (i := 3) (f := 1) hX ci_3 (by decide) rfl rfl hI rfl (fun G => nw_r _ _) (fun G => ft_r _ _) fl_Pg_15 hk6 d_Pg_init_14 ?_
  refine r_aload_n (i := 0) hX d_Pg_init_17 0 rfl rfl ?_
  obtain ⟨hg8, h⟩ := gd_e h
  refine r_new (i := 4) hX hM ci_4 cn_Pg_19 df_4 (al_1 (zR (al_k 102 80 80 (zI hzz))) hg8) (al_2 (qR (al_q 102 80 80 (qI hqq))) hg8) d_Pg_init_18 ?_
  refine r_dup hX d_Pg_init_21 rfl ?_
  obtain ⟨hg11, h⟩ := gd_e h
  obtain ⟨r12, hr13, h⟩ := bd_e h
  refine r_callIN (As := []) hX hM mw_Pg_21 (T_Sa_init _ _ hr13) (kn_ne kn_new) rfl rfl (al_3 (al_k 5 0 8 (zR (al_k 102 80 80 (zI hzz)))) (al_q 5 0 8 (qR (al_q 102 80 80 (qI hqq)))) hg11) rfl rfl d_Pg_init_22 ?_
  obtain ⟨hg14, h⟩ := gd_e h
  obtain ⟨hk15, h⟩ := gd_e h
  refine r_putR (i := 3) (f := 2) hX ci_3 (by decide) rfl rfl (fun G => nw_o _ _) (fun G => ft_o _ _) fl_Pg_22 hk15 d_Pg_init_25 ?_
  refine r_aload_n (i := 0) hX d_Pg_init_28 0 rfl rfl ?_
  refine r_aload_n (i := 0) hX d_Pg_init_29 0 rfl rfl ?_
  refine r_getR (i := 3) (f := 2) hX ci_3 (by decide) rfl fl_Pg_22 (kR hk15) d_Pg_init_30 ?_
  obtain ⟨hk17, h⟩ := gd_e h
  refine r_getR (i := 4) (f := 0) hX ci_4 (by decide) rfl fl_Pg_26 hk17 d_Pg_init_33 ?_
  refine r_putR (i := 3) (f := 3) hX ci_3 (by decide) rfl rfl (fun G => nw_o _ _) (fun G => ft_o _ _) fl_Pg_30 (kR hk15) d_Pg_init_36 ?_
  exact rj_sub [0] rfl (P_Pg_init_39 hX hM hR hI _ _ _ _ h  (zR (zR (al_ck (c := 6) (al_k 5 0 8 (zR (al_k 102 80 80 (zI hzz)))) hg14))) (qR (qR (al_cq (d := 332) (al_q 5 0 8 (qR (al_q 102 80 80 (qI hqq)))) hg14))))
theorem T_Pg_init {l : Launch} {G : AG} (a0 : Nat) (w : AW) {o : AW} (h : F_Pg_init a0 w = some o) : Mt l G y_Pg_init b_Pg_init 1 none 3 64 13 825 [vr a0] w none o := mt_of (by decide) (Nat.le_of_ble_eq_true rfl) (fun X hX hR hM hI => P_Pg_init_0 hX hM hR (hI rfl) 0 0 _ _ h rfl rfl)
/-! RedSky$Days.<init>()V -/
theorem d_Dy_init_0 : decode b_Dy_init 0 = .ok (.aload_n 0, 1) := by decide +kernel
theorem d_Dy_init_1 : decode b_Dy_init 1 = .ok (.invokespecial 3, 3) := by decide +kernel
theorem d_Dy_init_4 : decode b_Dy_init 4 = .ok (.aload_n 0, 1) := by decide +kernel
theorem d_Dy_init_5 : decode b_Dy_init 5 = .ok (.bipush (23), 2) := by decide +kernel
theorem d_Dy_init_7 : decode b_Dy_init 7 = .ok (.newarray .long, 2) := by decide +kernel
theorem d_Dy_init_9 : decode b_Dy_init 9 = .ok (.putfield 11, 3) := by decide +kernel
theorem d_Dy_init_12 : decode b_Dy_init 12 = .ok (.return_, 1) := by decide +kernel
def F_Dy_init (a0 : Nat) (w : AW) : Option (AW) :=
  gd (wk w a0 == 8) <|
  gd (Nat.blt (wz w) ((wz w) + 1) && Nat.ble (wq w + 23) ((wq w) + 23)) <|
  let p3 : Nat := wz w
  let w4 : AW := wnew w 101 23 23
  gd (wk w4 a0 == 8) <|
  let w6 : AW := upR w4 a0 0 p3
  gd ((wz w6 == (wz w) + 1) && (wq w6 == (wq w) + 23)) <|
  some w6
theorem P_Dy_init_0 {X : AX} {l : Launch} {G : AG} (hX : XOK X b_Dy_init "RedSky$Days" 1) (hM : XM X l G { frames := 1, cells := 1, slots := 23, locals := 24 }) {o : AW} (hR : XR X none 1 23 none o) (hI : XI X) (k n : Nat) (a0 : Nat) (w : AW) (h : F_Dy_init a0 w = some o) (hzz : wz w + k = wz w) (hqq : wq w + n = wq w) : RJ X 1 k n 0 [(0, vr a0)] [] w := by
  unfold F_Dy_init at h
  refine r_aload_n (i := 0) hX d_Dy_init_0 0 rfl rfl ?_
  obtain ⟨hk1, h⟩ := gd_e h
  refine r_objInit hX hM ow_Dy (kn_ne hk1) (by decide) (by decide) d_Dy_init_1 ?_
  refine r_aload_n (i := 0) hX d_Dy_init_4 0 rfl rfl ?_
  refine r_bipush (v := (23 : Int32)) hX d_Dy_init_5 rfl ?_
  obtain ⟨hg2, h⟩ := gd_e h
  refine r_newarr (kd := 101) (N := 23) hX hM (by decide) aw_long (fun G => rfl) (by intro D9 h9; cases h9) rfl (by decide) (by decide) (by decide) (al_1 hzz hg2) (al_2 hqq hg2) d_Dy_init_7 ?_
  obtain ⟨hk5, h⟩ := gd_e h
  refine r_putRF (i := 7) (f := 0) hX ci_7 (by decide) rfl rfl hI rfl (fun G => nw_r _ _) (fun G => ft_r _ _) fl_Dy_11 hk5 d_Dy_init_9 ?_
  obtain ⟨hg7, h⟩ := gd_e h
  cases h; exact rj_kn (al_e (zR (al_k 101 23 23 hzz)) (qR (al_q 101 23 23 hqq)) hg7) (r_vret hX hR d_Dy_init_12)
theorem T_Dy_init {l : Launch} {G : AG} (a0 : Nat) (w : AW) {o : AW} (h : F_Dy_init a0 w = some o) : Mt l G y_Dy_init b_Dy_init 1 none 1 24 1 23 [vr a0] w none o := mt_of (by decide) (Nat.le_of_ble_eq_true rfl) (fun X hX hR hM hI => P_Dy_init_0 hX hM hR (hI rfl) 0 0 _ _ h rfl rfl)
/-! RedSky$Scales.<init>()V -/
theorem d_Sc_init_0 : decode b_Sc_init 0 = .ok (.aload_n 0, 1) := by decide +kernel
theorem d_Sc_init_1 : decode b_Sc_init 1 = .ok (.invokespecial 1, 3) := by decide +kernel
theorem d_Sc_init_4 : decode b_Sc_init 4 = .ok (.aload_n 0, 1) := by decide +kernel
theorem d_Sc_init_5 : decode b_Sc_init 5 = .ok (.bipush (24), 2) := by decide +kernel
theorem d_Sc_init_7 : decode b_Sc_init 7 = .ok (.anewarray 9, 3) := by decide +kernel
theorem d_Sc_init_10 : decode b_Sc_init 10 = .ok (.putfield 11, 3) := by decide +kernel
theorem d_Sc_init_13 : decode b_Sc_init 13 = .ok (.iconst 0, 1) := by decide +kernel
theorem d_Sc_init_14 : decode b_Sc_init 14 = .ok (.istore_n 1, 1) := by decide +kernel
theorem d_Sc_init_15 : decode b_Sc_init 15 = .ok (.iload_n 1, 1) := by decide +kernel
theorem d_Sc_init_16 : decode b_Sc_init 16 = .ok (.bipush (24), 2) := by decide +kernel
theorem d_Sc_init_18 : decode b_Sc_init 18 = .ok (.if_icmp .ge (22), 3) := by decide +kernel
theorem d_Sc_init_21 : decode b_Sc_init 21 = .ok (.aload_n 0, 1) := by decide +kernel
theorem d_Sc_init_22 : decode b_Sc_init 22 = .ok (.getfield 11, 3) := by decide +kernel
theorem d_Sc_init_25 : decode b_Sc_init 25 = .ok (.iload_n 1, 1) := by decide +kernel
theorem d_Sc_init_26 : decode b_Sc_init 26 = .ok (.new 9, 3) := by decide +kernel
theorem d_Sc_init_29 : decode b_Sc_init 29 = .ok (.dup, 1) := by decide +kernel
theorem d_Sc_init_30 : decode b_Sc_init 30 = .ok (.invokespecial 15, 3) := by decide +kernel
theorem d_Sc_init_33 : decode b_Sc_init 33 = .ok (.aastore, 1) := by decide +kernel
theorem d_Sc_init_34 : decode b_Sc_init 34 = .ok (.iinc 1 (1), 3) := by decide +kernel
theorem d_Sc_init_37 : decode b_Sc_init 37 = .ok (.goto (-22), 3) := by decide +kernel
theorem d_Sc_init_40 : decode b_Sc_init 40 = .ok (.return_, 1) := by decide +kernel
def F_Sc_init_15_B (rec15 : Nat → Int32 → AW → Option (AW)) (z0 q0 : Nat) (a0 : Nat) (x1 : Int32) (w : AW) : Option (AW) :=
  if (24 : Int32) ≤ x1 then
    gd ((wz w == z0 + 49) && (wq w == q0 + 600)) <|
    some w
  else
    gd (wk w a0 == 7) <|
    gd (Nat.blt (wz w) (z0 + 49) && Nat.ble (wq w + 1) (q0 + 600)) <|
    let p4 : Nat := wz w
    let w5 : AW := wnew w 8 0 1
    gd (Nat.ble (wz w5 + 1) (z0 + 49) && Nat.ble (wq w5 + 23) (q0 + 600)) <|
    (F_Dy_init p4 w5).bind fun r7 =>
    gd ((wz r7 == wz w5 + 1) && (wq r7 == wq w5 + 23)) <|
    gd (wk r7 (wr w a0 0) == 105) <|
    gd (wk r7 p4 == 8) <|
    gd (inb x1 (wn r7 (wr w a0 0))) <|
    let w13 : AW := upR r7 (wr w a0 0) (Int32.toNatClampNeg x1) p4
    let v14 : Int32 := (x1 + (1 : Int32))
    rec15 a0 v14 w13
theorem P_Sc_init_15_B {X : AX} {l : Launch} {G : AG} {z0 q0 : Nat} {rec15 : Nat → Int32 → AW → Option (AW)} (hX : XOK X b_Sc_init "RedSky$Scales" 2) (hM : XM X l G { frames := 2, cells := 49, slots := 600, locals := 44 }) {o : AW} (hR : XR X none 49 600 none o) (hI : XI X) (hrec15 : ∀ (k n : Nat) (a0 : Nat) (x1 : Int32) (w : AW), rec15 a0 x1 w = some o → z0 + k = wz w → q0 + n = wq w → RJ X 2 k n 15 [(0, vr a0), (1, vi x1)] [] w) (k n : Nat) (a0 : Nat) (x1 : Int32) (w : AW) (h : F_Sc_init_15_B rec15 z0 q0 a0 x1 w = some o) (hzz : z0 + k = wz w) (hqq : q0 + n = wq w) : RJ X 2 k n 15 [(0, vr a0), (1, vi x1)] [] w := by
  unfold F_Sc_init_15_B at h
  refine r_iload_n (i := 1) hX d_Sc_init_15 1 rfl rfl ?_
  refine r_bipush (v := (24 : Int32)) hX d_Sc_init_16 rfl ?_
  refine r_icmp_ge hX d_Sc_init_18 rfl h (fun h => ?_) (fun h => ?_)
  · obtain ⟨hg1, h⟩ := gd_e h
    cases h; exact rj_kn (al_e hzz hqq hg1) (r_vret hX hR d_Sc_init_40)
  · refine r_aload_n (i := 0) hX d_Sc_init_21 0 rfl rfl ?_
    obtain ⟨hk2, h⟩ := gd_e h
    refine r_getR (i := 6) (f := 0) hX ci_6 (by decide) rfl fl_Sc_11 hk2 d_Sc_init_22 ?_
    refine r_iload_n (i := 1) hX d_Sc_init_25 1 rfl rfl ?_
    obtain ⟨hg3, h⟩ := gd_e h
    refine r_new (i := 7) hX hM ci_7 cn_Sc_9 df_7 (al_1 hzz hg3) (al_2 hqq hg3) d_Sc_init_26 ?_
    refine r_dup hX d_Sc_init_29 rfl ?_
    obtain ⟨hg6, h⟩ := gd_e h
    obtain ⟨r7, hr8, h⟩ := bd_e h
    refine r_callIN (As := []) hX hM mw_Sc_15 (T_Dy_init _ _ hr8) (kn_ne kn_new) rfl rfl (al_3 (al_k 8 0 1 hzz) (al_q 8 0 1 hqq) hg6) rfl rfl d_Sc_init_30 ?_
    obtain ⟨hg9, h⟩ := gd_e h
    obtain ⟨hk10, h⟩ := gd_e h
    obtain ⟨hk11, h⟩ := gd_e h
    obtain ⟨hg12, h⟩ := gd_e h
    refine r_aast (kd := 105) (ci := 7) hX (by decide) (by decide) rfl (fun G => rfl) hk10 hk11 hg12 d_Sc_init_33 ?_
    refine r_iinc (i := 1) (v := (1 : Int32)) hX d_Sc_init_34 1 rfl rfl (by decide) ?_
    refine r_goto hX d_Sc_init_37 rfl ?_
    exact rj_sub [1, 0] rfl (hrec15 _ _ _ _ _ h (zR (al_ck (c := 1) (al_k 8 0 1 hzz) hg9)) (qR (al_cq (d := 23) (al_q 8 0 1 hqq) hg9)))
def F_Sc_init_15 (z0 q0 : Nat) : Nat → Nat → Int32 → AW → Option (AW)
  | 0 => fun _ _ _ => none
  | n + 1 => fun a0 x1 w => F_Sc_init_15_B (F_Sc_init_15 z0 q0 n) z0 q0 a0 x1 w
theorem P_Sc_init_15 {X : AX} {l : Launch} {G : AG} {z0 q0 : Nat} (hX : XOK X b_Sc_init "RedSky$Scales" 2) (hM : XM X l G { frames := 2, cells := 49, slots := 600, locals := 44 }) {o : AW} (hR : XR X none 49 600 none o) (hI : XI X) (fu : Nat) : ∀ (k n : Nat) (a0 : Nat) (x1 : Int32) (w : AW), F_Sc_init_15 z0 q0 fu a0 x1 w = some o → z0 + k = wz w → q0 + n = wq w → RJ X 2 k n 15 [(0, vr a0), (1, vi x1)] [] w := by
  induction fu with
  | zero => intro k n a0 x1 w h; cases h
  | succ n9 ih => intro k n a0 x1 w h hzz hqq; exact P_Sc_init_15_B hX hM hR hI ih _ _ _ _ _ h hzz hqq
def F_Sc_init (a0 : Nat) (w : AW) : Option (AW) :=
  gd (wk w a0 == 7) <|
  gd (Nat.blt (wz w) ((wz w) + 49) && Nat.ble (wq w + 24) ((wq w) + 600)) <|
  let p3 : Nat := wz w
  let w4 : AW := wnew w 105 24 24
  gd (wk w4 a0 == 7) <|
  let w6 : AW := upR w4 a0 0 p3
  F_Sc_init_15 (wz w) (wq w) FUEL a0 (0 : Int32) w6
theorem P_Sc_init_0 {X : AX} {l : Launch} {G : AG} (hX : XOK X b_Sc_init "RedSky$Scales" 2) (hM : XM X l G { frames := 2, cells := 49, slots := 600, locals := 44 }) {o : AW} (hR : XR X none 49 600 none o) (hI : XI X) (k n : Nat) (a0 : Nat) (w : AW) (h : F_Sc_init a0 w = some o) (hzz : wz w + k = wz w) (hqq : wq w + n = wq w) : RJ X 2 k n 0 [(0, vr a0)] [] w := by
  unfold F_Sc_init at h
  refine r_aload_n (i := 0) hX d_Sc_init_0 0 rfl rfl ?_
  obtain ⟨hk1, h⟩ := gd_e h
  refine r_objInit hX hM ow_Sc (kn_ne hk1) (by decide) (by decide) d_Sc_init_1 ?_
  refine r_aload_n (i := 0) hX d_Sc_init_4 0 rfl rfl ?_
  refine r_bipush (v := (24 : Int32)) hX d_Sc_init_5 rfl ?_
  obtain ⟨hg2, h⟩ := gd_e h
  refine r_anew (kd := 105) (N := 24) hX hM (by decide) cl_Sc_9 ao_Dy (fun G => rfl) (by decide) (by decide) (by decide) (al_1 hzz hg2) (al_2 hqq hg2) d_Sc_init_7 ?_
  obtain ⟨hk5, h⟩ := gd_e h
  refine r_putRF (i := 6) (f := 0) hX ci_6 (by decide) rfl rfl hI rfl (fun G => nw_r _ _) (fun G => ft_r _ _) fl_Sc_11 hk5 d_Sc_init_10 ?_
  refine r_iconst (v := (0 : Int32)) hX d_Sc_init_13 rfl ?_
  refine r_istore_n (i := 1) hX d_Sc_init_14 rfl (by decide) ?_
  exact rj_sub [1, 0] rfl (P_Sc_init_15 hX hM hR hI FUEL _ _ _ _ _ h  (zR (al_k 105 24 24 hzz)) (qR (al_q 105 24 24 hqq)))
theorem T_Sc_init {l : Launch} {G : AG} (a0 : Nat) (w : AW) {o : AW} (h : F_Sc_init a0 w = some o) : Mt l G y_Sc_init b_Sc_init 2 none 2 44 49 600 [vr a0] w none o := mt_of (by decide) (Nat.le_of_ble_eq_true rfl) (fun X hX hR hM hI => P_Sc_init_0 hX hM hR (hI rfl) 0 0 _ _ h rfl rfl)
/-! RedSky$Reading.<init>()V -/
theorem d_Rd_init_0 : decode b_Rd_init 0 = .ok (.aload_n 0, 1) := by decide +kernel
theorem d_Rd_init_1 : decode b_Rd_init 1 = .ok (.invokespecial 3, 3) := by decide +kernel
theorem d_Rd_init_4 : decode b_Rd_init 4 = .ok (.aload_n 0, 1) := by decide +kernel
theorem d_Rd_init_5 : decode b_Rd_init 5 = .ok (.new 9, 3) := by decide +kernel
theorem d_Rd_init_8 : decode b_Rd_init 8 = .ok (.dup, 1) := by decide +kernel
theorem d_Rd_init_9 : decode b_Rd_init 9 = .ok (.invokespecial 11, 3) := by decide +kernel
theorem d_Rd_init_12 : decode b_Rd_init 12 = .ok (.putfield 12, 3) := by decide +kernel
theorem d_Rd_init_15 : decode b_Rd_init 15 = .ok (.aload_n 0, 1) := by decide +kernel
theorem d_Rd_init_16 : decode b_Rd_init 16 = .ok (.new 9, 3) := by decide +kernel
theorem d_Rd_init_19 : decode b_Rd_init 19 = .ok (.dup, 1) := by decide +kernel
theorem d_Rd_init_20 : decode b_Rd_init 20 = .ok (.invokespecial 11, 3) := by decide +kernel
theorem d_Rd_init_23 : decode b_Rd_init 23 = .ok (.putfield 18, 3) := by decide +kernel
theorem d_Rd_init_26 : decode b_Rd_init 26 = .ok (.aload_n 0, 1) := by decide +kernel
theorem d_Rd_init_27 : decode b_Rd_init 27 = .ok (.new 9, 3) := by decide +kernel
theorem d_Rd_init_30 : decode b_Rd_init 30 = .ok (.dup, 1) := by decide +kernel
theorem d_Rd_init_31 : decode b_Rd_init 31 = .ok (.invokespecial 11, 3) := by decide +kernel
theorem d_Rd_init_34 : decode b_Rd_init 34 = .ok (.putfield 21, 3) := by decide +kernel
theorem d_Rd_init_37 : decode b_Rd_init 37 = .ok (.aload_n 0, 1) := by decide +kernel
theorem d_Rd_init_38 : decode b_Rd_init 38 = .ok (.new 9, 3) := by decide +kernel
theorem d_Rd_init_41 : decode b_Rd_init 41 = .ok (.dup, 1) := by decide +kernel
theorem d_Rd_init_42 : decode b_Rd_init 42 = .ok (.invokespecial 11, 3) := by decide +kernel
theorem d_Rd_init_45 : decode b_Rd_init 45 = .ok (.putfield 24, 3) := by decide +kernel
theorem d_Rd_init_48 : decode b_Rd_init 48 = .ok (.aload_n 0, 1) := by decide +kernel
theorem d_Rd_init_49 : decode b_Rd_init 49 = .ok (.new 9, 3) := by decide +kernel
theorem d_Rd_init_52 : decode b_Rd_init 52 = .ok (.dup, 1) := by decide +kernel
theorem d_Rd_init_53 : decode b_Rd_init 53 = .ok (.invokespecial 11, 3) := by decide +kernel
theorem d_Rd_init_56 : decode b_Rd_init 56 = .ok (.putfield 27, 3) := by decide +kernel
theorem d_Rd_init_59 : decode b_Rd_init 59 = .ok (.aload_n 0, 1) := by decide +kernel
theorem d_Rd_init_60 : decode b_Rd_init 60 = .ok (.new 9, 3) := by decide +kernel
theorem d_Rd_init_63 : decode b_Rd_init 63 = .ok (.dup, 1) := by decide +kernel
theorem d_Rd_init_64 : decode b_Rd_init 64 = .ok (.invokespecial 11, 3) := by decide +kernel
theorem d_Rd_init_67 : decode b_Rd_init 67 = .ok (.putfield 30, 3) := by decide +kernel
theorem d_Rd_init_70 : decode b_Rd_init 70 = .ok (.aload_n 0, 1) := by decide +kernel
theorem d_Rd_init_71 : decode b_Rd_init 71 = .ok (.new 9, 3) := by decide +kernel
theorem d_Rd_init_74 : decode b_Rd_init 74 = .ok (.dup, 1) := by decide +kernel
theorem d_Rd_init_75 : decode b_Rd_init 75 = .ok (.invokespecial 11, 3) := by decide +kernel
theorem d_Rd_init_78 : decode b_Rd_init 78 = .ok (.putfield 33, 3) := by decide +kernel
theorem d_Rd_init_81 : decode b_Rd_init 81 = .ok (.aload_n 0, 1) := by decide +kernel
theorem d_Rd_init_82 : decode b_Rd_init 82 = .ok (.new 9, 3) := by decide +kernel
theorem d_Rd_init_85 : decode b_Rd_init 85 = .ok (.dup, 1) := by decide +kernel
theorem d_Rd_init_86 : decode b_Rd_init 86 = .ok (.invokespecial 11, 3) := by decide +kernel
theorem d_Rd_init_89 : decode b_Rd_init 89 = .ok (.putfield 36, 3) := by decide +kernel
theorem d_Rd_init_92 : decode b_Rd_init 92 = .ok (.aload_n 0, 1) := by decide +kernel
theorem d_Rd_init_93 : decode b_Rd_init 93 = .ok (.new 9, 3) := by decide +kernel
theorem d_Rd_init_96 : decode b_Rd_init 96 = .ok (.dup, 1) := by decide +kernel
theorem d_Rd_init_97 : decode b_Rd_init 97 = .ok (.invokespecial 11, 3) := by decide +kernel
theorem d_Rd_init_100 : decode b_Rd_init 100 = .ok (.putfield 39, 3) := by decide +kernel
theorem d_Rd_init_103 : decode b_Rd_init 103 = .ok (.aload_n 0, 1) := by decide +kernel
theorem d_Rd_init_104 : decode b_Rd_init 104 = .ok (.new 9, 3) := by decide +kernel
theorem d_Rd_init_107 : decode b_Rd_init 107 = .ok (.dup, 1) := by decide +kernel
theorem d_Rd_init_108 : decode b_Rd_init 108 = .ok (.invokespecial 11, 3) := by decide +kernel
theorem d_Rd_init_111 : decode b_Rd_init 111 = .ok (.putfield 42, 3) := by decide +kernel
theorem d_Rd_init_114 : decode b_Rd_init 114 = .ok (.aload_n 0, 1) := by decide +kernel
theorem d_Rd_init_115 : decode b_Rd_init 115 = .ok (.new 9, 3) := by decide +kernel
theorem d_Rd_init_118 : decode b_Rd_init 118 = .ok (.dup, 1) := by decide +kernel
theorem d_Rd_init_119 : decode b_Rd_init 119 = .ok (.invokespecial 11, 3) := by decide +kernel
theorem d_Rd_init_122 : decode b_Rd_init 122 = .ok (.putfield 45, 3) := by decide +kernel
theorem d_Rd_init_125 : decode b_Rd_init 125 = .ok (.return_, 1) := by decide +kernel
def F_Rd_init_103 (z0 q0 : Nat) (a0 : Nat) (w : AW) : Option (AW) :=
  gd (Nat.blt (wz w) (z0 + 22) && Nat.ble (wq w + 1) (q0 + 264)) <|
  let p2 : Nat := wz w
  let w3 : AW := wnew w 8 0 1
  gd (Nat.ble (wz w3 + 1) (z0 + 22) && Nat.ble (wq w3 + 23) (q0 + 264)) <|
  (F_Dy_init p2 w3).bind fun r5 =>
  gd ((wz r5 == wz w3 + 1) && (wq r5 == wq w3 + 23)) <|
  gd (wk r5 a0 == 9) <|
  let w9 : AW := upR r5 a0 9 p2
  gd (Nat.blt (wz w9) (z0 + 22) && Nat.ble (wq w9 + 1) (q0 + 264)) <|
  let p11 : Nat := wz w9
  let w12 : AW := wnew w9 8 0 1
  gd (Nat.ble (wz w12 + 1) (z0 + 22) && Nat.ble (wq w12 + 23) (q0 + 264)) <|
  (F_Dy_init p11 w12).bind fun r14 =>
  gd ((wz r14 == wz w12 + 1) && (wq r14 == wq w12 + 23)) <|
  gd (wk r14 a0 == 9) <|
  let w18 : AW := upR r14 a0 10 p11
  gd ((wz w18 == z0 + 22) && (wq w18 == q0 + 264)) <|
  some w18
theorem P_Rd_init_103 {X : AX} {l : Launch} {G : AG} {z0 q0 : Nat} (hX : XOK X b_Rd_init "RedSky$Reading" 1) (hM : XM X l G { frames := 2, cells := 22, slots := 264, locals := 44 }) {o : AW} (hR : XR X none 22 264 none o) (hI : XI X) (k n : Nat) (a0 : Nat) (w : AW) (h : F_Rd_init_103 z0 q0 a0 w = some o) (hzz : z0 + k = wz w) (hqq : q0 + n = wq w) : RJ X 1 k n 103 [(0, vr a0)] [] w := by
  unfold F_Rd_init_103 at h
  refine r_aload_n (i := 0) hX d_Rd_init_103 0 rfl rfl ?_
  obtain ⟨hg1, h⟩ := gd_e h
  refine r_new (i := 7) hX hM ci_7 cn_Rd_9 df_7 (al_1 hzz hg1) (al_2 hqq hg1) d_Rd_init_104 ?_
  refine r_dup hX d_Rd_init_107 rfl ?_
  obtain ⟨hg4, h⟩ := gd_e h
  obtain ⟨r5, hr6, h⟩ := bd_e h
  refine r_callIN (As := []) hX hM mw_Rd_11 (T_Dy_init _ _ hr6) (kn_ne kn_new) rfl rfl (al_3 (al_k 8 0 1 hzz) (al_q 8 0 1 hqq) hg4) rfl rfl d_Rd_init_108 ?_
  obtain ⟨hg7, h⟩ := gd_e h
  obtain ⟨hk8, h⟩ := gd_e h
  refine r_putRF (i := 8) (f := 9) hX ci_8 (by decide) rfl rfl hI rfl (fun G => nw_o _ _) (fun G => ft_o _ _) fl_Rd_42 hk8 d_Rd_init_111 ?_
  refine r_aload_n (i := 0) hX d_Rd_init_114 0 rfl rfl ?_
  obtain ⟨hg10, h⟩ := gd_e h
  refine r_new (i := 7) hX hM ci_7 cn_Rd_9 df_7 (al_1 (zR (al_ck (c := 1) (al_k 8 0 1 hzz) hg7)) hg10) (al_2 (qR (al_cq (d := 23) (al_q 8 0 1 hqq) hg7)) hg10) d_Rd_init_115 ?_
  refine r_dup hX d_Rd_init_118 rfl ?_
  obtain ⟨hg13, h⟩ := gd_e h
  obtain ⟨r14, hr15, h⟩ := bd_e h
  refine r_callIN (As := []) hX hM mw_Rd_11 (T_Dy_init _ _ hr15) (kn_ne kn_new) rfl rfl (al_3 (al_k 8 0 1 (zR (al_ck (c := 1) (al_k 8 0 1 hzz) hg7))) (al_q 8 0 1 (qR (al_cq (d := 23) (al_q 8 0 1 hqq) hg7))) hg13) rfl rfl d_Rd_init_119 ?_
  obtain ⟨hg16, h⟩ := gd_e h
  obtain ⟨hk17, h⟩ := gd_e h
  refine r_putRF (i := 8) (f := 10) hX ci_8 (by decide) rfl rfl hI rfl (fun G => nw_o _ _) (fun G => ft_o _ _) fl_Rd_45 hk17 d_Rd_init_122 ?_
  obtain ⟨hg19, h⟩ := gd_e h
  cases h; exact rj_kn (al_e (zR (al_ck (c := 1) (al_k 8 0 1 (zR (al_ck (c := 1) (al_k 8 0 1 hzz) hg7))) hg16)) (qR (al_cq (d := 23) (al_q 8 0 1 (qR (al_cq (d := 23) (al_q 8 0 1 hqq) hg7))) hg16)) hg19) (r_vret hX hR d_Rd_init_125)
def F_Rd_init_70 (z0 q0 : Nat) (a0 : Nat) (w : AW) : Option (AW) :=
  gd (Nat.blt (wz w) (z0 + 22) && Nat.ble (wq w + 1) (q0 + 264)) <|
  let p2 : Nat := wz w
  let w3 : AW := wnew w 8 0 1
  gd (Nat.ble (wz w3 + 1) (z0 + 22) && Nat.ble (wq w3 + 23) (q0 + 264)) <|
  (F_Dy_init p2 w3).bind fun r5 =>
  gd ((wz r5 == wz w3 + 1) && (wq r5 == wq w3 + 23)) <|
  gd (wk r5 a0 == 9) <|
  let w9 : AW := upR r5 a0 6 p2
  gd (Nat.blt (wz w9) (z0 + 22) && Nat.ble (wq w9 + 1) (q0 + 264)) <|
  let p11 : Nat := wz w9
  let w12 : AW := wnew w9 8 0 1
  gd (Nat.ble (wz w12 + 1) (z0 + 22) && Nat.ble (wq w12 + 23) (q0 + 264)) <|
  (F_Dy_init p11 w12).bind fun r14 =>
  gd ((wz r14 == wz w12 + 1) && (wq r14 == wq w12 + 23)) <|
  gd (wk r14 a0 == 9) <|
  let w18 : AW := upR r14 a0 7 p11
  gd (Nat.blt (wz w18) (z0 + 22) && Nat.ble (wq w18 + 1) (q0 + 264)) <|
  let p20 : Nat := wz w18
  let w21 : AW := wnew w18 8 0 1
  gd (Nat.ble (wz w21 + 1) (z0 + 22) && Nat.ble (wq w21 + 23) (q0 + 264)) <|
  (F_Dy_init p20 w21).bind fun r23 =>
  gd ((wz r23 == wz w21 + 1) && (wq r23 == wq w21 + 23)) <|
  gd (wk r23 a0 == 9) <|
  let w27 : AW := upR r23 a0 8 p20
  F_Rd_init_103 z0 q0 a0 w27
theorem P_Rd_init_70 {X : AX} {l : Launch} {G : AG} {z0 q0 : Nat} (hX : XOK X b_Rd_init "RedSky$Reading" 1) (hM : XM X l G { frames := 2, cells := 22, slots := 264, locals := 44 }) {o : AW} (hR : XR X none 22 264 none o) (hI : XI X) (k n : Nat) (a0 : Nat) (w : AW) (h : F_Rd_init_70 z0 q0 a0 w = some o) (hzz : z0 + k = wz w) (hqq : q0 + n = wq w) : RJ X 1 k n 70 [(0, vr a0)] [] w := by
  unfold F_Rd_init_70 at h
  refine r_aload_n (i := 0) hX d_Rd_init_70 0 rfl rfl ?_
  obtain ⟨hg1, h⟩ := gd_e h
  refine r_new (i := 7) hX hM ci_7 cn_Rd_9 df_7 (al_1 hzz hg1) (al_2 hqq hg1) d_Rd_init_71 ?_
  refine r_dup hX d_Rd_init_74 rfl ?_
  obtain ⟨hg4, h⟩ := gd_e h
  obtain ⟨r5, hr6, h⟩ := bd_e h
  refine r_callIN (As := []) hX hM mw_Rd_11 (T_Dy_init _ _ hr6) (kn_ne kn_new) rfl rfl (al_3 (al_k 8 0 1 hzz) (al_q 8 0 1 hqq) hg4) rfl rfl d_Rd_init_75 ?_
  obtain ⟨hg7, h⟩ := gd_e h
  obtain ⟨hk8, h⟩ := gd_e h
  refine r_putRF (i := 8) (f := 6) hX ci_8 (by decide) rfl rfl hI rfl (fun G => nw_o _ _) (fun G => ft_o _ _) fl_Rd_33 hk8 d_Rd_init_78 ?_
  refine r_aload_n (i := 0) hX d_Rd_init_81 0 rfl rfl ?_
  obtain ⟨hg10, h⟩ := gd_e h
  refine r_new (i := 7) hX hM ci_7 cn_Rd_9 df_7 (al_1 (zR (al_ck (c := 1) (al_k 8 0 1 hzz) hg7)) hg10) (al_2 (qR (al_cq (d := 23) (al_q 8 0 1 hqq) hg7)) hg10) d_Rd_init_82 ?_
  refine r_dup hX d_Rd_init_85 rfl ?_
  obtain ⟨hg13, h⟩ := gd_e h
  obtain ⟨r14, hr15, h⟩ := bd_e h
  refine r_callIN (As := []) hX hM mw_Rd_11 (T_Dy_init _ _ hr15) (kn_ne kn_new) rfl rfl (al_3 (al_k 8 0 1 (zR (al_ck (c := 1) (al_k 8 0 1 hzz) hg7))) (al_q 8 0 1 (qR (al_cq (d := 23) (al_q 8 0 1 hqq) hg7))) hg13) rfl rfl d_Rd_init_86 ?_
  obtain ⟨hg16, h⟩ := gd_e h
  obtain ⟨hk17, h⟩ := gd_e h
  refine r_putRF (i := 8) (f := 7) hX ci_8 (by decide) rfl rfl hI rfl (fun G => nw_o _ _) (fun G => ft_o _ _) fl_Rd_36 hk17 d_Rd_init_89 ?_
  refine r_aload_n (i := 0) hX d_Rd_init_92 0 rfl rfl ?_
  obtain ⟨hg19, h⟩ := gd_e h
  refine r_new (i := 7) hX hM ci_7 cn_Rd_9 df_7 (al_1 (zR (al_ck (c := 1) (al_k 8 0 1 (zR (al_ck (c := 1) (al_k 8 0 1 hzz) hg7))) hg16)) hg19) (al_2 (qR (al_cq (d := 23) (al_q 8 0 1 (qR (al_cq (d := 23) (al_q 8 0 1 hqq) hg7))) hg16)) hg19) d_Rd_init_93 ?_
  refine r_dup hX d_Rd_init_96 rfl ?_
  obtain ⟨hg22, h⟩ := gd_e h
  obtain ⟨r23, hr24, h⟩ := bd_e h
  refine r_callIN (As := []) hX hM mw_Rd_11 (T_Dy_init _ _ hr24) (kn_ne kn_new) rfl rfl (al_3 (al_k 8 0 1 (zR (al_ck (c := 1) (al_k 8 0 1 (zR (al_ck (c := 1) (al_k 8 0 1 hzz) hg7))) hg16))) (al_q 8 0 1 (qR (al_cq (d := 23) (al_q 8 0 1 (qR (al_cq (d := 23) (al_q 8 0 1 hqq) hg7))) hg16))) hg22) rfl rfl d_Rd_init_97 ?_
  obtain ⟨hg25, h⟩ := gd_e h
  obtain ⟨hk26, h⟩ := gd_e h
  refine r_putRF (i := 8) (f := 8) hX ci_8 (by decide) rfl rfl hI rfl (fun G => nw_o _ _) (fun G => ft_o _ _) fl_Rd_39 hk26 d_Rd_init_100 ?_
  exact rj_sub [0] rfl (P_Rd_init_103 hX hM hR hI _ _ _ _ h  (zR (al_ck (c := 1) (al_k 8 0 1 (zR (al_ck (c := 1) (al_k 8 0 1 (zR (al_ck (c := 1) (al_k 8 0 1 hzz) hg7))) hg16))) hg25)) (qR (al_cq (d := 23) (al_q 8 0 1 (qR (al_cq (d := 23) (al_q 8 0 1 (qR (al_cq (d := 23) (al_q 8 0 1 hqq) hg7))) hg16))) hg25)))
def F_Rd_init_37 (z0 q0 : Nat) (a0 : Nat) (w : AW) : Option (AW) :=
  gd (Nat.blt (wz w) (z0 + 22) && Nat.ble (wq w + 1) (q0 + 264)) <|
  let p2 : Nat := wz w
  let w3 : AW := wnew w 8 0 1
  gd (Nat.ble (wz w3 + 1) (z0 + 22) && Nat.ble (wq w3 + 23) (q0 + 264)) <|
  (F_Dy_init p2 w3).bind fun r5 =>
  gd ((wz r5 == wz w3 + 1) && (wq r5 == wq w3 + 23)) <|
  gd (wk r5 a0 == 9) <|
  let w9 : AW := upR r5 a0 3 p2
  gd (Nat.blt (wz w9) (z0 + 22) && Nat.ble (wq w9 + 1) (q0 + 264)) <|
  let p11 : Nat := wz w9
  let w12 : AW := wnew w9 8 0 1
  gd (Nat.ble (wz w12 + 1) (z0 + 22) && Nat.ble (wq w12 + 23) (q0 + 264)) <|
  (F_Dy_init p11 w12).bind fun r14 =>
  gd ((wz r14 == wz w12 + 1) && (wq r14 == wq w12 + 23)) <|
  gd (wk r14 a0 == 9) <|
  let w18 : AW := upR r14 a0 4 p11
  gd (Nat.blt (wz w18) (z0 + 22) && Nat.ble (wq w18 + 1) (q0 + 264)) <|
  let p20 : Nat := wz w18
  let w21 : AW := wnew w18 8 0 1
  gd (Nat.ble (wz w21 + 1) (z0 + 22) && Nat.ble (wq w21 + 23) (q0 + 264)) <|
  (F_Dy_init p20 w21).bind fun r23 =>
  gd ((wz r23 == wz w21 + 1) && (wq r23 == wq w21 + 23)) <|
  gd (wk r23 a0 == 9) <|
  let w27 : AW := upR r23 a0 5 p20
  F_Rd_init_70 z0 q0 a0 w27
theorem P_Rd_init_37 {X : AX} {l : Launch} {G : AG} {z0 q0 : Nat} (hX : XOK X b_Rd_init "RedSky$Reading" 1) (hM : XM X l G { frames := 2, cells := 22, slots := 264, locals := 44 }) {o : AW} (hR : XR X none 22 264 none o) (hI : XI X) (k n : Nat) (a0 : Nat) (w : AW) (h : F_Rd_init_37 z0 q0 a0 w = some o) (hzz : z0 + k = wz w) (hqq : q0 + n = wq w) : RJ X 1 k n 37 [(0, vr a0)] [] w := by
  unfold F_Rd_init_37 at h
  refine r_aload_n (i := 0) hX d_Rd_init_37 0 rfl rfl ?_
  obtain ⟨hg1, h⟩ := gd_e h
  refine r_new (i := 7) hX hM ci_7 cn_Rd_9 df_7 (al_1 hzz hg1) (al_2 hqq hg1) d_Rd_init_38 ?_
  refine r_dup hX d_Rd_init_41 rfl ?_
  obtain ⟨hg4, h⟩ := gd_e h
  obtain ⟨r5, hr6, h⟩ := bd_e h
  refine r_callIN (As := []) hX hM mw_Rd_11 (T_Dy_init _ _ hr6) (kn_ne kn_new) rfl rfl (al_3 (al_k 8 0 1 hzz) (al_q 8 0 1 hqq) hg4) rfl rfl d_Rd_init_42 ?_
  obtain ⟨hg7, h⟩ := gd_e h
  obtain ⟨hk8, h⟩ := gd_e h
  refine r_putRF (i := 8) (f := 3) hX ci_8 (by decide) rfl rfl hI rfl (fun G => nw_o _ _) (fun G => ft_o _ _) fl_Rd_24 hk8 d_Rd_init_45 ?_
  refine r_aload_n (i := 0) hX d_Rd_init_48 0 rfl rfl ?_
  obtain ⟨hg10, h⟩ := gd_e h
  refine r_new (i := 7) hX hM ci_7 cn_Rd_9 df_7 (al_1 (zR (al_ck (c := 1) (al_k 8 0 1 hzz) hg7)) hg10) (al_2 (qR (al_cq (d := 23) (al_q 8 0 1 hqq) hg7)) hg10) d_Rd_init_49 ?_
  refine r_dup hX d_Rd_init_52 rfl ?_
  obtain ⟨hg13, h⟩ := gd_e h
  obtain ⟨r14, hr15, h⟩ := bd_e h
  refine r_callIN (As := []) hX hM mw_Rd_11 (T_Dy_init _ _ hr15) (kn_ne kn_new) rfl rfl (al_3 (al_k 8 0 1 (zR (al_ck (c := 1) (al_k 8 0 1 hzz) hg7))) (al_q 8 0 1 (qR (al_cq (d := 23) (al_q 8 0 1 hqq) hg7))) hg13) rfl rfl d_Rd_init_53 ?_
  obtain ⟨hg16, h⟩ := gd_e h
  obtain ⟨hk17, h⟩ := gd_e h
  refine r_putRF (i := 8) (f := 4) hX ci_8 (by decide) rfl rfl hI rfl (fun G => nw_o _ _) (fun G => ft_o _ _) fl_Rd_27 hk17 d_Rd_init_56 ?_
  refine r_aload_n (i := 0) hX d_Rd_init_59 0 rfl rfl ?_
  obtain ⟨hg19, h⟩ := gd_e h
  refine r_new (i := 7) hX hM ci_7 cn_Rd_9 df_7 (al_1 (zR (al_ck (c := 1) (al_k 8 0 1 (zR (al_ck (c := 1) (al_k 8 0 1 hzz) hg7))) hg16)) hg19) (al_2 (qR (al_cq (d := 23) (al_q 8 0 1 (qR (al_cq (d := 23) (al_q 8 0 1 hqq) hg7))) hg16)) hg19) d_Rd_init_60 ?_
  refine r_dup hX d_Rd_init_63 rfl ?_
  obtain ⟨hg22, h⟩ := gd_e h
  obtain ⟨r23, hr24, h⟩ := bd_e h
  refine r_callIN (As := []) hX hM mw_Rd_11 (T_Dy_init _ _ hr24) (kn_ne kn_new) rfl rfl (al_3 (al_k 8 0 1 (zR (al_ck (c := 1) (al_k 8 0 1 (zR (al_ck (c := 1) (al_k 8 0 1 hzz) hg7))) hg16))) (al_q 8 0 1 (qR (al_cq (d := 23) (al_q 8 0 1 (qR (al_cq (d := 23) (al_q 8 0 1 hqq) hg7))) hg16))) hg22) rfl rfl d_Rd_init_64 ?_
  obtain ⟨hg25, h⟩ := gd_e h
  obtain ⟨hk26, h⟩ := gd_e h
  refine r_putRF (i := 8) (f := 5) hX ci_8 (by decide) rfl rfl hI rfl (fun G => nw_o _ _) (fun G => ft_o _ _) fl_Rd_30 hk26 d_Rd_init_67 ?_
  exact rj_sub [0] rfl (P_Rd_init_70 hX hM hR hI _ _ _ _ h  (zR (al_ck (c := 1) (al_k 8 0 1 (zR (al_ck (c := 1) (al_k 8 0 1 (zR (al_ck (c := 1) (al_k 8 0 1 hzz) hg7))) hg16))) hg25)) (qR (al_cq (d := 23) (al_q 8 0 1 (qR (al_cq (d := 23) (al_q 8 0 1 (qR (al_cq (d := 23) (al_q 8 0 1 hqq) hg7))) hg16))) hg25)))
def F_Rd_init (a0 : Nat) (w : AW) : Option (AW) :=
  gd (wk w a0 == 9) <|
  gd (Nat.blt (wz w) ((wz w) + 22) && Nat.ble (wq w + 1) ((wq w) + 264)) <|
  let p3 : Nat := wz w
  let w4 : AW := wnew w 8 0 1
  gd (Nat.ble (wz w4 + 1) ((wz w) + 22) && Nat.ble (wq w4 + 23) ((wq w) + 264)) <|
  (F_Dy_init p3 w4).bind fun r6 =>
  gd ((wz r6 == wz w4 + 1) && (wq r6 == wq w4 + 23)) <|
  gd (wk r6 a0 == 9) <|
  let w10 : AW := upR r6 a0 0 p3
  gd (Nat.blt (wz w10) ((wz w) + 22) && Nat.ble (wq w10 + 1) ((wq w) + 264)) <|
  let p12 : Nat := wz w10
  let w13 : AW := wnew w10 8 0 1
  gd (Nat.ble (wz w13 + 1) ((wz w) + 22) && Nat.ble (wq w13 + 23) ((wq w) + 264)) <|
  (F_Dy_init p12 w13).bind fun r15 =>
  gd ((wz r15 == wz w13 + 1) && (wq r15 == wq w13 + 23)) <|
  gd (wk r15 a0 == 9) <|
  let w19 : AW := upR r15 a0 1 p12
  gd (Nat.blt (wz w19) ((wz w) + 22) && Nat.ble (wq w19 + 1) ((wq w) + 264)) <|
  let p21 : Nat := wz w19
  let w22 : AW := wnew w19 8 0 1
  gd (Nat.ble (wz w22 + 1) ((wz w) + 22) && Nat.ble (wq w22 + 23) ((wq w) + 264)) <|
  (F_Dy_init p21 w22).bind fun r24 =>
  gd ((wz r24 == wz w22 + 1) && (wq r24 == wq w22 + 23)) <|
  gd (wk r24 a0 == 9) <|
  let w28 : AW := upR r24 a0 2 p21
  F_Rd_init_37 (wz w) (wq w) a0 w28
theorem P_Rd_init_0 {X : AX} {l : Launch} {G : AG} (hX : XOK X b_Rd_init "RedSky$Reading" 1) (hM : XM X l G { frames := 2, cells := 22, slots := 264, locals := 44 }) {o : AW} (hR : XR X none 22 264 none o) (hI : XI X) (k n : Nat) (a0 : Nat) (w : AW) (h : F_Rd_init a0 w = some o) (hzz : wz w + k = wz w) (hqq : wq w + n = wq w) : RJ X 1 k n 0 [(0, vr a0)] [] w := by
  unfold F_Rd_init at h
  refine r_aload_n (i := 0) hX d_Rd_init_0 0 rfl rfl ?_
  obtain ⟨hk1, h⟩ := gd_e h
  refine r_objInit hX hM ow_Rd (kn_ne hk1) (by decide) (by decide) d_Rd_init_1 ?_
  refine r_aload_n (i := 0) hX d_Rd_init_4 0 rfl rfl ?_
  obtain ⟨hg2, h⟩ := gd_e h
  refine r_new (i := 7) hX hM ci_7 cn_Rd_9 df_7 (al_1 hzz hg2) (al_2 hqq hg2) d_Rd_init_5 ?_
  refine r_dup hX d_Rd_init_8 rfl ?_
  obtain ⟨hg5, h⟩ := gd_e h
  obtain ⟨r6, hr7, h⟩ := bd_e h
  refine r_callIN (As := []) hX hM mw_Rd_11 (T_Dy_init _ _ hr7) (kn_ne kn_new) rfl rfl (al_3 (al_k 8 0 1 hzz) (al_q 8 0 1 hqq) hg5) rfl rfl d_Rd_init_9 ?_
  obtain ⟨hg8, h⟩ := gd_e h
  obtain ⟨hk9, h⟩ := gd_e h
  refine r_putRF (i := 8) (f := 0) hX ci_8 (by decide) rfl rfl hI rfl (fun G => nw_o _ _) (fun G => ft_o _ _) fl_Rd_12 hk9 d_Rd_init_12 ?_
  refine r_aload_n (i := 0) hX d_Rd_init_15 0 rfl rfl ?_
  obtain ⟨hg11, h⟩ := gd_e h
  refine r_new (i := 7) hX hM ci_7 cn_Rd_9 df_7 (al_1 (zR (al_ck (c := 1) (al_k 8 0 1 hzz) hg8)) hg11) (al_2 (qR (al_cq (d := 23) (al_q 8 0 1 hqq) hg8)) hg11) d_Rd_init_16 ?_
  refine r_dup hX d_Rd_init_19 rfl ?_
  obtain ⟨hg14, h⟩ := gd_e h
  obtain ⟨r15, hr16, h⟩ := bd_e h
  refine r_callIN (As := []) hX hM mw_Rd_11 (T_Dy_init _ _ hr16) (kn_ne kn_new) rfl rfl (al_3 (al_k 8 0 1 (zR (al_ck (c := 1) (al_k 8 0 1 hzz) hg8))) (al_q 8 0 1 (qR (al_cq (d := 23) (al_q 8 0 1 hqq) hg8))) hg14) rfl rfl d_Rd_init_20 ?_
  obtain ⟨hg17, h⟩ := gd_e h
  obtain ⟨hk18, h⟩ := gd_e h
  refine r_putRF (i := 8) (f := 1) hX ci_8 (by decide) rfl rfl hI rfl (fun G => nw_o _ _) (fun G => ft_o _ _) fl_Rd_18 hk18 d_Rd_init_23 ?_
  refine r_aload_n (i := 0) hX d_Rd_init_26 0 rfl rfl ?_
  obtain ⟨hg20, h⟩ := gd_e h
  refine r_new (i := 7) hX hM ci_7 cn_Rd_9 df_7 (al_1 (zR (al_ck (c := 1) (al_k 8 0 1 (zR (al_ck (c := 1) (al_k 8 0 1 hzz) hg8))) hg17)) hg20) (al_2 (qR (al_cq (d := 23) (al_q 8 0 1 (qR (al_cq (d := 23) (al_q 8 0 1 hqq) hg8))) hg17)) hg20) d_Rd_init_27 ?_
  refine r_dup hX d_Rd_init_30 rfl ?_
  obtain ⟨hg23, h⟩ := gd_e h
  obtain ⟨r24, hr25, h⟩ := bd_e h
  refine r_callIN (As := []) hX hM mw_Rd_11 (T_Dy_init _ _ hr25) (kn_ne kn_new) rfl rfl (al_3 (al_k 8 0 1 (zR (al_ck (c := 1) (al_k 8 0 1 (zR (al_ck (c := 1) (al_k 8 0 1 hzz) hg8))) hg17))) (al_q 8 0 1 (qR (al_cq (d := 23) (al_q 8 0 1 (qR (al_cq (d := 23) (al_q 8 0 1 hqq) hg8))) hg17))) hg23) rfl rfl d_Rd_init_31 ?_
  obtain ⟨hg26, h⟩ := gd_e h
  obtain ⟨hk27, h⟩ := gd_e h
  refine r_putRF (i := 8) (f := 2) hX ci_8 (by decide) rfl rfl hI rfl (fun G => nw_o _ _) (fun G => ft_o _ _) fl_Rd_21 hk27 d_Rd_init_34 ?_
  exact rj_sub [0] rfl (P_Rd_init_37 hX hM hR hI _ _ _ _ h  (zR (al_ck (c := 1) (al_k 8 0 1 (zR (al_ck (c := 1) (al_k 8 0 1 (zR (al_ck (c := 1) (al_k 8 0 1 hzz) hg8))) hg17))) hg26)) (qR (al_cq (d := 23) (al_q 8 0 1 (qR (al_cq (d := 23) (al_q 8 0 1 (qR (al_cq (d := 23) (al_q 8 0 1 hqq) hg8))) hg17))) hg26)))
theorem T_Rd_init {l : Launch} {G : AG} (a0 : Nat) (w : AW) {o : AW} (h : F_Rd_init a0 w = some o) : Mt l G y_Rd_init b_Rd_init 1 none 2 44 22 264 [vr a0] w none o := mt_of (by decide) (Nat.le_of_ble_eq_true rfl) (fun X hX hR hM hI => P_Rd_init_0 hX hM hR (hI rfl) 0 0 _ _ h rfl rfl)
/-! RedSky$Learner.<init>()V -/
theorem d_Le_init_0 : decode b_Le_init 0 = .ok (.aload_n 0, 1) := by decide +kernel
theorem d_Le_init_1 : decode b_Le_init 1 = .ok (.invokespecial 3, 3) := by decide +kernel
theorem d_Le_init_4 : decode b_Le_init 4 = .ok (.aload_n 0, 1) := by decide +kernel
theorem d_Le_init_5 : decode b_Le_init 5 = .ok (.iconst 0, 1) := by decide +kernel
theorem d_Le_init_6 : decode b_Le_init 6 = .ok (.putfield 9, 3) := by decide +kernel
theorem d_Le_init_9 : decode b_Le_init 9 = .ok (.aload_n 0, 1) := by decide +kernel
theorem d_Le_init_10 : decode b_Le_init 10 = .ok (.iconst 0, 1) := by decide +kernel
theorem d_Le_init_11 : decode b_Le_init 11 = .ok (.putfield 15, 3) := by decide +kernel
theorem d_Le_init_14 : decode b_Le_init 14 = .ok (.aload_n 0, 1) := by decide +kernel
theorem d_Le_init_15 : decode b_Le_init 15 = .ok (.bipush (8), 2) := by decide +kernel
theorem d_Le_init_17 : decode b_Le_init 17 = .ok (.anewarray 18, 3) := by decide +kernel
theorem d_Le_init_20 : decode b_Le_init 20 = .ok (.putfield 20, 3) := by decide +kernel
theorem d_Le_init_23 : decode b_Le_init 23 = .ok (.aload_n 0, 1) := by decide +kernel
theorem d_Le_init_24 : decode b_Le_init 24 = .ok (.new 18, 3) := by decide +kernel
theorem d_Le_init_27 : decode b_Le_init 27 = .ok (.dup, 1) := by decide +kernel
theorem d_Le_init_28 : decode b_Le_init 28 = .ok (.invokespecial 24, 3) := by decide +kernel
theorem d_Le_init_31 : decode b_Le_init 31 = .ok (.putfield 25, 3) := by decide +kernel
theorem d_Le_init_34 : decode b_Le_init 34 = .ok (.aload_n 0, 1) := by decide +kernel
theorem d_Le_init_35 : decode b_Le_init 35 = .ok (.new 18, 3) := by decide +kernel
theorem d_Le_init_38 : decode b_Le_init 38 = .ok (.dup, 1) := by decide +kernel
theorem d_Le_init_39 : decode b_Le_init 39 = .ok (.invokespecial 24, 3) := by decide +kernel
theorem d_Le_init_42 : decode b_Le_init 42 = .ok (.putfield 29, 3) := by decide +kernel
theorem d_Le_init_45 : decode b_Le_init 45 = .ok (.aload_n 0, 1) := by decide +kernel
theorem d_Le_init_46 : decode b_Le_init 46 = .ok (.new 18, 3) := by decide +kernel
theorem d_Le_init_49 : decode b_Le_init 49 = .ok (.dup, 1) := by decide +kernel
theorem d_Le_init_50 : decode b_Le_init 50 = .ok (.invokespecial 24, 3) := by decide +kernel
theorem d_Le_init_53 : decode b_Le_init 53 = .ok (.putfield 32, 3) := by decide +kernel
theorem d_Le_init_56 : decode b_Le_init 56 = .ok (.aload_n 0, 1) := by decide +kernel
theorem d_Le_init_57 : decode b_Le_init 57 = .ok (.new 18, 3) := by decide +kernel
theorem d_Le_init_60 : decode b_Le_init 60 = .ok (.dup, 1) := by decide +kernel
theorem d_Le_init_61 : decode b_Le_init 61 = .ok (.invokespecial 24, 3) := by decide +kernel
theorem d_Le_init_64 : decode b_Le_init 64 = .ok (.putfield 35, 3) := by decide +kernel
theorem d_Le_init_67 : decode b_Le_init 67 = .ok (.aload_n 0, 1) := by decide +kernel
theorem d_Le_init_68 : decode b_Le_init 68 = .ok (.new 18, 3) := by decide +kernel
theorem d_Le_init_71 : decode b_Le_init 71 = .ok (.dup, 1) := by decide +kernel
theorem d_Le_init_72 : decode b_Le_init 72 = .ok (.invokespecial 24, 3) := by decide +kernel
theorem d_Le_init_75 : decode b_Le_init 75 = .ok (.putfield 38, 3) := by decide +kernel
theorem d_Le_init_78 : decode b_Le_init 78 = .ok (.aload_n 0, 1) := by decide +kernel
theorem d_Le_init_79 : decode b_Le_init 79 = .ok (.iconst 2, 1) := by decide +kernel
theorem d_Le_init_80 : decode b_Le_init 80 = .ok (.newarray .int, 2) := by decide +kernel
theorem d_Le_init_82 : decode b_Le_init 82 = .ok (.putfield 41, 3) := by decide +kernel
theorem d_Le_init_85 : decode b_Le_init 85 = .ok (.aload_n 0, 1) := by decide +kernel
theorem d_Le_init_86 : decode b_Le_init 86 = .ok (.iconst 2, 1) := by decide +kernel
theorem d_Le_init_87 : decode b_Le_init 87 = .ok (.newarray .int, 2) := by decide +kernel
theorem d_Le_init_89 : decode b_Le_init 89 = .ok (.putfield 45, 3) := by decide +kernel
theorem d_Le_init_92 : decode b_Le_init 92 = .ok (.aload_n 0, 1) := by decide +kernel
theorem d_Le_init_93 : decode b_Le_init 93 = .ok (.iconst 2, 1) := by decide +kernel
theorem d_Le_init_94 : decode b_Le_init 94 = .ok (.newarray .boolean, 2) := by decide +kernel
theorem d_Le_init_96 : decode b_Le_init 96 = .ok (.putfield 48, 3) := by decide +kernel
theorem d_Le_init_99 : decode b_Le_init 99 = .ok (.aload_n 0, 1) := by decide +kernel
theorem d_Le_init_100 : decode b_Le_init 100 = .ok (.iconst 0, 1) := by decide +kernel
theorem d_Le_init_101 : decode b_Le_init 101 = .ok (.putfield 52, 3) := by decide +kernel
theorem d_Le_init_104 : decode b_Le_init 104 = .ok (.aload_n 0, 1) := by decide +kernel
theorem d_Le_init_105 : decode b_Le_init 105 = .ok (.iconst 0, 1) := by decide +kernel
theorem d_Le_init_106 : decode b_Le_init 106 = .ok (.putfield 55, 3) := by decide +kernel
theorem d_Le_init_109 : decode b_Le_init 109 = .ok (.aload_n 0, 1) := by decide +kernel
theorem d_Le_init_110 : decode b_Le_init 110 = .ok (.iconst 0, 1) := by decide +kernel
theorem d_Le_init_111 : decode b_Le_init 111 = .ok (.putfield 59, 3) := by decide +kernel
theorem d_Le_init_114 : decode b_Le_init 114 = .ok (.aload_n 0, 1) := by decide +kernel
theorem d_Le_init_115 : decode b_Le_init 115 = .ok (.iconst 0, 1) := by decide +kernel
theorem d_Le_init_116 : decode b_Le_init 116 = .ok (.putfield 62, 3) := by decide +kernel
theorem d_Le_init_119 : decode b_Le_init 119 = .ok (.aload_n 0, 1) := by decide +kernel
theorem d_Le_init_120 : decode b_Le_init 120 = .ok (.iconst 0, 1) := by decide +kernel
theorem d_Le_init_121 : decode b_Le_init 121 = .ok (.putfield 65, 3) := by decide +kernel
theorem d_Le_init_124 : decode b_Le_init 124 = .ok (.iconst 0, 1) := by decide +kernel
theorem d_Le_init_125 : decode b_Le_init 125 = .ok (.istore_n 1, 1) := by decide +kernel
theorem d_Le_init_126 : decode b_Le_init 126 = .ok (.iload_n 1, 1) := by decide +kernel
theorem d_Le_init_127 : decode b_Le_init 127 = .ok (.bipush (8), 2) := by decide +kernel
theorem d_Le_init_129 : decode b_Le_init 129 = .ok (.if_icmp .ge (22), 3) := by decide +kernel
theorem d_Le_init_132 : decode b_Le_init 132 = .ok (.aload_n 0, 1) := by decide +kernel
theorem d_Le_init_133 : decode b_Le_init 133 = .ok (.getfield 20, 3) := by decide +kernel
theorem d_Le_init_136 : decode b_Le_init 136 = .ok (.iload_n 1, 1) := by decide +kernel
theorem d_Le_init_137 : decode b_Le_init 137 = .ok (.new 18, 3) := by decide +kernel
theorem d_Le_init_140 : decode b_Le_init 140 = .ok (.dup, 1) := by decide +kernel
theorem d_Le_init_141 : decode b_Le_init 141 = .ok (.invokespecial 24, 3) := by decide +kernel
theorem d_Le_init_144 : decode b_Le_init 144 = .ok (.aastore, 1) := by decide +kernel
theorem d_Le_init_145 : decode b_Le_init 145 = .ok (.iinc 1 (1), 3) := by decide +kernel
theorem d_Le_init_148 : decode b_Le_init 148 = .ok (.goto (-22), 3) := by decide +kernel
theorem d_Le_init_151 : decode b_Le_init 151 = .ok (.return_, 1) := by decide +kernel
def F_Le_init_126_B (rec126 : Nat → Int32 → AW → Option (AW)) (z0 q0 : Nat) (a0 : Nat) (x1 : Int32) (w : AW) : Option (AW) :=
  if (8 : Int32) ≤ x1 then
    gd ((wz w == z0 + 30) && (wq w == q0 + 326)) <|
    some w
  else
    gd (wk w a0 == 10) <|
    gd (Nat.blt (wz w) (z0 + 30) && Nat.ble (wq w + 1) (q0 + 326)) <|
    let p4 : Nat := wz w
    let w5 : AW := wnew w 8 0 1
    gd (Nat.ble (wz w5 + 1) (z0 + 30) && Nat.ble (wq w5 + 23) (q0 + 326)) <|
    (F_Dy_init p4 w5).bind fun r7 =>
    gd ((wz r7 == wz w5 + 1) && (wq r7 == wq w5 + 23)) <|
    gd (wk r7 (wr w a0 2) == 105) <|
    gd (wk r7 p4 == 8) <|
    gd (inb x1 (wn r7 (wr w a0 2))) <|
    let w13 : AW := upR r7 (wr w a0 2) (Int32.toNatClampNeg x1) p4
    let v14 : Int32 := (x1 + (1 : Int32))
    rec126 a0 v14 w13
theorem P_Le_init_126_B {X : AX} {l : Launch} {G : AG} {z0 q0 : Nat} {rec126 : Nat → Int32 → AW → Option (AW)} (hX : XOK X b_Le_init "RedSky$Learner" 2) (hM : XM X l G { frames := 2, cells := 30, slots := 326, locals := 44 }) {o : AW} (hR : XR X none 30 326 none o) (hI : XI X) (hrec126 : ∀ (k n : Nat) (a0 : Nat) (x1 : Int32) (w : AW), rec126 a0 x1 w = some o → z0 + k = wz w → q0 + n = wq w → RJ X 2 k n 126 [(0, vr a0), (1, vi x1)] [] w) (k n : Nat) (a0 : Nat) (x1 : Int32) (w : AW) (h : F_Le_init_126_B rec126 z0 q0 a0 x1 w = some o) (hzz : z0 + k = wz w) (hqq : q0 + n = wq w) : RJ X 2 k n 126 [(0, vr a0), (1, vi x1)] [] w := by
  unfold F_Le_init_126_B at h
  refine r_iload_n (i := 1) hX d_Le_init_126 1 rfl rfl ?_
  refine r_bipush (v := (8 : Int32)) hX d_Le_init_127 rfl ?_
  refine r_icmp_ge hX d_Le_init_129 rfl h (fun h => ?_) (fun h => ?_)
  · obtain ⟨hg1, h⟩ := gd_e h
    cases h; exact rj_kn (al_e hzz hqq hg1) (r_vret hX hR d_Le_init_151)
  · refine r_aload_n (i := 0) hX d_Le_init_132 0 rfl rfl ?_
    obtain ⟨hk2, h⟩ := gd_e h
    refine r_getR (i := 9) (f := 2) hX ci_9 (by decide) rfl fl_Le_20 hk2 d_Le_init_133 ?_
    refine r_iload_n (i := 1) hX d_Le_init_136 1 rfl rfl ?_
    obtain ⟨hg3, h⟩ := gd_e h
    refine r_new (i := 7) hX hM ci_7 cn_Le_18 df_7 (al_1 hzz hg3) (al_2 hqq hg3) d_Le_init_137 ?_
    refine r_dup hX d_Le_init_140 rfl ?_
    obtain ⟨hg6, h⟩ := gd_e h
    obtain ⟨r7, hr8, h⟩ := bd_e h
    refine r_callIN (As := []) hX hM mw_Le_24 (T_Dy_init _ _ hr8) (kn_ne kn_new) rfl rfl (al_3 (al_k 8 0 1 hzz) (al_q 8 0 1 hqq) hg6) rfl rfl d_Le_init_141 ?_
    obtain ⟨hg9, h⟩ := gd_e h
    obtain ⟨hk10, h⟩ := gd_e h
    obtain ⟨hk11, h⟩ := gd_e h
    obtain ⟨hg12, h⟩ := gd_e h
    refine r_aast (kd := 105) (ci := 7) hX (by decide) (by decide) rfl (fun G => rfl) hk10 hk11 hg12 d_Le_init_144 ?_
    refine r_iinc (i := 1) (v := (1 : Int32)) hX d_Le_init_145 1 rfl rfl (by decide) ?_
    refine r_goto hX d_Le_init_148 rfl ?_
    exact rj_sub [1, 0] rfl (hrec126 _ _ _ _ _ h (zR (al_ck (c := 1) (al_k 8 0 1 hzz) hg9)) (qR (al_cq (d := 23) (al_q 8 0 1 hqq) hg9)))
def F_Le_init_126 (z0 q0 : Nat) : Nat → Nat → Int32 → AW → Option (AW)
  | 0 => fun _ _ _ => none
  | n + 1 => fun a0 x1 w => F_Le_init_126_B (F_Le_init_126 z0 q0 n) z0 q0 a0 x1 w
theorem P_Le_init_126 {X : AX} {l : Launch} {G : AG} {z0 q0 : Nat} (hX : XOK X b_Le_init "RedSky$Learner" 2) (hM : XM X l G { frames := 2, cells := 30, slots := 326, locals := 44 }) {o : AW} (hR : XR X none 30 326 none o) (hI : XI X) (fu : Nat) : ∀ (k n : Nat) (a0 : Nat) (x1 : Int32) (w : AW), F_Le_init_126 z0 q0 fu a0 x1 w = some o → z0 + k = wz w → q0 + n = wq w → RJ X 2 k n 126 [(0, vr a0), (1, vi x1)] [] w := by
  induction fu with
  | zero => intro k n a0 x1 w h; cases h
  | succ n9 ih => intro k n a0 x1 w h hzz hqq; exact P_Le_init_126_B hX hM hR hI ih _ _ _ _ _ h hzz hqq
def F_Le_init_119 (z0 q0 : Nat) (a0 : Nat) (w : AW) : Option (AW) :=
  gd (wk w a0 == 10) <|
  let w2 : AW := upI w a0 15 (0 : Int32)
  F_Le_init_126 z0 q0 FUEL a0 (0 : Int32) w2
theorem P_Le_init_119 {X : AX} {l : Launch} {G : AG} {z0 q0 : Nat} (hX : XOK X b_Le_init "RedSky$Learner" 2) (hM : XM X l G { frames := 2, cells := 30, slots := 326, locals := 44 }) {o : AW} (hR : XR X none 30 326 none o) (hI : XI X) (k n : Nat) (a0 : Nat) (w : AW) (h : F_Le_init_119 z0 q0 a0 w = some o) (hzz : z0 + k = wz w) (hqq : q0 + n = wq w) : RJ X 2 k n 119 [(0, vr a0)] [] w := by
  unfold F_Le_init_119 at h
  refine r_aload_n (i := 0) hX d_Le_init_119 0 rfl rfl ?_
  refine r_iconst (v := (0 : Int32)) hX d_Le_init_120 rfl ?_
  obtain ⟨hk1, h⟩ := gd_e h
  refine r_putI (i := 9) (f := 15) hX ci_9 (by decide) rfl rfl (fun G => rfl) (fun G => rfl) fl_Le_65 hk1 d_Le_init_121 ?_
  refine r_iconst (v := (0 : Int32)) hX d_Le_init_124 rfl ?_
  refine r_istore_n (i := 1) hX d_Le_init_125 rfl (by decide) ?_
  exact rj_sub [1, 0] rfl (P_Le_init_126 hX hM hR hI FUEL _ _ _ _ _ h  (zI hzz) (qI hqq))
def F_Le_init_92 (z0 q0 : Nat) (a0 : Nat) (w : AW) : Option (AW) :=
  gd (Nat.blt (wz w) (z0 + 30) && Nat.ble (wq w + 2) (q0 + 326)) <|
  let p2 : Nat := wz w
  let w3 : AW := wnew w 104 2 2
  gd (wk w3 a0 == 10) <|
  let w5 : AW := upR w3 a0 10 p2
  let w6 : AW := upI w5 a0 11 (0 : Int32)
  let w7 : AW := upI w6 a0 12 (0 : Int32)
  let w8 : AW := upI w7 a0 13 (0 : Int32)
  let w9 : AW := upI w8 a0 14 (0 : Int32)
  F_Le_init_119 z0 q0 a0 w9
theorem P_Le_init_92 {X : AX} {l : Launch} {G : AG} {z0 q0 : Nat} (hX : XOK X b_Le_init "RedSky$Learner" 2) (hM : XM X l G { frames := 2, cells := 30, slots := 326, locals := 44 }) {o : AW} (hR : XR X none 30 326 none o) (hI : XI X) (k n : Nat) (a0 : Nat) (w : AW) (h : F_Le_init_92 z0 q0 a0 w = some o) (hzz : z0 + k = wz w) (hqq : q0 + n = wq w) : RJ X 2 k n 92 [(0, vr a0)] [] w := by
  unfold F_Le_init_92 at h
  refine r_aload_n (i := 0) hX d_Le_init_92 0 rfl rfl ?_
  refine r_iconst (v := (2 : Int32)) hX d_Le_init_93 rfl ?_
  obtain ⟨hg1, h⟩ := gd_e h
  refine r_newarr (kd := 104) (N := 2) hX hM (by decide) aw_boolean (fun G => rfl) (by intro D9 h9; cases h9) rfl (by decide) (by decide) (by decide) (al_1 hzz hg1) (al_2 hqq hg1) d_Le_init_94 ?_
  obtain ⟨hk4, h⟩ := gd_e h
  refine r_putRF (i := 9) (f := 10) hX ci_9 (by decide) rfl rfl hI rfl (fun G => nw_r _ _) (fun G => ft_r _ _) fl_Le_48 hk4 d_Le_init_96 ?_
  refine r_aload_n (i := 0) hX d_Le_init_99 0 rfl rfl ?_
  refine r_iconst (v := (0 : Int32)) hX d_Le_init_100 rfl ?_
  refine r_putI (i := 9) (f := 11) hX ci_9 (by decide) rfl rfl (fun G => rfl) (fun G => rfl) fl_Le_52 (kR hk4) d_Le_init_101 ?_
  refine r_aload_n (i := 0) hX d_Le_init_104 0 rfl rfl ?_
  refine r_iconst (v := (0 : Int32)) hX d_Le_init_105 rfl ?_
  refine r_putI (i := 9) (f := 12) hX ci_9 (by decide) rfl rfl (fun G => rfl) (fun G => rfl) fl_Le_55 (kI (kR hk4)) d_Le_init_106 ?_
  refine r_aload_n (i := 0) hX d_Le_init_109 0 rfl rfl ?_
  refine r_iconst (v := (0 : Int32)) hX d_Le_init_110 rfl ?_
  refine r_putI (i := 9) (f := 13) hX ci_9 (by decide) rfl rfl (fun G => rfl) (fun G => rfl) fl_Le_59 (kI (kI (kR hk4))) d_Le_init_111 ?_
  refine r_aload_n (i := 0) hX d_Le_init_114 0 rfl rfl ?_
  refine r_iconst (v := (0 : Int32)) hX d_Le_init_115 rfl ?_
  refine r_putI (i := 9) (f := 14) hX ci_9 (by decide) rfl rfl (fun G => rfl) (fun G => rfl) fl_Le_62 (kI (kI (kI (kR hk4)))) d_Le_init_116 ?_
  exact rj_sub [0] rfl (P_Le_init_119 hX hM hR hI _ _ _ _ h  (zI (zI (zI (zI (zR (al_k 104 2 2 hzz)))))) (qI (qI (qI (qI (qR (al_q 104 2 2 hqq)))))))
def F_Le_init_67 (z0 q0 : Nat) (a0 : Nat) (w : AW) : Option (AW) :=
  gd (Nat.blt (wz w) (z0 + 30) && Nat.ble (wq w + 1) (q0 + 326)) <|
  let p2 : Nat := wz w
  let w3 : AW := wnew w 8 0 1
  gd (Nat.ble (wz w3 + 1) (z0 + 30) && Nat.ble (wq w3 + 23) (q0 + 326)) <|
  (F_Dy_init p2 w3).bind fun r5 =>
  gd ((wz r5 == wz w3 + 1) && (wq r5 == wq w3 + 23)) <|
  gd (wk r5 a0 == 10) <|
  let w9 : AW := upR r5 a0 7 p2
  gd (Nat.blt (wz w9) (z0 + 30) && Nat.ble (wq w9 + 2) (q0 + 326)) <|
  let p11 : Nat := wz w9
  let w12 : AW := wnew w9 100 2 2
  gd (wk w12 a0 == 10) <|
  let w14 : AW := upR w12 a0 8 p11
  gd (Nat.blt (wz w14) (z0 + 30) && Nat.ble (wq w14 + 2) (q0 + 326)) <|
  let p16 : Nat := wz w14
  let w17 : AW := wnew w14 100 2 2
  gd (wk w17 a0 == 10) <|
  let w19 : AW := upR w17 a0 9 p16
  F_Le_init_92 z0 q0 a0 w19
theorem P_Le_init_67 {X : AX} {l : Launch} {G : AG} {z0 q0 : Nat} (hX : XOK X b_Le_init "RedSky$Learner" 2) (hM : XM X l G { frames := 2, cells := 30, slots := 326, locals := 44 }) {o : AW} (hR : XR X none 30 326 none o) (hI : XI X) (k n : Nat) (a0 : Nat) (w : AW) (h : F_Le_init_67 z0 q0 a0 w = some o) (hzz : z0 + k = wz w) (hqq : q0 + n = wq w) : RJ X 2 k n 67 [(0, vr a0)] [] w := by
  unfold F_Le_init_67 at h
  refine r_aload_n (i := 0) hX d_Le_init_67 0 rfl rfl ?_
  obtain ⟨hg1, h⟩ := gd_e h
  refine r_new (i := 7) hX hM ci_7 cn_Le_18 df_7 (al_1 hzz hg1) (al_2 hqq hg1) d_Le_init_68 ?_
  refine r_dup hX d_Le_init_71 rfl ?_
  obtain ⟨hg4, h⟩ := gd_e h
  obtain ⟨r5, hr6, h⟩ := bd_e h
  refine r_callIN (As := []) hX hM mw_Le_24 (T_Dy_init _ _ hr6) (kn_ne kn_new) rfl rfl (al_3 (al_k 8 0 1 hzz) (al_q 8 0 1 hqq) hg4) rfl rfl d_Le_init_72 ?_
  obtain ⟨hg7, h⟩ := gd_e h
  obtain ⟨hk8, h⟩ := gd_e h
  refine r_putRF (i := 9) (f := 7) hX ci_9 (by decide) rfl rfl hI rfl (fun G => nw_o _ _) (fun G => ft_o _ _) fl_Le_38 hk8 d_Le_init_75 ?_
  refine r_aload_n (i := 0) hX d_Le_init_78 0 rfl rfl ?_
  refine r_iconst (v := (2 : Int32)) hX d_Le_init_79 rfl ?_
  obtain ⟨hg10, h⟩ := gd_e h
  refine r_newarr (kd := 100) (N := 2) hX hM (by decide) aw_int (fun G => rfl) (by intro D9 h9; cases h9) rfl (by decide) (by decide) (by decide) (al_1 (zR (al_ck (c := 1) (al_k 8 0 1 hzz) hg7)) hg10) (al_2 (qR (al_cq (d := 23) (al_q 8 0 1 hqq) hg7)) hg10) d_Le_init_80 ?_
  obtain ⟨hk13, h⟩ := gd_e h
  refine r_putRF (i := 9) (f := 8) hX ci_9 (by decide) rfl rfl hI rfl (fun G => nw_r _ _) (fun G => ft_r _ _) fl_Le_41 hk13 d_Le_init_82 ?_
  refine r_aload_n (i := 0) hX d_Le_init_85 0 rfl rfl ?_
  refine r_iconst (v := (2 : Int32)) hX d_Le_init_86 rfl ?_
  obtain ⟨hg15, h⟩ := gd_e h
  refine r_newarr (kd := 100) (N := 2) hX hM (by decide) aw_int (fun G => rfl) (by intro D9 h9; cases h9) rfl (by decide) (by decide) (by decide) (al_1 (zR (al_k 100 2 2 (zR (al_ck (c := 1) (al_k 8 0 1 hzz) hg7)))) hg15) (al_2 (qR (al_q 100 2 2 (qR (al_cq (d := 23) (al_q 8 0 1 hqq) hg7)))) hg15) d_Le_init_87 ?_
  obtain ⟨hk18, h⟩ := gd_e h
  refine r_putRF (i := 9) (f := 9) hX ci_9 (by decide) rfl rfl hI rfl (fun G => nw_r _ _) (fun G => ft_r _ _) fl_Le_45 hk18 d_Le_init_89 ?_
  exact rj_sub [0] rfl (P_Le_init_92 hX hM hR hI _ _ _ _ h  (zR (al_k 100 2 2 (zR (al_k 100 2 2 (zR (al_ck (c := 1) (al_k 8 0 1 hzz) hg7)))))) (qR (al_q 100 2 2 (qR (al_q 100 2 2 (qR (al_cq (d := 23) (al_q 8 0 1 hqq) hg7)))))))
def F_Le_init_34 (z0 q0 : Nat) (a0 : Nat) (w : AW) : Option (AW) :=
  gd (Nat.blt (wz w) (z0 + 30) && Nat.ble (wq w + 1) (q0 + 326)) <|
  let p2 : Nat := wz w
  let w3 : AW := wnew w 8 0 1
  gd (Nat.ble (wz w3 + 1) (z0 + 30) && Nat.ble (wq w3 + 23) (q0 + 326)) <|
  (F_Dy_init p2 w3).bind fun r5 =>
  gd ((wz r5 == wz w3 + 1) && (wq r5 == wq w3 + 23)) <|
  gd (wk r5 a0 == 10) <|
  let w9 : AW := upR r5 a0 4 p2
  gd (Nat.blt (wz w9) (z0 + 30) && Nat.ble (wq w9 + 1) (q0 + 326)) <|
  let p11 : Nat := wz w9
  let w12 : AW := wnew w9 8 0 1
  gd (Nat.ble (wz w12 + 1) (z0 + 30) && Nat.ble (wq w12 + 23) (q0 + 326)) <|
  (F_Dy_init p11 w12).bind fun r14 =>
  gd ((wz r14 == wz w12 + 1) && (wq r14 == wq w12 + 23)) <|
  gd (wk r14 a0 == 10) <|
  let w18 : AW := upR r14 a0 5 p11
  gd (Nat.blt (wz w18) (z0 + 30) && Nat.ble (wq w18 + 1) (q0 + 326)) <|
  let p20 : Nat := wz w18
  let w21 : AW := wnew w18 8 0 1
  gd (Nat.ble (wz w21 + 1) (z0 + 30) && Nat.ble (wq w21 + 23) (q0 + 326)) <|
  (F_Dy_init p20 w21).bind fun r23 =>
  gd ((wz r23 == wz w21 + 1) && (wq r23 == wq w21 + 23)) <|
  gd (wk r23 a0 == 10) <|
  let w27 : AW := upR r23 a0 6 p20
  F_Le_init_67 z0 q0 a0 w27
theorem P_Le_init_34 {X : AX} {l : Launch} {G : AG} {z0 q0 : Nat} (hX : XOK X b_Le_init "RedSky$Learner" 2) (hM : XM X l G { frames := 2, cells := 30, slots := 326, locals := 44 }) {o : AW} (hR : XR X none 30 326 none o) (hI : XI X) (k n : Nat) (a0 : Nat) (w : AW) (h : F_Le_init_34 z0 q0 a0 w = some o) (hzz : z0 + k = wz w) (hqq : q0 + n = wq w) : RJ X 2 k n 34 [(0, vr a0)] [] w := by
  unfold F_Le_init_34 at h
  refine r_aload_n (i := 0) hX d_Le_init_34 0 rfl rfl ?_
  obtain ⟨hg1, h⟩ := gd_e h
  refine r_new (i := 7) hX hM ci_7 cn_Le_18 df_7 (al_1 hzz hg1) (al_2 hqq hg1) d_Le_init_35 ?_
  refine r_dup hX d_Le_init_38 rfl ?_
  obtain ⟨hg4, h⟩ := gd_e h
  obtain ⟨r5, hr6, h⟩ := bd_e h
  refine r_callIN (As := []) hX hM mw_Le_24 (T_Dy_init _ _ hr6) (kn_ne kn_new) rfl rfl (al_3 (al_k 8 0 1 hzz) (al_q 8 0 1 hqq) hg4) rfl rfl d_Le_init_39 ?_
  obtain ⟨hg7, h⟩ := gd_e h
  obtain ⟨hk8, h⟩ := gd_e h
  refine r_putRF (i := 9) (f := 4) hX ci_9 (by decide) rfl rfl hI rfl (fun G => nw_o _ _) (fun G => ft_o _ _) fl_Le_29 hk8 d_Le_init_42 ?_
  refine r_aload_n (i := 0) hX d_Le_init_45 0 rfl rfl ?_
  obtain ⟨hg10, h⟩ := gd_e h
  refine r_new (i := 7) hX hM ci_7 cn_Le_18 df_7 (al_1 (zR (al_ck (c := 1) (al_k 8 0 1 hzz) hg7)) hg10) (al_2 (qR (al_cq (d := 23) (al_q 8 0 1 hqq) hg7)) hg10) d_Le_init_46 ?_
  refine r_dup hX d_Le_init_49 rfl ?_
  obtain ⟨hg13, h⟩ := gd_e h
  obtain ⟨r14, hr15, h⟩ := bd_e h
  refine r_callIN (As := []) hX hM mw_Le_24 (T_Dy_init _ _ hr15) (kn_ne kn_new) rfl rfl (al_3 (al_k 8 0 1 (zR (al_ck (c := 1) (al_k 8 0 1 hzz) hg7))) (al_q 8 0 1 (qR (al_cq (d := 23) (al_q 8 0 1 hqq) hg7))) hg13) rfl rfl d_Le_init_50 ?_
  obtain ⟨hg16, h⟩ := gd_e h
  obtain ⟨hk17, h⟩ := gd_e h
  refine r_putRF (i := 9) (f := 5) hX ci_9 (by decide) rfl rfl hI rfl (fun G => nw_o _ _) (fun G => ft_o _ _) fl_Le_32 hk17 d_Le_init_53 ?_
  refine r_aload_n (i := 0) hX d_Le_init_56 0 rfl rfl ?_
  obtain ⟨hg19, h⟩ := gd_e h
  refine r_new (i := 7) hX hM ci_7 cn_Le_18 df_7 (al_1 (zR (al_ck (c := 1) (al_k 8 0 1 (zR (al_ck (c := 1) (al_k 8 0 1 hzz) hg7))) hg16)) hg19) (al_2 (qR (al_cq (d := 23) (al_q 8 0 1 (qR (al_cq (d := 23) (al_q 8 0 1 hqq) hg7))) hg16)) hg19) d_Le_init_57 ?_
  refine r_dup hX d_Le_init_60 rfl ?_
  obtain ⟨hg22, h⟩ := gd_e h
  obtain ⟨r23, hr24, h⟩ := bd_e h
  refine r_callIN (As := []) hX hM mw_Le_24 (T_Dy_init _ _ hr24) (kn_ne kn_new) rfl rfl (al_3 (al_k 8 0 1 (zR (al_ck (c := 1) (al_k 8 0 1 (zR (al_ck (c := 1) (al_k 8 0 1 hzz) hg7))) hg16))) (al_q 8 0 1 (qR (al_cq (d := 23) (al_q 8 0 1 (qR (al_cq (d := 23) (al_q 8 0 1 hqq) hg7))) hg16))) hg22) rfl rfl d_Le_init_61 ?_
  obtain ⟨hg25, h⟩ := gd_e h
  obtain ⟨hk26, h⟩ := gd_e h
  refine r_putRF (i := 9) (f := 6) hX ci_9 (by decide) rfl rfl hI rfl (fun G => nw_o _ _) (fun G => ft_o _ _) fl_Le_35 hk26 d_Le_init_64 ?_
  exact rj_sub [0] rfl (P_Le_init_67 hX hM hR hI _ _ _ _ h  (zR (al_ck (c := 1) (al_k 8 0 1 (zR (al_ck (c := 1) (al_k 8 0 1 (zR (al_ck (c := 1) (al_k 8 0 1 hzz) hg7))) hg16))) hg25)) (qR (al_cq (d := 23) (al_q 8 0 1 (qR (al_cq (d := 23) (al_q 8 0 1 (qR (al_cq (d := 23) (al_q 8 0 1 hqq) hg7))) hg16))) hg25)))
def F_Le_init (a0 : Nat) (w : AW) : Option (AW) :=
  gd (wk w a0 == 10) <|
  let w2 : AW := upI w a0 0 (0 : Int32)
  let w3 : AW := upI w2 a0 1 (0 : Int32)
  gd (Nat.blt (wz w3) ((wz w) + 30) && Nat.ble (wq w3 + 8) ((wq w) + 326)) <|
  let p5 : Nat := wz w3
  let w6 : AW := wnew w3 105 8 8
  gd (wk w6 a0 == 10) <|
  let w8 : AW := upR w6 a0 2 p5
  gd (Nat.blt (wz w8) ((wz w) + 30) && Nat.ble (wq w8 + 1) ((wq w) + 326)) <|
  let p10 : Nat := wz w8
  let w11 : AW := wnew w8 8 0 1
  gd (Nat.ble (wz w11 + 1) ((wz w) + 30) && Nat.ble (wq w11 + 23) ((wq w) + 326)) <|
  (F_Dy_init p10 w11).bind fun r13 =>
  gd ((wz r13 == wz w11 + 1) && (wq r13 == wq w11 + 23)) <|
  gd (wk r13 a0 == 10) <|
  let w17 : AW := upR r13 a0 3 p10
  F_Le_init_34 (wz w) (wq w) a0 w17
theorem P_Le_init_0 {X : AX} {l : Launch} {G : AG} (hX : XOK X b_Le_init "RedSky$Learner" 2) (hM : XM X l G { frames := 2, cells := 30, slots := 326, locals := 44 }) {o : AW} (hR : XR X none 30 326 none o) (hI : XI X) (k n : Nat) (a0 : Nat) (w : AW) (h : F_Le_init a0 w = some o) (hzz : wz w + k = wz w) (hqq : wq w + n = wq w) : RJ X 2 k n 0 [(0, vr a0)] [] w := by
  unfold F_Le_init at h
  refine r_aload_n (i := 0) hX d_Le_init_0 0 rfl rfl ?_
  obtain ⟨hk1, h⟩ := gd_e h
  refine r_objInit hX hM ow_Le (kn_ne hk1) (by decide) (by decide) d_Le_init_1 ?_
  refine r_aload_n (i := 0) hX d_Le_init_4 0 rfl rfl ?_
  refine r_iconst (v := (0 : Int32)) hX d_Le_init_5 rfl ?_
  refine r_putI (i := 9) (f := 0) hX ci_9 (by decide) rfl rfl (fun G => rfl) (fun G => rfl) fl_Le_9 hk1 d_Le_init_6 ?_
  refine r_aload_n (i := 0) hX d_Le_init_9 0 rfl rfl ?_
  refine r_iconst (v := (0 : Int32)) hX d_Le_init_10 rfl ?_
  refine r_putI (i := 9) (f := 1) hX ci_9 (by decide) rfl rfl (fun G => rfl) (fun G => rfl) fl_Le_15 (kI hk1) d_Le_init_11 ?_
  refine r_aload_n (i := 0) hX d_Le_init_14 0 rfl rfl ?_
  refine r_bipush (v := (8 : Int32)) hX d_Le_init_15 rfl ?_
  obtain ⟨hg4, h⟩ := gd_e h
  refine r_anew (kd := 105) (N := 8) hX hM (by decide) cl_Le_18 ao_Dy (fun G => rfl) (by decide) (by decide) (by decide) (al_1 (zI (zI hzz)) hg4) (al_2 (qI (qI hqq)) hg4) d_Le_init_17 ?_
  obtain ⟨hk7, h⟩ := gd_e h
  refine r_putRF (i := 9) (f := 2) hX ci_9 (by decide) rfl rfl hI rfl (fun G => nw_r _ _) (fun G => ft_r _ _) fl_Le_20 hk7 d_Le_init_20 ?_
  refine r_aload_n (i := 0) hX d_Le_init_23 0 rfl rfl ?_
  obtain ⟨hg9, h⟩ := gd_e h
  refine r_new (i := 7) hX hM ci_7 cn_Le_18 df_7 (al_1 (zR (al_k 105 8 8 (zI (zI hzz)))) hg9) (al_2 (qR (al_q 105 8 8 (qI (qI hqq)))) hg9) d_Le_init_24 ?_
  refine r_dup hX d_Le_init_27 rfl ?_
  obtain ⟨hg12, h⟩ := gd_e h
  obtain ⟨r13, hr14, h⟩ := bd_e h
  refine r_callIN (As := []) hX hM mw_Le_24 (T_Dy_init _ _ hr14) (kn_ne kn_new) rfl rfl (al_3 (al_k 8 0 1 (zR (al_k 105 8 8 (zI (zI hzz))))) (al_q 8 0 1 (qR (al_q 105 8 8 (qI (qI hqq))))) hg12) rfl rfl d_Le_init_28 ?_
  obtain ⟨hg15, h⟩ := gd_e h
  obtain ⟨hk16, h⟩ := gd_e h
  refine r_putRF (i := 9) (f := 3) hX ci_9 (by decide) rfl rfl hI rfl (fun G => nw_o _ _) (fun G => ft_o _ _) fl_Le_25 hk16 d_Le_init_31 ?_
  exact rj_sub [0] rfl (P_Le_init_34 hX hM hR hI _ _ _ _ h  (zR (al_ck (c := 1) (al_k 8 0 1 (zR (al_k 105 8 8 (zI (zI hzz))))) hg15)) (qR (al_cq (d := 23) (al_q 8 0 1 (qR (al_q 105 8 8 (qI (qI hqq))))) hg15)))
theorem T_Le_init {l : Launch} {G : AG} (a0 : Nat) (w : AW) {o : AW} (h : F_Le_init a0 w = some o) : Mt l G y_Le_init b_Le_init 2 none 2 44 30 326 [vr a0] w none o := mt_of (by decide) (Nat.le_of_ble_eq_true rfl) (fun X hX hR hM hI => P_Le_init_0 hX hM hR (hI rfl) 0 0 _ _ h rfl rfl)
/-! RedSky$Likeness.<init>()V -/
theorem d_Li_init_0 : decode b_Li_init 0 = .ok (.aload_n 0, 1) := by decide +kernel
theorem d_Li_init_1 : decode b_Li_init 1 = .ok (.invokespecial 3, 3) := by decide +kernel
theorem d_Li_init_4 : decode b_Li_init 4 = .ok (.aload_n 0, 1) := by decide +kernel
theorem d_Li_init_5 : decode b_Li_init 5 = .ok (.iconst 0, 1) := by decide +kernel
theorem d_Li_init_6 : decode b_Li_init 6 = .ok (.putfield 9, 3) := by decide +kernel
theorem d_Li_init_9 : decode b_Li_init 9 = .ok (.aload_n 0, 1) := by decide +kernel
theorem d_Li_init_10 : decode b_Li_init 10 = .ok (.iconst 0, 1) := by decide +kernel
theorem d_Li_init_11 : decode b_Li_init 11 = .ok (.putfield 15, 3) := by decide +kernel
theorem d_Li_init_14 : decode b_Li_init 14 = .ok (.aload_n 0, 1) := by decide +kernel
theorem d_Li_init_15 : decode b_Li_init 15 = .ok (.iconst 0, 1) := by decide +kernel
theorem d_Li_init_16 : decode b_Li_init 16 = .ok (.putfield 18, 3) := by decide +kernel
theorem d_Li_init_19 : decode b_Li_init 19 = .ok (.aload_n 0, 1) := by decide +kernel
theorem d_Li_init_20 : decode b_Li_init 20 = .ok (.iconst 0, 1) := by decide +kernel
theorem d_Li_init_21 : decode b_Li_init 21 = .ok (.putfield 21, 3) := by decide +kernel
theorem d_Li_init_24 : decode b_Li_init 24 = .ok (.aload_n 0, 1) := by decide +kernel
theorem d_Li_init_25 : decode b_Li_init 25 = .ok (.new 24, 3) := by decide +kernel
theorem d_Li_init_28 : decode b_Li_init 28 = .ok (.dup, 1) := by decide +kernel
theorem d_Li_init_29 : decode b_Li_init 29 = .ok (.invokespecial 26, 3) := by decide +kernel
theorem d_Li_init_32 : decode b_Li_init 32 = .ok (.putfield 27, 3) := by decide +kernel
theorem d_Li_init_35 : decode b_Li_init 35 = .ok (.aload_n 0, 1) := by decide +kernel
theorem d_Li_init_36 : decode b_Li_init 36 = .ok (.new 24, 3) := by decide +kernel
theorem d_Li_init_39 : decode b_Li_init 39 = .ok (.dup, 1) := by decide +kernel
theorem d_Li_init_40 : decode b_Li_init 40 = .ok (.invokespecial 26, 3) := by decide +kernel
theorem d_Li_init_43 : decode b_Li_init 43 = .ok (.putfield 31, 3) := by decide +kernel
theorem d_Li_init_46 : decode b_Li_init 46 = .ok (.aload_n 0, 1) := by decide +kernel
theorem d_Li_init_47 : decode b_Li_init 47 = .ok (.new 24, 3) := by decide +kernel
theorem d_Li_init_50 : decode b_Li_init 50 = .ok (.dup, 1) := by decide +kernel
theorem d_Li_init_51 : decode b_Li_init 51 = .ok (.invokespecial 26, 3) := by decide +kernel
theorem d_Li_init_54 : decode b_Li_init 54 = .ok (.putfield 34, 3) := by decide +kernel
theorem d_Li_init_57 : decode b_Li_init 57 = .ok (.aload_n 0, 1) := by decide +kernel
theorem d_Li_init_58 : decode b_Li_init 58 = .ok (.new 24, 3) := by decide +kernel
theorem d_Li_init_61 : decode b_Li_init 61 = .ok (.dup, 1) := by decide +kernel
theorem d_Li_init_62 : decode b_Li_init 62 = .ok (.invokespecial 26, 3) := by decide +kernel
theorem d_Li_init_65 : decode b_Li_init 65 = .ok (.putfield 37, 3) := by decide +kernel
theorem d_Li_init_68 : decode b_Li_init 68 = .ok (.aload_n 0, 1) := by decide +kernel
theorem d_Li_init_69 : decode b_Li_init 69 = .ok (.new 24, 3) := by decide +kernel
theorem d_Li_init_72 : decode b_Li_init 72 = .ok (.dup, 1) := by decide +kernel
theorem d_Li_init_73 : decode b_Li_init 73 = .ok (.invokespecial 26, 3) := by decide +kernel
theorem d_Li_init_76 : decode b_Li_init 76 = .ok (.putfield 40, 3) := by decide +kernel
theorem d_Li_init_79 : decode b_Li_init 79 = .ok (.return_, 1) := by decide +kernel
def F_Li_init_68 (z0 q0 : Nat) (a0 : Nat) (w : AW) : Option (AW) :=
  gd (Nat.blt (wz w) (z0 + 10) && Nat.ble (wq w + 1) (q0 + 120)) <|
  let p2 : Nat := wz w
  let w3 : AW := wnew w 8 0 1
  gd (Nat.ble (wz w3 + 1) (z0 + 10) && Nat.ble (wq w3 + 23) (q0 + 120)) <|
  (F_Dy_init p2 w3).bind fun r5 =>
  gd ((wz r5 == wz w3 + 1) && (wq r5 == wq w3 + 23)) <|
  gd (wk r5 a0 == 12) <|
  let w9 : AW := upR r5 a0 8 p2
  gd ((wz w9 == z0 + 10) && (wq w9 == q0 + 120)) <|
  some w9
theorem P_Li_init_68 {X : AX} {l : Launch} {G : AG} {z0 q0 : Nat} (hX : XOK X b_Li_init "RedSky$Likeness" 1) (hM : XM X l G { frames := 2, cells := 10, slots := 120, locals := 44 }) {o : AW} (hR : XR X none 10 120 none o) (hI : XI X) (k n : Nat) (a0 : Nat) (w : AW) (h : F_Li_init_68 z0 q0 a0 w = some o) (hzz : z0 + k = wz w) (hqq : q0 + n = wq w) : RJ X 1 k n 68 [(0, vr a0)] [] w := by
  unfold F_Li_init_68 at h
  refine r_aload_n (i := 0) hX d_Li_init_68 0 rfl rfl ?_
  obtain ⟨hg1, h⟩ := gd_e h
  refine r_new (i := 7) hX hM ci_7 cn_Li_24 df_7 (al_1 hzz hg1) (al_2 hqq hg1) d_Li_init_69 ?_
  refine r_dup hX d_Li_init_72 rfl ?_
  obtain ⟨hg4, h⟩ := gd_e h
  obtain ⟨r5, hr6, h⟩ := bd_e h
  refine r_callIN (As := []) hX hM mw_Li_26 (T_Dy_init _ _ hr6) (kn_ne kn_new) rfl rfl (al_3 (al_k 8 0 1 hzz) (al_q 8 0 1 hqq) hg4) rfl rfl d_Li_init_73 ?_
  obtain ⟨hg7, h⟩ := gd_e h
  obtain ⟨hk8, h⟩ := gd_e h
  refine r_putRF (i := 11) (f := 8) hX ci_11 (by decide) rfl rfl hI rfl (fun G => nw_o _ _) (fun G => ft_o _ _) fl_Li_40 hk8 d_Li_init_76 ?_
  obtain ⟨hg10, h⟩ := gd_e h
  cases h; exact rj_kn (al_e (zR (al_ck (c := 1) (al_k 8 0 1 hzz) hg7)) (qR (al_cq (d := 23) (al_q 8 0 1 hqq) hg7)) hg10) (r_vret hX hR d_Li_init_79)
def F_Li_init_35 (z0 q0 : Nat) (a0 : Nat) (w : AW) : Option (AW) :=
  gd (Nat.blt (wz w) (z0 + 10) && Nat.ble (wq w + 1) (q0 + 120)) <|
  let p2 : Nat := wz w
  let w3 : AW := wnew w 8 0 1
  gd (Nat.ble (wz w3 + 1) (z0 + 10) && Nat.ble (wq w3 + 23) (q0 + 120)) <|
  (F_Dy_init p2 w3).bind fun r5 =>
  gd ((wz r5 == wz w3 + 1) && (wq r5 == wq w3 + 23)) <|
  gd (wk r5 a0 == 12) <|
  let w9 : AW := upR r5 a0 5 p2
  gd (Nat.blt (wz w9) (z0 + 10) && Nat.ble (wq w9 + 1) (q0 + 120)) <|
  let p11 : Nat := wz w9
  let w12 : AW := wnew w9 8 0 1
  gd (Nat.ble (wz w12 + 1) (z0 + 10) && Nat.ble (wq w12 + 23) (q0 + 120)) <|
  (F_Dy_init p11 w12).bind fun r14 =>
  gd ((wz r14 == wz w12 + 1) && (wq r14 == wq w12 + 23)) <|
  gd (wk r14 a0 == 12) <|
  let w18 : AW := upR r14 a0 6 p11
  gd (Nat.blt (wz w18) (z0 + 10) && Nat.ble (wq w18 + 1) (q0 + 120)) <|
  let p20 : Nat := wz w18
  let w21 : AW := wnew w18 8 0 1
  gd (Nat.ble (wz w21 + 1) (z0 + 10) && Nat.ble (wq w21 + 23) (q0 + 120)) <|
  (F_Dy_init p20 w21).bind fun r23 =>
  gd ((wz r23 == wz w21 + 1) && (wq r23 == wq w21 + 23)) <|
  gd (wk r23 a0 == 12) <|
  let w27 : AW := upR r23 a0 7 p20
  F_Li_init_68 z0 q0 a0 w27
theorem P_Li_init_35 {X : AX} {l : Launch} {G : AG} {z0 q0 : Nat} (hX : XOK X b_Li_init "RedSky$Likeness" 1) (hM : XM X l G { frames := 2, cells := 10, slots := 120, locals := 44 }) {o : AW} (hR : XR X none 10 120 none o) (hI : XI X) (k n : Nat) (a0 : Nat) (w : AW) (h : F_Li_init_35 z0 q0 a0 w = some o) (hzz : z0 + k = wz w) (hqq : q0 + n = wq w) : RJ X 1 k n 35 [(0, vr a0)] [] w := by
  unfold F_Li_init_35 at h
  refine r_aload_n (i := 0) hX d_Li_init_35 0 rfl rfl ?_
  obtain ⟨hg1, h⟩ := gd_e h
  refine r_new (i := 7) hX hM ci_7 cn_Li_24 df_7 (al_1 hzz hg1) (al_2 hqq hg1) d_Li_init_36 ?_
  refine r_dup hX d_Li_init_39 rfl ?_
  obtain ⟨hg4, h⟩ := gd_e h
  obtain ⟨r5, hr6, h⟩ := bd_e h
  refine r_callIN (As := []) hX hM mw_Li_26 (T_Dy_init _ _ hr6) (kn_ne kn_new) rfl rfl (al_3 (al_k 8 0 1 hzz) (al_q 8 0 1 hqq) hg4) rfl rfl d_Li_init_40 ?_
  obtain ⟨hg7, h⟩ := gd_e h
  obtain ⟨hk8, h⟩ := gd_e h
  refine r_putRF (i := 11) (f := 5) hX ci_11 (by decide) rfl rfl hI rfl (fun G => nw_o _ _) (fun G => ft_o _ _) fl_Li_31 hk8 d_Li_init_43 ?_
  refine r_aload_n (i := 0) hX d_Li_init_46 0 rfl rfl ?_
  obtain ⟨hg10, h⟩ := gd_e h
  refine r_new (i := 7) hX hM ci_7 cn_Li_24 df_7 (al_1 (zR (al_ck (c := 1) (al_k 8 0 1 hzz) hg7)) hg10) (al_2 (qR (al_cq (d := 23) (al_q 8 0 1 hqq) hg7)) hg10) d_Li_init_47 ?_
  refine r_dup hX d_Li_init_50 rfl ?_
  obtain ⟨hg13, h⟩ := gd_e h
  obtain ⟨r14, hr15, h⟩ := bd_e h
  refine r_callIN (As := []) hX hM mw_Li_26 (T_Dy_init _ _ hr15) (kn_ne kn_new) rfl rfl (al_3 (al_k 8 0 1 (zR (al_ck (c := 1) (al_k 8 0 1 hzz) hg7))) (al_q 8 0 1 (qR (al_cq (d := 23) (al_q 8 0 1 hqq) hg7))) hg13) rfl rfl d_Li_init_51 ?_
  obtain ⟨hg16, h⟩ := gd_e h
  obtain ⟨hk17, h⟩ := gd_e h
  refine r_putRF (i := 11) (f := 6) hX ci_11 (by decide) rfl rfl hI rfl (fun G => nw_o _ _) (fun G => ft_o _ _) fl_Li_34 hk17 d_Li_init_54 ?_
  refine r_aload_n (i := 0) hX d_Li_init_57 0 rfl rfl ?_
  obtain ⟨hg19, h⟩ := gd_e h
  refine r_new (i := 7) hX hM ci_7 cn_Li_24 df_7 (al_1 (zR (al_ck (c := 1) (al_k 8 0 1 (zR (al_ck (c := 1) (al_k 8 0 1 hzz) hg7))) hg16)) hg19) (al_2 (qR (al_cq (d := 23) (al_q 8 0 1 (qR (al_cq (d := 23) (al_q 8 0 1 hqq) hg7))) hg16)) hg19) d_Li_init_58 ?_
  refine r_dup hX d_Li_init_61 rfl ?_
  obtain ⟨hg22, h⟩ := gd_e h
  obtain ⟨r23, hr24, h⟩ := bd_e h
  refine r_callIN (As := []) hX hM mw_Li_26 (T_Dy_init _ _ hr24) (kn_ne kn_new) rfl rfl (al_3 (al_k 8 0 1 (zR (al_ck (c := 1) (al_k 8 0 1 (zR (al_ck (c := 1) (al_k 8 0 1 hzz) hg7))) hg16))) (al_q 8 0 1 (qR (al_cq (d := 23) (al_q 8 0 1 (qR (al_cq (d := 23) (al_q 8 0 1 hqq) hg7))) hg16))) hg22) rfl rfl d_Li_init_62 ?_
  obtain ⟨hg25, h⟩ := gd_e h
  obtain ⟨hk26, h⟩ := gd_e h
  refine r_putRF (i := 11) (f := 7) hX ci_11 (by decide) rfl rfl hI rfl (fun G => nw_o _ _) (fun G => ft_o _ _) fl_Li_37 hk26 d_Li_init_65 ?_
  exact rj_sub [0] rfl (P_Li_init_68 hX hM hR hI _ _ _ _ h  (zR (al_ck (c := 1) (al_k 8 0 1 (zR (al_ck (c := 1) (al_k 8 0 1 (zR (al_ck (c := 1) (al_k 8 0 1 hzz) hg7))) hg16))) hg25)) (qR (al_cq (d := 23) (al_q 8 0 1 (qR (al_cq (d := 23) (al_q 8 0 1 (qR (al_cq (d := 23) (al_q 8 0 1 hqq) hg7))) hg16))) hg25)))
def F_Li_init (a0 : Nat) (w : AW) : Option (AW) :=
  gd (wk w a0 == 12) <|
  let w2 : AW := upI w a0 0 (0 : Int32)
  let w3 : AW := upI w2 a0 1 (0 : Int32)
  let w4 : AW := upI w3 a0 2 (0 : Int32)
  let w5 : AW := upI w4 a0 3 (0 : Int32)
  gd (Nat.blt (wz w5) ((wz w) + 10) && Nat.ble (wq w5 + 1) ((wq w) + 120)) <|
  let p7 : Nat := wz w5
  let w8 : AW := wnew w5 8 0 1
  gd (Nat.ble (wz w8 + 1) ((wz w) + 10) && Nat.ble (wq w8 + 23) ((wq w) + 120)) <|
  (F_Dy_init p7 w8).bind fun r10 =>
  gd ((wz r10 == wz w8 + 1) && (wq r10 == wq w8 + 23)) <|
  gd (wk r10 a0 == 12) <|
  let w14 : AW := upR r10 a0 4 p7
  F_Li_init_35 (wz w) (wq w) a0 w14
theorem P_Li_init_0 {X : AX} {l : Launch} {G : AG} (hX : XOK X b_Li_init "RedSky$Likeness" 1) (hM : XM X l G { frames := 2, cells := 10, slots := 120, locals := 44 }) {o : AW} (hR : XR X none 10 120 none o) (hI : XI X) (k n : Nat) (a0 : Nat) (w : AW) (h : F_Li_init a0 w = some o) (hzz : wz w + k = wz w) (hqq : wq w + n = wq w) : RJ X 1 k n 0 [(0, vr a0)] [] w := by
  unfold F_Li_init at h
  refine r_aload_n (i := 0) hX d_Li_init_0 0 rfl rfl ?_
  obtain ⟨hk1, h⟩ := gd_e h
  refine r_objInit hX hM ow_Li (kn_ne hk1) (by decide) (by decide) d_Li_init_1 ?_
  refine r_aload_n (i := 0) hX d_Li_init_4 0 rfl rfl ?_
  refine r_iconst (v := (0 : Int32)) hX d_Li_init_5 rfl ?_
  refine r_putI (i := 11) (f := 0) hX ci_11 (by decide) rfl rfl (fun G => rfl) (fun G => rfl) fl_Li_9 hk1 d_Li_init_6 ?_
  refine r_aload_n (i := 0) hX d_Li_init_9 0 rfl rfl ?_
  refine r_iconst (v := (0 : Int32)) hX d_Li_init_10 rfl ?_
  refine r_putI (i := 11) (f := 1) hX ci_11 (by decide) rfl rfl (fun G => rfl) (fun G => rfl) fl_Li_15 (kI hk1) d_Li_init_11 ?_
  refine r_aload_n (i := 0) hX d_Li_init_14 0 rfl rfl ?_
  refine r_iconst (v := (0 : Int32)) hX d_Li_init_15 rfl ?_
  refine r_putI (i := 11) (f := 2) hX ci_11 (by decide) rfl rfl (fun G => rfl) (fun G => rfl) fl_Li_18 (kI (kI hk1)) d_Li_init_16 ?_
  refine r_aload_n (i := 0) hX d_Li_init_19 0 rfl rfl ?_
  refine r_iconst (v := (0 : Int32)) hX d_Li_init_20 rfl ?_
  refine r_putI (i := 11) (f := 3) hX ci_11 (by decide) rfl rfl (fun G => rfl) (fun G => rfl) fl_Li_21 (kI (kI (kI hk1))) d_Li_init_21 ?_
  refine r_aload_n (i := 0) hX d_Li_init_24 0 rfl rfl ?_
  obtain ⟨hg6, h⟩ := gd_e h
  refine r_new (i := 7) hX hM ci_7 cn_Li_24 df_7 (al_1 (zI (zI (zI (zI hzz)))) hg6) (al_2 (qI (qI (qI (qI hqq)))) hg6) d_Li_init_25 ?_
  refine r_dup hX d_Li_init_28 rfl ?_
  obtain ⟨hg9, h⟩ := gd_e h
  obtain ⟨r10, hr11, h⟩ := bd_e h
  refine r_callIN (As := []) hX hM mw_Li_26 (T_Dy_init _ _ hr11) (kn_ne kn_new) rfl rfl (al_3 (al_k 8 0 1 (zI (zI (zI (zI hzz))))) (al_q 8 0 1 (qI (qI (qI (qI hqq))))) hg9) rfl rfl d_Li_init_29 ?_
  obtain ⟨hg12, h⟩ := gd_e h
  obtain ⟨hk13, h⟩ := gd_e h
  refine r_putRF (i := 11) (f := 4) hX ci_11 (by decide) rfl rfl hI rfl (fun G => nw_o _ _) (fun G => ft_o _ _) fl_Li_27 hk13 d_Li_init_32 ?_
  exact rj_sub [0] rfl (P_Li_init_35 hX hM hR hI _ _ _ _ h  (zR (al_ck (c := 1) (al_k 8 0 1 (zI (zI (zI (zI hzz))))) hg12)) (qR (al_cq (d := 23) (al_q 8 0 1 (qI (qI (qI (qI hqq))))) hg12)))
theorem T_Li_init {l : Launch} {G : AG} (a0 : Nat) (w : AW) {o : AW} (h : F_Li_init a0 w = some o) : Mt l G y_Li_init b_Li_init 1 none 2 44 10 120 [vr a0] w none o := mt_of (by decide) (Nat.le_of_ble_eq_true rfl) (fun X hX hR hM hI => P_Li_init_0 hX hM hR (hI rfl) 0 0 _ _ h rfl rfl)
/-! RedSky$Diary.<init>()V -/
theorem d_Di_init_0 : decode b_Di_init 0 = .ok (.aload_n 0, 1) := by decide +kernel
theorem d_Di_init_1 : decode b_Di_init 1 = .ok (.invokespecial 3, 3) := by decide +kernel
theorem d_Di_init_4 : decode b_Di_init 4 = .ok (.aload_n 0, 1) := by decide +kernel
theorem d_Di_init_5 : decode b_Di_init 5 = .ok (.sipush (1461), 3) := by decide +kernel
theorem d_Di_init_8 : decode b_Di_init 8 = .ok (.newarray .int, 2) := by decide +kernel
theorem d_Di_init_10 : decode b_Di_init 10 = .ok (.putfield 9, 3) := by decide +kernel
theorem d_Di_init_13 : decode b_Di_init 13 = .ok (.return_, 1) := by decide +kernel
def F_Di_init (a0 : Nat) (w : AW) : Option (AW) :=
  gd (wk w a0 == 3) <|
  gd (Nat.blt (wz w) ((wz w) + 1) && Nat.ble (wq w + 1461) ((wq w) + 1461)) <|
  let p3 : Nat := wz w
  let w4 : AW := wnew w 100 1461 1461
  gd (wk w4 a0 == 3) <|
  let w6 : AW := upR w4 a0 0 p3
  gd ((wz w6 == (wz w) + 1) && (wq w6 == (wq w) + 1461)) <|
  some w6
theorem P_Di_init_0 {X : AX} {l : Launch} {G : AG} (hX : XOK X b_Di_init "RedSky$Diary" 1) (hM : XM X l G { frames := 1, cells := 1, slots := 1461, locals := 24 }) {o : AW} (hR : XR X none 1 1461 none o) (hI : XI X) (k n : Nat) (a0 : Nat) (w : AW) (h : F_Di_init a0 w = some o) (hzz : wz w + k = wz w) (hqq : wq w + n = wq w) : RJ X 1 k n 0 [(0, vr a0)] [] w := by
  unfold F_Di_init at h
  refine r_aload_n (i := 0) hX d_Di_init_0 0 rfl rfl ?_
  obtain ⟨hk1, h⟩ := gd_e h
  refine r_objInit hX hM ow_Di (kn_ne hk1) (by decide) (by decide) d_Di_init_1 ?_
  refine r_aload_n (i := 0) hX d_Di_init_4 0 rfl rfl ?_
  refine r_sipush (v := (1461 : Int32)) hX d_Di_init_5 rfl ?_
  obtain ⟨hg2, h⟩ := gd_e h
  refine r_newarr (kd := 100) (N := 1461) hX hM (by decide) aw_int (fun G => rfl) (by intro D9 h9; cases h9) rfl (by decide) (by decide) (by decide) (al_1 hzz hg2) (al_2 hqq hg2) d_Di_init_8 ?_
  obtain ⟨hk5, h⟩ := gd_e h
  refine r_putRF (i := 2) (f := 0) hX ci_2 (by decide) rfl rfl hI rfl (fun G => nw_r _ _) (fun G => ft_r _ _) fl_Di_9 hk5 d_Di_init_10 ?_
  obtain ⟨hg7, h⟩ := gd_e h
  cases h; exact rj_kn (al_e (zR (al_k 100 1461 1461 hzz)) (qR (al_q 100 1461 1461 hqq)) hg7) (r_vret hX hR d_Di_init_13)
theorem T_Di_init {l : Launch} {G : AG} (a0 : Nat) (w : AW) {o : AW} (h : F_Di_init a0 w = some o) : Mt l G y_Di_init b_Di_init 1 none 1 24 1 1461 [vr a0] w none o := mt_of (by decide) (Nat.le_of_ble_eq_true rfl) (fun X hX hR hM hI => P_Di_init_0 hX hM hR (hI rfl) 0 0 _ _ h rfl rfl)
/-! RedSky$Almanac.<init>()V -/
theorem d_Al_init_0 : decode b_Al_init 0 = .ok (.aload_n 0, 1) := by decide +kernel
theorem d_Al_init_1 : decode b_Al_init 1 = .ok (.invokespecial 3, 3) := by decide +kernel
theorem d_Al_init_4 : decode b_Al_init 4 = .ok (.aload_n 0, 1) := by decide +kernel
theorem d_Al_init_5 : decode b_Al_init 5 = .ok (.iconst 0, 1) := by decide +kernel
theorem d_Al_init_6 : decode b_Al_init 6 = .ok (.putfield 9, 3) := by decide +kernel
theorem d_Al_init_9 : decode b_Al_init 9 = .ok (.aload_n 0, 1) := by decide +kernel
theorem d_Al_init_10 : decode b_Al_init 10 = .ok (.new 15, 3) := by decide +kernel
theorem d_Al_init_13 : decode b_Al_init 13 = .ok (.dup, 1) := by decide +kernel
theorem d_Al_init_14 : decode b_Al_init 14 = .ok (.invokespecial 17, 3) := by decide +kernel
theorem d_Al_init_17 : decode b_Al_init 17 = .ok (.putfield 18, 3) := by decide +kernel
theorem d_Al_init_20 : decode b_Al_init 20 = .ok (.aload_n 0, 1) := by decide +kernel
theorem d_Al_init_21 : decode b_Al_init 21 = .ok (.new 15, 3) := by decide +kernel
theorem d_Al_init_24 : decode b_Al_init 24 = .ok (.dup, 1) := by decide +kernel
theorem d_Al_init_25 : decode b_Al_init 25 = .ok (.invokespecial 17, 3) := by decide +kernel
theorem d_Al_init_28 : decode b_Al_init 28 = .ok (.putfield 22, 3) := by decide +kernel
theorem d_Al_init_31 : decode b_Al_init 31 = .ok (.return_, 1) := by decide +kernel
def F_Al_init (a0 : Nat) (w : AW) : Option (AW) :=
  gd (wk w a0 == 11) <|
  let w2 : AW := upI w a0 0 (0 : Int32)
  gd (Nat.blt (wz w2) ((wz w) + 4) && Nat.ble (wq w2 + 1) ((wq w) + 48)) <|
  let p4 : Nat := wz w2
  let w5 : AW := wnew w2 8 0 1
  gd (Nat.ble (wz w5 + 1) ((wz w) + 4) && Nat.ble (wq w5 + 23) ((wq w) + 48)) <|
  (F_Dy_init p4 w5).bind fun r7 =>
  gd ((wz r7 == wz w5 + 1) && (wq r7 == wq w5 + 23)) <|
  gd (wk r7 a0 == 11) <|
  let w11 : AW := upR r7 a0 1 p4
  gd (Nat.blt (wz w11) ((wz w) + 4) && Nat.ble (wq w11 + 1) ((wq w) + 48)) <|
  let p13 : Nat := wz w11
  let w14 : AW := wnew w11 8 0 1
  gd (Nat.ble (wz w14 + 1) ((wz w) + 4) && Nat.ble (wq w14 + 23) ((wq w) + 48)) <|
  (F_Dy_init p13 w14).bind fun r16 =>
  gd ((wz r16 == wz w14 + 1) && (wq r16 == wq w14 + 23)) <|
  gd (wk r16 a0 == 11) <|
  let w20 : AW := upR r16 a0 2 p13
  gd ((wz w20 == (wz w) + 4) && (wq w20 == (wq w) + 48)) <|
  some w20
theorem P_Al_init_0 {X : AX} {l : Launch} {G : AG} (hX : XOK X b_Al_init "RedSky$Almanac" 1) (hM : XM X l G { frames := 2, cells := 4, slots := 48, locals := 44 }) {o : AW} (hR : XR X none 4 48 none o) (hI : XI X) (k n : Nat) (a0 : Nat) (w : AW) (h : F_Al_init a0 w = some o) (hzz : wz w + k = wz w) (hqq : wq w + n = wq w) : RJ X 1 k n 0 [(0, vr a0)] [] w := by
  unfold F_Al_init at h
  refine r_aload_n (i := 0) hX d_Al_init_0 0 rfl rfl ?_
  obtain ⟨hk1, h⟩ := gd_e h
  refine r_objInit hX hM ow_Al (kn_ne hk1) (by decide) (by decide) d_Al_init_1 ?_
  refine r_aload_n (i := 0) hX d_Al_init_4 0 rfl rfl ?_
  refine r_iconst (v := (0 : Int32)) hX d_Al_init_5 rfl ?_
  refine r_putI (i := 10) (f := 0) hX ci_10 (by decide) rfl rfl (fun G => rfl) (fun G => rfl) fl_Al_9 hk1 d_Al_init_6 ?_
  refine r_aload_n (i := 0) hX d_Al_init_9 0 rfl rfl ?_
  obtain ⟨hg3, h⟩ := gd_e h
  refine r_new (i := 7) hX hM ci_7 cn_Al_15 df_7 (al_1 (zI hzz) hg3) (al_2 (qI hqq) hg3) d_Al_init_10 ?_
  refine r_dup hX d_Al_init_13 rfl ?_
  obtain ⟨hg6, h⟩ := gd_e h
  obtain ⟨r7, hr8, h⟩ := bd_e h
  refine r_callIN (As := []) hX hM mw_Al_17 (T_Dy_init _ _ hr8) (kn_ne kn_new) rfl rfl (al_3 (al_k 8 0 1 (zI hzz)) (al_q 8 0 1 (qI hqq)) hg6) rfl rfl d_Al_init_14 ?_
  obtain ⟨hg9, h⟩ := gd_e h
  obtain ⟨hk10, h⟩ := gd_e h
  refine r_putRF (i := 10) (f := 1) hX ci_10 (by decide) rfl rfl hI rfl (fun G => nw_o _ _) (fun G => ft_o _ _) fl_Al_18 hk10 d_Al_init_17 ?_
  refine r_aload_n (i := 0) hX d_Al_init_20 0 rfl rfl ?_
  obtain ⟨hg12, h⟩ := gd_e h
  refine r_new (i := 7) hX hM ci_7 cn_Al_15 df_7 (al_1 (zR (al_ck (c := 1) (al_k 8 0 1 (zI hzz)) hg9)) hg12) (al_2 (qR (al_cq (d := 23) (al_q 8 0 1 (qI hqq)) hg9)) hg12) d_Al_init_21 ?_
  refine r_dup hX d_Al_init_24 rfl ?_
  obtain ⟨hg15, h⟩ := gd_e h
  obtain ⟨r16, hr17, h⟩ := bd_e h
  refine r_callIN (As := []) hX hM mw_Al_17 (T_Dy_init _ _ hr17) (kn_ne kn_new) rfl rfl (al_3 (al_k 8 0 1 (zR (al_ck (c := 1) (al_k 8 0 1 (zI hzz)) hg9))) (al_q 8 0 1 (qR (al_cq (d := 23) (al_q 8 0 1 (qI hqq)) hg9))) hg15) rfl rfl d_Al_init_25 ?_
  obtain ⟨hg18, h⟩ := gd_e h
  obtain ⟨hk19, h⟩ := gd_e h
  refine r_putRF (i := 10) (f := 2) hX ci_10 (by decide) rfl rfl hI rfl (fun G => nw_o _ _) (fun G => ft_o _ _) fl_Al_22 hk19 d_Al_init_28 ?_
  obtain ⟨hg21, h⟩ := gd_e h
  cases h; exact rj_kn (al_e (zR (al_ck (c := 1) (al_k 8 0 1 (zR (al_ck (c := 1) (al_k 8 0 1 (zI hzz)) hg9))) hg18)) (qR (al_cq (d := 23) (al_q 8 0 1 (qR (al_cq (d := 23) (al_q 8 0 1 (qI hqq)) hg9))) hg18)) hg21) (r_vret hX hR d_Al_init_31)
theorem T_Al_init {l : Launch} {G : AG} (a0 : Nat) (w : AW) {o : AW} (h : F_Al_init a0 w = some o) : Mt l G y_Al_init b_Al_init 1 none 2 44 4 48 [vr a0] w none o := mt_of (by decide) (Nat.le_of_ble_eq_true rfl) (fun X hX hR hM hI => P_Al_init_0 hX hM hR (hI rfl) 0 0 _ _ h rfl rfl)
/-! RedSky.<init>()V -/
theorem d_A_init_0 : decode b_A_init 0 = .ok (.aload_n 0, 1) := by decide +kernel
theorem d_A_init_1 : decode b_A_init 1 = .ok (.invokespecial 1, 3) := by decide +kernel
theorem d_A_init_4 : decode b_A_init 4 = .ok (.aload_n 0, 1) := by decide +kernel
theorem d_A_init_5 : decode b_A_init 5 = .ok (.new 7, 3) := by decide +kernel
theorem d_A_init_8 : decode b_A_init 8 = .ok (.dup, 1) := by decide +kernel
theorem d_A_init_9 : decode b_A_init 9 = .ok (.invokespecial 9, 3) := by decide +kernel
theorem d_A_init_12 : decode b_A_init 12 = .ok (.putfield 10, 3) := by decide +kernel
theorem d_A_init_15 : decode b_A_init 15 = .ok (.aload_n 0, 1) := by decide +kernel
theorem d_A_init_16 : decode b_A_init 16 = .ok (.iconst 3, 1) := by decide +kernel
theorem d_A_init_17 : decode b_A_init 17 = .ok (.anewarray 16, 3) := by decide +kernel
theorem d_A_init_20 : decode b_A_init 20 = .ok (.putfield 18, 3) := by decide +kernel
theorem d_A_init_23 : decode b_A_init 23 = .ok (.aload_n 0, 1) := by decide +kernel
theorem d_A_init_24 : decode b_A_init 24 = .ok (.new 22, 3) := by decide +kernel
theorem d_A_init_27 : decode b_A_init 27 = .ok (.dup, 1) := by decide +kernel
theorem d_A_init_28 : decode b_A_init 28 = .ok (.invokespecial 24, 3) := by decide +kernel
theorem d_A_init_31 : decode b_A_init 31 = .ok (.putfield 25, 3) := by decide +kernel
theorem d_A_init_34 : decode b_A_init 34 = .ok (.aload_n 0, 1) := by decide +kernel
theorem d_A_init_35 : decode b_A_init 35 = .ok (.bipush (8), 2) := by decide +kernel
theorem d_A_init_37 : decode b_A_init 37 = .ok (.anewarray 29, 3) := by decide +kernel
theorem d_A_init_40 : decode b_A_init 40 = .ok (.putfield 31, 3) := by decide +kernel
theorem d_A_init_43 : decode b_A_init 43 = .ok (.aload_n 0, 1) := by decide +kernel
theorem d_A_init_44 : decode b_A_init 44 = .ok (.iconst 0, 1) := by decide +kernel
theorem d_A_init_45 : decode b_A_init 45 = .ok (.putfield 35, 3) := by decide +kernel
theorem d_A_init_48 : decode b_A_init 48 = .ok (.aload_n 0, 1) := by decide +kernel
theorem d_A_init_49 : decode b_A_init 49 = .ok (.new 39, 3) := by decide +kernel
theorem d_A_init_52 : decode b_A_init 52 = .ok (.dup, 1) := by decide +kernel
theorem d_A_init_53 : decode b_A_init 53 = .ok (.invokespecial 41, 3) := by decide +kernel
theorem d_A_init_56 : decode b_A_init 56 = .ok (.putfield 42, 3) := by decide +kernel
theorem d_A_init_59 : decode b_A_init 59 = .ok (.aload_n 0, 1) := by decide +kernel
theorem d_A_init_60 : decode b_A_init 60 = .ok (.new 46, 3) := by decide +kernel
theorem d_A_init_63 : decode b_A_init 63 = .ok (.dup, 1) := by decide +kernel
theorem d_A_init_64 : decode b_A_init 64 = .ok (.invokespecial 48, 3) := by decide +kernel
theorem d_A_init_67 : decode b_A_init 67 = .ok (.putfield 49, 3) := by decide +kernel
theorem d_A_init_70 : decode b_A_init 70 = .ok (.aload_n 0, 1) := by decide +kernel
theorem d_A_init_71 : decode b_A_init 71 = .ok (.new 46, 3) := by decide +kernel
theorem d_A_init_74 : decode b_A_init 74 = .ok (.dup, 1) := by decide +kernel
theorem d_A_init_75 : decode b_A_init 75 = .ok (.invokespecial 48, 3) := by decide +kernel
theorem d_A_init_78 : decode b_A_init 78 = .ok (.putfield 53, 3) := by decide +kernel
theorem d_A_init_81 : decode b_A_init 81 = .ok (.aload_n 0, 1) := by decide +kernel
theorem d_A_init_82 : decode b_A_init 82 = .ok (.new 56, 3) := by decide +kernel
theorem d_A_init_85 : decode b_A_init 85 = .ok (.dup, 1) := by decide +kernel
theorem d_A_init_86 : decode b_A_init 86 = .ok (.invokespecial 58, 3) := by decide +kernel
theorem d_A_init_89 : decode b_A_init 89 = .ok (.putfield 59, 3) := by decide +kernel
theorem d_A_init_92 : decode b_A_init 92 = .ok (.aload_n 0, 1) := by decide +kernel
theorem d_A_init_93 : decode b_A_init 93 = .ok (.new 63, 3) := by decide +kernel
theorem d_A_init_96 : decode b_A_init 96 = .ok (.dup, 1) := by decide +kernel
theorem d_A_init_97 : decode b_A_init 97 = .ok (.invokespecial 65, 3) := by decide +kernel
theorem d_A_init_100 : decode b_A_init 100 = .ok (.putfield 66, 3) := by decide +kernel
theorem d_A_init_103 : decode b_A_init 103 = .ok (.aload_n 0, 1) := by decide +kernel
theorem d_A_init_104 : decode b_A_init 104 = .ok (.bipush (6), 2) := by decide +kernel
theorem d_A_init_106 : decode b_A_init 106 = .ok (.anewarray 70, 3) := by decide +kernel
theorem d_A_init_109 : decode b_A_init 109 = .ok (.putfield 72, 3) := by decide +kernel
theorem d_A_init_112 : decode b_A_init 112 = .ok (.aload_n 0, 1) := by decide +kernel
theorem d_A_init_113 : decode b_A_init 113 = .ok (.new 76, 3) := by decide +kernel
theorem d_A_init_116 : decode b_A_init 116 = .ok (.dup, 1) := by decide +kernel
theorem d_A_init_117 : decode b_A_init 117 = .ok (.invokespecial 78, 3) := by decide +kernel
theorem d_A_init_120 : decode b_A_init 120 = .ok (.putfield 79, 3) := by decide +kernel
theorem d_A_init_123 : decode b_A_init 123 = .ok (.iconst 0, 1) := by decide +kernel
theorem d_A_init_124 : decode b_A_init 124 = .ok (.istore_n 1, 1) := by decide +kernel
theorem d_A_init_125 : decode b_A_init 125 = .ok (.iload_n 1, 1) := by decide +kernel
theorem d_A_init_126 : decode b_A_init 126 = .ok (.iconst 3, 1) := by decide +kernel
theorem d_A_init_127 : decode b_A_init 127 = .ok (.if_icmp .ge (22), 3) := by decide +kernel
theorem d_A_init_130 : decode b_A_init 130 = .ok (.aload_n 0, 1) := by decide +kernel
theorem d_A_init_131 : decode b_A_init 131 = .ok (.getfield 18, 3) := by decide +kernel
theorem d_A_init_134 : decode b_A_init 134 = .ok (.iload_n 1, 1) := by decide +kernel
theorem d_A_init_135 : decode b_A_init 135 = .ok (.new 16, 3) := by decide +kernel
theorem d_A_init_138 : decode b_A_init 138 = .ok (.dup, 1) := by decide +kernel
theorem d_A_init_139 : decode b_A_init 139 = .ok (.invokespecial 83, 3) := by decide +kernel
theorem d_A_init_142 : decode b_A_init 142 = .ok (.aastore, 1) := by decide +kernel
theorem d_A_init_143 : decode b_A_init 143 = .ok (.iinc 1 (1), 3) := by decide +kernel
theorem d_A_init_146 : decode b_A_init 146 = .ok (.goto (-21), 3) := by decide +kernel
theorem d_A_init_149 : decode b_A_init 149 = .ok (.iconst 0, 1) := by decide +kernel
theorem d_A_init_150 : decode b_A_init 150 = .ok (.istore_n 1, 1) := by decide +kernel
theorem d_A_init_151 : decode b_A_init 151 = .ok (.iload_n 1, 1) := by decide +kernel
theorem d_A_init_152 : decode b_A_init 152 = .ok (.bipush (8), 2) := by decide +kernel
theorem d_A_init_154 : decode b_A_init 154 = .ok (.if_icmp .ge (22), 3) := by decide +kernel
theorem d_A_init_157 : decode b_A_init 157 = .ok (.aload_n 0, 1) := by decide +kernel
theorem d_A_init_158 : decode b_A_init 158 = .ok (.getfield 31, 3) := by decide +kernel
theorem d_A_init_161 : decode b_A_init 161 = .ok (.iload_n 1, 1) := by decide +kernel
theorem d_A_init_162 : decode b_A_init 162 = .ok (.new 29, 3) := by decide +kernel
theorem d_A_init_165 : decode b_A_init 165 = .ok (.dup, 1) := by decide +kernel
theorem d_A_init_166 : decode b_A_init 166 = .ok (.invokespecial 84, 3) := by decide +kernel
theorem d_A_init_169 : decode b_A_init 169 = .ok (.aastore, 1) := by decide +kernel
theorem d_A_init_170 : decode b_A_init 170 = .ok (.iinc 1 (1), 3) := by decide +kernel
theorem d_A_init_173 : decode b_A_init 173 = .ok (.goto (-22), 3) := by decide +kernel
theorem d_A_init_176 : decode b_A_init 176 = .ok (.iconst 0, 1) := by decide +kernel
theorem d_A_init_177 : decode b_A_init 177 = .ok (.istore_n 1, 1) := by decide +kernel
theorem d_A_init_178 : decode b_A_init 178 = .ok (.iload_n 1, 1) := by decide +kernel
theorem d_A_init_179 : decode b_A_init 179 = .ok (.bipush (6), 2) := by decide +kernel
theorem d_A_init_181 : decode b_A_init 181 = .ok (.if_icmp .ge (22), 3) := by decide +kernel
theorem d_A_init_184 : decode b_A_init 184 = .ok (.aload_n 0, 1) := by decide +kernel
theorem d_A_init_185 : decode b_A_init 185 = .ok (.getfield 72, 3) := by decide +kernel
theorem d_A_init_188 : decode b_A_init 188 = .ok (.iload_n 1, 1) := by decide +kernel
theorem d_A_init_189 : decode b_A_init 189 = .ok (.new 70, 3) := by decide +kernel
theorem d_A_init_192 : decode b_A_init 192 = .ok (.dup, 1) := by decide +kernel
theorem d_A_init_193 : decode b_A_init 193 = .ok (.invokespecial 85, 3) := by decide +kernel
theorem d_A_init_196 : decode b_A_init 196 = .ok (.aastore, 1) := by decide +kernel
theorem d_A_init_197 : decode b_A_init 197 = .ok (.iinc 1 (1), 3) := by decide +kernel
theorem d_A_init_200 : decode b_A_init 200 = .ok (.goto (-22), 3) := by decide +kernel
theorem d_A_init_203 : decode b_A_init 203 = .ok (.return_, 1) := by decide +kernel
def F_A_init_178_B (rec178 : Nat → Int32 → AW → Option (AW)) (z0 q0 : Nat) (a0 : Nat) (x1 : Int32) (w : AW) : Option (AW) :=
  if (6 : Int32) ≤ x1 then
    gd ((wz w == z0 + 254) && (wq w == q0 + 9954)) <|
    some w
  else
    gd (wk w a0 == 1) <|
    gd (Nat.blt (wz w) (z0 + 254) && Nat.ble (wq w + 3) (q0 + 9954)) <|
    let p4 : Nat := wz w
    let w5 : AW := wnew w 11 0 3
    gd (Nat.ble (wz w5 + 4) (z0 + 254) && Nat.ble (wq w5 + 48) (q0 + 9954)) <|
    (F_Al_init p4 w5).bind fun r7 =>
    gd ((wz r7 == wz w5 + 4) && (wq r7 == wq w5 + 48)) <|
    gd (wk r7 (wr w a0 10) == 108) <|
    gd (wk r7 p4 == 11) <|
    gd (inb x1 (wn r7 (wr w a0 10))) <|
    let w13 : AW := upR r7 (wr w a0 10) (Int32.toNatClampNeg x1) p4
    let v14 : Int32 := (x1 + (1 : Int32))
    rec178 a0 v14 w13
theorem P_A_init_178_B {X : AX} {l : Launch} {G : AG} {z0 q0 : Nat} {rec178 : Nat → Int32 → AW → Option (AW)} (hX : XOK X b_A_init "RedSky" 2) (hM : XM X l G { frames := 4, cells := 254, slots := 9954, locals := 84 }) {o : AW} (hR : XR X none 254 9954 none o) (hI : XI X) (hrec178 : ∀ (k n : Nat) (a0 : Nat) (x1 : Int32) (w : AW), rec178 a0 x1 w = some o → z0 + k = wz w → q0 + n = wq w → RJ X 2 k n 178 [(0, vr a0), (1, vi x1)] [] w) (k n : Nat) (a0 : Nat) (x1 : Int32) (w : AW) (h : F_A_init_178_B rec178 z0 q0 a0 x1 w = some o) (hzz : z0 + k = wz w) (hqq : q0 + n = wq w) : RJ X 2 k n 178 [(0, vr a0), (1, vi x1)] [] w := by
  unfold F_A_init_178_B at h
  refine r_iload_n (i := 1) hX d_A_init_178 1 rfl rfl ?_
  refine r_bipush (v := (6 : Int32)) hX d_A_init_179 rfl ?_
  refine r_icmp_ge hX d_A_init_181 rfl h (fun h => ?_) (fun h => ?_)
  · obtain ⟨hg1, h⟩ := gd_e h
    cases h; exact rj_kn (al_e hzz hqq hg1) (r_vret hX hR d_A_init_203)
  · refine r_aload_n (i := 0) hX d_A_init_184 0 rfl rfl ?_
    obtain ⟨hk2, h⟩ := gd_e h
    refine r_getR (i := 0) (f := 10) hX ci_0 (by decide) rfl fl_A_72 hk2 d_A_init_185 ?_
    refine r_iload_n (i := 1) hX d_A_init_188 1 rfl rfl ?_
    obtain ⟨hg3, h⟩ := gd_e h
    refine r_new (i := 10) hX hM ci_10 cn_A_70 df_10 (al_1 hzz hg3) (al_2 hqq hg3) d_A_init_189 ?_
    refine r_dup hX d_A_init_192 rfl ?_
    obtain ⟨hg6, h⟩ := gd_e h
    obtain ⟨r7, hr8, h⟩ := bd_e h
    refine r_callIN (As := []) hX hM mw_A_85 (T_Al_init _ _ hr8) (kn_ne kn_new) rfl rfl (al_3 (al_k 11 0 3 hzz) (al_q 11 0 3 hqq) hg6) rfl rfl d_A_init_193 ?_
    obtain ⟨hg9, h⟩ := gd_e h
    obtain ⟨hk10, h⟩ := gd_e h
    obtain ⟨hk11, h⟩ := gd_e h
    obtain ⟨hg12, h⟩ := gd_e h
    refine r_aast (kd := 108) (ci := 10) hX (by decide) (by decide) rfl (fun G => rfl) hk10 hk11 hg12 d_A_init_196 ?_
    refine r_iinc (i := 1) (v := (1 : Int32)) hX d_A_init_197 1 rfl rfl (by decide) ?_
    refine r_goto hX d_A_init_200 rfl ?_
    exact rj_sub [1, 0] rfl (hrec178 _ _ _ _ _ h (zR (al_ck (c := 4) (al_k 11 0 3 hzz) hg9)) (qR (al_cq (d := 48) (al_q 11 0 3 hqq) hg9)))
def F_A_init_178 (z0 q0 : Nat) : Nat → Nat → Int32 → AW → Option (AW)
  | 0 => fun _ _ _ => none
  | n + 1 => fun a0 x1 w => F_A_init_178_B (F_A_init_178 z0 q0 n) z0 q0 a0 x1 w
theorem P_A_init_178 {X : AX} {l : Launch} {G : AG} {z0 q0 : Nat} (hX : XOK X b_A_init "RedSky" 2) (hM : XM X l G { frames := 4, cells := 254, slots := 9954, locals := 84 }) {o : AW} (hR : XR X none 254 9954 none o) (hI : XI X) (fu : Nat) : ∀ (k n : Nat) (a0 : Nat) (x1 : Int32) (w : AW), F_A_init_178 z0 q0 fu a0 x1 w = some o → z0 + k = wz w → q0 + n = wq w → RJ X 2 k n 178 [(0, vr a0), (1, vi x1)] [] w := by
  induction fu with
  | zero => intro k n a0 x1 w h; cases h
  | succ n9 ih => intro k n a0 x1 w h hzz hqq; exact P_A_init_178_B hX hM hR hI ih _ _ _ _ _ h hzz hqq
def F_A_init_151_B (rec151 : Nat → Int32 → AW → Option (AW)) (z0 q0 : Nat) (a0 : Nat) (x1 : Int32) (w : AW) : Option (AW) :=
  if (8 : Int32) ≤ x1 then
    F_A_init_178 z0 q0 FUEL a0 (0 : Int32) w
  else
    gd (wk w a0 == 1) <|
    gd (Nat.blt (wz w) (z0 + 254) && Nat.ble (wq w + 8) (q0 + 9954)) <|
    let p3 : Nat := wz w
    let w4 : AW := wnew w 5 0 8
    gd (Nat.ble (wz w4 + 6) (z0 + 254) && Nat.ble (wq w4 + 332) (q0 + 9954)) <|
    (F_Sa_init p3 w4).bind fun r6 =>
    gd ((wz r6 == wz w4 + 6) && (wq r6 == wq w4 + 332)) <|
    gd (wk r6 (wr w a0 3) == 107) <|
    gd (wk r6 p3 == 5) <|
    gd (inb x1 (wn r6 (wr w a0 3))) <|
    let w12 : AW := upR r6 (wr w a0 3) (Int32.toNatClampNeg x1) p3
    let v13 : Int32 := (x1 + (1 : Int32))
    rec151 a0 v13 w12
theorem P_A_init_151_B {X : AX} {l : Launch} {G : AG} {z0 q0 : Nat} {rec151 : Nat → Int32 → AW → Option (AW)} (hX : XOK X b_A_init "RedSky" 2) (hM : XM X l G { frames := 4, cells := 254, slots := 9954, locals := 84 }) {o : AW} (hR : XR X none 254 9954 none o) (hI : XI X) (hrec151 : ∀ (k n : Nat) (a0 : Nat) (x1 : Int32) (w : AW), rec151 a0 x1 w = some o → z0 + k = wz w → q0 + n = wq w → RJ X 2 k n 151 [(0, vr a0), (1, vi x1)] [] w) (k n : Nat) (a0 : Nat) (x1 : Int32) (w : AW) (h : F_A_init_151_B rec151 z0 q0 a0 x1 w = some o) (hzz : z0 + k = wz w) (hqq : q0 + n = wq w) : RJ X 2 k n 151 [(0, vr a0), (1, vi x1)] [] w := by
  unfold F_A_init_151_B at h
  refine r_iload_n (i := 1) hX d_A_init_151 1 rfl rfl ?_
  refine r_bipush (v := (8 : Int32)) hX d_A_init_152 rfl ?_
  refine r_icmp_ge hX d_A_init_154 rfl h (fun h => ?_) (fun h => ?_)
  · refine r_iconst (v := (0 : Int32)) hX d_A_init_176 rfl ?_
    refine r_istore_n (i := 1) hX d_A_init_177 rfl (by decide) ?_
    exact rj_sub [1, 0] rfl (P_A_init_178 hX hM hR hI FUEL _ _ _ _ _ h  hzz hqq)
  · refine r_aload_n (i := 0) hX d_A_init_157 0 rfl rfl ?_
    obtain ⟨hk1, h⟩ := gd_e h
    refine r_getR (i := 0) (f := 3) hX ci_0 (by decide) rfl fl_A_31 hk1 d_A_init_158 ?_
    refine r_iload_n (i := 1) hX d_A_init_161 1 rfl rfl ?_
    obtain ⟨hg2, h⟩ := gd_e h
    refine r_new (i := 4) hX hM ci_4 cn_A_29 df_4 (al_1 hzz hg2) (al_2 hqq hg2) d_A_init_162 ?_
    refine r_dup hX d_A_init_165 rfl ?_
    obtain ⟨hg5, h⟩ := gd_e h
    obtain ⟨r6, hr7, h⟩ := bd_e h
    refine r_callIN (As := []) hX hM mw_A_84 (T_Sa_init _ _ hr7) (kn_ne kn_new) rfl rfl (al_3 (al_k 5 0 8 hzz) (al_q 5 0 8 hqq) hg5) rfl rfl d_A_init_166 ?_
    obtain ⟨hg8, h⟩ := gd_e h
    obtain ⟨hk9, h⟩ := gd_e h
    obtain ⟨hk10, h⟩ := gd_e h
    obtain ⟨hg11, h⟩ := gd_e h
    refine r_aast (kd := 107) (ci := 4) hX (by decide) (by decide) rfl (fun G => rfl) hk9 hk10 hg11 d_A_init_169 ?_
    refine r_iinc (i := 1) (v := (1 : Int32)) hX d_A_init_170 1 rfl rfl (by decide) ?_
    refine r_goto hX d_A_init_173 rfl ?_
    exact rj_sub [1, 0] rfl (hrec151 _ _ _ _ _ h (zR (al_ck (c := 6) (al_k 5 0 8 hzz) hg8)) (qR (al_cq (d := 332) (al_q 5 0 8 hqq) hg8)))
def F_A_init_151 (z0 q0 : Nat) : Nat → Nat → Int32 → AW → Option (AW)
  | 0 => fun _ _ _ => none
  | n + 1 => fun a0 x1 w => F_A_init_151_B (F_A_init_151 z0 q0 n) z0 q0 a0 x1 w
theorem P_A_init_151 {X : AX} {l : Launch} {G : AG} {z0 q0 : Nat} (hX : XOK X b_A_init "RedSky" 2) (hM : XM X l G { frames := 4, cells := 254, slots := 9954, locals := 84 }) {o : AW} (hR : XR X none 254 9954 none o) (hI : XI X) (fu : Nat) : ∀ (k n : Nat) (a0 : Nat) (x1 : Int32) (w : AW), F_A_init_151 z0 q0 fu a0 x1 w = some o → z0 + k = wz w → q0 + n = wq w → RJ X 2 k n 151 [(0, vr a0), (1, vi x1)] [] w := by
  induction fu with
  | zero => intro k n a0 x1 w h; cases h
  | succ n9 ih => intro k n a0 x1 w h hzz hqq; exact P_A_init_151_B hX hM hR hI ih _ _ _ _ _ h hzz hqq
def F_A_init_125_B (rec125 : Nat → Int32 → AW → Option (AW)) (z0 q0 : Nat) (a0 : Nat) (x1 : Int32) (w : AW) : Option (AW) :=
  if (3 : Int32) ≤ x1 then
    F_A_init_151 z0 q0 FUEL a0 (0 : Int32) w
  else
    gd (wk w a0 == 1) <|
    gd (Nat.blt (wz w) (z0 + 254) && Nat.ble (wq w + 1) (q0 + 9954)) <|
    let p3 : Nat := wz w
    let w4 : AW := wnew w 3 0 1
    gd (Nat.ble (wz w4 + 1) (z0 + 254) && Nat.ble (wq w4 + 1461) (q0 + 9954)) <|
    (F_Di_init p3 w4).bind fun r6 =>
    gd ((wz r6 == wz w4 + 1) && (wq r6 == wq w4 + 1461)) <|
    gd (wk r6 (wr w a0 1) == 106) <|
    gd (wk r6 p3 == 3) <|
    gd (inb x1 (wn r6 (wr w a0 1))) <|
    let w12 : AW := upR r6 (wr w a0 1) (Int32.toNatClampNeg x1) p3
    let v13 : Int32 := (x1 + (1 : Int32))
    rec125 a0 v13 w12
theorem P_A_init_125_B {X : AX} {l : Launch} {G : AG} {z0 q0 : Nat} {rec125 : Nat → Int32 → AW → Option (AW)} (hX : XOK X b_A_init "RedSky" 2) (hM : XM X l G { frames := 4, cells := 254, slots := 9954, locals := 84 }) {o : AW} (hR : XR X none 254 9954 none o) (hI : XI X) (hrec125 : ∀ (k n : Nat) (a0 : Nat) (x1 : Int32) (w : AW), rec125 a0 x1 w = some o → z0 + k = wz w → q0 + n = wq w → RJ X 2 k n 125 [(0, vr a0), (1, vi x1)] [] w) (k n : Nat) (a0 : Nat) (x1 : Int32) (w : AW) (h : F_A_init_125_B rec125 z0 q0 a0 x1 w = some o) (hzz : z0 + k = wz w) (hqq : q0 + n = wq w) : RJ X 2 k n 125 [(0, vr a0), (1, vi x1)] [] w := by
  unfold F_A_init_125_B at h
  refine r_iload_n (i := 1) hX d_A_init_125 1 rfl rfl ?_
  refine r_iconst (v := (3 : Int32)) hX d_A_init_126 rfl ?_
  refine r_icmp_ge hX d_A_init_127 rfl h (fun h => ?_) (fun h => ?_)
  · refine r_iconst (v := (0 : Int32)) hX d_A_init_149 rfl ?_
    refine r_istore_n (i := 1) hX d_A_init_150 rfl (by decide) ?_
    exact rj_sub [1, 0] rfl (P_A_init_151 hX hM hR hI FUEL _ _ _ _ _ h  hzz hqq)
  · refine r_aload_n (i := 0) hX d_A_init_130 0 rfl rfl ?_
    obtain ⟨hk1, h⟩ := gd_e h
    refine r_getR (i := 0) (f := 1) hX ci_0 (by decide) rfl fl_A_18 hk1 d_A_init_131 ?_
    refine r_iload_n (i := 1) hX d_A_init_134 1 rfl rfl ?_
    obtain ⟨hg2, h⟩ := gd_e h
    refine r_new (i := 2) hX hM ci_2 cn_A_16 df_2 (al_1 hzz hg2) (al_2 hqq hg2) d_A_init_135 ?_
    refine r_dup hX d_A_init_138 rfl ?_
    obtain ⟨hg5, h⟩ := gd_e h
    obtain ⟨r6, hr7, h⟩ := bd_e h
    refine r_callIN (As := []) hX hM mw_A_83 (T_Di_init _ _ hr7) (kn_ne kn_new) rfl rfl (al_3 (al_k 3 0 1 hzz) (al_q 3 0 1 hqq) hg5) rfl rfl d_A_init_139 ?_
    obtain ⟨hg8, h⟩ := gd_e h
    obtain ⟨hk9, h⟩ := gd_e h
    obtain ⟨hk10, h⟩ := gd_e h
    obtain ⟨hg11, h⟩ := gd_e h
    refine r_aast (kd := 106) (ci := 2) hX (by decide) (by decide) rfl (fun G => rfl) hk9 hk10 hg11 d_A_init_142 ?_
    refine r_iinc (i := 1) (v := (1 : Int32)) hX d_A_init_143 1 rfl rfl (by decide) ?_
    refine r_goto hX d_A_init_146 rfl ?_
    exact rj_sub [1, 0] rfl (hrec125 _ _ _ _ _ h (zR (al_ck (c := 1) (al_k 3 0 1 hzz) hg8)) (qR (al_cq (d := 1461) (al_q 3 0 1 hqq) hg8)))
def F_A_init_125 (z0 q0 : Nat) : Nat → Nat → Int32 → AW → Option (AW)
  | 0 => fun _ _ _ => none
  | n + 1 => fun a0 x1 w => F_A_init_125_B (F_A_init_125 z0 q0 n) z0 q0 a0 x1 w
theorem P_A_init_125 {X : AX} {l : Launch} {G : AG} {z0 q0 : Nat} (hX : XOK X b_A_init "RedSky" 2) (hM : XM X l G { frames := 4, cells := 254, slots := 9954, locals := 84 }) {o : AW} (hR : XR X none 254 9954 none o) (hI : XI X) (fu : Nat) : ∀ (k n : Nat) (a0 : Nat) (x1 : Int32) (w : AW), F_A_init_125 z0 q0 fu a0 x1 w = some o → z0 + k = wz w → q0 + n = wq w → RJ X 2 k n 125 [(0, vr a0), (1, vi x1)] [] w := by
  induction fu with
  | zero => intro k n a0 x1 w h; cases h
  | succ n9 ih => intro k n a0 x1 w h hzz hqq; exact P_A_init_125_B hX hM hR hI ih _ _ _ _ _ h hzz hqq
def F_A_init_103 (z0 q0 : Nat) (a0 : Nat) (w : AW) : Option (AW) :=
  gd (Nat.blt (wz w) (z0 + 254) && Nat.ble (wq w + 6) (q0 + 9954)) <|
  let p2 : Nat := wz w
  let w3 : AW := wnew w 108 6 6
  gd (wk w3 a0 == 1) <|
  let w5 : AW := upR w3 a0 10 p2
  gd (Nat.blt (wz w5) (z0 + 254) && Nat.ble (wq w5 + 9) (q0 + 9954)) <|
  let p7 : Nat := wz w5
  let w8 : AW := wnew w5 12 0 9
  gd (Nat.ble (wz w8 + 10) (z0 + 254) && Nat.ble (wq w8 + 120) (q0 + 9954)) <|
  (F_Li_init p7 w8).bind fun r10 =>
  gd ((wz r10 == wz w8 + 10) && (wq r10 == wq w8 + 120)) <|
  gd (wk r10 a0 == 1) <|
  let w14 : AW := upR r10 a0 11 p7
  F_A_init_125 z0 q0 FUEL a0 (0 : Int32) w14
theorem P_A_init_103 {X : AX} {l : Launch} {G : AG} {z0 q0 : Nat} (hX : XOK X b_A_init "RedSky" 2) (hM : XM X l G { frames := 4, cells := 254, slots := 9954, locals := 84 }) {o : AW} (hR : XR X none 254 9954 none o) (hI : XI X) (k n : Nat) (a0 : Nat) (w : AW) (h : F_A_init_103 z0 q0 a0 w = some o) (hzz : z0 + k = wz w) (hqq : q0 + n = wq w) : RJ X 2 k n 103 [(0, vr a0)] [] w := by
  unfold F_A_init_103 at h
  refine r_aload_n (i := 0) hX d_A_init_103 0 rfl rfl ?_
  refine r_bipush (v := (6 : Int32)) hX d_A_init_104 rfl ?_
  obtain ⟨hg1, h⟩ := gd_e h
  refine r_anew (kd := 108) (N := 6) hX hM (by decide) cl_A_70 ao_Al (fun G => rfl) (by decide) (by decide) (by decide) (al_1 hzz hg1) (al_2 hqq hg1) d_A_init_106 ?_
  obtain ⟨hk4, h⟩ := gd_e h
  refine r_putRF (i := 0) (f := 10) hX ci_0 (by decide) rfl rfl hI rfl (fun G => nw_r _ _) (fun G => ft_r _ _) fl_A_72 hk4 d_A_init_109 ?_
  refine r_aload_n (i := 0) hX d_A_init_112 0 rfl rfl ?_
  obtain ⟨hg6, h⟩ := gd_e h
  refine r_new (i := 11) hX hM ci_11 cn_A_76 df_11 (al_1 (zR (al_k 108 6 6 hzz)) hg6) (al_2 (qR (al_q 108 6 6 hqq)) hg6) d_A_init_113 ?_
  refine r_dup hX d_A_init_116 rfl ?_
  obtain ⟨hg9, h⟩ := gd_e h
  obtain ⟨r10, hr11, h⟩ := bd_e h
  refine r_callIN (As := []) hX hM mw_A_78 (T_Li_init _ _ hr11) (kn_ne kn_new) rfl rfl (al_3 (al_k 12 0 9 (zR (al_k 108 6 6 hzz))) (al_q 12 0 9 (qR (al_q 108 6 6 hqq))) hg9) rfl rfl d_A_init_117 ?_
  obtain ⟨hg12, h⟩ := gd_e h
  obtain ⟨hk13, h⟩ := gd_e h
  refine r_putRF (i := 0) (f := 11) hX ci_0 (by decide) rfl rfl hI rfl (fun G => nw_o _ _) (fun G => ft_o _ _) fl_A_79 hk13 d_A_init_120 ?_
  refine r_iconst (v := (0 : Int32)) hX d_A_init_123 rfl ?_
  refine r_istore_n (i := 1) hX d_A_init_124 rfl (by decide) ?_
  exact rj_sub [1, 0] rfl (P_A_init_125 hX hM hR hI FUEL _ _ _ _ _ h  (zR (al_ck (c := 10) (al_k 12 0 9 (zR (al_k 108 6 6 hzz))) hg12)) (qR (al_cq (d := 120) (al_q 12 0 9 (qR (al_q 108 6 6 hqq))) hg12)))
def F_A_init_70 (z0 q0 : Nat) (a0 : Nat) (w : AW) : Option (AW) :=
  gd (Nat.blt (wz w) (z0 + 254) && Nat.ble (wq w + 11) (q0 + 9954)) <|
  let p2 : Nat := wz w
  let w3 : AW := wnew w 9 0 11
  gd (Nat.ble (wz w3 + 22) (z0 + 254) && Nat.ble (wq w3 + 264) (q0 + 9954)) <|
  (F_Rd_init p2 w3).bind fun r5 =>
  gd ((wz r5 == wz w3 + 22) && (wq r5 == wq w3 + 264)) <|
  gd (wk r5 a0 == 1) <|
  let w9 : AW := upR r5 a0 7 p2
  gd (Nat.blt (wz w9) (z0 + 254) && Nat.ble (wq w9 + 1) (q0 + 9954)) <|
  let p11 : Nat := wz w9
  let w12 : AW := wnew w9 8 0 1
  gd (Nat.ble (wz w12 + 1) (z0 + 254) && Nat.ble (wq w12 + 23) (q0 + 9954)) <|
  (F_Dy_init p11 w12).bind fun r14 =>
  gd ((wz r14 == wz w12 + 1) && (wq r14 == wq w12 + 23)) <|
  gd (wk r14 a0 == 1) <|
  let w18 : AW := upR r14 a0 8 p11
  gd (Nat.blt (wz w18) (z0 + 254) && Nat.ble (wq w18 + 16) (q0 + 9954)) <|
  let p20 : Nat := wz w18
  let w21 : AW := wnew w18 10 0 16
  gd (Nat.ble (wz w21 + 30) (z0 + 254) && Nat.ble (wq w21 + 326) (q0 + 9954)) <|
  (F_Le_init p20 w21).bind fun r23 =>
  gd ((wz r23 == wz w21 + 30) && (wq r23 == wq w21 + 326)) <|
  gd (wk r23 a0 == 1) <|
  let w27 : AW := upR r23 a0 9 p20
  F_A_init_103 z0 q0 a0 w27
theorem P_A_init_70 {X : AX} {l : Launch} {G : AG} {z0 q0 : Nat} (hX : XOK X b_A_init "RedSky" 2) (hM : XM X l G { frames := 4, cells := 254, slots := 9954, locals := 84 }) {o : AW} (hR : XR X none 254 9954 none o) (hI : XI X) (k n : Nat) (a0 : Nat) (w : AW) (h : F_A_init_70 z0 q0 a0 w = some o) (hzz : z0 + k = wz w) (hqq : q0 + n = wq w) : RJ X 2 k n 70 [(0, vr a0)] [] w := by
  unfold F_A_init_70 at h
  refine r_aload_n (i := 0) hX d_A_init_70 0 rfl rfl ?_
  obtain ⟨hg1, h⟩ := gd_e h
  refine r_new (i := 8) hX hM ci_8 cn_A_46 df_8 (al_1 hzz hg1) (al_2 hqq hg1) d_A_init_71 ?_
  refine r_dup hX d_A_init_74 rfl ?_
  obtain ⟨hg4, h⟩ := gd_e h
  obtain ⟨r5, hr6, h⟩ := bd_e h
  refine r_callIN (As := []) hX hM mw_A_48 (T_Rd_init _ _ hr6) (kn_ne kn_new) rfl rfl (al_3 (al_k 9 0 11 hzz) (al_q 9 0 11 hqq) hg4) rfl rfl d_A_init_75 ?_
  obtain ⟨hg7, h⟩ := gd_e h
  obtain ⟨hk8, h⟩ := gd_e h
  refine r_putRF (i := 0) (f := 7) hX ci_0 (by decide) rfl rfl hI rfl (fun G => nw_o _ _) (fun G => ft_o _ _) fl_A_53 hk8 d_A_init_78 ?_
  refine r_aload_n (i := 0) hX d_A_init_81 0 rfl rfl ?_
  obtain ⟨hg10, h⟩ := gd_e h
  refine r_new (i := 7) hX hM ci_7 cn_A_56 df_7 (al_1 (zR (al_ck (c := 22) (al_k 9 0 11 hzz) hg7)) hg10) (al_2 (qR (al_cq (d := 264) (al_q 9 0 11 hqq) hg7)) hg10) d_A_init_82 ?_
  refine r_dup hX d_A_init_85 rfl ?_
  obtain ⟨hg13, h⟩ := gd_e h
  obtain ⟨r14, hr15, h⟩ := bd_e h
  refine r_callIN (As := []) hX hM mw_A_58 (T_Dy_init _ _ hr15) (kn_ne kn_new) rfl rfl (al_3 (al_k 8 0 1 (zR (al_ck (c := 22) (al_k 9 0 11 hzz) hg7))) (al_q 8 0 1 (qR (al_cq (d := 264) (al_q 9 0 11 hqq) hg7))) hg13) rfl rfl d_A_init_86 ?_
  obtain ⟨hg16, h⟩ := gd_e h
  obtain ⟨hk17, h⟩ := gd_e h
  refine r_putRF (i := 0) (f := 8) hX ci_0 (by decide) rfl rfl hI rfl (fun G => nw_o _ _) (fun G => ft_o _ _) fl_A_59 hk17 d_A_init_89 ?_
  refine r_aload_n (i := 0) hX d_A_init_92 0 rfl rfl ?_
  obtain ⟨hg19, h⟩ := gd_e h
  refine r_new (i := 9) hX hM ci_9 cn_A_63 df_9 (al_1 (zR (al_ck (c := 1) (al_k 8 0 1 (zR (al_ck (c := 22) (al_k 9 0 11 hzz) hg7))) hg16)) hg19) (al_2 (qR (al_cq (d := 23) (al_q 8 0 1 (qR (al_cq (d := 264) (al_q 9 0 11 hqq) hg7))) hg16)) hg19) d_A_init_93 ?_
  refine r_dup hX d_A_init_96 rfl ?_
  obtain ⟨hg22, h⟩ := gd_e h
  obtain ⟨r23, hr24, h⟩ := bd_e h
  refine r_callI (As := []) hX hM mw_A_65 (T_Le_init _ _ hr24) (kn_ne kn_new) rfl rfl (al_3 (al_k 10 0 16 (zR (al_ck (c := 1) (al_k 8 0 1 (zR (al_ck (c := 22) (al_k 9 0 11 hzz) hg7))) hg16))) (al_q 10 0 16 (qR (al_cq (d := 23) (al_q 8 0 1 (qR (al_cq (d := 264) (al_q 9 0 11 hqq) hg7))) hg16))) hg22) rfl rfl d_A_init_97 ?_
  obtain ⟨hg25, h⟩ := gd_e h
  obtain ⟨hk26, h⟩ := gd_e h
  refine r_putRF (i := 0) (f := 9) hX ci_0 (by decide) rfl rfl hI rfl (fun G => nw_o _ _) (fun G => ft_o _ _) fl_A_66 hk26 d_A_init_100 ?_
  exact rj_sub [0] rfl (P_A_init_103 hX hM hR hI _ _ _ _ h  (zR (al_ck (c := 30) (al_k 10 0 16 (zR (al_ck (c := 1) (al_k 8 0 1 (zR (al_ck (c := 22) (al_k 9 0 11 hzz) hg7))) hg16))) hg25)) (qR (al_cq (d := 326) (al_q 10 0 16 (qR (al_cq (d := 23) (al_q 8 0 1 (qR (al_cq (d := 264) (al_q 9 0 11 hqq) hg7))) hg16))) hg25)))
def F_A_init_34 (z0 q0 : Nat) (a0 : Nat) (w : AW) : Option (AW) :=
  gd (Nat.blt (wz w) (z0 + 254) && Nat.ble (wq w + 8) (q0 + 9954)) <|
  let p2 : Nat := wz w
  let w3 : AW := wnew w 107 8 8
  gd (wk w3 a0 == 1) <|
  let w5 : AW := upR w3 a0 3 p2
  let w6 : AW := upI w5 a0 4 (0 : Int32)
  gd (Nat.blt (wz w6) (z0 + 254) && Nat.ble (wq w6 + 1) (q0 + 9954)) <|
  let p8 : Nat := wz w6
  let w9 : AW := wnew w6 7 0 1
  gd (Nat.ble (wz w9 + 49) (z0 + 254) && Nat.ble (wq w9 + 600) (q0 + 9954)) <|
  (F_Sc_init p8 w9).bind fun r11 =>
  gd ((wz r11 == wz w9 + 49) && (wq r11 == wq w9 + 600)) <|
  gd (wk r11 a0 == 1) <|
  let w15 : AW := upR r11 a0 5 p8
  gd (Nat.blt (wz w15) (z0 + 254) && Nat.ble (wq w15 + 11) (q0 + 9954)) <|
  let p17 : Nat := wz w15
  let w18 : AW := wnew w15 9 0 11
  gd (Nat.ble (wz w18 + 22) (z0 + 254) && Nat.ble (wq w18 + 264) (q0 + 9954)) <|
  (F_Rd_init p17 w18).bind fun r20 =>
  gd ((wz r20 == wz w18 + 22) && (wq r20 == wq w18 + 264)) <|
  gd (wk r20 a0 == 1) <|
  let w24 : AW := upR r20 a0 6 p17
  F_A_init_70 z0 q0 a0 w24
theorem P_A_init_34 {X : AX} {l : Launch} {G : AG} {z0 q0 : Nat} (hX : XOK X b_A_init "RedSky" 2) (hM : XM X l G { frames := 4, cells := 254, slots := 9954, locals := 84 }) {o : AW} (hR : XR X none 254 9954 none o) (hI : XI X) (k n : Nat) (a0 : Nat) (w : AW) (h : F_A_init_34 z0 q0 a0 w = some o) (hzz : z0 + k = wz w) (hqq : q0 + n = wq w) : RJ X 2 k n 34 [(0, vr a0)] [] w := by
  unfold F_A_init_34 at h
  refine r_aload_n (i := 0) hX d_A_init_34 0 rfl rfl ?_
  refine r_bipush (v := (8 : Int32)) hX d_A_init_35 rfl ?_
  obtain ⟨hg1, h⟩ := gd_e h
  refine r_anew (kd := 107) (N := 8) hX hM (by decide) cl_A_29 ao_Sa (fun G => rfl) (by decide) (by decide) (by decide) (al_1 hzz hg1) (al_2 hqq hg1) d_A_init_37 ?_
  obtain ⟨hk4, h⟩ := gd_e h
  refine r_putRF (i := 0) (f := 3) hX ci_0 (by decide) rfl rfl hI rfl (fun G => nw_r _ _) (fun G => ft_r _ _) fl_A_31 hk4 d_A_init_40 ?_
  refine r_aload_n (i := 0) hX d_A_init_43 0 rfl rfl ?_
  refine r_iconst (v := (0 : Int32)) hX d_A_init_44 rfl ?_
  refine r_putI (i := 0) (f := 4) hX ci_0 (by decide) rfl rfl (fun G => rfl) (fun G => rfl) fl_A_35 (kR hk4) d_A_init_45 ?_
  refine r_aload_n (i := 0) hX d_A_init_48 0 rfl rfl ?_
  obtain ⟨hg7, h⟩ := gd_e h
  refine r_new (i := 6) hX hM ci_6 cn_A_39 df_6 (al_1 (zI (zR (al_k 107 8 8 hzz))) hg7) (al_2 (qI (qR (al_q 107 8 8 hqq))) hg7) d_A_init_49 ?_
  refine r_dup hX d_A_init_52 rfl ?_
  obtain ⟨hg10, h⟩ := gd_e h
  obtain ⟨r11, hr12, h⟩ := bd_e h
  refine r_callI (As := []) hX hM mw_A_41 (T_Sc_init _ _ hr12) (kn_ne kn_new) rfl rfl (al_3 (al_k 7 0 1 (zI (zR (al_k 107 8 8 hzz)))) (al_q 7 0 1 (qI (qR (al_q 107 8 8 hqq)))) hg10) rfl rfl d_A_init_53 ?_
  obtain ⟨hg13, h⟩ := gd_e h
  obtain ⟨hk14, h⟩ := gd_e h
  refine r_putRF (i := 0) (f := 5) hX ci_0 (by decide) rfl rfl hI rfl (fun G => nw_o _ _) (fun G => ft_o _ _) fl_A_42 hk14 d_A_init_56 ?_
  refine r_aload_n (i := 0) hX d_A_init_59 0 rfl rfl ?_
  obtain ⟨hg16, h⟩ := gd_e h
  refine r_new (i := 8) hX hM ci_8 cn_A_46 df_8 (al_1 (zR (al_ck (c := 49) (al_k 7 0 1 (zI (zR (al_k 107 8 8 hzz)))) hg13)) hg16) (al_2 (qR (al_cq (d := 600) (al_q 7 0 1 (qI (qR (al_q 107 8 8 hqq)))) hg13)) hg16) d_A_init_60 ?_
  refine r_dup hX d_A_init_63 rfl ?_
  obtain ⟨hg19, h⟩ := gd_e h
  obtain ⟨r20, hr21, h⟩ := bd_e h
  refine r_callIN (As := []) hX hM mw_A_48 (T_Rd_init _ _ hr21) (kn_ne kn_new) rfl rfl (al_3 (al_k 9 0 11 (zR (al_ck (c := 49) (al_k 7 0 1 (zI (zR (al_k 107 8 8 hzz)))) hg13))) (al_q 9 0 11 (qR (al_cq (d := 600) (al_q 7 0 1 (qI (qR (al_q 107 8 8 hqq)))) hg13))) hg19) rfl rfl d_A_init_64 ?_
  obtain ⟨hg22, h⟩ := gd_e h
  obtain ⟨hk23, h⟩ := gd_e h
  refine r_putRF (i := 0) (f := 6) hX ci_0 (by decide) rfl rfl hI rfl (fun G => nw_o _ _) (fun G => ft_o _ _) fl_A_49 hk23 d_A_init_67 ?_
  exact rj_sub [0] rfl (P_A_init_70 hX hM hR hI _ _ _ _ h  (zR (al_ck (c := 22) (al_k 9 0 11 (zR (al_ck (c := 49) (al_k 7 0 1 (zI (zR (al_k 107 8 8 hzz)))) hg13))) hg22)) (qR (al_cq (d := 264) (al_q 9 0 11 (qR (al_cq (d := 600) (al_q 7 0 1 (qI (qR (al_q 107 8 8 hqq)))) hg13))) hg22)))
def F_A_init (a0 : Nat) (w : AW) : Option (AW) :=
  gd (wk w a0 == 1) <|
  gd (Nat.blt (wz w) ((wz w) + 254) && Nat.ble (wq w + 5) ((wq w) + 9954)) <|
  let p3 : Nat := wz w
  let w4 : AW := wnew w 2 0 5
  gd (Nat.ble (wz w4 + 4) ((wz w) + 254) && Nat.ble (wq w4 + 32) ((wq w) + 9954)) <|
  (F_Ca_init p3 w4).bind fun r6 =>
  gd ((wz r6 == wz w4 + 4) && (wq r6 == wq w4 + 32)) <|
  gd (wk r6 a0 == 1) <|
  let w10 : AW := upR r6 a0 0 p3
  gd (Nat.blt (wz w10) ((wz w) + 254) && Nat.ble (wq w10 + 3) ((wq w) + 9954)) <|
  let p12 : Nat := wz w10
  let w13 : AW := wnew w10 106 3 3
  gd (wk w13 a0 == 1) <|
  let w15 : AW := upR w13 a0 1 p12
  gd (Nat.blt (wz w15) ((wz w) + 254) && Nat.ble (wq w15 + 17) ((wq w) + 9954)) <|
  let p17 : Nat := wz w15
  let w18 : AW := wnew w15 4 0 17
  gd (Nat.ble (wz w18 + 13) ((wz w) + 254) && Nat.ble (wq w18 + 825) ((wq w) + 9954)) <|
  (F_Pg_init p17 w18).bind fun r20 =>
  gd ((wz r20 == wz w18 + 13) && (wq r20 == wq w18 + 825)) <|
  gd (wk r20 a0 == 1) <|
  let w24 : AW := upR r20 a0 2 p17
  F_A_init_34 (wz w) (wq w) a0 w24
theorem P_A_init_0 {X : AX} {l : Launch} {G : AG} (hX : XOK X b_A_init "RedSky" 2) (hM : XM X l G { frames := 4, cells := 254, slots := 9954, locals := 84 }) {o : AW} (hR : XR X none 254 9954 none o) (hI : XI X) (k n : Nat) (a0 : Nat) (w : AW) (h : F_A_init a0 w = some o) (hzz : wz w + k = wz w) (hqq : wq w + n = wq w) : RJ X 2 k n 0 [(0, vr a0)] [] w := by
  unfold F_A_init at h
  refine r_aload_n (i := 0) hX d_A_init_0 0 rfl rfl ?_
  obtain ⟨hk1, h⟩ := gd_e h
  refine r_objInit hX hM ow_A (kn_ne hk1) (by decide) (by decide) d_A_init_1 ?_
  refine r_aload_n (i := 0) hX d_A_init_4 0 rfl rfl ?_
  obtain ⟨hg2, h⟩ := gd_e h
  refine r_new (i := 1) hX hM ci_1 cn_A_7 df_1 (al_1 hzz hg2) (al_2 hqq hg2) d_A_init_5 ?_
  refine r_dup hX d_A_init_8 rfl ?_
  obtain ⟨hg5, h⟩ := gd_e h
  obtain ⟨r6, hr7, h⟩ := bd_e h
  refine r_callI (As := []) hX hM mw_A_9 (T_Ca_init _ _ hr7) (kn_ne kn_new) rfl rfl (al_3 (al_k 2 0 5 hzz) (al_q 2 0 5 hqq) hg5) rfl rfl d_A_init_9 ?_
  obtain ⟨hg8, h⟩ := gd_e h
  obtain ⟨hk9, h⟩ := gd_e h
  refine r_putRF (i := 0) (f := 0) hX ci_0 (by decide) rfl rfl hI rfl (fun G => nw_o _ _) (fun G => ft_o _ _) fl_A_10 hk9 d_A_init_12 ?_
  refine r_aload_n (i := 0) hX d_A_init_15 0 rfl rfl ?_
  refine r_iconst (v := (3 : Int32)) hX d_A_init_16 rfl ?_
  obtain ⟨hg11, h⟩ := gd_e h
  refine r_anew (kd := 106) (N := 3) hX hM (by decide) cl_A_16 ao_Di (fun G => rfl) (by decide) (by decide) (by decide) (al_1 (zR (al_ck (c := 4) (al_k 2 0 5 hzz) hg8)) hg11) (al_2 (qR (al_cq (d := 32) (al_q 2 0 5 hqq) hg8)) hg11) d_A_init_17 ?_
  obtain ⟨hk14, h⟩ := gd_e h
  refine r_putRF (i := 0) (f := 1) hX ci_0 (by decide) rfl rfl hI rfl (fun G => nw_r _ _) (fun G => ft_r _ _) fl_A_18 hk14 d_A_init_20 ?_
  refine r_aload_n (i := 0) hX d_A_init_23 0 rfl rfl ?_
  obtain ⟨hg16, h⟩ := gd_e h
  refine r_new (i := 3) hX hM ci_3 cn_A_22 df_3 (al_1 (zR (al_k 106 3 3 (zR (al_ck (c := 4) (al_k 2 0 5 hzz) hg8)))) hg16) (al_2 (qR (al_q 106 3 3 (qR (al_cq (d := 32) (al_q 2 0 5 hqq) hg8)))) hg16) d_A_init_24 ?_
  refine r_dup hX d_A_init_27 rfl ?_
  obtain ⟨hg19, h⟩ := gd_e h
  obtain ⟨r20, hr21, h⟩ := bd_e h
  refine r_callIN (As := []) hX hM mw_A_24 (T_Pg_init _ _ hr21) (kn_ne kn_new) rfl rfl (al_3 (al_k 4 0 17 (zR (al_k 106 3 3 (zR (al_ck (c := 4) (al_k 2 0 5 hzz) hg8))))) (al_q 4 0 17 (qR (al_q 106 3 3 (qR (al_cq (d := 32) (al_q 2 0 5 hqq) hg8))))) hg19) rfl rfl d_A_init_28 ?_
  obtain ⟨hg22, h⟩ := gd_e h
  obtain ⟨hk23, h⟩ := gd_e h
  refine r_putRF (i := 0) (f := 2) hX ci_0 (by decide) rfl rfl hI rfl (fun G => nw_o _ _) (fun G => ft_o _ _) fl_A_25 hk23 d_A_init_31 ?_
  exact rj_sub [0] rfl (P_A_init_34 hX hM hR hI _ _ _ _ h  (zR (al_ck (c := 13) (al_k 4 0 17 (zR (al_k 106 3 3 (zR (al_ck (c := 4) (al_k 2 0 5 hzz) hg8))))) hg22)) (qR (al_cq (d := 825) (al_q 4 0 17 (qR (al_q 106 3 3 (qR (al_cq (d := 32) (al_q 2 0 5 hqq) hg8))))) hg22)))
theorem T_A_init {l : Launch} {G : AG} (a0 : Nat) (w : AW) {o : AW} (h : F_A_init a0 w = some o) : Mt l G y_A_init b_A_init 2 none 4 84 254 9954 [vr a0] w none o := mt_of (by decide) (Nat.le_of_ble_eq_true rfl) (fun X hX hR hM hI => P_A_init_0 hX hM hR (hI rfl) 0 0 _ _ h rfl rfl)
/-! RedSkyModel.wipe()V -/
theorem d_M_wipe_0 : decode b_M_wipe 0 = .ok (.iconst 0, 1) := by decide +kernel
theorem d_M_wipe_1 : decode b_M_wipe 1 = .ok (.istore_n 1, 1) := by decide +kernel
theorem d_M_wipe_2 : decode b_M_wipe 2 = .ok (.iload_n 1, 1) := by decide +kernel
theorem d_M_wipe_3 : decode b_M_wipe 3 = .ok (.sipush (17532), 3) := by decide +kernel
theorem d_M_wipe_6 : decode b_M_wipe 6 = .ok (.if_icmp .ge (18), 3) := by decide +kernel
theorem d_M_wipe_9 : decode b_M_wipe 9 = .ok (.aload_n 0, 1) := by decide +kernel
theorem d_M_wipe_10 : decode b_M_wipe 10 = .ok (.getfield 22, 3) := by decide +kernel
theorem d_M_wipe_13 : decode b_M_wipe 13 = .ok (.iload_n 1, 1) := by decide +kernel
theorem d_M_wipe_14 : decode b_M_wipe 14 = .ok (.sipush (-1000), 3) := by decide +kernel
theorem d_M_wipe_17 : decode b_M_wipe 17 = .ok (.iastore, 1) := by decide +kernel
theorem d_M_wipe_18 : decode b_M_wipe 18 = .ok (.iinc 1 (1), 3) := by decide +kernel
theorem d_M_wipe_21 : decode b_M_wipe 21 = .ok (.goto (-19), 3) := by decide +kernel
theorem d_M_wipe_24 : decode b_M_wipe 24 = .ok (.iconst 0, 1) := by decide +kernel
theorem d_M_wipe_25 : decode b_M_wipe 25 = .ok (.istore_n 1, 1) := by decide +kernel
theorem d_M_wipe_26 : decode b_M_wipe 26 = .ok (.iload_n 1, 1) := by decide +kernel
theorem d_M_wipe_27 : decode b_M_wipe 27 = .ok (.sipush (8766), 3) := by decide +kernel
theorem d_M_wipe_30 : decode b_M_wipe 30 = .ok (.if_icmp .ge (16), 3) := by decide +kernel
theorem d_M_wipe_33 : decode b_M_wipe 33 = .ok (.aload_n 0, 1) := by decide +kernel
theorem d_M_wipe_34 : decode b_M_wipe 34 = .ok (.getfield 28, 3) := by decide +kernel
theorem d_M_wipe_37 : decode b_M_wipe 37 = .ok (.iload_n 1, 1) := by decide +kernel
theorem d_M_wipe_38 : decode b_M_wipe 38 = .ok (.iconst (-1), 1) := by decide +kernel
theorem d_M_wipe_39 : decode b_M_wipe 39 = .ok (.iastore, 1) := by decide +kernel
theorem d_M_wipe_40 : decode b_M_wipe 40 = .ok (.iinc 1 (1), 3) := by decide +kernel
theorem d_M_wipe_43 : decode b_M_wipe 43 = .ok (.goto (-17), 3) := by decide +kernel
theorem d_M_wipe_46 : decode b_M_wipe 46 = .ok (.return_, 1) := by decide +kernel
def F_M_wipe_26_B (rec26 : Nat → Int32 → AW → Option (AW)) (a0 : Nat) (x1 : Int32) (w : AW) : Option (AW) :=
  if (8766 : Int32) ≤ x1 then
    some w
  else
    gd (wk w a0 == 13) <|
    gd (wk w (wr w a0 7) == 100) <|
    gd (inb x1 (wn w (wr w a0 7))) <|
    let w4 : AW := upI w (wr w a0 7) (Int32.toNatClampNeg x1) (-1 : Int32)
    let v5 : Int32 := (x1 + (1 : Int32))
    rec26 a0 v5 w4
theorem P_M_wipe_26_B {X : AX} {l : Launch} {G : AG} {rec26 : Nat → Int32 → AW → Option (AW)} (hX : XOK X b_M_wipe "RedSkyModel" 2) (hM : XM X l G { frames := 0, cells := 0, slots := 0, locals := 0 }) {o : AW} (hR : XR X none 0 0 none o) (hrec26 : ∀ (a0 : Nat) (x1 : Int32) (w : AW), rec26 a0 x1 w = some o → RJ X 2 0 0 26 [(0, vr a0), (1, vi x1)] [] w) (a0 : Nat) (x1 : Int32) (w : AW) (h : F_M_wipe_26_B rec26 a0 x1 w = some o) : RJ X 2 0 0 26 [(0, vr a0), (1, vi x1)] [] w := by
  unfold F_M_wipe_26_B at h
  refine r_iload_n (i := 1) hX d_M_wipe_26 1 rfl rfl ?_
  refine r_sipush (v := (8766 : Int32)) hX d_M_wipe_27 rfl ?_
  refine r_icmp_ge hX d_M_wipe_30 rfl h (fun h => ?_) (fun h => ?_)
  · cases h; exact r_vret hX hR d_M_wipe_46
  · refine r_aload_n (i := 0) hX d_M_wipe_33 0 rfl rfl ?_
    obtain ⟨hk1, h⟩ := gd_e h
    refine r_getR (i := 12) (f := 7) hX ci_12 (by decide) rfl fl_M_28 hk1 d_M_wipe_34 ?_
    refine r_iload_n (i := 1) hX d_M_wipe_37 1 rfl rfl ?_
    refine r_iconst (v := (-1 : Int32)) hX d_M_wipe_38 rfl ?_
    obtain ⟨hk2, h⟩ := gd_e h
    obtain ⟨hg3, h⟩ := gd_e h
    refine r_iast hX hk2 hg3 d_M_wipe_39 ?_
    refine r_iinc (i := 1) (v := (1 : Int32)) hX d_M_wipe_40 1 rfl rfl (by decide) ?_
    refine r_goto hX d_M_wipe_43 rfl ?_
    exact rj_sub [1, 0] rfl (hrec26 _ _ _ h)
def F_M_wipe_26 : Nat → Nat → Int32 → AW → Option (AW)
  | 0 => fun _ _ _ => none
  | n + 1 => fun a0 x1 w => F_M_wipe_26_B (F_M_wipe_26 n) a0 x1 w
theorem P_M_wipe_26 {X : AX} {l : Launch} {G : AG} (hX : XOK X b_M_wipe "RedSkyModel" 2) (hM : XM X l G { frames := 0, cells := 0, slots := 0, locals := 0 }) {o : AW} (hR : XR X none 0 0 none o) (fu : Nat) : ∀ (a0 : Nat) (x1 : Int32) (w : AW), F_M_wipe_26 fu a0 x1 w = some o → RJ X 2 0 0 26 [(0, vr a0), (1, vi x1)] [] w := by
  induction fu with
  | zero => intro a0 x1 w h; cases h
  | succ n9 ih => intro a0 x1 w h; exact P_M_wipe_26_B hX hM hR ih _ _ _ h
def F_M_wipe_2_B (rec2 : Nat → Int32 → AW → Option (AW)) (a0 : Nat) (x1 : Int32) (w : AW) : Option (AW) :=
  if (17532 : Int32) ≤ x1 then
    F_M_wipe_26 FUEL a0 (0 : Int32) w
  else
    gd (wk w a0 == 13) <|
    gd (wk w (wr w a0 5) == 100) <|
    gd (inb x1 (wn w (wr w a0 5))) <|
    let w4 : AW := upI w (wr w a0 5) (Int32.toNatClampNeg x1) (-1000 : Int32)
    let v5 : Int32 := (x1 + (1 : Int32))
    rec2 a0 v5 w4
theorem P_M_wipe_2_B {X : AX} {l : Launch} {G : AG} {rec2 : Nat → Int32 → AW → Option (AW)} (hX : XOK X b_M_wipe "RedSkyModel" 2) (hM : XM X l G { frames := 0, cells := 0, slots := 0, locals := 0 }) {o : AW} (hR : XR X none 0 0 none o) (hrec2 : ∀ (a0 : Nat) (x1 : Int32) (w : AW), rec2 a0 x1 w = some o → RJ X 2 0 0 2 [(0, vr a0), (1, vi x1)] [] w) (a0 : Nat) (x1 : Int32) (w : AW) (h : F_M_wipe_2_B rec2 a0 x1 w = some o) : RJ X 2 0 0 2 [(0, vr a0), (1, vi x1)] [] w := by
  unfold F_M_wipe_2_B at h
  refine r_iload_n (i := 1) hX d_M_wipe_2 1 rfl rfl ?_
  refine r_sipush (v := (17532 : Int32)) hX d_M_wipe_3 rfl ?_
  refine r_icmp_ge hX d_M_wipe_6 rfl h (fun h => ?_) (fun h => ?_)
  · refine r_iconst (v := (0 : Int32)) hX d_M_wipe_24 rfl ?_
    refine r_istore_n (i := 1) hX d_M_wipe_25 rfl (by decide) ?_
    exact rj_sub [1, 0] rfl (P_M_wipe_26 hX hM hR FUEL _ _ _ h)
  · refine r_aload_n (i := 0) hX d_M_wipe_9 0 rfl rfl ?_
    obtain ⟨hk1, h⟩ := gd_e h
    refine r_getR (i := 12) (f := 5) hX ci_12 (by decide) rfl fl_M_22 hk1 d_M_wipe_10 ?_
    refine r_iload_n (i := 1) hX d_M_wipe_13 1 rfl rfl ?_
    refine r_sipush (v := (-1000 : Int32)) hX d_M_wipe_14 rfl ?_
    obtain ⟨hk2, h⟩ := gd_e h
    obtain ⟨hg3, h⟩ := gd_e h
    refine r_iast hX hk2 hg3 d_M_wipe_17 ?_
    refine r_iinc (i := 1) (v := (1 : Int32)) hX d_M_wipe_18 1 rfl rfl (by decide) ?_
    refine r_goto hX d_M_wipe_21 rfl ?_
    exact rj_sub [1, 0] rfl (hrec2 _ _ _ h)
def F_M_wipe_2 : Nat → Nat → Int32 → AW → Option (AW)
  | 0 => fun _ _ _ => none
  | n + 1 => fun a0 x1 w => F_M_wipe_2_B (F_M_wipe_2 n) a0 x1 w
theorem P_M_wipe_2 {X : AX} {l : Launch} {G : AG} (hX : XOK X b_M_wipe "RedSkyModel" 2) (hM : XM X l G { frames := 0, cells := 0, slots := 0, locals := 0 }) {o : AW} (hR : XR X none 0 0 none o) (fu : Nat) : ∀ (a0 : Nat) (x1 : Int32) (w : AW), F_M_wipe_2 fu a0 x1 w = some o → RJ X 2 0 0 2 [(0, vr a0), (1, vi x1)] [] w := by
  induction fu with
  | zero => intro a0 x1 w h; cases h
  | succ n9 ih => intro a0 x1 w h; exact P_M_wipe_2_B hX hM hR ih _ _ _ h
def F_M_wipe (a0 : Nat) (w : AW) : Option (AW) :=
  F_M_wipe_2 FUEL a0 (0 : Int32) w
theorem P_M_wipe_0 {X : AX} {l : Launch} {G : AG} (hX : XOK X b_M_wipe "RedSkyModel" 2) (hM : XM X l G { frames := 0, cells := 0, slots := 0, locals := 0 }) {o : AW} (hR : XR X none 0 0 none o) (a0 : Nat) (w : AW) (h : F_M_wipe a0 w = some o) : RJ X 2 0 0 0 [(0, vr a0)] [] w := by
  unfold F_M_wipe at h
  refine r_iconst (v := (0 : Int32)) hX d_M_wipe_0 rfl ?_
  refine r_istore_n (i := 1) hX d_M_wipe_1 rfl (by decide) ?_
  exact rj_sub [1, 0] rfl (P_M_wipe_2 hX hM hR FUEL _ _ _ h)
theorem T_M_wipe {l : Launch} {G : AG} (a0 : Nat) (w : AW) {o : AW} (h : F_M_wipe a0 w = some o) : Mt l G y_M_wipe b_M_wipe 2 none 0 0 0 0 [vr a0] w none o := mt_of (by decide) (Nat.le_of_ble_eq_true rfl) (fun X hX hR hM hI => P_M_wipe_0 hX hM hR _ _ h)
/-! RedSkyModel.<init>()V -/
theorem d_M_init_0 : decode b_M_init 0 = .ok (.aload_n 0, 1) := by decide +kernel
theorem d_M_init_1 : decode b_M_init 1 = .ok (.invokespecial 1, 3) := by decide +kernel
theorem d_M_init_4 : decode b_M_init 4 = .ok (.aload_n 0, 1) := by decide +kernel
theorem d_M_init_5 : decode b_M_init 5 = .ok (.bipush (8), 2) := by decide +kernel
theorem d_M_init_7 : decode b_M_init 7 = .ok (.newarray .int, 2) := by decide +kernel
theorem d_M_init_9 : decode b_M_init 9 = .ok (.putfield 7, 3) := by decide +kernel
theorem d_M_init_12 : decode b_M_init 12 = .ok (.aload_n 0, 1) := by decide +kernel
theorem d_M_init_13 : decode b_M_init 13 = .ok (.bipush (8), 2) := by decide +kernel
theorem d_M_init_15 : decode b_M_init 15 = .ok (.newarray .int, 2) := by decide +kernel
theorem d_M_init_17 : decode b_M_init 17 = .ok (.putfield 13, 3) := by decide +kernel
theorem d_M_init_20 : decode b_M_init 20 = .ok (.aload_n 0, 1) := by decide +kernel
theorem d_M_init_21 : decode b_M_init 21 = .ok (.bipush (8), 2) := by decide +kernel
theorem d_M_init_23 : decode b_M_init 23 = .ok (.newarray .int, 2) := by decide +kernel
theorem d_M_init_25 : decode b_M_init 25 = .ok (.putfield 16, 3) := by decide +kernel
theorem d_M_init_28 : decode b_M_init 28 = .ok (.aload_n 0, 1) := by decide +kernel
theorem d_M_init_29 : decode b_M_init 29 = .ok (.bipush (8), 2) := by decide +kernel
theorem d_M_init_31 : decode b_M_init 31 = .ok (.newarray .int, 2) := by decide +kernel
theorem d_M_init_33 : decode b_M_init 33 = .ok (.putfield 19, 3) := by decide +kernel
theorem d_M_init_36 : decode b_M_init 36 = .ok (.aload_n 0, 1) := by decide +kernel
theorem d_M_init_37 : decode b_M_init 37 = .ok (.sipush (17532), 3) := by decide +kernel
theorem d_M_init_40 : decode b_M_init 40 = .ok (.newarray .int, 2) := by decide +kernel
theorem d_M_init_42 : decode b_M_init 42 = .ok (.putfield 22, 3) := by decide +kernel
theorem d_M_init_45 : decode b_M_init 45 = .ok (.aload_n 0, 1) := by decide +kernel
theorem d_M_init_46 : decode b_M_init 46 = .ok (.bipush (6), 2) := by decide +kernel
theorem d_M_init_48 : decode b_M_init 48 = .ok (.newarray .int, 2) := by decide +kernel
theorem d_M_init_50 : decode b_M_init 50 = .ok (.putfield 25, 3) := by decide +kernel
theorem d_M_init_53 : decode b_M_init 53 = .ok (.aload_n 0, 1) := by decide +kernel
theorem d_M_init_54 : decode b_M_init 54 = .ok (.sipush (8766), 3) := by decide +kernel
theorem d_M_init_57 : decode b_M_init 57 = .ok (.newarray .int, 2) := by decide +kernel
theorem d_M_init_59 : decode b_M_init 59 = .ok (.putfield 28, 3) := by decide +kernel
theorem d_M_init_62 : decode b_M_init 62 = .ok (.aload_n 0, 1) := by decide +kernel
theorem d_M_init_63 : decode b_M_init 63 = .ok (.bipush (80), 2) := by decide +kernel
theorem d_M_init_65 : decode b_M_init 65 = .ok (.newarray .int, 2) := by decide +kernel
theorem d_M_init_67 : decode b_M_init 67 = .ok (.putfield 31, 3) := by decide +kernel
theorem d_M_init_70 : decode b_M_init 70 = .ok (.aload_n 0, 1) := by decide +kernel
theorem d_M_init_71 : decode b_M_init 71 = .ok (.sipush (160), 3) := by decide +kernel
theorem d_M_init_74 : decode b_M_init 74 = .ok (.newarray .int, 2) := by decide +kernel
theorem d_M_init_76 : decode b_M_init 76 = .ok (.putfield 34, 3) := by decide +kernel
theorem d_M_init_79 : decode b_M_init 79 = .ok (.aload_n 0, 1) := by decide +kernel
theorem d_M_init_80 : decode b_M_init 80 = .ok (.sipush (160), 3) := by decide +kernel
theorem d_M_init_83 : decode b_M_init 83 = .ok (.newarray .int, 2) := by decide +kernel
theorem d_M_init_85 : decode b_M_init 85 = .ok (.putfield 37, 3) := by decide +kernel
theorem d_M_init_88 : decode b_M_init 88 = .ok (.aload_n 0, 1) := by decide +kernel
theorem d_M_init_89 : decode b_M_init 89 = .ok (.iconst 2, 1) := by decide +kernel
theorem d_M_init_90 : decode b_M_init 90 = .ok (.newarray .int, 2) := by decide +kernel
theorem d_M_init_92 : decode b_M_init 92 = .ok (.putfield 40, 3) := by decide +kernel
theorem d_M_init_95 : decode b_M_init 95 = .ok (.aload_n 0, 1) := by decide +kernel
theorem d_M_init_96 : decode b_M_init 96 = .ok (.bipush (80), 2) := by decide +kernel
theorem d_M_init_98 : decode b_M_init 98 = .ok (.newarray .int, 2) := by decide +kernel
theorem d_M_init_100 : decode b_M_init 100 = .ok (.putfield 43, 3) := by decide +kernel
theorem d_M_init_103 : decode b_M_init 103 = .ok (.aload_n 0, 1) := by decide +kernel
theorem d_M_init_104 : decode b_M_init 104 = .ok (.bipush (96), 2) := by decide +kernel
theorem d_M_init_106 : decode b_M_init 106 = .ok (.newarray .int, 2) := by decide +kernel
theorem d_M_init_108 : decode b_M_init 108 = .ok (.putfield 46, 3) := by decide +kernel
theorem d_M_init_111 : decode b_M_init 111 = .ok (.aload_n 0, 1) := by decide +kernel
theorem d_M_init_112 : decode b_M_init 112 = .ok (.sipush (1280), 3) := by decide +kernel
theorem d_M_init_115 : decode b_M_init 115 = .ok (.newarray .int, 2) := by decide +kernel
theorem d_M_init_117 : decode b_M_init 117 = .ok (.putfield 49, 3) := by decide +kernel
theorem d_M_init_120 : decode b_M_init 120 = .ok (.aload_n 0, 1) := by decide +kernel
theorem d_M_init_121 : decode b_M_init 121 = .ok (.sipush (1280), 3) := by decide +kernel
theorem d_M_init_124 : decode b_M_init 124 = .ok (.newarray .int, 2) := by decide +kernel
theorem d_M_init_126 : decode b_M_init 126 = .ok (.putfield 52, 3) := by decide +kernel
theorem d_M_init_129 : decode b_M_init 129 = .ok (.aload_n 0, 1) := by decide +kernel
theorem d_M_init_130 : decode b_M_init 130 = .ok (.bipush (16), 2) := by decide +kernel
theorem d_M_init_132 : decode b_M_init 132 = .ok (.newarray .int, 2) := by decide +kernel
theorem d_M_init_134 : decode b_M_init 134 = .ok (.putfield 55, 3) := by decide +kernel
theorem d_M_init_137 : decode b_M_init 137 = .ok (.aload_n 0, 1) := by decide +kernel
theorem d_M_init_138 : decode b_M_init 138 = .ok (.bipush (81), 2) := by decide +kernel
theorem d_M_init_140 : decode b_M_init 140 = .ok (.newarray .int, 2) := by decide +kernel
theorem d_M_init_142 : decode b_M_init 142 = .ok (.putfield 58, 3) := by decide +kernel
theorem d_M_init_145 : decode b_M_init 145 = .ok (.aload_n 0, 1) := by decide +kernel
theorem d_M_init_146 : decode b_M_init 146 = .ok (.bipush (81), 2) := by decide +kernel
theorem d_M_init_148 : decode b_M_init 148 = .ok (.newarray .int, 2) := by decide +kernel
theorem d_M_init_150 : decode b_M_init 150 = .ok (.putfield 61, 3) := by decide +kernel
theorem d_M_init_153 : decode b_M_init 153 = .ok (.aload_n 0, 1) := by decide +kernel
theorem d_M_init_154 : decode b_M_init 154 = .ok (.bipush (81), 2) := by decide +kernel
theorem d_M_init_156 : decode b_M_init 156 = .ok (.newarray .int, 2) := by decide +kernel
theorem d_M_init_158 : decode b_M_init 158 = .ok (.putfield 64, 3) := by decide +kernel
theorem d_M_init_161 : decode b_M_init 161 = .ok (.aload_n 0, 1) := by decide +kernel
theorem d_M_init_162 : decode b_M_init 162 = .ok (.bipush (81), 2) := by decide +kernel
theorem d_M_init_164 : decode b_M_init 164 = .ok (.newarray .int, 2) := by decide +kernel
theorem d_M_init_166 : decode b_M_init 166 = .ok (.putfield 67, 3) := by decide +kernel
theorem d_M_init_169 : decode b_M_init 169 = .ok (.aload_n 0, 1) := by decide +kernel
theorem d_M_init_170 : decode b_M_init 170 = .ok (.bipush (81), 2) := by decide +kernel
theorem d_M_init_172 : decode b_M_init 172 = .ok (.newarray .int, 2) := by decide +kernel
theorem d_M_init_174 : decode b_M_init 174 = .ok (.putfield 70, 3) := by decide +kernel
theorem d_M_init_177 : decode b_M_init 177 = .ok (.aload_n 0, 1) := by decide +kernel
theorem d_M_init_178 : decode b_M_init 178 = .ok (.bipush (81), 2) := by decide +kernel
theorem d_M_init_180 : decode b_M_init 180 = .ok (.newarray .boolean, 2) := by decide +kernel
theorem d_M_init_182 : decode b_M_init 182 = .ok (.putfield 73, 3) := by decide +kernel
theorem d_M_init_185 : decode b_M_init 185 = .ok (.aload_n 0, 1) := by decide +kernel
theorem d_M_init_186 : decode b_M_init 186 = .ok (.sipush (1461), 3) := by decide +kernel
theorem d_M_init_189 : decode b_M_init 189 = .ok (.newarray .int, 2) := by decide +kernel
theorem d_M_init_191 : decode b_M_init 191 = .ok (.putfield 77, 3) := by decide +kernel
theorem d_M_init_194 : decode b_M_init 194 = .ok (.aload_n 0, 1) := by decide +kernel
theorem d_M_init_195 : decode b_M_init 195 = .ok (.sipush (1461), 3) := by decide +kernel
theorem d_M_init_198 : decode b_M_init 198 = .ok (.newarray .int, 2) := by decide +kernel
theorem d_M_init_200 : decode b_M_init 200 = .ok (.putfield 80, 3) := by decide +kernel
theorem d_M_init_203 : decode b_M_init 203 = .ok (.aload_n 0, 1) := by decide +kernel
theorem d_M_init_204 : decode b_M_init 204 = .ok (.iconst 2, 1) := by decide +kernel
theorem d_M_init_205 : decode b_M_init 205 = .ok (.newarray .int, 2) := by decide +kernel
theorem d_M_init_207 : decode b_M_init 207 = .ok (.putfield 83, 3) := by decide +kernel
theorem d_M_init_210 : decode b_M_init 210 = .ok (.aload_n 0, 1) := by decide +kernel
theorem d_M_init_211 : decode b_M_init 211 = .ok (.bipush (6), 2) := by decide +kernel
theorem d_M_init_213 : decode b_M_init 213 = .ok (.newarray .int, 2) := by decide +kernel
theorem d_M_init_215 : decode b_M_init 215 = .ok (.putfield 86, 3) := by decide +kernel
theorem d_M_init_218 : decode b_M_init 218 = .ok (.aload_n 0, 1) := by decide +kernel
theorem d_M_init_219 : decode b_M_init 219 = .ok (.iconst 3, 1) := by decide +kernel
theorem d_M_init_220 : decode b_M_init 220 = .ok (.newarray .int, 2) := by decide +kernel
theorem d_M_init_222 : decode b_M_init 222 = .ok (.putfield 89, 3) := by decide +kernel
theorem d_M_init_225 : decode b_M_init 225 = .ok (.aload_n 0, 1) := by decide +kernel
theorem d_M_init_226 : decode b_M_init 226 = .ok (.iconst 3, 1) := by decide +kernel
theorem d_M_init_227 : decode b_M_init 227 = .ok (.newarray .int, 2) := by decide +kernel
theorem d_M_init_229 : decode b_M_init 229 = .ok (.putfield 92, 3) := by decide +kernel
theorem d_M_init_232 : decode b_M_init 232 = .ok (.aload_n 0, 1) := by decide +kernel
theorem d_M_init_233 : decode b_M_init 233 = .ok (.iconst 1, 1) := by decide +kernel
theorem d_M_init_234 : decode b_M_init 234 = .ok (.putfield 95, 3) := by decide +kernel
theorem d_M_init_237 : decode b_M_init 237 = .ok (.iconst 0, 1) := by decide +kernel
theorem d_M_init_238 : decode b_M_init 238 = .ok (.istore_n 1, 1) := by decide +kernel
theorem d_M_init_239 : decode b_M_init 239 = .ok (.iload_n 1, 1) := by decide +kernel
theorem d_M_init_240 : decode b_M_init 240 = .ok (.bipush (8), 2) := by decide +kernel
theorem d_M_init_242 : decode b_M_init 242 = .ok (.if_icmp .ge (23), 3) := by decide +kernel
theorem d_M_init_245 : decode b_M_init 245 = .ok (.aload_n 0, 1) := by decide +kernel
theorem d_M_init_246 : decode b_M_init 246 = .ok (.getfield 7, 3) := by decide +kernel
theorem d_M_init_249 : decode b_M_init 249 = .ok (.iload_n 1, 1) := by decide +kernel
theorem d_M_init_250 : decode b_M_init 250 = .ok (.iconst 1, 1) := by decide +kernel
theorem d_M_init_251 : decode b_M_init 251 = .ok (.iastore, 1) := by decide +kernel
theorem d_M_init_252 : decode b_M_init 252 = .ok (.aload_n 0, 1) := by decide +kernel
theorem d_M_init_253 : decode b_M_init 253 = .ok (.getfield 13, 3) := by decide +kernel
theorem d_M_init_256 : decode b_M_init 256 = .ok (.iload_n 1, 1) := by decide +kernel
theorem d_M_init_257 : decode b_M_init 257 = .ok (.iconst 1, 1) := by decide +kernel
theorem d_M_init_258 : decode b_M_init 258 = .ok (.iastore, 1) := by decide +kernel
theorem d_M_init_259 : decode b_M_init 259 = .ok (.iinc 1 (1), 3) := by decide +kernel
theorem d_M_init_262 : decode b_M_init 262 = .ok (.goto (-23), 3) := by decide +kernel
theorem d_M_init_265 : decode b_M_init 265 = .ok (.aload_n 0, 1) := by decide +kernel
theorem d_M_init_266 : decode b_M_init 266 = .ok (.invokevirtual 99, 3) := by decide +kernel
theorem d_M_init_269 : decode b_M_init 269 = .ok (.return_, 1) := by decide +kernel
def F_M_init_239_B (rec239 : Nat → Int32 → AW → Option (AW)) (z0 q0 : Nat) (a0 : Nat) (x1 : Int32) (w : AW) : Option (AW) :=
  if (8 : Int32) ≤ x1 then
    gd (wk w a0 == 13) <|
    gd (Nat.ble (wz w + 0) (z0 + 28) && Nat.ble (wq w + 0) (q0 + 32912)) <|
    (F_M_wipe a0 w).bind fun r3 =>
    gd ((wz r3 == wz w + 0) && (wq r3 == wq w + 0)) <|
    gd ((wz r3 == z0 + 28) && (wq r3 == q0 + 32912)) <|
    some r3
  else
    gd (wk w a0 == 13) <|
    gd (wk w (wr w a0 1) == 100) <|
    gd (inb x1 (wn w (wr w a0 1))) <|
    let w10 : AW := upI w (wr w a0 1) (Int32.toNatClampNeg x1) (1 : Int32)
    gd (wk w10 (wr w10 a0 2) == 100) <|
    gd (inb x1 (wn w10 (wr w10 a0 2))) <|
    let w13 : AW := upI w10 (wr w10 a0 2) (Int32.toNatClampNeg x1) (1 : Int32)
    let v14 : Int32 := (x1 + (1 : Int32))
    rec239 a0 v14 w13
theorem P_M_init_239_B {X : AX} {l : Launch} {G : AG} {z0 q0 : Nat} {rec239 : Nat → Int32 → AW → Option (AW)} (hX : XOK X b_M_init "RedSkyModel" 2) (hM : XM X l G { frames := 1, cells := 28, slots := 32912, locals := 24 }) {o : AW} (hR : XR X none 28 32912 none o) (hI : XI X) (hrec239 : ∀ (k n : Nat) (a0 : Nat) (x1 : Int32) (w : AW), rec239 a0 x1 w = some o → z0 + k = wz w → q0 + n = wq w → RJ X 2 k n 239 [(0, vr a0), (1, vi x1)] [] w) (k n : Nat) (a0 : Nat) (x1 : Int32) (w : AW) (h : F_M_init_239_B rec239 z0 q0 a0 x1 w = some o) (hzz : z0 + k = wz w) (hqq : q0 + n = wq w) : RJ X 2 k n 239 [(0, vr a0), (1, vi x1)] [] w := by
  unfold F_M_init_239_B at h
  refine r_iload_n (i := 1) hX d_M_init_239 1 rfl rfl ?_
  refine r_bipush (v := (8 : Int32)) hX d_M_init_240 rfl ?_
  refine r_icmp_ge hX d_M_init_242 rfl h (fun h => ?_) (fun h => ?_)
  · refine r_aload_n (i := 0) hX d_M_init_265 0 rfl rfl ?_
    obtain ⟨hk1, h⟩ := gd_e h
    obtain ⟨hg2, h⟩ := gd_e h
    obtain ⟨r3, hr4, h⟩ := bd_e h
    refine r_callV0 (As := []) hX hM mw_M_99 (T_M_wipe _ _ hr4) (rc_of ci_12 hk1) rfl rfl (al_3 hzz hqq hg2) rfl rfl d_M_init_266 ?_
    obtain ⟨hg5, h⟩ := gd_e h
    obtain ⟨hg6, h⟩ := gd_e h
    cases h; exact rj_kn (al_e (al_ck (c := 0) hzz hg5) (al_cq (d := 0) hqq hg5) hg6) (r_vret hX hR d_M_init_269)
  · refine r_aload_n (i := 0) hX d_M_init_245 0 rfl rfl ?_
    obtain ⟨hk7, h⟩ := gd_e h
    refine r_getR (i := 12) (f := 1) hX ci_12 (by decide) rfl fl_M_7 hk7 d_M_init_246 ?_
    refine r_iload_n (i := 1) hX d_M_init_249 1 rfl rfl ?_
    refine r_iconst (v := (1 : Int32)) hX d_M_init_250 rfl ?_
    obtain ⟨hk8, h⟩ := gd_e h
    obtain ⟨hg9, h⟩ := gd_e h
    refine r_iast hX hk8 hg9 d_M_init_251 ?_
    refine r_aload_n (i := 0) hX d_M_init_252 0 rfl rfl ?_
    refine r_getR (i := 12) (f := 2) hX ci_12 (by decide) rfl fl_M_13 (kI hk7) d_M_init_253 ?_
    refine r_iload_n (i := 1) hX d_M_init_256 1 rfl rfl ?_
    refine r_iconst (v := (1 : Int32)) hX d_M_init_257 rfl ?_
    obtain ⟨hk11, h⟩ := gd_e h
    obtain ⟨hg12, h⟩ := gd_e h
    refine r_iast hX hk11 hg12 d_M_init_258 ?_
    refine r_iinc (i := 1) (v := (1 : Int32)) hX d_M_init_259 1 rfl rfl (by decide) ?_
    refine r_goto hX d_M_init_262 rfl ?_
    exact rj_sub [1, 0] rfl (hrec239 _ _ _ _ _ h (zI (zI hzz)) (qI (qI hqq)))
def F_M_init_239 (z0 q0 : Nat) : Nat → Nat → Int32 → AW → Option (AW)
  | 0 => fun _ _ _ => none
  | n + 1 => fun a0 x1 w => F_M_init_239_B (F_M_init_239 z0 q0 n) z0 q0 a0 x1 w
theorem P_M_init_239 {X : AX} {l : Launch} {G : AG} {z0 q0 : Nat} (hX : XOK X b_M_init "RedSkyModel" 2) (hM : XM X l G { frames := 1, cells := 28, slots := 32912, locals := 24 }) {o : AW} (hR : XR X none 28 32912 none o) (hI : XI X) (fu : Nat) : ∀ (k n : Nat) (a0 : Nat) (x1 : Int32) (w : AW), F_M_init_239 z0 q0 fu a0 x1 w = some o → z0 + k = wz w → q0 + n = wq w → RJ X 2 k n 239 [(0, vr a0), (1, vi x1)] [] w := by
  induction fu with
  | zero => intro k n a0 x1 w h; cases h
  | succ n9 ih => intro k n a0 x1 w h hzz hqq; exact P_M_init_239_B hX hM hR hI ih _ _ _ _ _ h hzz hqq
def F_M_init_225 (z0 q0 : Nat) (a0 : Nat) (w : AW) : Option (AW) :=
  gd (Nat.blt (wz w) (z0 + 28) && Nat.ble (wq w + 3) (q0 + 32912)) <|
  let p2 : Nat := wz w
  let w3 : AW := wnew w 100 3 3
  gd (wk w3 a0 == 13) <|
  let w5 : AW := upR w3 a0 48 p2
  let w6 : AW := upI w5 a0 0 (1 : Int32)
  F_M_init_239 z0 q0 FUEL a0 (0 : Int32) w6
theorem P_M_init_225 {X : AX} {l : Launch} {G : AG} {z0 q0 : Nat} (hX : XOK X b_M_init "RedSkyModel" 2) (hM : XM X l G { frames := 1, cells := 28, slots := 32912, locals := 24 }) {o : AW} (hR : XR X none 28 32912 none o) (hI : XI X) (k n : Nat) (a0 : Nat) (w : AW) (h : F_M_init_225 z0 q0 a0 w = some o) (hzz : z0 + k = wz w) (hqq : q0 + n = wq w) : RJ X 2 k n 225 [(0, vr a0)] [] w := by
  unfold F_M_init_225 at h
  refine r_aload_n (i := 0) hX d_M_init_225 0 rfl rfl ?_
  refine r_iconst (v := (3 : Int32)) hX d_M_init_226 rfl ?_
  obtain ⟨hg1, h⟩ := gd_e h
  refine r_newarr (kd := 100) (N := 3) hX hM (by decide) aw_int (fun G => rfl) (by intro D9 h9; cases h9) rfl (by decide) (by decide) (by decide) (al_1 hzz hg1) (al_2 hqq hg1) d_M_init_227 ?_
  obtain ⟨hk4, h⟩ := gd_e h
  refine r_putRF (i := 12) (f := 48) hX ci_12 (by decide) rfl rfl hI rfl (fun G => nw_r _ _) (fun G => ft_r _ _) fl_M_92 hk4 d_M_init_229 ?_
  refine r_aload_n (i := 0) hX d_M_init_232 0 rfl rfl ?_
  refine r_iconst (v := (1 : Int32)) hX d_M_init_233 rfl ?_
  refine r_putI (i := 12) (f := 0) hX ci_12 (by decide) rfl rfl (fun G => rfl) (fun G => rfl) fl_M_95 (kR hk4) d_M_init_234 ?_
  refine r_iconst (v := (0 : Int32)) hX d_M_init_237 rfl ?_
  refine r_istore_n (i := 1) hX d_M_init_238 rfl (by decide) ?_
  exact rj_sub [1, 0] rfl (P_M_init_239 hX hM hR hI FUEL _ _ _ _ _ h  (zI (zR (al_k 100 3 3 hzz))) (qI (qR (al_q 100 3 3 hqq))))
def F_M_init_203 (z0 q0 : Nat) (a0 : Nat) (w : AW) : Option (AW) :=
  gd (Nat.blt (wz w) (z0 + 28) && Nat.ble (wq w + 2) (q0 + 32912)) <|
  let p2 : Nat := wz w
  let w3 : AW := wnew w 100 2 2
  gd (wk w3 a0 == 13) <|
  let w5 : AW := upR w3 a0 44 p2
  gd (Nat.blt (wz w5) (z0 + 28) && Nat.ble (wq w5 + 6) (q0 + 32912)) <|
  let p7 : Nat := wz w5
  let w8 : AW := wnew w5 100 6 6
  gd (wk w8 a0 == 13) <|
  let w10 : AW := upR w8 a0 46 p7
  gd (Nat.blt (wz w10) (z0 + 28) && Nat.ble (wq w10 + 3) (q0 + 32912)) <|
  let p12 : Nat := wz w10
  let w13 : AW := wnew w10 100 3 3
  gd (wk w13 a0 == 13) <|
  let w15 : AW := upR w13 a0 47 p12
  F_M_init_225 z0 q0 a0 w15
theorem P_M_init_203 {X : AX} {l : Launch} {G : AG} {z0 q0 : Nat} (hX : XOK X b_M_init "RedSkyModel" 2) (hM : XM X l G { frames := 1, cells := 28, slots := 32912, locals := 24 }) {o : AW} (hR : XR X none 28 32912 none o) (hI : XI X) (k n : Nat) (a0 : Nat) (w : AW) (h : F_M_init_203 z0 q0 a0 w = some o) (hzz : z0 + k = wz w) (hqq : q0 + n = wq w) : RJ X 2 k n 203 [(0, vr a0)] [] w := by
  unfold F_M_init_203 at h
  refine r_aload_n (i := 0) hX d_M_init_203 0 rfl rfl ?_
  refine r_iconst (v := (2 : Int32)) hX d_M_init_204 rfl ?_
  obtain ⟨hg1, h⟩ := gd_e h
  refine r_newarr (kd := 100) (N := 2) hX hM (by decide) aw_int (fun G => rfl) (by intro D9 h9; cases h9) rfl (by decide) (by decide) (by decide) (al_1 hzz hg1) (al_2 hqq hg1) d_M_init_205 ?_
  obtain ⟨hk4, h⟩ := gd_e h
  refine r_putRF (i := 12) (f := 44) hX ci_12 (by decide) rfl rfl hI rfl (fun G => nw_r _ _) (fun G => ft_r _ _) fl_M_83 hk4 d_M_init_207 ?_
  refine r_aload_n (i := 0) hX d_M_init_210 0 rfl rfl ?_
  refine r_bipush (v := (6 : Int32)) hX d_M_init_211 rfl ?_
  obtain ⟨hg6, h⟩ := gd_e h
  refine r_newarr (kd := 100) (N := 6) hX hM (by decide) aw_int (fun G => rfl) (by intro D9 h9; cases h9) rfl (by decide) (by decide) (by decide) (al_1 (zR (al_k 100 2 2 hzz)) hg6) (al_2 (qR (al_q 100 2 2 hqq)) hg6) d_M_init_213 ?_
  obtain ⟨hk9, h⟩ := gd_e h
  refine r_putRF (i := 12) (f := 46) hX ci_12 (by decide) rfl rfl hI rfl (fun G => nw_r _ _) (fun G => ft_r _ _) fl_M_86 hk9 d_M_init_215 ?_
  refine r_aload_n (i := 0) hX d_M_init_218 0 rfl rfl ?_
  refine r_iconst (v := (3 : Int32)) hX d_M_init_219 rfl ?_
  obtain ⟨hg11, h⟩ := gd_e h
  refine r_newarr (kd := 100) (N := 3) hX hM (by decide) aw_int (fun G => rfl) (by intro D9 h9; cases h9) rfl (by decide) (by decide) (by decide) (al_1 (zR (al_k 100 6 6 (zR (al_k 100 2 2 hzz)))) hg11) (al_2 (qR (al_q 100 6 6 (qR (al_q 100 2 2 hqq)))) hg11) d_M_init_220 ?_
  obtain ⟨hk14, h⟩ := gd_e h
  refine r_putRF (i := 12) (f := 47) hX ci_12 (by decide) rfl rfl hI rfl (fun G => nw_r _ _) (fun G => ft_r _ _) fl_M_89 hk14 d_M_init_222 ?_
  exact rj_sub [0] rfl (P_M_init_225 hX hM hR hI _ _ _ _ h  (zR (al_k 100 3 3 (zR (al_k 100 6 6 (zR (al_k 100 2 2 hzz)))))) (qR (al_q 100 3 3 (qR (al_q 100 6 6 (qR (al_q 100 2 2 hqq)))))))
def F_M_init_194 (z0 q0 : Nat) (a0 : Nat) (w : AW) : Option (AW) :=
  gd (Nat.blt (wz w) (z0 + 28) && Nat.ble (wq w + 1461) (q0 + 32912)) <|
  let p2 : Nat := wz w
  let w3 : AW := wnew w 100 1461 1461
  gd (wk w3 a0 == 13) <|
  let w5 : AW := upR w3 a0 43 p2
  F_M_init_203 z0 q0 a0 w5
theorem P_M_init_194 {X : AX} {l : Launch} {G : AG} {z0 q0 : Nat} (hX : XOK X b_M_init "RedSkyModel" 2) (hM : XM X l G { frames := 1, cells := 28, slots := 32912, locals := 24 }) {o : AW} (hR : XR X none 28 32912 none o) (hI : XI X) (k n : Nat) (a0 : Nat) (w : AW) (h : F_M_init_194 z0 q0 a0 w = some o) (hzz : z0 + k = wz w) (hqq : q0 + n = wq w) : RJ X 2 k n 194 [(0, vr a0)] [] w := by
  unfold F_M_init_194 at h
  refine r_aload_n (i := 0) hX d_M_init_194 0 rfl rfl ?_
  refine r_sipush (v := (1461 : Int32)) hX d_M_init_195 rfl ?_
  obtain ⟨hg1, h⟩ := gd_e h
  refine r_newarr (kd := 100) (N := 1461) hX hM (by decide) aw_int (fun G => rfl) (by intro D9 h9; cases h9) rfl (by decide) (by decide) (by decide) (al_1 hzz hg1) (al_2 hqq hg1) d_M_init_198 ?_
  obtain ⟨hk4, h⟩ := gd_e h
  refine r_putRF (i := 12) (f := 43) hX ci_12 (by decide) rfl rfl hI rfl (fun G => nw_r _ _) (fun G => ft_r _ _) fl_M_80 hk4 d_M_init_200 ?_
  exact rj_sub [0] rfl (P_M_init_203 hX hM hR hI _ _ _ _ h  (zR (al_k 100 1461 1461 hzz)) (qR (al_q 100 1461 1461 hqq)))
def F_M_init_177 (z0 q0 : Nat) (a0 : Nat) (w : AW) : Option (AW) :=
  gd (Nat.blt (wz w) (z0 + 28) && Nat.ble (wq w + 81) (q0 + 32912)) <|
  let p2 : Nat := wz w
  let w3 : AW := wnew w 104 81 81
  gd (wk w3 a0 == 13) <|
  let w5 : AW := upR w3 a0 39 p2
  gd (Nat.blt (wz w5) (z0 + 28) && Nat.ble (wq w5 + 1461) (q0 + 32912)) <|
  let p7 : Nat := wz w5
  let w8 : AW := wnew w5 100 1461 1461
  gd (wk w8 a0 == 13) <|
  let w10 : AW := upR w8 a0 42 p7
  F_M_init_194 z0 q0 a0 w10
theorem P_M_init_177 {X : AX} {l : Launch} {G : AG} {z0 q0 : Nat} (hX : XOK X b_M_init "RedSkyModel" 2) (hM : XM X l G { frames := 1, cells := 28, slots := 32912, locals := 24 }) {o : AW} (hR : XR X none 28 32912 none o) (hI : XI X) (k n : Nat) (a0 : Nat) (w : AW) (h : F_M_init_177 z0 q0 a0 w = some o) (hzz : z0 + k = wz w) (hqq : q0 + n = wq w) : RJ X 2 k n 177 [(0, vr a0)] [] w := by
  unfold F_M_init_177 at h
  refine r_aload_n (i := 0) hX d_M_init_177 0 rfl rfl ?_
  refine r_bipush (v := (81 : Int32)) hX d_M_init_178 rfl ?_
  obtain ⟨hg1, h⟩ := gd_e h
  refine r_newarr (kd := 104) (N := 81) hX hM (by decide) aw_boolean (fun G => rfl) (by intro D9 h9; cases h9) rfl (by decide) (by decide) (by decide) (al_1 hzz hg1) (al_2 hqq hg1) d_M_init_180 ?_
  obtain ⟨hk4, h⟩ := gd_e h
  refine r_putRF (i := 12) (f := 39) hX ci_12 (by decide) rfl rfl hI rfl (fun G => nw_r _ _) (fun G => ft_r _ _) fl_M_73 hk4 d_M_init_182 ?_
  refine r_aload_n (i := 0) hX d_M_init_185 0 rfl rfl ?_
  refine r_sipush (v := (1461 : Int32)) hX d_M_init_186 rfl ?_
  obtain ⟨hg6, h⟩ := gd_e h
  refine r_newarr (kd := 100) (N := 1461) hX hM (by decide) aw_int (fun G => rfl) (by intro D9 h9; cases h9) rfl (by decide) (by decide) (by decide) (al_1 (zR (al_k 104 81 81 hzz)) hg6) (al_2 (qR (al_q 104 81 81 hqq)) hg6) d_M_init_189 ?_
  obtain ⟨hk9, h⟩ := gd_e h
  refine r_putRF (i := 12) (f := 42) hX ci_12 (by decide) rfl rfl hI rfl (fun G => nw_r _ _) (fun G => ft_r _ _) fl_M_77 hk9 d_M_init_191 ?_
  exact rj_sub [0] rfl (P_M_init_194 hX hM hR hI _ _ _ _ h  (zR (al_k 100 1461 1461 (zR (al_k 104 81 81 hzz)))) (qR (al_q 100 1461 1461 (qR (al_q 104 81 81 hqq)))))
def F_M_init_153 (z0 q0 : Nat) (a0 : Nat) (w : AW) : Option (AW) :=
  gd (Nat.blt (wz w) (z0 + 28) && Nat.ble (wq w + 81) (q0 + 32912)) <|
  let p2 : Nat := wz w
  let w3 : AW := wnew w 100 81 81
  gd (wk w3 a0 == 13) <|
  let w5 : AW := upR w3 a0 36 p2
  gd (Nat.blt (wz w5) (z0 + 28) && Nat.ble (wq w5 + 81) (q0 + 32912)) <|
  let p7 : Nat := wz w5
  let w8 : AW := wnew w5 100 81 81
  gd (wk w8 a0 == 13) <|
  let w10 : AW := upR w8 a0 37 p7
  gd (Nat.blt (wz w10) (z0 + 28) && Nat.ble (wq w10 + 81) (q0 + 32912)) <|
  let p12 : Nat := wz w10
  let w13 : AW := wnew w10 100 81 81
  gd (wk w13 a0 == 13) <|
  let w15 : AW := upR w13 a0 38 p12
  F_M_init_177 z0 q0 a0 w15
theorem P_M_init_153 {X : AX} {l : Launch} {G : AG} {z0 q0 : Nat} (hX : XOK X b_M_init "RedSkyModel" 2) (hM : XM X l G { frames := 1, cells := 28, slots := 32912, locals := 24 }) {o : AW} (hR : XR X none 28 32912 none o) (hI : XI X) (k n : Nat) (a0 : Nat) (w : AW) (h : F_M_init_153 z0 q0 a0 w = some o) (hzz : z0 + k = wz w) (hqq : q0 + n = wq w) : RJ X 2 k n 153 [(0, vr a0)] [] w := by
  unfold F_M_init_153 at h
  refine r_aload_n (i := 0) hX d_M_init_153 0 rfl rfl ?_
  refine r_bipush (v := (81 : Int32)) hX d_M_init_154 rfl ?_
  obtain ⟨hg1, h⟩ := gd_e h
  refine r_newarr (kd := 100) (N := 81) hX hM (by decide) aw_int (fun G => rfl) (by intro D9 h9; cases h9) rfl (by decide) (by decide) (by decide) (al_1 hzz hg1) (al_2 hqq hg1) d_M_init_156 ?_
  obtain ⟨hk4, h⟩ := gd_e h
  refine r_putRF (i := 12) (f := 36) hX ci_12 (by decide) rfl rfl hI rfl (fun G => nw_r _ _) (fun G => ft_r _ _) fl_M_64 hk4 d_M_init_158 ?_
  refine r_aload_n (i := 0) hX d_M_init_161 0 rfl rfl ?_
  refine r_bipush (v := (81 : Int32)) hX d_M_init_162 rfl ?_
  obtain ⟨hg6, h⟩ := gd_e h
  refine r_newarr (kd := 100) (N := 81) hX hM (by decide) aw_int (fun G => rfl) (by intro D9 h9; cases h9) rfl (by decide) (by decide) (by decide) (al_1 (zR (al_k 100 81 81 hzz)) hg6) (al_2 (qR (al_q 100 81 81 hqq)) hg6) d_M_init_164 ?_
  obtain ⟨hk9, h⟩ := gd_e h
  refine r_putRF (i := 12) (f := 37) hX ci_12 (by decide) rfl rfl hI rfl (fun G => nw_r _ _) (fun G => ft_r _ _) fl_M_67 hk9 d_M_init_166 ?_
  refine r_aload_n (i := 0) hX d_M_init_169 0 rfl rfl ?_
  refine r_bipush (v := (81 : Int32)) hX d_M_init_170 rfl ?_
  obtain ⟨hg11, h⟩ := gd_e h
  refine r_newarr (kd := 100) (N := 81) hX hM (by decide) aw_int (fun G => rfl) (by intro D9 h9; cases h9) rfl (by decide) (by decide) (by decide) (al_1 (zR (al_k 100 81 81 (zR (al_k 100 81 81 hzz)))) hg11) (al_2 (qR (al_q 100 81 81 (qR (al_q 100 81 81 hqq)))) hg11) d_M_init_172 ?_
  obtain ⟨hk14, h⟩ := gd_e h
  refine r_putRF (i := 12) (f := 38) hX ci_12 (by decide) rfl rfl hI rfl (fun G => nw_r _ _) (fun G => ft_r _ _) fl_M_70 hk14 d_M_init_174 ?_
  exact rj_sub [0] rfl (P_M_init_177 hX hM hR hI _ _ _ _ h  (zR (al_k 100 81 81 (zR (al_k 100 81 81 (zR (al_k 100 81 81 hzz)))))) (qR (al_q 100 81 81 (qR (al_q 100 81 81 (qR (al_q 100 81 81 hqq)))))))
def F_M_init_129 (z0 q0 : Nat) (a0 : Nat) (w : AW) : Option (AW) :=
  gd (Nat.blt (wz w) (z0 + 28) && Nat.ble (wq w + 16) (q0 + 32912)) <|
  let p2 : Nat := wz w
  let w3 : AW := wnew w 100 16 16
  gd (wk w3 a0 == 13) <|
  let w5 : AW := upR w3 a0 33 p2
  gd (Nat.blt (wz w5) (z0 + 28) && Nat.ble (wq w5 + 81) (q0 + 32912)) <|
  let p7 : Nat := wz w5
  let w8 : AW := wnew w5 100 81 81
  gd (wk w8 a0 == 13) <|
  let w10 : AW := upR w8 a0 34 p7
  gd (Nat.blt (wz w10) (z0 + 28) && Nat.ble (wq w10 + 81) (q0 + 32912)) <|
  let p12 : Nat := wz w10
  let w13 : AW := wnew w10 100 81 81
  gd (wk w13 a0 == 13) <|
  let w15 : AW := upR w13 a0 35 p12
  F_M_init_153 z0 q0 a0 w15
theorem P_M_init_129 {X : AX} {l : Launch} {G : AG} {z0 q0 : Nat} (hX : XOK X b_M_init "RedSkyModel" 2) (hM : XM X l G { frames := 1, cells := 28, slots := 32912, locals := 24 }) {o : AW} (hR : XR X none 28 32912 none o) (hI : XI X) (k n : Nat) (a0 : Nat) (w : AW) (h : F_M_init_129 z0 q0 a0 w = some o) (hzz : z0 + k = wz w) (hqq : q0 + n = wq w) : RJ X 2 k n 129 [(0, vr a0)] [] w := by
  unfold F_M_init_129 at h
  refine r_aload_n (i := 0) hX d_M_init_129 0 rfl rfl ?_
  refine r_bipush (v := (16 : Int32)) hX d_M_init_130 rfl ?_
  obtain ⟨hg1, h⟩ := gd_e h
  refine r_newarr (kd := 100) (N := 16) hX hM (by decide) aw_int (fun G => rfl) (by intro D9 h9; cases h9) rfl (by decide) (by decide) (by decide) (al_1 hzz hg1) (al_2 hqq hg1) d_M_init_132 ?_
  obtain ⟨hk4, h⟩ := gd_e h
  refine r_putRF (i := 12) (f := 33) hX ci_12 (by decide) rfl rfl hI rfl (fun G => nw_r _ _) (fun G => ft_r _ _) fl_M_55 hk4 d_M_init_134 ?_
  refine r_aload_n (i := 0) hX d_M_init_137 0 rfl rfl ?_
  refine r_bipush (v := (81 : Int32)) hX d_M_init_138 rfl ?_
  obtain ⟨hg6, h⟩ := gd_e h
  refine r_newarr (kd := 100) (N := 81) hX hM (by decide) aw_int (fun G => rfl) (by intro D9 h9; cases h9) rfl (by decide) (by decide) (by decide) (al_1 (zR (al_k 100 16 16 hzz)) hg6) (al_2 (qR (al_q 100 16 16 hqq)) hg6) d_M_init_140 ?_
  obtain ⟨hk9, h⟩ := gd_e h
  refine r_putRF (i := 12) (f := 34) hX ci_12 (by decide) rfl rfl hI rfl (fun G => nw_r _ _) (fun G => ft_r _ _) fl_M_58 hk9 d_M_init_142 ?_
  refine r_aload_n (i := 0) hX d_M_init_145 0 rfl rfl ?_
  refine r_bipush (v := (81 : Int32)) hX d_M_init_146 rfl ?_
  obtain ⟨hg11, h⟩ := gd_e h
  refine r_newarr (kd := 100) (N := 81) hX hM (by decide) aw_int (fun G => rfl) (by intro D9 h9; cases h9) rfl (by decide) (by decide) (by decide) (al_1 (zR (al_k 100 81 81 (zR (al_k 100 16 16 hzz)))) hg11) (al_2 (qR (al_q 100 81 81 (qR (al_q 100 16 16 hqq)))) hg11) d_M_init_148 ?_
  obtain ⟨hk14, h⟩ := gd_e h
  refine r_putRF (i := 12) (f := 35) hX ci_12 (by decide) rfl rfl hI rfl (fun G => nw_r _ _) (fun G => ft_r _ _) fl_M_61 hk14 d_M_init_150 ?_
  exact rj_sub [0] rfl (P_M_init_153 hX hM hR hI _ _ _ _ h  (zR (al_k 100 81 81 (zR (al_k 100 81 81 (zR (al_k 100 16 16 hzz)))))) (qR (al_q 100 81 81 (qR (al_q 100 81 81 (qR (al_q 100 16 16 hqq)))))))
def F_M_init_120 (z0 q0 : Nat) (a0 : Nat) (w : AW) : Option (AW) :=
  gd (Nat.blt (wz w) (z0 + 28) && Nat.ble (wq w + 1280) (q0 + 32912)) <|
  let p2 : Nat := wz w
  let w3 : AW := wnew w 100 1280 1280
  gd (wk w3 a0 == 13) <|
  let w5 : AW := upR w3 a0 32 p2
  F_M_init_129 z0 q0 a0 w5
theorem P_M_init_120 {X : AX} {l : Launch} {G : AG} {z0 q0 : Nat} (hX : XOK X b_M_init "RedSkyModel" 2) (hM : XM X l G { frames := 1, cells := 28, slots := 32912, locals := 24 }) {o : AW} (hR : XR X none 28 32912 none o) (hI : XI X) (k n : Nat) (a0 : Nat) (w : AW) (h : F_M_init_120 z0 q0 a0 w = some o) (hzz : z0 + k = wz w) (hqq : q0 + n = wq w) : RJ X 2 k n 120 [(0, vr a0)] [] w := by
  unfold F_M_init_120 at h
  refine r_aload_n (i := 0) hX d_M_init_120 0 rfl rfl ?_
  refine r_sipush (v := (1280 : Int32)) hX d_M_init_121 rfl ?_
  obtain ⟨hg1, h⟩ := gd_e h
  refine r_newarr (kd := 100) (N := 1280) hX hM (by decide) aw_int (fun G => rfl) (by intro D9 h9; cases h9) rfl (by decide) (by decide) (by decide) (al_1 hzz hg1) (al_2 hqq hg1) d_M_init_124 ?_
  obtain ⟨hk4, h⟩ := gd_e h
  refine r_putRF (i := 12) (f := 32) hX ci_12 (by decide) rfl rfl hI rfl (fun G => nw_r _ _) (fun G => ft_r _ _) fl_M_52 hk4 d_M_init_126 ?_
  exact rj_sub [0] rfl (P_M_init_129 hX hM hR hI _ _ _ _ h  (zR (al_k 100 1280 1280 hzz)) (qR (al_q 100 1280 1280 hqq)))
def F_M_init_111 (z0 q0 : Nat) (a0 : Nat) (w : AW) : Option (AW) :=
  gd (Nat.blt (wz w) (z0 + 28) && Nat.ble (wq w + 1280) (q0 + 32912)) <|
  let p2 : Nat := wz w
  let w3 : AW := wnew w 100 1280 1280
  gd (wk w3 a0 == 13) <|
  let w5 : AW := upR w3 a0 31 p2
  F_M_init_120 z0 q0 a0 w5
theorem P_M_init_111 {X : AX} {l : Launch} {G : AG} {z0 q0 : Nat} (hX : XOK X b_M_init "RedSkyModel" 2) (hM : XM X l G { frames := 1, cells := 28, slots := 32912, locals := 24 }) {o : AW} (hR : XR X none 28 32912 none o) (hI : XI X) (k n : Nat) (a0 : Nat) (w : AW) (h : F_M_init_111 z0 q0 a0 w = some o) (hzz : z0 + k = wz w) (hqq : q0 + n = wq w) : RJ X 2 k n 111 [(0, vr a0)] [] w := by
  unfold F_M_init_111 at h
  refine r_aload_n (i := 0) hX d_M_init_111 0 rfl rfl ?_
  refine r_sipush (v := (1280 : Int32)) hX d_M_init_112 rfl ?_
  obtain ⟨hg1, h⟩ := gd_e h
  refine r_newarr (kd := 100) (N := 1280) hX hM (by decide) aw_int (fun G => rfl) (by intro D9 h9; cases h9) rfl (by decide) (by decide) (by decide) (al_1 hzz hg1) (al_2 hqq hg1) d_M_init_115 ?_
  obtain ⟨hk4, h⟩ := gd_e h
  refine r_putRF (i := 12) (f := 31) hX ci_12 (by decide) rfl rfl hI rfl (fun G => nw_r _ _) (fun G => ft_r _ _) fl_M_49 hk4 d_M_init_117 ?_
  exact rj_sub [0] rfl (P_M_init_120 hX hM hR hI _ _ _ _ h  (zR (al_k 100 1280 1280 hzz)) (qR (al_q 100 1280 1280 hqq)))
def F_M_init_88 (z0 q0 : Nat) (a0 : Nat) (w : AW) : Option (AW) :=
  gd (Nat.blt (wz w) (z0 + 28) && Nat.ble (wq w + 2) (q0 + 32912)) <|
  let p2 : Nat := wz w
  let w3 : AW := wnew w 100 2 2
  gd (wk w3 a0 == 13) <|
  let w5 : AW := upR w3 a0 26 p2
  gd (Nat.blt (wz w5) (z0 + 28) && Nat.ble (wq w5 + 80) (q0 + 32912)) <|
  let p7 : Nat := wz w5
  let w8 : AW := wnew w5 100 80 80
  gd (wk w8 a0 == 13) <|
  let w10 : AW := upR w8 a0 27 p7
  gd (Nat.blt (wz w10) (z0 + 28) && Nat.ble (wq w10 + 96) (q0 + 32912)) <|
  let p12 : Nat := wz w10
  let w13 : AW := wnew w10 100 96 96
  gd (wk w13 a0 == 13) <|
  let w15 : AW := upR w13 a0 30 p12
  F_M_init_111 z0 q0 a0 w15
theorem P_M_init_88 {X : AX} {l : Launch} {G : AG} {z0 q0 : Nat} (hX : XOK X b_M_init "RedSkyModel" 2) (hM : XM X l G { frames := 1, cells := 28, slots := 32912, locals := 24 }) {o : AW} (hR : XR X none 28 32912 none o) (hI : XI X) (k n : Nat) (a0 : Nat) (w : AW) (h : F_M_init_88 z0 q0 a0 w = some o) (hzz : z0 + k = wz w) (hqq : q0 + n = wq w) : RJ X 2 k n 88 [(0, vr a0)] [] w := by
  unfold F_M_init_88 at h
  refine r_aload_n (i := 0) hX d_M_init_88 0 rfl rfl ?_
  refine r_iconst (v := (2 : Int32)) hX d_M_init_89 rfl ?_
  obtain ⟨hg1, h⟩ := gd_e h
  refine r_newarr (kd := 100) (N := 2) hX hM (by decide) aw_int (fun G => rfl) (by intro D9 h9; cases h9) rfl (by decide) (by decide) (by decide) (al_1 hzz hg1) (al_2 hqq hg1) d_M_init_90 ?_
  obtain ⟨hk4, h⟩ := gd_e h
  refine r_putRF (i := 12) (f := 26) hX ci_12 (by decide) rfl rfl hI rfl (fun G => nw_r _ _) (fun G => ft_r _ _) fl_M_40 hk4 d_M_init_92 ?_
  refine r_aload_n (i := 0) hX d_M_init_95 0 rfl rfl ?_
  refine r_bipush (v := (80 : Int32)) hX d_M_init_96 rfl ?_
  obtain ⟨hg6, h⟩ := gd_e h
  refine r_newarr (kd := 100) (N := 80) hX hM (by decide) aw_int (fun G => rfl) (by intro D9 h9; cases h9) rfl (by decide) (by decide) (by decide) (al_1 (zR (al_k 100 2 2 hzz)) hg6) (al_2 (qR (al_q 100 2 2 hqq)) hg6) d_M_init_98 ?_
  obtain ⟨hk9, h⟩ := gd_e h
  refine r_putRF (i := 12) (f := 27) hX ci_12 (by decide) rfl rfl hI rfl (fun G => nw_r _ _) (fun G => ft_r _ _) fl_M_43 hk9 d_M_init_100 ?_
  refine r_aload_n (i := 0) hX d_M_init_103 0 rfl rfl ?_
  refine r_bipush (v := (96 : Int32)) hX d_M_init_104 rfl ?_
  obtain ⟨hg11, h⟩ := gd_e h
  refine r_newarr (kd := 100) (N := 96) hX hM (by decide) aw_int (fun G => rfl) (by intro D9 h9; cases h9) rfl (by decide) (by decide) (by decide) (al_1 (zR (al_k 100 80 80 (zR (al_k 100 2 2 hzz)))) hg11) (al_2 (qR (al_q 100 80 80 (qR (al_q 100 2 2 hqq)))) hg11) d_M_init_106 ?_
  obtain ⟨hk14, h⟩ := gd_e h
  refine r_putRF (i := 12) (f := 30) hX ci_12 (by decide) rfl rfl hI rfl (fun G => nw_r _ _) (fun G => ft_r _ _) fl_M_46 hk14 d_M_init_108 ?_
  exact rj_sub [0] rfl (P_M_init_111 hX hM hR hI _ _ _ _ h  (zR (al_k 100 96 96 (zR (al_k 100 80 80 (zR (al_k 100 2 2 hzz)))))) (qR (al_q 100 96 96 (qR (al_q 100 80 80 (qR (al_q 100 2 2 hqq)))))))
def F_M_init_62 (z0 q0 : Nat) (a0 : Nat) (w : AW) : Option (AW) :=
  gd (Nat.blt (wz w) (z0 + 28) && Nat.ble (wq w + 80) (q0 + 32912)) <|
  let p2 : Nat := wz w
  let w3 : AW := wnew w 100 80 80
  gd (wk w3 a0 == 13) <|
  let w5 : AW := upR w3 a0 8 p2
  gd (Nat.blt (wz w5) (z0 + 28) && Nat.ble (wq w5 + 160) (q0 + 32912)) <|
  let p7 : Nat := wz w5
  let w8 : AW := wnew w5 100 160 160
  gd (wk w8 a0 == 13) <|
  let w10 : AW := upR w8 a0 24 p7
  gd (Nat.blt (wz w10) (z0 + 28) && Nat.ble (wq w10 + 160) (q0 + 32912)) <|
  let p12 : Nat := wz w10
  let w13 : AW := wnew w10 100 160 160
  gd (wk w13 a0 == 13) <|
  let w15 : AW := upR w13 a0 25 p12
  F_M_init_88 z0 q0 a0 w15
theorem P_M_init_62 {X : AX} {l : Launch} {G : AG} {z0 q0 : Nat} (hX : XOK X b_M_init "RedSkyModel" 2) (hM : XM X l G { frames := 1, cells := 28, slots := 32912, locals := 24 }) {o : AW} (hR : XR X none 28 32912 none o) (hI : XI X) (k n : Nat) (a0 : Nat) (w : AW) (h : F_M_init_62 z0 q0 a0 w = some o) (hzz : z0 + k = wz w) (hqq : q0 + n = wq w) : RJ X 2 k n 62 [(0, vr a0)] [] w := by
  unfold F_M_init_62 at h
  refine r_aload_n (i := 0) hX d_M_init_62 0 rfl rfl ?_
  refine r_bipush (v := (80 : Int32)) hX d_M_init_63 rfl ?_
  obtain ⟨hg1, h⟩ := gd_e h
  refine r_newarr (kd := 100) (N := 80) hX hM (by decide) aw_int (fun G => rfl) (by intro D9 h9; cases h9) rfl (by decide) (by decide) (by decide) (al_1 hzz hg1) (al_2 hqq hg1) d_M_init_65 ?_
  obtain ⟨hk4, h⟩ := gd_e h
  refine r_putRF (i := 12) (f := 8) hX ci_12 (by decide) rfl rfl hI rfl (fun G => nw_r _ _) (fun G => ft_r _ _) fl_M_31 hk4 d_M_init_67 ?_
  refine r_aload_n (i := 0) hX d_M_init_70 0 rfl rfl ?_
  refine r_sipush (v := (160 : Int32)) hX d_M_init_71 rfl ?_
  obtain ⟨hg6, h⟩ := gd_e h
  refine r_newarr (kd := 100) (N := 160) hX hM (by decide) aw_int (fun G => rfl) (by intro D9 h9; cases h9) rfl (by decide) (by decide) (by decide) (al_1 (zR (al_k 100 80 80 hzz)) hg6) (al_2 (qR (al_q 100 80 80 hqq)) hg6) d_M_init_74 ?_
  obtain ⟨hk9, h⟩ := gd_e h
  refine r_putRF (i := 12) (f := 24) hX ci_12 (by decide) rfl rfl hI rfl (fun G => nw_r _ _) (fun G => ft_r _ _) fl_M_34 hk9 d_M_init_76 ?_
  refine r_aload_n (i := 0) hX d_M_init_79 0 rfl rfl ?_
  refine r_sipush (v := (160 : Int32)) hX d_M_init_80 rfl ?_
  obtain ⟨hg11, h⟩ := gd_e h
  refine r_newarr (kd := 100) (N := 160) hX hM (by decide) aw_int (fun G => rfl) (by intro D9 h9; cases h9) rfl (by decide) (by decide) (by decide) (al_1 (zR (al_k 100 160 160 (zR (al_k 100 80 80 hzz)))) hg11) (al_2 (qR (al_q 100 160 160 (qR (al_q 100 80 80 hqq)))) hg11) d_M_init_83 ?_
  obtain ⟨hk14, h⟩ := gd_e h
  refine r_putRF (i := 12) (f := 25) hX ci_12 (by decide) rfl rfl hI rfl (fun G => nw_r _ _) (fun G => ft_r _ _) fl_M_37 hk14 d_M_init_85 ?_
  exact rj_sub [0] rfl (P_M_init_88 hX hM hR hI _ _ _ _ h  (zR (al_k 100 160 160 (zR (al_k 100 160 160 (zR (al_k 100 80 80 hzz)))))) (qR (al_q 100 160 160 (qR (al_q 100 160 160 (qR (al_q 100 80 80 hqq)))))))
def F_M_init_45 (z0 q0 : Nat) (a0 : Nat) (w : AW) : Option (AW) :=
  gd (Nat.blt (wz w) (z0 + 28) && Nat.ble (wq w + 6) (q0 + 32912)) <|
  let p2 : Nat := wz w
  let w3 : AW := wnew w 100 6 6
  gd (wk w3 a0 == 13) <|
  let w5 : AW := upR w3 a0 6 p2
  gd (Nat.blt (wz w5) (z0 + 28) && Nat.ble (wq w5 + 8766) (q0 + 32912)) <|
  let p7 : Nat := wz w5
  let w8 : AW := wnew w5 100 8766 8766
  gd (wk w8 a0 == 13) <|
  let w10 : AW := upR w8 a0 7 p7
  F_M_init_62 z0 q0 a0 w10
theorem P_M_init_45 {X : AX} {l : Launch} {G : AG} {z0 q0 : Nat} (hX : XOK X b_M_init "RedSkyModel" 2) (hM : XM X l G { frames := 1, cells := 28, slots := 32912, locals := 24 }) {o : AW} (hR : XR X none 28 32912 none o) (hI : XI X) (k n : Nat) (a0 : Nat) (w : AW) (h : F_M_init_45 z0 q0 a0 w = some o) (hzz : z0 + k = wz w) (hqq : q0 + n = wq w) : RJ X 2 k n 45 [(0, vr a0)] [] w := by
  unfold F_M_init_45 at h
  refine r_aload_n (i := 0) hX d_M_init_45 0 rfl rfl ?_
  refine r_bipush (v := (6 : Int32)) hX d_M_init_46 rfl ?_
  obtain ⟨hg1, h⟩ := gd_e h
  refine r_newarr (kd := 100) (N := 6) hX hM (by decide) aw_int (fun G => rfl) (by intro D9 h9; cases h9) rfl (by decide) (by decide) (by decide) (al_1 hzz hg1) (al_2 hqq hg1) d_M_init_48 ?_
  obtain ⟨hk4, h⟩ := gd_e h
  refine r_putRF (i := 12) (f := 6) hX ci_12 (by decide) rfl rfl hI rfl (fun G => nw_r _ _) (fun G => ft_r _ _) fl_M_25 hk4 d_M_init_50 ?_
  refine r_aload_n (i := 0) hX d_M_init_53 0 rfl rfl ?_
  refine r_sipush (v := (8766 : Int32)) hX d_M_init_54 rfl ?_
  obtain ⟨hg6, h⟩ := gd_e h
  refine r_newarr (kd := 100) (N := 8766) hX hM (by decide) aw_int (fun G => rfl) (by intro D9 h9; cases h9) rfl (by decide) (by decide) (by decide) (al_1 (zR (al_k 100 6 6 hzz)) hg6) (al_2 (qR (al_q 100 6 6 hqq)) hg6) d_M_init_57 ?_
  obtain ⟨hk9, h⟩ := gd_e h
  refine r_putRF (i := 12) (f := 7) hX ci_12 (by decide) rfl rfl hI rfl (fun G => nw_r _ _) (fun G => ft_r _ _) fl_M_28 hk9 d_M_init_59 ?_
  exact rj_sub [0] rfl (P_M_init_62 hX hM hR hI _ _ _ _ h  (zR (al_k 100 8766 8766 (zR (al_k 100 6 6 hzz)))) (qR (al_q 100 8766 8766 (qR (al_q 100 6 6 hqq)))))
def F_M_init_28 (z0 q0 : Nat) (a0 : Nat) (w : AW) : Option (AW) :=
  gd (Nat.blt (wz w) (z0 + 28) && Nat.ble (wq w + 8) (q0 + 32912)) <|
  let p2 : Nat := wz w
  let w3 : AW := wnew w 100 8 8
  gd (wk w3 a0 == 13) <|
  let w5 : AW := upR w3 a0 4 p2
  gd (Nat.blt (wz w5) (z0 + 28) && Nat.ble (wq w5 + 17532) (q0 + 32912)) <|
  let p7 : Nat := wz w5
  let w8 : AW := wnew w5 100 17532 17532
  gd (wk w8 a0 == 13) <|
  let w10 : AW := upR w8 a0 5 p7
  F_M_init_45 z0 q0 a0 w10
theorem P_M_init_28 {X : AX} {l : Launch} {G : AG} {z0 q0 : Nat} (hX : XOK X b_M_init "RedSkyModel" 2) (hM : XM X l G { frames := 1, cells := 28, slots := 32912, locals := 24 }) {o : AW} (hR : XR X none 28 32912 none o) (hI : XI X) (k n : Nat) (a0 : Nat) (w : AW) (h : F_M_init_28 z0 q0 a0 w = some o) (hzz : z0 + k = wz w) (hqq : q0 + n = wq w) : RJ X 2 k n 28 [(0, vr a0)] [] w := by
  unfold F_M_init_28 at h
  refine r_aload_n (i := 0) hX d_M_init_28 0 rfl rfl ?_
  refine r_bipush (v := (8 : Int32)) hX d_M_init_29 rfl ?_
  obtain ⟨hg1, h⟩ := gd_e h
  refine r_newarr (kd := 100) (N := 8) hX hM (by decide) aw_int (fun G => rfl) (by intro D9 h9; cases h9) rfl (by decide) (by decide) (by decide) (al_1 hzz hg1) (al_2 hqq hg1) d_M_init_31 ?_
  obtain ⟨hk4, h⟩ := gd_e h
  refine r_putRF (i := 12) (f := 4) hX ci_12 (by decide) rfl rfl hI rfl (fun G => nw_r _ _) (fun G => ft_r _ _) fl_M_19 hk4 d_M_init_33 ?_
  refine r_aload_n (i := 0) hX d_M_init_36 0 rfl rfl ?_
  refine r_sipush (v := (17532 : Int32)) hX d_M_init_37 rfl ?_
  obtain ⟨hg6, h⟩ := gd_e h
  refine r_newarr (kd := 100) (N := 17532) hX hM (by decide) aw_int (fun G => rfl) (by intro D9 h9; cases h9) rfl (by decide) (by decide) (by decide) (al_1 (zR (al_k 100 8 8 hzz)) hg6) (al_2 (qR (al_q 100 8 8 hqq)) hg6) d_M_init_40 ?_
  obtain ⟨hk9, h⟩ := gd_e h
  refine r_putRF (i := 12) (f := 5) hX ci_12 (by decide) rfl rfl hI rfl (fun G => nw_r _ _) (fun G => ft_r _ _) fl_M_22 hk9 d_M_init_42 ?_
  exact rj_sub [0] rfl (P_M_init_45 hX hM hR hI _ _ _ _ h  (zR (al_k 100 17532 17532 (zR (al_k 100 8 8 hzz)))) (qR (al_q 100 17532 17532 (qR (al_q 100 8 8 hqq)))))
def F_M_init (a0 : Nat) (w : AW) : Option (AW) :=
  gd (wk w a0 == 13) <|
  gd (Nat.blt (wz w) ((wz w) + 28) && Nat.ble (wq w + 8) ((wq w) + 32912)) <|
  let p3 : Nat := wz w
  let w4 : AW := wnew w 100 8 8
  gd (wk w4 a0 == 13) <|
  let w6 : AW := upR w4 a0 1 p3
  gd (Nat.blt (wz w6) ((wz w) + 28) && Nat.ble (wq w6 + 8) ((wq w) + 32912)) <|
  let p8 : Nat := wz w6
  let w9 : AW := wnew w6 100 8 8
  gd (wk w9 a0 == 13) <|
  let w11 : AW := upR w9 a0 2 p8
  gd (Nat.blt (wz w11) ((wz w) + 28) && Nat.ble (wq w11 + 8) ((wq w) + 32912)) <|
  let p13 : Nat := wz w11
  let w14 : AW := wnew w11 100 8 8
  gd (wk w14 a0 == 13) <|
  let w16 : AW := upR w14 a0 3 p13
  F_M_init_28 (wz w) (wq w) a0 w16
theorem P_M_init_0 {X : AX} {l : Launch} {G : AG} (hX : XOK X b_M_init "RedSkyModel" 2) (hM : XM X l G { frames := 1, cells := 28, slots := 32912, locals := 24 }) {o : AW} (hR : XR X none 28 32912 none o) (hI : XI X) (k n : Nat) (a0 : Nat) (w : AW) (h : F_M_init a0 w = some o) (hzz : wz w + k = wz w) (hqq : wq w + n = wq w) : RJ X 2 k n 0 [(0, vr a0)] [] w := by
  unfold F_M_init at h
  refine r_aload_n (i := 0) hX d_M_init_0 0 rfl rfl ?_
  obtain ⟨hk1, h⟩ := gd_e h
  refine r_objInit hX hM ow_M (kn_ne hk1) (by decide) (by decide) d_M_init_1 ?_
  refine r_aload_n (i := 0) hX d_M_init_4 0 rfl rfl ?_
  refine r_bipush (v := (8 : Int32)) hX d_M_init_5 rfl ?_
  obtain ⟨hg2, h⟩ := gd_e h
  refine r_newarr (kd := 100) (N := 8) hX hM (by decide) aw_int (fun G => rfl) (by intro D9 h9; cases h9) rfl (by decide) (by decide) (by decide) (al_1 hzz hg2) (al_2 hqq hg2) d_M_init_7 ?_
  obtain ⟨hk5, h⟩ := gd_e h
  refine r_putRF (i := 12) (f := 1) hX ci_12 (by decide) rfl rfl hI rfl (fun G => nw_r _ _) (fun G => ft_r _ _) fl_M_7 hk5 d_M_init_9 ?_
  refine r_aload_n (i := 0) hX d_M_init_12 0 rfl rfl ?_
  refine r_bipush (v := (8 : Int32)) hX d_M_init_13 rfl ?_
  obtain ⟨hg7, h⟩ := gd_e h
  refine r_newarr (kd := 100) (N := 8) hX hM (by decide) aw_int (fun G => rfl) (by intro D9 h9; cases h9) rfl (by decide) (by decide) (by decide) (al_1 (zR (al_k 100 8 8 hzz)) hg7) (al_2 (qR (al_q 100 8 8 hqq)) hg7) d_M_init_15 ?_
  obtain ⟨hk10, h⟩ := gd_e h
  refine r_putRF (i := 12) (f := 2) hX ci_12 (by decide) rfl rfl hI rfl (fun G => nw_r _ _) (fun G => ft_r _ _) fl_M_13 hk10 d_M_init_17 ?_
  refine r_aload_n (i := 0) hX d_M_init_20 0 rfl rfl ?_
  refine r_bipush (v := (8 : Int32)) hX d_M_init_21 rfl ?_
  obtain ⟨hg12, h⟩ := gd_e h
  refine r_newarr (kd := 100) (N := 8) hX hM (by decide) aw_int (fun G => rfl) (by intro D9 h9; cases h9) rfl (by decide) (by decide) (by decide) (al_1 (zR (al_k 100 8 8 (zR (al_k 100 8 8 hzz)))) hg12) (al_2 (qR (al_q 100 8 8 (qR (al_q 100 8 8 hqq)))) hg12) d_M_init_23 ?_
  obtain ⟨hk15, h⟩ := gd_e h
  refine r_putRF (i := 12) (f := 3) hX ci_12 (by decide) rfl rfl hI rfl (fun G => nw_r _ _) (fun G => ft_r _ _) fl_M_16 hk15 d_M_init_25 ?_
  exact rj_sub [0] rfl (P_M_init_28 hX hM hR hI _ _ _ _ h  (zR (al_k 100 8 8 (zR (al_k 100 8 8 (zR (al_k 100 8 8 hzz)))))) (qR (al_q 100 8 8 (qR (al_q 100 8 8 (qR (al_q 100 8 8 hqq)))))))
theorem T_M_init {l : Launch} {G : AG} (a0 : Nat) (w : AW) {o : AW} (h : F_M_init a0 w = some o) : Mt l G y_M_init b_M_init 2 none 1 24 28 32912 [vr a0] w none o := mt_of (by decide) (Nat.le_of_ble_eq_true rfl) (fun X hX hR hM hI => P_M_init_0 hX hM hR (hI rfl) 0 0 _ _ h rfl rfl)
/-! RedSky.within(III)Z -/
theorem d_A_within_0 : decode b_A_within 0 = .ok (.iload_n 0, 1) := by decide +kernel
theorem d_A_within_1 : decode b_A_within 1 = .ok (.iload_n 1, 1) := by decide +kernel
theorem d_A_within_2 : decode b_A_within 2 = .ok (.if_icmp .lt (12), 3) := by decide +kernel
theorem d_A_within_5 : decode b_A_within 5 = .ok (.iload_n 0, 1) := by decide +kernel
theorem d_A_within_6 : decode b_A_within 6 = .ok (.iload_n 2, 1) := by decide +kernel
theorem d_A_within_7 : decode b_A_within 7 = .ok (.if_icmp .gt (7), 3) := by decide +kernel
theorem d_A_within_10 : decode b_A_within 10 = .ok (.iconst 1, 1) := by decide +kernel
theorem d_A_within_11 : decode b_A_within 11 = .ok (.goto (4), 3) := by decide +kernel
theorem d_A_within_14 : decode b_A_within 14 = .ok (.iconst 0, 1) := by decide +kernel
theorem d_A_within_15 : decode b_A_within 15 = .ok (.ireturn, 1) := by decide +kernel
def Fo_A_within (w : AW) (x0 : Int32) (x1 : Int32) (x2 : Int32) : Option (Int32) :=
  if x0 < x1 then
    some (0 : Int32)
  else
    if x2 < x0 then
      some (0 : Int32)
    else
      some (1 : Int32)
theorem P_A_within_0 {X : AX} {l : Launch} {G : AG} {w : AW} (hX : XOK X b_A_within "RedSky" 3) (hM : XM X l G { frames := 0, cells := 0, slots := 0, locals := 0 }) {o : Int32} (hR : XR X (some .boolean) 0 0 (some (vi o)) w) (x0 : Int32) (x1 : Int32) (x2 : Int32) (h : Fo_A_within w x0 x1 x2 = some o) : RJ X 3 0 0 0 [(0, vi x0), (1, vi x1), (2, vi x2)] [] w := by
  unfold Fo_A_within at h
  refine r_iload_n (i := 0) hX d_A_within_0 0 rfl rfl ?_
  refine r_iload_n (i := 1) hX d_A_within_1 1 rfl rfl ?_
  refine r_icmp_lt hX d_A_within_2 rfl h (fun h => ?_) (fun h => ?_)
  · refine r_iconst (v := (0 : Int32)) hX d_A_within_14 rfl ?_
    cases h; exact r_zret hX hR rfl d_A_within_15
  · refine r_iload_n (i := 0) hX d_A_within_5 0 rfl rfl ?_
    refine r_iload_n (i := 2) hX d_A_within_6 2 rfl rfl ?_
    refine r_icmp_gt hX d_A_within_7 rfl h (fun h => ?_) (fun h => ?_)
    · refine r_iconst (v := (0 : Int32)) hX d_A_within_14 rfl ?_
      cases h; exact r_zret hX hR rfl d_A_within_15
    · refine r_iconst (v := (1 : Int32)) hX d_A_within_10 rfl ?_
      refine r_goto hX d_A_within_11 rfl ?_
      cases h; exact r_zret hX hR rfl d_A_within_15
def F_A_within (x0 : Int32) (x1 : Int32) (x2 : Int32) : Int32 :=
  if x0 < x1 then
    (0 : Int32)
  else
    if x2 < x0 then
      (0 : Int32)
    else
      (1 : Int32)
theorem E_A_within (w : AW) (x0 : Int32) (x1 : Int32) (x2 : Int32) : Fo_A_within w x0 x1 x2 = some (F_A_within x0 x1 x2) := by
  simp only [Fo_A_within, F_A_within, apply_ite (some : Int32 → Option Int32)]
theorem z_A_within (x0 : Int32) (x1 : Int32) (x2 : Int32) : (F_A_within x0 x1 x2 == 0 || F_A_within x0 x1 x2 == 1) = true := by
  unfold F_A_within; (repeat' split) <;> decide
theorem T_A_within {l : Launch} {G : AG} (x0 : Int32) (x1 : Int32) (x2 : Int32) (w : AW)  : Mt l G y_A_within b_A_within 3 (some (.boolean)) 0 0 0 0 [vi x0, vi x1, vi x2] w (some (vi (F_A_within x0 x1 x2))) w := mt_of (by decide) (Nat.le_of_ble_eq_true rfl) (fun X hX hR hM hI => P_A_within_0 hX hM hR _ _ _ (E_A_within _ _ _ _))
/-! RedSky$Diary.clear()V -/
theorem d_Di_clear_0 : decode b_Di_clear 0 = .ok (.aload_n 0, 1) := by decide +kernel
theorem d_Di_clear_1 : decode b_Di_clear 1 = .ok (.getfield 9, 3) := by decide +kernel
theorem d_Di_clear_4 : decode b_Di_clear 4 = .ok (.iconst 0, 1) := by decide +kernel
theorem d_Di_clear_5 : decode b_Di_clear 5 = .ok (.invokestatic 15, 3) := by decide +kernel
theorem d_Di_clear_8 : decode b_Di_clear 8 = .ok (.return_, 1) := by decide +kernel
def F_Di_clear (a0 : Nat) (w : AW) : Option (AW) :=
  gd (wk w a0 == 3) <|
  (F_Jarr_fill_aII (wr w a0 0) (0 : Int32) w).bind fun r2 =>
  some r2
theorem P_Di_clear_0 {X : AX} {l : Launch} {G : AG} (hX : XOK X b_Di_clear "RedSky$Diary" 1) (hM : XM X l G { frames := 1, cells := 0, slots := 0, locals := 23 }) {o : AW} (hR : XR X none 0 0 none o) (a0 : Nat) (w : AW) (h : F_Di_clear a0 w = some o) : RJ X 1 0 0 0 [(0, vr a0)] [] w := by
  unfold F_Di_clear at h
  refine r_aload_n (i := 0) hX d_Di_clear_0 0 rfl rfl ?_
  obtain ⟨hk1, h⟩ := gd_e h
  refine r_getR (i := 2) (f := 0) hX ci_2 (by decide) rfl fl_Di_9 hk1 d_Di_clear_1 ?_
  refine r_iconst (v := (0 : Int32)) hX d_Di_clear_4 rfl ?_
  obtain ⟨r2, hr3, h⟩ := bd_e h
  refine r_callS0 (As := [_, _]) hX hM mw_Di_15 (T_Jarr_fill_aII _ _ _ hr3) rfl rfl ⟨Nat.le_refl _, Nat.le_refl _⟩ rfl rfl d_Di_clear_5 ?_
  cases h; exact r_vret hX hR d_Di_clear_8
theorem T_Di_clear {l : Launch} {G : AG} (a0 : Nat) (w : AW) {o : AW} (h : F_Di_clear a0 w = some o) : Mt l G y_Di_clear b_Di_clear 1 none 1 23 0 0 [vr a0] w none o := mt_of (by decide) (Nat.le_of_ble_eq_true rfl) (fun X hX hR hM hI => P_Di_clear_0 hX hM hR _ _ h)
/-! java/util/Arrays.fill([JJ)V -/
theorem d_Jarr_fill_aJJ_0 : decode b_Jarr_fill_aJJ 0 = .ok (.iconst 0, 1) := by decide +kernel
theorem d_Jarr_fill_aJJ_1 : decode b_Jarr_fill_aJJ 1 = .ok (.istore_n 3, 1) := by decide +kernel
theorem d_Jarr_fill_aJJ_2 : decode b_Jarr_fill_aJJ 2 = .ok (.aload_n 0, 1) := by decide +kernel
theorem d_Jarr_fill_aJJ_3 : decode b_Jarr_fill_aJJ 3 = .ok (.arraylength, 1) := by decide +kernel
theorem d_Jarr_fill_aJJ_4 : decode b_Jarr_fill_aJJ 4 = .ok (.istore 4, 2) := by decide +kernel
theorem d_Jarr_fill_aJJ_6 : decode b_Jarr_fill_aJJ 6 = .ok (.iload_n 3, 1) := by decide +kernel
theorem d_Jarr_fill_aJJ_7 : decode b_Jarr_fill_aJJ 7 = .ok (.iload 4, 2) := by decide +kernel
theorem d_Jarr_fill_aJJ_9 : decode b_Jarr_fill_aJJ 9 = .ok (.if_icmp .ge (13), 3) := by decide +kernel
theorem d_Jarr_fill_aJJ_12 : decode b_Jarr_fill_aJJ 12 = .ok (.aload_n 0, 1) := by decide +kernel
theorem d_Jarr_fill_aJJ_13 : decode b_Jarr_fill_aJJ 13 = .ok (.iload_n 3, 1) := by decide +kernel
theorem d_Jarr_fill_aJJ_14 : decode b_Jarr_fill_aJJ 14 = .ok (.lload_n 1, 1) := by decide +kernel
theorem d_Jarr_fill_aJJ_15 : decode b_Jarr_fill_aJJ 15 = .ok (.lastore, 1) := by decide +kernel
theorem d_Jarr_fill_aJJ_16 : decode b_Jarr_fill_aJJ 16 = .ok (.iinc 3 (1), 3) := by decide +kernel
theorem d_Jarr_fill_aJJ_19 : decode b_Jarr_fill_aJJ 19 = .ok (.goto (-13), 3) := by decide +kernel
theorem d_Jarr_fill_aJJ_22 : decode b_Jarr_fill_aJJ 22 = .ok (.return_, 1) := by decide +kernel
def F_Jarr_fill_aJJ_6_B (rec6 : Nat → Int64 → Int32 → Int32 → AW → Option (AW)) (a0 : Nat) (x1 : Int64) (x3 : Int32) (x4 : Int32) (w : AW) : Option (AW) :=
  if x4 ≤ x3 then
    some w
  else
    gd (wk w a0 == 101) <|
    gd (inb x3 (wn w a0)) <|
    let w3 : AW := upJ w a0 (Int32.toNatClampNeg x3) x1
    let v4 : Int32 := (x3 + (1 : Int32))
    rec6 a0 x1 v4 x4 w3
theorem P_Jarr_fill_aJJ_6_B {X : AX} {l : Launch} {G : AG} {rec6 : Nat → Int64 → Int32 → Int32 → AW → Option (AW)} (hX : XOK X b_Jarr_fill_aJJ "java/util/Arrays" 5) (hM : XM X l G { frames := 0, cells := 0, slots := 0, locals := 0 }) {o : AW} (hR : XR X none 0 0 none o) (hrec6 : ∀ (a0 : Nat) (x1 : Int64) (x3 : Int32) (x4 : Int32) (w : AW), rec6 a0 x1 x3 x4 w = some o → RJ X 5 0 0 6 [(0, vr a0), (1, vl x1), (3, vi x3), (4, vi x4)] [] w) (a0 : Nat) (x1 : Int64) (x3 : Int32) (x4 : Int32) (w : AW) (h : F_Jarr_fill_aJJ_6_B rec6 a0 x1 x3 x4 w = some o) : RJ X 5 0 0 6 [(0, vr a0), (1, vl x1), (3, vi x3), (4, vi x4)] [] w := by
  unfold F_Jarr_fill_aJJ_6_B at h
  refine r_iload_n (i := 3) hX d_Jarr_fill_aJJ_6 2 rfl rfl ?_
  refine r_iload (i := 4) hX d_Jarr_fill_aJJ_7 3  rfl ?_
  refine r_icmp_ge hX d_Jarr_fill_aJJ_9 rfl h (fun h => ?_) (fun h => ?_)
  · cases h; exact r_vret hX hR d_Jarr_fill_aJJ_22
  · refine r_aload_n (i := 0) hX d_Jarr_fill_aJJ_12 0 rfl rfl ?_
    refine r_iload_n (i := 3) hX d_Jarr_fill_aJJ_13 2 rfl rfl ?_
    refine r_lload_n (i := 1) hX d_Jarr_fill_aJJ_14 1 rfl rfl ?_
    obtain ⟨hk1, h⟩ := gd_e h
    obtain ⟨hg2, h⟩ := gd_e h
    refine r_last hX hk1 hg2 d_Jarr_fill_aJJ_15 ?_
    refine r_iinc (i := 3) (v := (1 : Int32)) hX d_Jarr_fill_aJJ_16 2 rfl rfl (by decide) ?_
    refine r_goto hX d_Jarr_fill_aJJ_19 rfl ?_
    exact rj_sub [1, 2, 0, 3] rfl (hrec6 _ _ _ _ _ h)
def F_Jarr_fill_aJJ_6 : Nat → Nat → Int64 → Int32 → Int32 → AW → Option (AW)
  | 0 => fun _ _ _ _ _ => none
  | n + 1 => fun a0 x1 x3 x4 w => F_Jarr_fill_aJJ_6_B (F_Jarr_fill_aJJ_6 n) a0 x1 x3 x4 w
theorem P_Jarr_fill_aJJ_6 {X : AX} {l : Launch} {G : AG} (hX : XOK X b_Jarr_fill_aJJ "java/util/Arrays" 5) (hM : XM X l G { frames := 0, cells := 0, slots := 0, locals := 0 }) {o : AW} (hR : XR X none 0 0 none o) (fu : Nat) : ∀ (a0 : Nat) (x1 : Int64) (x3 : Int32) (x4 : Int32) (w : AW), F_Jarr_fill_aJJ_6 fu a0 x1 x3 x4 w = some o → RJ X 5 0 0 6 [(0, vr a0), (1, vl x1), (3, vi x3), (4, vi x4)] [] w := by
  induction fu with
  | zero => intro a0 x1 x3 x4 w h; cases h
  | succ n9 ih => intro a0 x1 x3 x4 w h; exact P_Jarr_fill_aJJ_6_B hX hM hR ih _ _ _ _ _ h
def F_Jarr_fill_aJJ (a0 : Nat) (x1 : Int64) (w : AW) : Option (AW) :=
  gd (wk w a0 == 101) <|
  let v2 : Int32 := (Int32.ofNat (wn w a0))
  F_Jarr_fill_aJJ_6 FUEL a0 x1 (0 : Int32) v2 w
theorem P_Jarr_fill_aJJ_0 {X : AX} {l : Launch} {G : AG} (hX : XOK X b_Jarr_fill_aJJ "java/util/Arrays" 5) (hM : XM X l G { frames := 0, cells := 0, slots := 0, locals := 0 }) {o : AW} (hR : XR X none 0 0 none o) (a0 : Nat) (x1 : Int64) (w : AW) (h : F_Jarr_fill_aJJ a0 x1 w = some o) : RJ X 5 0 0 0 [(0, vr a0), (1, vl x1)] [] w := by
  unfold F_Jarr_fill_aJJ at h
  refine r_iconst (v := (0 : Int32)) hX d_Jarr_fill_aJJ_0 rfl ?_
  refine r_istore_n (i := 3) hX d_Jarr_fill_aJJ_1 rfl (by decide) ?_
  refine r_aload_n (i := 0) hX d_Jarr_fill_aJJ_2 1 rfl rfl ?_
  obtain ⟨hk1, h⟩ := gd_e h
  refine r_alenJ hX hk1 d_Jarr_fill_aJJ_3 ?_
  refine r_istore (i := 4) hX d_Jarr_fill_aJJ_4  (by decide) ?_
  exact rj_sub [2, 3, 1, 0] rfl (P_Jarr_fill_aJJ_6 hX hM hR FUEL _ _ _ _ _ h)
theorem T_Jarr_fill_aJJ {l : Launch} {G : AG} (a0 : Nat) (x1 : Int64) (w : AW) {o : AW} (h : F_Jarr_fill_aJJ a0 x1 w = some o) : Mt l G y_Jarr_fill_aJJ b_Jarr_fill_aJJ 5 none 0 0 0 0 [vr a0, vl x1] w none o := mt_of (by decide) (Nat.le_of_ble_eq_true rfl) (fun X hX hR hM hI => P_Jarr_fill_aJJ_0 hX hM hR _ _ _ h)
/-! RedSky$Days.clear()V -/
theorem d_Dy_clear_0 : decode b_Dy_clear 0 = .ok (.aload_n 0, 1) := by decide +kernel
theorem d_Dy_clear_1 : decode b_Dy_clear 1 = .ok (.getfield 11, 3) := by decide +kernel
theorem d_Dy_clear_4 : decode b_Dy_clear 4 = .ok (.lconst 0, 1) := by decide +kernel
theorem d_Dy_clear_5 : decode b_Dy_clear 5 = .ok (.invokestatic 15, 3) := by decide +kernel
theorem d_Dy_clear_8 : decode b_Dy_clear 8 = .ok (.return_, 1) := by decide +kernel
def F_Dy_clear (a0 : Nat) (w : AW) : Option (AW) :=
  gd (wk w a0 == 8) <|
  (F_Jarr_fill_aJJ (wr w a0 0) (0 : Int64) w).bind fun r2 =>
  some r2
theorem P_Dy_clear_0 {X : AX} {l : Launch} {G : AG} (hX : XOK X b_Dy_clear "RedSky$Days" 1) (hM : XM X l G { frames := 1, cells := 0, slots := 0, locals := 24 }) {o : AW} (hR : XR X none 0 0 none o) (a0 : Nat) (w : AW) (h : F_Dy_clear a0 w = some o) : RJ X 1 0 0 0 [(0, vr a0)] [] w := by
  unfold F_Dy_clear at h
  refine r_aload_n (i := 0) hX d_Dy_clear_0 0 rfl rfl ?_
  obtain ⟨hk1, h⟩ := gd_e h
  refine r_getR (i := 7) (f := 0) hX ci_7 (by decide) rfl fl_Dy_11 hk1 d_Dy_clear_1 ?_
  refine r_lconst (v := (0 : Int64)) hX d_Dy_clear_4 rfl ?_
  obtain ⟨r2, hr3, h⟩ := bd_e h
  refine r_callS0 (As := [_, _]) hX hM mw_Dy_15 (T_Jarr_fill_aJJ _ _ _ hr3) rfl rfl ⟨Nat.le_refl _, Nat.le_refl _⟩ rfl rfl d_Dy_clear_5 ?_
  cases h; exact r_vret hX hR d_Dy_clear_8
theorem T_Dy_clear {l : Launch} {G : AG} (a0 : Nat) (w : AW) {o : AW} (h : F_Dy_clear a0 w = some o) : Mt l G y_Dy_clear b_Dy_clear 1 none 1 24 0 0 [vr a0] w none o := mt_of (by decide) (Nat.le_of_ble_eq_true rfl) (fun X hX hR hM hI => P_Dy_clear_0 hX hM hR _ _ h)
/-! RedSky$Almanac.clear()V -/
theorem d_Al_clear_0 : decode b_Al_clear 0 = .ok (.aload_n 0, 1) := by decide +kernel
theorem d_Al_clear_1 : decode b_Al_clear 1 = .ok (.getfield 18, 3) := by decide +kernel
theorem d_Al_clear_4 : decode b_Al_clear 4 = .ok (.invokevirtual 25, 3) := by decide +kernel
theorem d_Al_clear_7 : decode b_Al_clear 7 = .ok (.aload_n 0, 1) := by decide +kernel
theorem d_Al_clear_8 : decode b_Al_clear 8 = .ok (.getfield 22, 3) := by decide +kernel
theorem d_Al_clear_11 : decode b_Al_clear 11 = .ok (.invokevirtual 25, 3) := by decide +kernel
theorem d_Al_clear_14 : decode b_Al_clear 14 = .ok (.return_, 1) := by decide +kernel
def F_Al_clear (a0 : Nat) (w : AW) : Option (AW) :=
  gd (wk w a0 == 11) <|
  gd (wk w (wr w a0 1) == 8) <|
  (F_Dy_clear (wr w a0 1) w).bind fun r3 =>
  gd (wk r3 a0 == 11) <|
  gd (wk r3 (wr r3 a0 2) == 8) <|
  (F_Dy_clear (wr r3 a0 2) r3).bind fun r7 =>
  some r7
theorem P_Al_clear_0 {X : AX} {l : Launch} {G : AG} (hX : XOK X b_Al_clear "RedSky$Almanac" 1) (hM : XM X l G { frames := 2, cells := 0, slots := 0, locals := 44 }) {o : AW} (hR : XR X none 0 0 none o) (a0 : Nat) (w : AW) (h : F_Al_clear a0 w = some o) : RJ X 1 0 0 0 [(0, vr a0)] [] w := by
  unfold F_Al_clear at h
  refine r_aload_n (i := 0) hX d_Al_clear_0 0 rfl rfl ?_
  obtain ⟨hk1, h⟩ := gd_e h
  refine r_getR (i := 10) (f := 1) hX ci_10 (by decide) rfl fl_Al_18 hk1 d_Al_clear_1 ?_
  obtain ⟨hk2, h⟩ := gd_e h
  obtain ⟨r3, hr4, h⟩ := bd_e h
  refine r_callV0 (As := []) hX hM mw_Al_25 (T_Dy_clear _ _ hr4) (rc_of ci_7 hk2) rfl rfl ⟨Nat.le_refl _, Nat.le_refl _⟩ rfl rfl d_Al_clear_4 ?_
  refine r_aload_n (i := 0) hX d_Al_clear_7 0 rfl rfl ?_
  obtain ⟨hk5, h⟩ := gd_e h
  refine r_getR (i := 10) (f := 2) hX ci_10 (by decide) rfl fl_Al_22 hk5 d_Al_clear_8 ?_
  obtain ⟨hk6, h⟩ := gd_e h
  obtain ⟨r7, hr8, h⟩ := bd_e h
  refine r_callV0 (As := []) hX hM mw_Al_25 (T_Dy_clear _ _ hr8) (rc_of ci_7 hk6) rfl rfl ⟨Nat.le_refl _, Nat.le_refl _⟩ rfl rfl d_Al_clear_11 ?_
  cases h; exact r_vret hX hR d_Al_clear_14
theorem T_Al_clear {l : Launch} {G : AG} (a0 : Nat) (w : AW) {o : AW} (h : F_Al_clear a0 w = some o) : Mt l G y_Al_clear b_Al_clear 1 none 2 44 0 0 [vr a0] w none o := mt_of (by decide) (Nat.le_of_ble_eq_true rfl) (fun X hX hR hM hI => P_Al_clear_0 hX hM hR _ _ h)
