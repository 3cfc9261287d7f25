/-! RedSkyLaw.law([I)Z -/
def F_Lw_law_1684 (rec18 : Nat → Nat → Nat → Int32 → AW → Option (Int32 × AW)) (z0 q0 : Nat) (a0 : Nat) (a1 : Nat) (a2 : Nat) (x3 : Int32) (w : AW) : Option (Int32 × AW) :=
  gd (wk w a1 == 1) <|
  gd (Nat.ble (wz w + 0) (z0 + 600000) && Nat.ble (wq w + 0) (q0 + 7302250)) <|
  (F_A_digest w a1).bind fun r3 =>
  gd (wk w a2 == 13) <|
  gd (Nat.ble (wz w + 0) (z0 + 600000) && Nat.ble (wq w + 0) (q0 + 7302250)) <|
  (F_M_digest w a2).bind fun r7 =>
  if (lg_cmp r3 r7) = 0 then
    let v9 : Int32 := (x3 + (6 : Int32))
    rec18 a0 a1 a2 v9 w
  else
    gd (Nat.ble (wz w) (z0 + 600000) && Nat.ble (wq w) (q0 + 7302250)) <|
    some ((0 : Int32), w)
theorem P_Lw_law_1684 {X : AX} {l : Launch} {G : AG} {z0 q0 : Nat} {rec18 : Nat → Nat → Nat → Int32 → AW → Option (Int32 × AW)} (hX : XOK X b_Lw_law "RedSkyLaw" 4) (hM : XM X l G room_1) {o : Int32 × AW} (hR : XL X o.1) (hrec18 : ∀ (k n : Nat) (a0 : Nat) (a1 : Nat) (a2 : Nat) (x3 : Int32) (w : AW), rec18 a0 a1 a2 x3 w = some o → z0 + k = wz w → q0 + n = wq w → RJ X 4 k n 18 [(0, vr a0), (1, vr a1), (2, vr a2), (3, vi x3)] [] w) (k n : Nat) (a0 : Nat) (a1 : Nat) (a2 : Nat) (x3 : Int32) (w : AW) (h : F_Lw_law_1684 rec18 z0 q0 a0 a1 a2 x3 w = some o) (hzz : z0 + k = wz w) (hqq : q0 + n = wq w) : RJ X 4 k n 1684 [(0, vr a0), (1, vr a1), (2, vr a2), (3, vi x3)] [] w := by
  unfold F_Lw_law_1684 at h
  refine r_aload_n (i := 1) hX d_Lw_law_1684 1 rfl rfl ?_
  obtain ⟨hk1, h⟩ := gd_e h
  obtain ⟨hg2, h⟩ := gd_e h
  obtain ⟨r3, hr4, h⟩ := bd_e h
  refine r_callV1 (As := []) hX hM mw_Lw_175 (T_A_digest _ _ hr4) (rc_of ci_0 hk1) rfl rfl (al_3 hzz hqq hg2) rfl rfl d_Lw_law_1685 ?_
  refine r_aload_n (i := 2) hX d_Lw_law_1688 2 rfl rfl ?_
  obtain ⟨hk5, h⟩ := gd_e h
  obtain ⟨hg6, h⟩ := gd_e h
  obtain ⟨r7, hr8, h⟩ := bd_e h
  refine r_callV1 (As := []) hX hM mw_Lw_179 (T_M_digest _ _ hr8) (rc_of ci_12 hk5) rfl rfl (al_3 hzz hqq hg6) rfl rfl d_Lw_law_1689 ?_
  refine r_lcmp hX d_Lw_law_1692 ?_
  refine r_if_eq hX d_Lw_law_1693 rfl h (fun h => ?_) (fun h => ?_)
  · refine r_iinc (i := 3) (v := (6 : Int32)) hX d_Lw_law_1698 3 rfl rfl (by decide) ?_
    refine r_goto hX d_Lw_law_1701 rfl ?_
    exact rj_sub [1, 2, 3, 0] rfl (hrec18 _ _ _ _ _ _ _ h hzz hqq)
  · refine r_iconst (v := (0 : Int32)) hX d_Lw_law_1696 rfl ?_
    obtain ⟨hg10, h⟩ := gd_e h
    cases h; exact r_lawret hX hM hR hzz hqq hg10 d_Lw_law_1697
def F_Lw_law_1661 (rec18 : Nat → Nat → Nat → Int32 → AW → Option (Int32 × AW)) (z0 q0 : Nat) (a0 : Nat) (a1 : Nat) (a2 : Nat) (x3 : Int32) (w : AW) : Option (Int32 × AW) :=
  gd (wk w a0 == 110) <|
  gd (inb (x3 + (1 : Int32)) (wn w a0)) <|
  gd (wk w a1 == 1) <|
  gd (Nat.ble (wz w + 0) (z0 + 600000) && Nat.ble (wq w + 0) (q0 + 7302250)) <|
  (F_A_count w a1 (wi w a0 (Int32.toNatClampNeg (x3 + (1 : Int32))))).bind fun r5 =>
  gd (inb (x3 + (1 : Int32)) (wn w a0)) <|
  gd (wk w a2 == 13) <|
  gd (Nat.ble (wz w + 0) (z0 + 600000) && Nat.ble (wq w + 0) (q0 + 7302250)) <|
  (F_M_count w a2 (wi w a0 (Int32.toNatClampNeg (x3 + (1 : Int32))))).bind fun r10 =>
  if r5 = r10 then
    let v12 : Int32 := (x3 + (6 : Int32))
    rec18 a0 a1 a2 v12 w
  else
    gd (Nat.ble (wz w) (z0 + 600000) && Nat.ble (wq w) (q0 + 7302250)) <|
    some ((0 : Int32), w)
theorem P_Lw_law_1661 {X : AX} {l : Launch} {G : AG} {z0 q0 : Nat} {rec18 : Nat → Nat → Nat → Int32 → AW → Option (Int32 × AW)} (hX : XOK X b_Lw_law "RedSkyLaw" 4) (hM : XM X l G room_1) {o : Int32 × AW} (hR : XL X o.1) (hrec18 : ∀ (k n : Nat) (a0 : Nat) (a1 : Nat) (a2 : Nat) (x3 : Int32) (w : AW), rec18 a0 a1 a2 x3 w = some o → z0 + k = wz w → q0 + n = wq w → RJ X 4 k n 18 [(0, vr a0), (1, vr a1), (2, vr a2), (3, vi x3)] [] w) (k n : Nat) (a0 : Nat) (a1 : Nat) (a2 : Nat) (x3 : Int32) (w : AW) (h : F_Lw_law_1661 rec18 z0 q0 a0 a1 a2 x3 w = some o) (hzz : z0 + k = wz w) (hqq : q0 + n = wq w) : RJ X 4 k n 1661 [(0, vr a0), (1, vr a1), (2, vr a2), (3, vi x3)] [] w := by
  unfold F_Lw_law_1661 at h
  refine r_aload_n (i := 1) hX d_Lw_law_1661 1 rfl rfl ?_
  refine r_aload_n (i := 0) hX d_Lw_law_1662 0 rfl rfl ?_
  refine r_iload_n (i := 3) hX d_Lw_law_1663 3 rfl rfl ?_
  refine r_iconst (v := (1 : Int32)) hX d_Lw_law_1664 rfl ?_
  refine r_iadd hX d_Lw_law_1665 ?_
  obtain ⟨hk1, h⟩ := gd_e h
  obtain ⟨hg2, h⟩ := gd_e h
  refine r_xald hX hk1 hg2 d_Lw_law_1666 ?_
  obtain ⟨hk3, h⟩ := gd_e h
  obtain ⟨hg4, h⟩ := gd_e h
  obtain ⟨r5, hr6, h⟩ := bd_e h
  refine r_callV1 (As := [_]) hX hM mw_Lw_171 (T_A_count _ _ _ hr6) (rc_of ci_0 hk3) rfl rfl (al_3 hzz hqq hg4) rfl rfl d_Lw_law_1667 ?_
  refine r_aload_n (i := 2) hX d_Lw_law_1670 2 rfl rfl ?_
  refine r_aload_n (i := 0) hX d_Lw_law_1671 0 rfl rfl ?_
  refine r_iload_n (i := 3) hX d_Lw_law_1672 3 rfl rfl ?_
  refine r_iconst (v := (1 : Int32)) hX d_Lw_law_1673 rfl ?_
  refine r_iadd hX d_Lw_law_1674 ?_
  obtain ⟨hg7, h⟩ := gd_e h
  refine r_xald hX hk1 hg7 d_Lw_law_1675 ?_
  obtain ⟨hk8, h⟩ := gd_e h
  obtain ⟨hg9, h⟩ := gd_e h
  obtain ⟨r10, hr11, h⟩ := bd_e h
  refine r_callV1 (As := [_]) hX hM mw_Lw_174 (T_M_count _ _ _ hr11) (rc_of ci_12 hk8) rfl rfl (al_3 hzz hqq hg9) rfl rfl d_Lw_law_1676 ?_
  refine r_icmp_eq hX d_Lw_law_1679 rfl h (fun h => ?_) (fun h => ?_)
  · refine r_iinc (i := 3) (v := (6 : Int32)) hX d_Lw_law_1698 3 rfl rfl (by decide) ?_
    refine r_goto hX d_Lw_law_1701 rfl ?_
    exact rj_sub [1, 2, 3, 0] rfl (hrec18 _ _ _ _ _ _ _ h hzz hqq)
  · refine r_iconst (v := (0 : Int32)) hX d_Lw_law_1682 rfl ?_
    obtain ⟨hg13, h⟩ := gd_e h
    cases h; exact r_lawret hX hM hR hzz hqq hg13 d_Lw_law_1683
def F_Lw_law_1618 (rec18 : Nat → Nat → Nat → Int32 → AW → Option (Int32 × AW)) (z0 q0 : Nat) (a0 : Nat) (a1 : Nat) (a2 : Nat) (x3 : Int32) (w : AW) : Option (Int32 × AW) :=
  gd (wk w a0 == 110) <|
  gd (inb (x3 + (1 : Int32)) (wn w a0)) <|
  gd (inb (x3 + (2 : Int32)) (wn w a0)) <|
  gd (inb (x3 + (3 : Int32)) (wn w a0)) <|
  gd (wk w a1 == 1) <|
  gd (Nat.ble (wz w + 0) (z0 + 600000) && Nat.ble (wq w + 0) (q0 + 7302250)) <|
  (F_A_spring a1 (wi w a0 (Int32.toNatClampNeg (x3 + (1 : Int32)))) (wi w a0 (Int32.toNatClampNeg (x3 + (2 : Int32)))) (wi w a0 (Int32.toNatClampNeg (x3 + (3 : Int32)))) w).bind fun r7 =>
  gd ((wz r7.2 == wz w + 0) && (wq r7.2 == wq w + 0)) <|
  gd (wk r7.2 a0 == 110) <|
  gd (inb (x3 + (1 : Int32)) (wn r7.2 a0)) <|
  gd (inb (x3 + (2 : Int32)) (wn r7.2 a0)) <|
  gd (inb (x3 + (3 : Int32)) (wn r7.2 a0)) <|
  gd (wk r7.2 a2 == 13) <|
  gd (Nat.ble (wz r7.2 + 0) (z0 + 600000) && Nat.ble (wq r7.2 + 0) (q0 + 7302250)) <|
  (F_M_spring r7.2 a2 (wi r7.2 a0 (Int32.toNatClampNeg (x3 + (1 : Int32)))) (wi r7.2 a0 (Int32.toNatClampNeg (x3 + (2 : Int32)))) (wi r7.2 a0 (Int32.toNatClampNeg (x3 + (3 : Int32))))).bind fun r16 =>
  if r7.1 = r16 then
    let v18 : Int32 := (x3 + (6 : Int32))
    rec18 a0 a1 a2 v18 r7.2
  else
    gd (Nat.ble (wz r7.2) (z0 + 600000) && Nat.ble (wq r7.2) (q0 + 7302250)) <|
    some ((0 : Int32), r7.2)
theorem P_Lw_law_1618 {X : AX} {l : Launch} {G : AG} {z0 q0 : Nat} {rec18 : Nat → Nat → Nat → Int32 → AW → Option (Int32 × AW)} (hX : XOK X b_Lw_law "RedSkyLaw" 4) (hM : XM X l G room_1) {o : Int32 × AW} (hR : XL X o.1) (hrec18 : ∀ (k n : Nat) (a0 : Nat) (a1 : Nat) (a2 : Nat) (x3 : Int32) (w : AW), rec18 a0 a1 a2 x3 w = some o → z0 + k = wz w → q0 + n = wq w → RJ X 4 k n 18 [(0, vr a0), (1, vr a1), (2, vr a2), (3, vi x3)] [] w) (k n : Nat) (a0 : Nat) (a1 : Nat) (a2 : Nat) (x3 : Int32) (w : AW) (h : F_Lw_law_1618 rec18 z0 q0 a0 a1 a2 x3 w = some o) (hzz : z0 + k = wz w) (hqq : q0 + n = wq w) : RJ X 4 k n 1618 [(0, vr a0), (1, vr a1), (2, vr a2), (3, vi x3)] [] w := by
  unfold F_Lw_law_1618 at h
  refine r_aload_n (i := 1) hX d_Lw_law_1618 1 rfl rfl ?_
  refine r_aload_n (i := 0) hX d_Lw_law_1619 0 rfl rfl ?_
  refine r_iload_n (i := 3) hX d_Lw_law_1620 3 rfl rfl ?_
  refine r_iconst (v := (1 : Int32)) hX d_Lw_law_1621 rfl ?_
  refine r_iadd hX d_Lw_law_1622 ?_
  obtain ⟨hk1, h⟩ := gd_e h
  obtain ⟨hg2, h⟩ := gd_e h
  refine r_xald hX hk1 hg2 d_Lw_law_1623 ?_
  refine r_aload_n (i := 0) hX d_Lw_law_1624 0 rfl rfl ?_
  refine r_iload_n (i := 3) hX d_Lw_law_1625 3 rfl rfl ?_
  refine r_iconst (v := (2 : Int32)) hX d_Lw_law_1626 rfl ?_
  refine r_iadd hX d_Lw_law_1627 ?_
  obtain ⟨hg3, h⟩ := gd_e h
  refine r_xald hX hk1 hg3 d_Lw_law_1628 ?_
  refine r_aload_n (i := 0) hX d_Lw_law_1629 0 rfl rfl ?_
  refine r_iload_n (i := 3) hX d_Lw_law_1630 3 rfl rfl ?_
  refine r_iconst (v := (3 : Int32)) hX d_Lw_law_1631 rfl ?_
  refine r_iadd hX d_Lw_law_1632 ?_
  obtain ⟨hg4, h⟩ := gd_e h
  refine r_xald hX hk1 hg4 d_Lw_law_1633 ?_
  obtain ⟨hk5, h⟩ := gd_e h
  obtain ⟨hg6, h⟩ := gd_e h
  obtain ⟨r7, hr8, h⟩ := bd_e h
  refine r_callV1 (As := [_, _, _]) hX hM mw_Lw_167 (T_A_spring _ _ _ _ _ hr8) (rc_of ci_0 hk5) rfl rfl (al_3 hzz hqq hg6) rfl rfl d_Lw_law_1634 ?_
  obtain ⟨hg9, h⟩ := gd_e h
  refine r_aload_n (i := 2) hX d_Lw_law_1637 2 rfl rfl ?_
  refine r_aload_n (i := 0) hX d_Lw_law_1638 0 rfl rfl ?_
  refine r_iload_n (i := 3) hX d_Lw_law_1639 3 rfl rfl ?_
  refine r_iconst (v := (1 : Int32)) hX d_Lw_law_1640 rfl ?_
  refine r_iadd hX d_Lw_law_1641 ?_
  obtain ⟨hk10, h⟩ := gd_e h
  obtain ⟨hg11, h⟩ := gd_e h
  refine r_xald hX hk10 hg11 d_Lw_law_1642 ?_
  refine r_aload_n (i := 0) hX d_Lw_law_1643 0 rfl rfl ?_
  refine r_iload_n (i := 3) hX d_Lw_law_1644 3 rfl rfl ?_
  refine r_iconst (v := (2 : Int32)) hX d_Lw_law_1645 rfl ?_
  refine r_iadd hX d_Lw_law_1646 ?_
  obtain ⟨hg12, h⟩ := gd_e h
  refine r_xald hX hk10 hg12 d_Lw_law_1647 ?_
  refine r_aload_n (i := 0) hX d_Lw_law_1648 0 rfl rfl ?_
  refine r_iload_n (i := 3) hX d_Lw_law_1649 3 rfl rfl ?_
  refine r_iconst (v := (3 : Int32)) hX d_Lw_law_1650 rfl ?_
  refine r_iadd hX d_Lw_law_1651 ?_
  obtain ⟨hg13, h⟩ := gd_e h
  refine r_xald hX hk10 hg13 d_Lw_law_1652 ?_
  obtain ⟨hk14, h⟩ := gd_e h
  obtain ⟨hg15, h⟩ := gd_e h
  obtain ⟨r16, hr17, h⟩ := bd_e h
  refine r_callV1 (As := [_, _, _]) hX hM mw_Lw_170 (T_M_spring _ _ _ _ _ hr17) (rc_of ci_12 hk14) rfl rfl (al_3 (al_ck (c := 0) hzz hg9) (al_cq (d := 0) hqq hg9) hg15) rfl rfl d_Lw_law_1653 ?_
  refine r_icmp_eq hX d_Lw_law_1656 rfl h (fun h => ?_) (fun h => ?_)
  · refine r_iinc (i := 3) (v := (6 : Int32)) hX d_Lw_law_1698 3 rfl rfl (by decide) ?_
    refine r_goto hX d_Lw_law_1701 rfl ?_
    exact rj_sub [1, 2, 3, 0] rfl (hrec18 _ _ _ _ _ _ _ h (al_ck (c := 0) hzz hg9) (al_cq (d := 0) hqq hg9))
  · refine r_iconst (v := (0 : Int32)) hX d_Lw_law_1659 rfl ?_
    obtain ⟨hg19, h⟩ := gd_e h
    cases h; exact r_lawret hX hM hR (al_ck (c := 0) hzz hg9) (al_cq (d := 0) hqq hg9) hg19 d_Lw_law_1660
def F_Lw_law_1575 (rec18 : Nat → Nat → Nat → Int32 → AW → Option (Int32 × AW)) (z0 q0 : Nat) (a0 : Nat) (a1 : Nat) (a2 : Nat) (x3 : Int32) (w : AW) : Option (Int32 × AW) :=
  gd (wk w a0 == 110) <|
  gd (inb (x3 + (1 : Int32)) (wn w a0)) <|
  gd (inb (x3 + (2 : Int32)) (wn w a0)) <|
  gd (inb (x3 + (3 : Int32)) (wn w a0)) <|
  gd (wk w a1 == 1) <|
  gd (Nat.ble (wz w + 0) (z0 + 600000) && Nat.ble (wq w + 0) (q0 + 7302250)) <|
  (F_A_source a1 (wi w a0 (Int32.toNatClampNeg (x3 + (1 : Int32)))) (wi w a0 (Int32.toNatClampNeg (x3 + (2 : Int32)))) (wi w a0 (Int32.toNatClampNeg (x3 + (3 : Int32)))) w).bind fun r7 =>
  gd ((wz r7.2 == wz w + 0) && (wq r7.2 == wq w + 0)) <|
  gd (wk r7.2 a0 == 110) <|
  gd (inb (x3 + (1 : Int32)) (wn r7.2 a0)) <|
  gd (inb (x3 + (2 : Int32)) (wn r7.2 a0)) <|
  gd (inb (x3 + (3 : Int32)) (wn r7.2 a0)) <|
  gd (wk r7.2 a2 == 13) <|
  gd (Nat.ble (wz r7.2 + 0) (z0 + 600000) && Nat.ble (wq r7.2 + 0) (q0 + 7302250)) <|
  (F_M_source r7.2 a2 (wi r7.2 a0 (Int32.toNatClampNeg (x3 + (1 : Int32)))) (wi r7.2 a0 (Int32.toNatClampNeg (x3 + (2 : Int32)))) (wi r7.2 a0 (Int32.toNatClampNeg (x3 + (3 : Int32))))).bind fun r16 =>
  if r7.1 = r16 then
    let v18 : Int32 := (x3 + (6 : Int32))
    rec18 a0 a1 a2 v18 r7.2
  else
    gd (Nat.ble (wz r7.2) (z0 + 600000) && Nat.ble (wq r7.2) (q0 + 7302250)) <|
    some ((0 : Int32), r7.2)
theorem P_Lw_law_1575 {X : AX} {l : Launch} {G : AG} {z0 q0 : Nat} {rec18 : Nat → Nat → Nat → Int32 → AW → Option (Int32 × AW)} (hX : XOK X b_Lw_law "RedSkyLaw" 4) (hM : XM X l G room_1) {o : Int32 × AW} (hR : XL X o.1) (hrec18 : ∀ (k n : Nat) (a0 : Nat) (a1 : Nat) (a2 : Nat) (x3 : Int32) (w : AW), rec18 a0 a1 a2 x3 w = some o → z0 + k = wz w → q0 + n = wq w → RJ X 4 k n 18 [(0, vr a0), (1, vr a1), (2, vr a2), (3, vi x3)] [] w) (k n : Nat) (a0 : Nat) (a1 : Nat) (a2 : Nat) (x3 : Int32) (w : AW) (h : F_Lw_law_1575 rec18 z0 q0 a0 a1 a2 x3 w = some o) (hzz : z0 + k = wz w) (hqq : q0 + n = wq w) : RJ X 4 k n 1575 [(0, vr a0), (1, vr a1), (2, vr a2), (3, vi x3)] [] w := by
  unfold F_Lw_law_1575 at h
  refine r_aload_n (i := 1) hX d_Lw_law_1575 1 rfl rfl ?_
  refine r_aload_n (i := 0) hX d_Lw_law_1576 0 rfl rfl ?_
  refine r_iload_n (i := 3) hX d_Lw_law_1577 3 rfl rfl ?_
  refine r_iconst (v := (1 : Int32)) hX d_Lw_law_1578 rfl ?_
  refine r_iadd hX d_Lw_law_1579 ?_
  obtain ⟨hk1, h⟩ := gd_e h
  obtain ⟨hg2, h⟩ := gd_e h
  refine r_xald hX hk1 hg2 d_Lw_law_1580 ?_
  refine r_aload_n (i := 0) hX d_Lw_law_1581 0 rfl rfl ?_
  refine r_iload_n (i := 3) hX d_Lw_law_1582 3 rfl rfl ?_
  refine r_iconst (v := (2 : Int32)) hX d_Lw_law_1583 rfl ?_
  refine r_iadd hX d_Lw_law_1584 ?_
  obtain ⟨hg3, h⟩ := gd_e h
  refine r_xald hX hk1 hg3 d_Lw_law_1585 ?_
  refine r_aload_n (i := 0) hX d_Lw_law_1586 0 rfl rfl ?_
  refine r_iload_n (i := 3) hX d_Lw_law_1587 3 rfl rfl ?_
  refine r_iconst (v := (3 : Int32)) hX d_Lw_law_1588 rfl ?_
  refine r_iadd hX d_Lw_law_1589 ?_
  obtain ⟨hg4, h⟩ := gd_e h
  refine r_xald hX hk1 hg4 d_Lw_law_1590 ?_
  obtain ⟨hk5, h⟩ := gd_e h
  obtain ⟨hg6, h⟩ := gd_e h
  obtain ⟨r7, hr8, h⟩ := bd_e h
  refine r_callV1 (As := [_, _, _]) hX hM mw_Lw_163 (T_A_source _ _ _ _ _ hr8) (rc_of ci_0 hk5) rfl rfl (al_3 hzz hqq hg6) rfl rfl d_Lw_law_1591 ?_
  obtain ⟨hg9, h⟩ := gd_e h
  refine r_aload_n (i := 2) hX d_Lw_law_1594 2 rfl rfl ?_
  refine r_aload_n (i := 0) hX d_Lw_law_1595 0 rfl rfl ?_
  refine r_iload_n (i := 3) hX d_Lw_law_1596 3 rfl rfl ?_
  refine r_iconst (v := (1 : Int32)) hX d_Lw_law_1597 rfl ?_
  refine r_iadd hX d_Lw_law_1598 ?_
  obtain ⟨hk10, h⟩ := gd_e h
  obtain ⟨hg11, h⟩ := gd_e h
  refine r_xald hX hk10 hg11 d_Lw_law_1599 ?_
  refine r_aload_n (i := 0) hX d_Lw_law_1600 0 rfl rfl ?_
  refine r_iload_n (i := 3) hX d_Lw_law_1601 3 rfl rfl ?_
  refine r_iconst (v := (2 : Int32)) hX d_Lw_law_1602 rfl ?_
  refine r_iadd hX d_Lw_law_1603 ?_
  obtain ⟨hg12, h⟩ := gd_e h
  refine r_xald hX hk10 hg12 d_Lw_law_1604 ?_
  refine r_aload_n (i := 0) hX d_Lw_law_1605 0 rfl rfl ?_
  refine r_iload_n (i := 3) hX d_Lw_law_1606 3 rfl rfl ?_
  refine r_iconst (v := (3 : Int32)) hX d_Lw_law_1607 rfl ?_
  refine r_iadd hX d_Lw_law_1608 ?_
  obtain ⟨hg13, h⟩ := gd_e h
  refine r_xald hX hk10 hg13 d_Lw_law_1609 ?_
  obtain ⟨hk14, h⟩ := gd_e h
  obtain ⟨hg15, h⟩ := gd_e h
  obtain ⟨r16, hr17, h⟩ := bd_e h
  refine r_callV1 (As := [_, _, _]) hX hM mw_Lw_166 (T_M_source _ _ _ _ _ hr17) (rc_of ci_12 hk14) rfl rfl (al_3 (al_ck (c := 0) hzz hg9) (al_cq (d := 0) hqq hg9) hg15) rfl rfl d_Lw_law_1610 ?_
  refine r_icmp_eq hX d_Lw_law_1613 rfl h (fun h => ?_) (fun h => ?_)
  · refine r_iinc (i := 3) (v := (6 : Int32)) hX d_Lw_law_1698 3 rfl rfl (by decide) ?_
    refine r_goto hX d_Lw_law_1701 rfl ?_
    exact rj_sub [1, 2, 3, 0] rfl (hrec18 _ _ _ _ _ _ _ h (al_ck (c := 0) hzz hg9) (al_cq (d := 0) hqq hg9))
  · refine r_iconst (v := (0 : Int32)) hX d_Lw_law_1616 rfl ?_
    obtain ⟨hg19, h⟩ := gd_e h
    cases h; exact r_lawret hX hM hR (al_ck (c := 0) hzz hg9) (al_cq (d := 0) hqq hg9) hg19 d_Lw_law_1617
def F_Lw_law_1522 (rec18 : Nat → Nat → Nat → Int32 → AW → Option (Int32 × AW)) (z0 q0 : Nat) (a0 : Nat) (a1 : Nat) (a2 : Nat) (x3 : Int32) (w : AW) : Option (Int32 × AW) :=
  gd (wk w a0 == 110) <|
  gd (inb (x3 + (1 : Int32)) (wn w a0)) <|
  gd (inb (x3 + (2 : Int32)) (wn w a0)) <|
  gd (inb (x3 + (3 : Int32)) (wn w a0)) <|
  gd (inb (x3 + (4 : Int32)) (wn w a0)) <|
  gd (wk w a1 == 1) <|
  gd (Nat.ble (wz w + 0) (z0 + 600000) && Nat.ble (wq w + 0) (q0 + 7302250)) <|
  (F_A_alike a1 (wi w a0 (Int32.toNatClampNeg (x3 + (1 : Int32)))) (wi w a0 (Int32.toNatClampNeg (x3 + (2 : Int32)))) (wi w a0 (Int32.toNatClampNeg (x3 + (3 : Int32)))) (wi w a0 (Int32.toNatClampNeg (x3 + (4 : Int32)))) w).bind fun r8 =>
  gd ((wz r8.2 == wz w + 0) && (wq r8.2 == wq w + 0)) <|
  gd (wk r8.2 a0 == 110) <|
  gd (inb (x3 + (1 : Int32)) (wn r8.2 a0)) <|
  gd (inb (x3 + (2 : Int32)) (wn r8.2 a0)) <|
  gd (inb (x3 + (3 : Int32)) (wn r8.2 a0)) <|
  gd (inb (x3 + (4 : Int32)) (wn r8.2 a0)) <|
  gd (wk r8.2 a2 == 13) <|
  gd (Nat.ble (wz r8.2 + 0) (z0 + 600000) && Nat.ble (wq r8.2 + 0) (q0 + 7302250)) <|
  (F_M_alike r8.2 a2 (wi r8.2 a0 (Int32.toNatClampNeg (x3 + (1 : Int32)))) (wi r8.2 a0 (Int32.toNatClampNeg (x3 + (2 : Int32)))) (wi r8.2 a0 (Int32.toNatClampNeg (x3 + (3 : Int32)))) (wi r8.2 a0 (Int32.toNatClampNeg (x3 + (4 : Int32))))).bind fun r18 =>
  if r8.1 = r18 then
    let v20 : Int32 := (x3 + (6 : Int32))
    rec18 a0 a1 a2 v20 r8.2
  else
    gd (Nat.ble (wz r8.2) (z0 + 600000) && Nat.ble (wq r8.2) (q0 + 7302250)) <|
    some ((0 : Int32), r8.2)
theorem P_Lw_law_1522 {X : AX} {l : Launch} {G : AG} {z0 q0 : Nat} {rec18 : Nat → Nat → Nat → Int32 → AW → Option (Int32 × AW)} (hX : XOK X b_Lw_law "RedSkyLaw" 4) (hM : XM X l G room_1) {o : Int32 × AW} (hR : XL X o.1) (hrec18 : ∀ (k n : Nat) (a0 : Nat) (a1 : Nat) (a2 : Nat) (x3 : Int32) (w : AW), rec18 a0 a1 a2 x3 w = some o → z0 + k = wz w → q0 + n = wq w → RJ X 4 k n 18 [(0, vr a0), (1, vr a1), (2, vr a2), (3, vi x3)] [] w) (k n : Nat) (a0 : Nat) (a1 : Nat) (a2 : Nat) (x3 : Int32) (w : AW) (h : F_Lw_law_1522 rec18 z0 q0 a0 a1 a2 x3 w = some o) (hzz : z0 + k = wz w) (hqq : q0 + n = wq w) : RJ X 4 k n 1522 [(0, vr a0), (1, vr a1), (2, vr a2), (3, vi x3)] [] w := by
  unfold F_Lw_law_1522 at h
  refine r_aload_n (i := 1) hX d_Lw_law_1522 1 rfl rfl ?_
  refine r_aload_n (i := 0) hX d_Lw_law_1523 0 rfl rfl ?_
  refine r_iload_n (i := 3) hX d_Lw_law_1524 3 rfl rfl ?_
  refine r_iconst (v := (1 : Int32)) hX d_Lw_law_1525 rfl ?_
  refine r_iadd hX d_Lw_law_1526 ?_
  obtain ⟨hk1, h⟩ := gd_e h
  obtain ⟨hg2, h⟩ := gd_e h
  refine r_xald hX hk1 hg2 d_Lw_law_1527 ?_
  refine r_aload_n (i := 0) hX d_Lw_law_1528 0 rfl rfl ?_
  refine r_iload_n (i := 3) hX d_Lw_law_1529 3 rfl rfl ?_
  refine r_iconst (v := (2 : Int32)) hX d_Lw_law_1530 rfl ?_
  refine r_iadd hX d_Lw_law_1531 ?_
  obtain ⟨hg3, h⟩ := gd_e h
  refine r_xald hX hk1 hg3 d_Lw_law_1532 ?_
  refine r_aload_n (i := 0) hX d_Lw_law_1533 0 rfl rfl ?_
  refine r_iload_n (i := 3) hX d_Lw_law_1534 3 rfl rfl ?_
  refine r_iconst (v := (3 : Int32)) hX d_Lw_law_1535 rfl ?_
  refine r_iadd hX d_Lw_law_1536 ?_
  obtain ⟨hg4, h⟩ := gd_e h
  refine r_xald hX hk1 hg4 d_Lw_law_1537 ?_
  refine r_aload_n (i := 0) hX d_Lw_law_1538 0 rfl rfl ?_
  refine r_iload_n (i := 3) hX d_Lw_law_1539 3 rfl rfl ?_
  refine r_iconst (v := (4 : Int32)) hX d_Lw_law_1540 rfl ?_
  refine r_iadd hX d_Lw_law_1541 ?_
  obtain ⟨hg5, h⟩ := gd_e h
  refine r_xald hX hk1 hg5 d_Lw_law_1542 ?_
  obtain ⟨hk6, h⟩ := gd_e h
  obtain ⟨hg7, h⟩ := gd_e h
  obtain ⟨r8, hr9, h⟩ := bd_e h
  refine r_callV1 (As := [_, _, _, _]) hX hM mw_Lw_159 (T_A_alike _ _ _ _ _ _ hr9) (rc_of ci_0 hk6) rfl rfl (al_3 hzz hqq hg7) rfl rfl d_Lw_law_1543 ?_
  obtain ⟨hg10, h⟩ := gd_e h
  refine r_aload_n (i := 2) hX d_Lw_law_1546 2 rfl rfl ?_
  refine r_aload_n (i := 0) hX d_Lw_law_1547 0 rfl rfl ?_
  refine r_iload_n (i := 3) hX d_Lw_law_1548 3 rfl rfl ?_
  refine r_iconst (v := (1 : Int32)) hX d_Lw_law_1549 rfl ?_
  refine r_iadd hX d_Lw_law_1550 ?_
  obtain ⟨hk11, h⟩ := gd_e h
  obtain ⟨hg12, h⟩ := gd_e h
  refine r_xald hX hk11 hg12 d_Lw_law_1551 ?_
  refine r_aload_n (i := 0) hX d_Lw_law_1552 0 rfl rfl ?_
  refine r_iload_n (i := 3) hX d_Lw_law_1553 3 rfl rfl ?_
  refine r_iconst (v := (2 : Int32)) hX d_Lw_law_1554 rfl ?_
  refine r_iadd hX d_Lw_law_1555 ?_
  obtain ⟨hg13, h⟩ := gd_e h
  refine r_xald hX hk11 hg13 d_Lw_law_1556 ?_
  refine r_aload_n (i := 0) hX d_Lw_law_1557 0 rfl rfl ?_
  refine r_iload_n (i := 3) hX d_Lw_law_1558 3 rfl rfl ?_
  refine r_iconst (v := (3 : Int32)) hX d_Lw_law_1559 rfl ?_
  refine r_iadd hX d_Lw_law_1560 ?_
  obtain ⟨hg14, h⟩ := gd_e h
  refine r_xald hX hk11 hg14 d_Lw_law_1561 ?_
  refine r_aload_n (i := 0) hX d_Lw_law_1562 0 rfl rfl ?_
  refine r_iload_n (i := 3) hX d_Lw_law_1563 3 rfl rfl ?_
  refine r_iconst (v := (4 : Int32)) hX d_Lw_law_1564 rfl ?_
  refine r_iadd hX d_Lw_law_1565 ?_
  obtain ⟨hg15, h⟩ := gd_e h
  refine r_xald hX hk11 hg15 d_Lw_law_1566 ?_
  obtain ⟨hk16, h⟩ := gd_e h
  obtain ⟨hg17, h⟩ := gd_e h
  obtain ⟨r18, hr19, h⟩ := bd_e h
  refine r_callV1 (As := [_, _, _, _]) hX hM mw_Lw_162 (T_M_alike _ _ _ _ _ _ hr19) (rc_of ci_12 hk16) rfl rfl (al_3 (al_ck (c := 0) hzz hg10) (al_cq (d := 0) hqq hg10) hg17) rfl rfl d_Lw_law_1567 ?_
  refine r_icmp_eq hX d_Lw_law_1570 rfl h (fun h => ?_) (fun h => ?_)
  · refine r_iinc (i := 3) (v := (6 : Int32)) hX d_Lw_law_1698 3 rfl rfl (by decide) ?_
    refine r_goto hX d_Lw_law_1701 rfl ?_
    exact rj_sub [1, 2, 3, 0] rfl (hrec18 _ _ _ _ _ _ _ h (al_ck (c := 0) hzz hg10) (al_cq (d := 0) hqq hg10))
  · refine r_iconst (v := (0 : Int32)) hX d_Lw_law_1573 rfl ?_
    obtain ⟨hg21, h⟩ := gd_e h
    cases h; exact r_lawret hX hM hR (al_ck (c := 0) hzz hg10) (al_cq (d := 0) hqq hg10) hg21 d_Lw_law_1574
def F_Lw_law_1469 (rec18 : Nat → Nat → Nat → Int32 → AW → Option (Int32 × AW)) (z0 q0 : Nat) (a0 : Nat) (a1 : Nat) (a2 : Nat) (x3 : Int32) (w : AW) : Option (Int32 × AW) :=
  gd (wk w a0 == 110) <|
  gd (inb (x3 + (1 : Int32)) (wn w a0)) <|
  gd (inb (x3 + (2 : Int32)) (wn w a0)) <|
  gd (inb (x3 + (3 : Int32)) (wn w a0)) <|
  gd (inb (x3 + (4 : Int32)) (wn w a0)) <|
  gd (wk w a1 == 1) <|
  gd (Nat.ble (wz w + 0) (z0 + 600000) && Nat.ble (wq w + 0) (q0 + 7302250)) <|
  (F_A_shared a1 (wi w a0 (Int32.toNatClampNeg (x3 + (1 : Int32)))) (wi w a0 (Int32.toNatClampNeg (x3 + (2 : Int32)))) (wi w a0 (Int32.toNatClampNeg (x3 + (3 : Int32)))) (wi w a0 (Int32.toNatClampNeg (x3 + (4 : Int32)))) w).bind fun r8 =>
  gd ((wz r8.2 == wz w + 0) && (wq r8.2 == wq w + 0)) <|
  gd (wk r8.2 a0 == 110) <|
  gd (inb (x3 + (1 : Int32)) (wn r8.2 a0)) <|
  gd (inb (x3 + (2 : Int32)) (wn r8.2 a0)) <|
  gd (inb (x3 + (3 : Int32)) (wn r8.2 a0)) <|
  gd (inb (x3 + (4 : Int32)) (wn r8.2 a0)) <|
  gd (wk r8.2 a2 == 13) <|
  gd (Nat.ble (wz r8.2 + 0) (z0 + 600000) && Nat.ble (wq r8.2 + 0) (q0 + 7302250)) <|
  (F_M_shared r8.2 a2 (wi r8.2 a0 (Int32.toNatClampNeg (x3 + (1 : Int32)))) (wi r8.2 a0 (Int32.toNatClampNeg (x3 + (2 : Int32)))) (wi r8.2 a0 (Int32.toNatClampNeg (x3 + (3 : Int32)))) (wi r8.2 a0 (Int32.toNatClampNeg (x3 + (4 : Int32))))).bind fun r18 =>
  if r8.1 = r18 then
    let v20 : Int32 := (x3 + (6 : Int32))
    rec18 a0 a1 a2 v20 r8.2
  else
    gd (Nat.ble (wz r8.2) (z0 + 600000) && Nat.ble (wq r8.2) (q0 + 7302250)) <|
    some ((0 : Int32), r8.2)
theorem P_Lw_law_1469 {X : AX} {l : Launch} {G : AG} {z0 q0 : Nat} {rec18 : Nat → Nat → Nat → Int32 → AW → Option (Int32 × AW)} (hX : XOK X b_Lw_law "RedSkyLaw" 4) (hM : XM X l G room_1) {o : Int32 × AW} (hR : XL X o.1) (hrec18 : ∀ (k n : Nat) (a0 : Nat) (a1 : Nat) (a2 : Nat) (x3 : Int32) (w : AW), rec18 a0 a1 a2 x3 w = some o → z0 + k = wz w → q0 + n = wq w → RJ X 4 k n 18 [(0, vr a0), (1, vr a1), (2, vr a2), (3, vi x3)] [] w) (k n : Nat) (a0 : Nat) (a1 : Nat) (a2 : Nat) (x3 : Int32) (w : AW) (h : F_Lw_law_1469 rec18 z0 q0 a0 a1 a2 x3 w = some o) (hzz : z0 + k = wz w) (hqq : q0 + n = wq w) : RJ X 4 k n 1469 [(0, vr a0), (1, vr a1), (2, vr a2), (3, vi x3)] [] w := by
  unfold F_Lw_law_1469 at h
  refine r_aload_n (i := 1) hX d_Lw_law_1469 1 rfl rfl ?_
  refine r_aload_n (i := 0) hX d_Lw_law_1470 0 rfl rfl ?_
  refine r_iload_n (i := 3) hX d_Lw_law_1471 3 rfl rfl ?_
  refine r_iconst (v := (1 : Int32)) hX d_Lw_law_1472 rfl ?_
  refine r_iadd hX d_Lw_law_1473 ?_
  obtain ⟨hk1, h⟩ := gd_e h
  obtain ⟨hg2, h⟩ := gd_e h
  refine r_xald hX hk1 hg2 d_Lw_law_1474 ?_
  refine r_aload_n (i := 0) hX d_Lw_law_1475 0 rfl rfl ?_
  refine r_iload_n (i := 3) hX d_Lw_law_1476 3 rfl rfl ?_
  refine r_iconst (v := (2 : Int32)) hX d_Lw_law_1477 rfl ?_
  refine r_iadd hX d_Lw_law_1478 ?_
  obtain ⟨hg3, h⟩ := gd_e h
  refine r_xald hX hk1 hg3 d_Lw_law_1479 ?_
  refine r_aload_n (i := 0) hX d_Lw_law_1480 0 rfl rfl ?_
  refine r_iload_n (i := 3) hX d_Lw_law_1481 3 rfl rfl ?_
  refine r_iconst (v := (3 : Int32)) hX d_Lw_law_1482 rfl ?_
  refine r_iadd hX d_Lw_law_1483 ?_
  obtain ⟨hg4, h⟩ := gd_e h
  refine r_xald hX hk1 hg4 d_Lw_law_1484 ?_
  refine r_aload_n (i := 0) hX d_Lw_law_1485 0 rfl rfl ?_
  refine r_iload_n (i := 3) hX d_Lw_law_1486 3 rfl rfl ?_
  refine r_iconst (v := (4 : Int32)) hX d_Lw_law_1487 rfl ?_
  refine r_iadd hX d_Lw_law_1488 ?_
  obtain ⟨hg5, h⟩ := gd_e h
  refine r_xald hX hk1 hg5 d_Lw_law_1489 ?_
  obtain ⟨hk6, h⟩ := gd_e h
  obtain ⟨hg7, h⟩ := gd_e h
  obtain ⟨r8, hr9, h⟩ := bd_e h
  refine r_callV1 (As := [_, _, _, _]) hX hM mw_Lw_155 (T_A_shared _ _ _ _ _ _ hr9) (rc_of ci_0 hk6) rfl rfl (al_3 hzz hqq hg7) rfl rfl d_Lw_law_1490 ?_
  obtain ⟨hg10, h⟩ := gd_e h
  refine r_aload_n (i := 2) hX d_Lw_law_1493 2 rfl rfl ?_
  refine r_aload_n (i := 0) hX d_Lw_law_1494 0 rfl rfl ?_
  refine r_iload_n (i := 3) hX d_Lw_law_1495 3 rfl rfl ?_
  refine r_iconst (v := (1 : Int32)) hX d_Lw_law_1496 rfl ?_
  refine r_iadd hX d_Lw_law_1497 ?_
  obtain ⟨hk11, h⟩ := gd_e h
  obtain ⟨hg12, h⟩ := gd_e h
  refine r_xald hX hk11 hg12 d_Lw_law_1498 ?_
  refine r_aload_n (i := 0) hX d_Lw_law_1499 0 rfl rfl ?_
  refine r_iload_n (i := 3) hX d_Lw_law_1500 3 rfl rfl ?_
  refine r_iconst (v := (2 : Int32)) hX d_Lw_law_1501 rfl ?_
  refine r_iadd hX d_Lw_law_1502 ?_
  obtain ⟨hg13, h⟩ := gd_e h
  refine r_xald hX hk11 hg13 d_Lw_law_1503 ?_
  refine r_aload_n (i := 0) hX d_Lw_law_1504 0 rfl rfl ?_
  refine r_iload_n (i := 3) hX d_Lw_law_1505 3 rfl rfl ?_
  refine r_iconst (v := (3 : Int32)) hX d_Lw_law_1506 rfl ?_
  refine r_iadd hX d_Lw_law_1507 ?_
  obtain ⟨hg14, h⟩ := gd_e h
  refine r_xald hX hk11 hg14 d_Lw_law_1508 ?_
  refine r_aload_n (i := 0) hX d_Lw_law_1509 0 rfl rfl ?_
  refine r_iload_n (i := 3) hX d_Lw_law_1510 3 rfl rfl ?_
  refine r_iconst (v := (4 : Int32)) hX d_Lw_law_1511 rfl ?_
  refine r_iadd hX d_Lw_law_1512 ?_
  obtain ⟨hg15, h⟩ := gd_e h
  refine r_xald hX hk11 hg15 d_Lw_law_1513 ?_
  obtain ⟨hk16, h⟩ := gd_e h
  obtain ⟨hg17, h⟩ := gd_e h
  obtain ⟨r18, hr19, h⟩ := bd_e h
  refine r_callV1 (As := [_, _, _, _]) hX hM mw_Lw_158 (T_M_shared _ _ _ _ _ _ hr19) (rc_of ci_12 hk16) rfl rfl (al_3 (al_ck (c := 0) hzz hg10) (al_cq (d := 0) hqq hg10) hg17) rfl rfl d_Lw_law_1514 ?_
  refine r_icmp_eq hX d_Lw_law_1517 rfl h (fun h => ?_) (fun h => ?_)
  · refine r_iinc (i := 3) (v := (6 : Int32)) hX d_Lw_law_1698 3 rfl rfl (by decide) ?_
    refine r_goto hX d_Lw_law_1701 rfl ?_
    exact rj_sub [1, 2, 3, 0] rfl (hrec18 _ _ _ _ _ _ _ h (al_ck (c := 0) hzz hg10) (al_cq (d := 0) hqq hg10))
  · refine r_iconst (v := (0 : Int32)) hX d_Lw_law_1520 rfl ?_
    obtain ⟨hg21, h⟩ := gd_e h
    cases h; exact r_lawret hX hM hR (al_ck (c := 0) hzz hg10) (al_cq (d := 0) hqq hg10) hg21 d_Lw_law_1521
def F_Lw_law_1436 (rec18 : Nat → Nat → Nat → Int32 → AW → Option (Int32 × AW)) (z0 q0 : Nat) (a0 : Nat) (a1 : Nat) (a2 : Nat) (x3 : Int32) (w : AW) : Option (Int32 × AW) :=
  gd (wk w a0 == 110) <|
  gd (inb (x3 + (1 : Int32)) (wn w a0)) <|
  gd (inb (x3 + (2 : Int32)) (wn w a0)) <|
  gd (wk w a1 == 1) <|
  gd (Nat.ble (wz w + 0) (z0 + 600000) && Nat.ble (wq w + 0) (q0 + 7302250)) <|
  (F_A_wrong a1 (wi w a0 (Int32.toNatClampNeg (x3 + (1 : Int32)))) (wi w a0 (Int32.toNatClampNeg (x3 + (2 : Int32)))) w).bind fun r6 =>
  gd ((wz r6.2 == wz w + 0) && (wq r6.2 == wq w + 0)) <|
  gd (wk r6.2 a0 == 110) <|
  gd (inb (x3 + (1 : Int32)) (wn r6.2 a0)) <|
  gd (inb (x3 + (2 : Int32)) (wn r6.2 a0)) <|
  gd (wk r6.2 a2 == 13) <|
  gd (Nat.ble (wz r6.2 + 0) (z0 + 600000) && Nat.ble (wq r6.2 + 0) (q0 + 7302250)) <|
  (F_M_wrong r6.2 a2 (wi r6.2 a0 (Int32.toNatClampNeg (x3 + (1 : Int32)))) (wi r6.2 a0 (Int32.toNatClampNeg (x3 + (2 : Int32))))).bind fun r14 =>
  if r6.1 = r14 then
    let v16 : Int32 := (x3 + (6 : Int32))
    rec18 a0 a1 a2 v16 r6.2
  else
    gd (Nat.ble (wz r6.2) (z0 + 600000) && Nat.ble (wq r6.2) (q0 + 7302250)) <|
    some ((0 : Int32), r6.2)
theorem P_Lw_law_1436 {X : AX} {l : Launch} {G : AG} {z0 q0 : Nat} {rec18 : Nat → Nat → Nat → Int32 → AW → Option (Int32 × AW)} (hX : XOK X b_Lw_law "RedSkyLaw" 4) (hM : XM X l G room_1) {o : Int32 × AW} (hR : XL X o.1) (hrec18 : ∀ (k n : Nat) (a0 : Nat) (a1 : Nat) (a2 : Nat) (x3 : Int32) (w : AW), rec18 a0 a1 a2 x3 w = some o → z0 + k = wz w → q0 + n = wq w → RJ X 4 k n 18 [(0, vr a0), (1, vr a1), (2, vr a2), (3, vi x3)] [] w) (k n : Nat) (a0 : Nat) (a1 : Nat) (a2 : Nat) (x3 : Int32) (w : AW) (h : F_Lw_law_1436 rec18 z0 q0 a0 a1 a2 x3 w = some o) (hzz : z0 + k = wz w) (hqq : q0 + n = wq w) : RJ X 4 k n 1436 [(0, vr a0), (1, vr a1), (2, vr a2), (3, vi x3)] [] w := by
  unfold F_Lw_law_1436 at h
  refine r_aload_n (i := 1) hX d_Lw_law_1436 1 rfl rfl ?_
  refine r_aload_n (i := 0) hX d_Lw_law_1437 0 rfl rfl ?_
  refine r_iload_n (i := 3) hX d_Lw_law_1438 3 rfl rfl ?_
  refine r_iconst (v := (1 : Int32)) hX d_Lw_law_1439 rfl ?_
  refine r_iadd hX d_Lw_law_1440 ?_
  obtain ⟨hk1, h⟩ := gd_e h
  obtain ⟨hg2, h⟩ := gd_e h
  refine r_xald hX hk1 hg2 d_Lw_law_1441 ?_
  refine r_aload_n (i := 0) hX d_Lw_law_1442 0 rfl rfl ?_
  refine r_iload_n (i := 3) hX d_Lw_law_1443 3 rfl rfl ?_
  refine r_iconst (v := (2 : Int32)) hX d_Lw_law_1444 rfl ?_
  refine r_iadd hX d_Lw_law_1445 ?_
  obtain ⟨hg3, h⟩ := gd_e h
  refine r_xald hX hk1 hg3 d_Lw_law_1446 ?_
  obtain ⟨hk4, h⟩ := gd_e h
  obtain ⟨hg5, h⟩ := gd_e h
  obtain ⟨r6, hr7, h⟩ := bd_e h
  refine r_callV1 (As := [_, _]) hX hM mw_Lw_151 (T_A_wrong _ _ _ _ hr7) (rc_of ci_0 hk4) rfl rfl (al_3 hzz hqq hg5) rfl rfl d_Lw_law_1447 ?_
  obtain ⟨hg8, h⟩ := gd_e h
  refine r_aload_n (i := 2) hX d_Lw_law_1450 2 rfl rfl ?_
  refine r_aload_n (i := 0) hX d_Lw_law_1451 0 rfl rfl ?_
  refine r_iload_n (i := 3) hX d_Lw_law_1452 3 rfl rfl ?_
  refine r_iconst (v := (1 : Int32)) hX d_Lw_law_1453 rfl ?_
  refine r_iadd hX d_Lw_law_1454 ?_
  obtain ⟨hk9, h⟩ := gd_e h
  obtain ⟨hg10, h⟩ := gd_e h
  refine r_xald hX hk9 hg10 d_Lw_law_1455 ?_
  refine r_aload_n (i := 0) hX d_Lw_law_1456 0 rfl rfl ?_
  refine r_iload_n (i := 3) hX d_Lw_law_1457 3 rfl rfl ?_
  refine r_iconst (v := (2 : Int32)) hX d_Lw_law_1458 rfl ?_
  refine r_iadd hX d_Lw_law_1459 ?_
  obtain ⟨hg11, h⟩ := gd_e h
  refine r_xald hX hk9 hg11 d_Lw_law_1460 ?_
  obtain ⟨hk12, h⟩ := gd_e h
  obtain ⟨hg13, h⟩ := gd_e h
  obtain ⟨r14, hr15, h⟩ := bd_e h
  refine r_callV1 (As := [_, _]) hX hM mw_Lw_154 (T_M_wrong _ _ _ _ hr15) (rc_of ci_12 hk12) rfl rfl (al_3 (al_ck (c := 0) hzz hg8) (al_cq (d := 0) hqq hg8) hg13) rfl rfl d_Lw_law_1461 ?_
  refine r_icmp_eq hX d_Lw_law_1464 rfl h (fun h => ?_) (fun h => ?_)
  · refine r_iinc (i := 3) (v := (6 : Int32)) hX d_Lw_law_1698 3 rfl rfl (by decide) ?_
    refine r_goto hX d_Lw_law_1701 rfl ?_
    exact rj_sub [1, 2, 3, 0] rfl (hrec18 _ _ _ _ _ _ _ h (al_ck (c := 0) hzz hg8) (al_cq (d := 0) hqq hg8))
  · refine r_iconst (v := (0 : Int32)) hX d_Lw_law_1467 rfl ?_
    obtain ⟨hg17, h⟩ := gd_e h
    cases h; exact r_lawret hX hM hR (al_ck (c := 0) hzz hg8) (al_cq (d := 0) hqq hg8) hg17 d_Lw_law_1468
def F_Lw_law_1393 (rec18 : Nat → Nat → Nat → Int32 → AW → Option (Int32 × AW)) (z0 q0 : Nat) (a0 : Nat) (a1 : Nat) (a2 : Nat) (x3 : Int32) (w : AW) : Option (Int32 × AW) :=
  gd (wk w a0 == 110) <|
  gd (inb (x3 + (1 : Int32)) (wn w a0)) <|
  gd (inb (x3 + (2 : Int32)) (wn w a0)) <|
  gd (inb (x3 + (3 : Int32)) (wn w a0)) <|
  gd (wk w a1 == 1) <|
  gd (Nat.ble (wz w + 0) (z0 + 600000) && Nat.ble (wq w + 0) (q0 + 7302250)) <|
  (F_A_foretell a1 (wi w a0 (Int32.toNatClampNeg (x3 + (1 : Int32)))) (wi w a0 (Int32.toNatClampNeg (x3 + (2 : Int32)))) (wi w a0 (Int32.toNatClampNeg (x3 + (3 : Int32)))) w).bind fun r7 =>
  gd ((wz r7.2 == wz w + 0) && (wq r7.2 == wq w + 0)) <|
  gd (wk r7.2 a0 == 110) <|
  gd (inb (x3 + (1 : Int32)) (wn r7.2 a0)) <|
  gd (inb (x3 + (2 : Int32)) (wn r7.2 a0)) <|
  gd (inb (x3 + (3 : Int32)) (wn r7.2 a0)) <|
  gd (wk r7.2 a2 == 13) <|
  gd (Nat.ble (wz r7.2 + 0) (z0 + 600000) && Nat.ble (wq r7.2 + 0) (q0 + 7302250)) <|
  (F_M_foretell a2 (wi r7.2 a0 (Int32.toNatClampNeg (x3 + (1 : Int32)))) (wi r7.2 a0 (Int32.toNatClampNeg (x3 + (2 : Int32)))) (wi r7.2 a0 (Int32.toNatClampNeg (x3 + (3 : Int32)))) r7.2).bind fun r16 =>
  gd ((wz r16.2 == wz r7.2 + 0) && (wq r16.2 == wq r7.2 + 0)) <|
  if r7.1 = r16.1 then
    let v19 : Int32 := (x3 + (6 : Int32))
    rec18 a0 a1 a2 v19 r16.2
  else
    gd (Nat.ble (wz r16.2) (z0 + 600000) && Nat.ble (wq r16.2) (q0 + 7302250)) <|
    some ((0 : Int32), r16.2)
theorem P_Lw_law_1393 {X : AX} {l : Launch} {G : AG} {z0 q0 : Nat} {rec18 : Nat → Nat → Nat → Int32 → AW → Option (Int32 × AW)} (hX : XOK X b_Lw_law "RedSkyLaw" 4) (hM : XM X l G room_1) {o : Int32 × AW} (hR : XL X o.1) (hrec18 : ∀ (k n : Nat) (a0 : Nat) (a1 : Nat) (a2 : Nat) (x3 : Int32) (w : AW), rec18 a0 a1 a2 x3 w = some o → z0 + k = wz w → q0 + n = wq w → RJ X 4 k n 18 [(0, vr a0), (1, vr a1), (2, vr a2), (3, vi x3)] [] w) (k n : Nat) (a0 : Nat) (a1 : Nat) (a2 : Nat) (x3 : Int32) (w : AW) (h : F_Lw_law_1393 rec18 z0 q0 a0 a1 a2 x3 w = some o) (hzz : z0 + k = wz w) (hqq : q0 + n = wq w) : RJ X 4 k n 1393 [(0, vr a0), (1, vr a1), (2, vr a2), (3, vi x3)] [] w := by
  unfold F_Lw_law_1393 at h
  refine r_aload_n (i := 1) hX d_Lw_law_1393 1 rfl rfl ?_
  refine r_aload_n (i := 0) hX d_Lw_law_1394 0 rfl rfl ?_
  refine r_iload_n (i := 3) hX d_Lw_law_1395 3 rfl rfl ?_
  refine r_iconst (v := (1 : Int32)) hX d_Lw_law_1396 rfl ?_
  refine r_iadd hX d_Lw_law_1397 ?_
  obtain ⟨hk1, h⟩ := gd_e h
  obtain ⟨hg2, h⟩ := gd_e h
  refine r_xald hX hk1 hg2 d_Lw_law_1398 ?_
  refine r_aload_n (i := 0) hX d_Lw_law_1399 0 rfl rfl ?_
  refine r_iload_n (i := 3) hX d_Lw_law_1400 3 rfl rfl ?_
  refine r_iconst (v := (2 : Int32)) hX d_Lw_law_1401 rfl ?_
  refine r_iadd hX d_Lw_law_1402 ?_
  obtain ⟨hg3, h⟩ := gd_e h
  refine r_xald hX hk1 hg3 d_Lw_law_1403 ?_
  refine r_aload_n (i := 0) hX d_Lw_law_1404 0 rfl rfl ?_
  refine r_iload_n (i := 3) hX d_Lw_law_1405 3 rfl rfl ?_
  refine r_iconst (v := (3 : Int32)) hX d_Lw_law_1406 rfl ?_
  refine r_iadd hX d_Lw_law_1407 ?_
  obtain ⟨hg4, h⟩ := gd_e h
  refine r_xald hX hk1 hg4 d_Lw_law_1408 ?_
  obtain ⟨hk5, h⟩ := gd_e h
  obtain ⟨hg6, h⟩ := gd_e h
  obtain ⟨r7, hr8, h⟩ := bd_e h
  refine r_callV1 (As := [_, _, _]) hX hM mw_Lw_147 (T_A_foretell _ _ _ _ _ hr8) (rc_of ci_0 hk5) rfl rfl (al_3 hzz hqq hg6) rfl rfl d_Lw_law_1409 ?_
  obtain ⟨hg9, h⟩ := gd_e h
  refine r_aload_n (i := 2) hX d_Lw_law_1412 2 rfl rfl ?_
  refine r_aload_n (i := 0) hX d_Lw_law_1413 0 rfl rfl ?_
  refine r_iload_n (i := 3) hX d_Lw_law_1414 3 rfl rfl ?_
  refine r_iconst (v := (1 : Int32)) hX d_Lw_law_1415 rfl ?_
  refine r_iadd hX d_Lw_law_1416 ?_
  obtain ⟨hk10, h⟩ := gd_e h
  obtain ⟨hg11, h⟩ := gd_e h
  refine r_xald hX hk10 hg11 d_Lw_law_1417 ?_
  refine r_aload_n (i := 0) hX d_Lw_law_1418 0 rfl rfl ?_
  refine r_iload_n (i := 3) hX d_Lw_law_1419 3 rfl rfl ?_
  refine r_iconst (v := (2 : Int32)) hX d_Lw_law_1420 rfl ?_
  refine r_iadd hX d_Lw_law_1421 ?_
  obtain ⟨hg12, h⟩ := gd_e h
  refine r_xald hX hk10 hg12 d_Lw_law_1422 ?_
  refine r_aload_n (i := 0) hX d_Lw_law_1423 0 rfl rfl ?_
  refine r_iload_n (i := 3) hX d_Lw_law_1424 3 rfl rfl ?_
  refine r_iconst (v := (3 : Int32)) hX d_Lw_law_1425 rfl ?_
  refine r_iadd hX d_Lw_law_1426 ?_
  obtain ⟨hg13, h⟩ := gd_e h
  refine r_xald hX hk10 hg13 d_Lw_law_1427 ?_
  obtain ⟨hk14, h⟩ := gd_e h
  obtain ⟨hg15, h⟩ := gd_e h
  obtain ⟨r16, hr17, h⟩ := bd_e h
  refine r_callV1 (As := [_, _, _]) hX hM mw_Lw_150 (T_M_foretell _ _ _ _ _ hr17) (rc_of ci_12 hk14) rfl rfl (al_3 (al_ck (c := 0) hzz hg9) (al_cq (d := 0) hqq hg9) hg15) rfl rfl d_Lw_law_1428 ?_
  obtain ⟨hg18, h⟩ := gd_e h
  refine r_icmp_eq hX d_Lw_law_1431 rfl h (fun h => ?_) (fun h => ?_)
  · refine r_iinc (i := 3) (v := (6 : Int32)) hX d_Lw_law_1698 3 rfl rfl (by decide) ?_
    refine r_goto hX d_Lw_law_1701 rfl ?_
    exact rj_sub [1, 2, 3, 0] rfl (hrec18 _ _ _ _ _ _ _ h (al_ck (c := 0) (al_ck (c := 0) hzz hg9) hg18) (al_cq (d := 0) (al_cq (d := 0) hqq hg9) hg18))
  · refine r_iconst (v := (0 : Int32)) hX d_Lw_law_1434 rfl ?_
    obtain ⟨hg20, h⟩ := gd_e h
    cases h; exact r_lawret hX hM hR (al_ck (c := 0) (al_ck (c := 0) hzz hg9) hg18) (al_cq (d := 0) (al_cq (d := 0) hqq hg9) hg18) hg20 d_Lw_law_1435
def F_Lw_law_1340 (rec18 : Nat → Nat → Nat → Int32 → AW → Option (Int32 × AW)) (z0 q0 : Nat) (a0 : Nat) (a1 : Nat) (a2 : Nat) (x3 : Int32) (w : AW) : Option (Int32 × AW) :=
  gd (wk w a0 == 110) <|
  gd (inb (x3 + (1 : Int32)) (wn w a0)) <|
  gd (inb (x3 + (2 : Int32)) (wn w a0)) <|
  gd (inb (x3 + (3 : Int32)) (wn w a0)) <|
  gd (inb (x3 + (4 : Int32)) (wn w a0)) <|
  gd (wk w a1 == 1) <|
  gd (Nat.ble (wz w + 0) (z0 + 600000) && Nat.ble (wq w + 0) (q0 + 7302250)) <|
  (F_A_copy a1 (wi w a0 (Int32.toNatClampNeg (x3 + (1 : Int32)))) (wi w a0 (Int32.toNatClampNeg (x3 + (2 : Int32)))) (wi w a0 (Int32.toNatClampNeg (x3 + (3 : Int32)))) (wi w a0 (Int32.toNatClampNeg (x3 + (4 : Int32)))) w).bind fun r8 =>
  gd ((wz r8.2 == wz w + 0) && (wq r8.2 == wq w + 0)) <|
  gd (wk r8.2 a0 == 110) <|
  gd (inb (x3 + (1 : Int32)) (wn r8.2 a0)) <|
  gd (inb (x3 + (2 : Int32)) (wn r8.2 a0)) <|
  gd (inb (x3 + (3 : Int32)) (wn r8.2 a0)) <|
  gd (inb (x3 + (4 : Int32)) (wn r8.2 a0)) <|
  gd (wk r8.2 a2 == 13) <|
  gd (Nat.ble (wz r8.2 + 0) (z0 + 600000) && Nat.ble (wq r8.2 + 0) (q0 + 7302250)) <|
  (F_M_copy a2 (wi r8.2 a0 (Int32.toNatClampNeg (x3 + (1 : Int32)))) (wi r8.2 a0 (Int32.toNatClampNeg (x3 + (2 : Int32)))) (wi r8.2 a0 (Int32.toNatClampNeg (x3 + (3 : Int32)))) (wi r8.2 a0 (Int32.toNatClampNeg (x3 + (4 : Int32)))) r8.2).bind fun r18 =>
  gd ((wz r18.2 == wz r8.2 + 0) && (wq r18.2 == wq r8.2 + 0)) <|
  if r8.1 = r18.1 then
    let v21 : Int32 := (x3 + (6 : Int32))
    rec18 a0 a1 a2 v21 r18.2
  else
    gd (Nat.ble (wz r18.2) (z0 + 600000) && Nat.ble (wq r18.2) (q0 + 7302250)) <|
    some ((0 : Int32), r18.2)
theorem P_Lw_law_1340 {X : AX} {l : Launch} {G : AG} {z0 q0 : Nat} {rec18 : Nat → Nat → Nat → Int32 → AW → Option (Int32 × AW)} (hX : XOK X b_Lw_law "RedSkyLaw" 4) (hM : XM X l G room_1) {o : Int32 × AW} (hR : XL X o.1) (hrec18 : ∀ (k n : Nat) (a0 : Nat) (a1 : Nat) (a2 : Nat) (x3 : Int32) (w : AW), rec18 a0 a1 a2 x3 w = some o → z0 + k = wz w → q0 + n = wq w → RJ X 4 k n 18 [(0, vr a0), (1, vr a1), (2, vr a2), (3, vi x3)] [] w) (k n : Nat) (a0 : Nat) (a1 : Nat) (a2 : Nat) (x3 : Int32) (w : AW) (h : F_Lw_law_1340 rec18 z0 q0 a0 a1 a2 x3 w = some o) (hzz : z0 + k = wz w) (hqq : q0 + n = wq w) : RJ X 4 k n 1340 [(0, vr a0), (1, vr a1), (2, vr a2), (3, vi x3)] [] w := by
  unfold F_Lw_law_1340 at h
  refine r_aload_n (i := 1) hX d_Lw_law_1340 1 rfl rfl ?_
  refine r_aload_n (i := 0) hX d_Lw_law_1341 0 rfl rfl ?_
  refine r_iload_n (i := 3) hX d_Lw_law_1342 3 rfl rfl ?_
  refine r_iconst (v := (1 : Int32)) hX d_Lw_law_1343 rfl ?_
  refine r_iadd hX d_Lw_law_1344 ?_
  obtain ⟨hk1, h⟩ := gd_e h
  obtain ⟨hg2, h⟩ := gd_e h
  refine r_xald hX hk1 hg2 d_Lw_law_1345 ?_
  refine r_aload_n (i := 0) hX d_Lw_law_1346 0 rfl rfl ?_
  refine r_iload_n (i := 3) hX d_Lw_law_1347 3 rfl rfl ?_
  refine r_iconst (v := (2 : Int32)) hX d_Lw_law_1348 rfl ?_
  refine r_iadd hX d_Lw_law_1349 ?_
  obtain ⟨hg3, h⟩ := gd_e h
  refine r_xald hX hk1 hg3 d_Lw_law_1350 ?_
  refine r_aload_n (i := 0) hX d_Lw_law_1351 0 rfl rfl ?_
  refine r_iload_n (i := 3) hX d_Lw_law_1352 3 rfl rfl ?_
  refine r_iconst (v := (3 : Int32)) hX d_Lw_law_1353 rfl ?_
  refine r_iadd hX d_Lw_law_1354 ?_
  obtain ⟨hg4, h⟩ := gd_e h
  refine r_xald hX hk1 hg4 d_Lw_law_1355 ?_
  refine r_aload_n (i := 0) hX d_Lw_law_1356 0 rfl rfl ?_
  refine r_iload_n (i := 3) hX d_Lw_law_1357 3 rfl rfl ?_
  refine r_iconst (v := (4 : Int32)) hX d_Lw_law_1358 rfl ?_
  refine r_iadd hX d_Lw_law_1359 ?_
  obtain ⟨hg5, h⟩ := gd_e h
  refine r_xald hX hk1 hg5 d_Lw_law_1360 ?_
  obtain ⟨hk6, h⟩ := gd_e h
  obtain ⟨hg7, h⟩ := gd_e h
  obtain ⟨r8, hr9, h⟩ := bd_e h
  refine r_callV1 (As := [_, _, _, _]) hX hM mw_Lw_143 (T_A_copy _ _ _ _ _ _ hr9) (rc_of ci_0 hk6) rfl rfl (al_3 hzz hqq hg7) rfl rfl d_Lw_law_1361 ?_
  obtain ⟨hg10, h⟩ := gd_e h
  refine r_aload_n (i := 2) hX d_Lw_law_1364 2 rfl rfl ?_
  refine r_aload_n (i := 0) hX d_Lw_law_1365 0 rfl rfl ?_
  refine r_iload_n (i := 3) hX d_Lw_law_1366 3 rfl rfl ?_
  refine r_iconst (v := (1 : Int32)) hX d_Lw_law_1367 rfl ?_
  refine r_iadd hX d_Lw_law_1368 ?_
  obtain ⟨hk11, h⟩ := gd_e h
  obtain ⟨hg12, h⟩ := gd_e h
  refine r_xald hX hk11 hg12 d_Lw_law_1369 ?_
  refine r_aload_n (i := 0) hX d_Lw_law_1370 0 rfl rfl ?_
  refine r_iload_n (i := 3) hX d_Lw_law_1371 3 rfl rfl ?_
  refine r_iconst (v := (2 : Int32)) hX d_Lw_law_1372 rfl ?_
  refine r_iadd hX d_Lw_law_1373 ?_
  obtain ⟨hg13, h⟩ := gd_e h
  refine r_xald hX hk11 hg13 d_Lw_law_1374 ?_
  refine r_aload_n (i := 0) hX d_Lw_law_1375 0 rfl rfl ?_
  refine r_iload_n (i := 3) hX d_Lw_law_1376 3 rfl rfl ?_
  refine r_iconst (v := (3 : Int32)) hX d_Lw_law_1377 rfl ?_
  refine r_iadd hX d_Lw_law_1378 ?_
  obtain ⟨hg14, h⟩ := gd_e h
  refine r_xald hX hk11 hg14 d_Lw_law_1379 ?_
  refine r_aload_n (i := 0) hX d_Lw_law_1380 0 rfl rfl ?_
  refine r_iload_n (i := 3) hX d_Lw_law_1381 3 rfl rfl ?_
  refine r_iconst (v := (4 : Int32)) hX d_Lw_law_1382 rfl ?_
  refine r_iadd hX d_Lw_law_1383 ?_
  obtain ⟨hg15, h⟩ := gd_e h
  refine r_xald hX hk11 hg15 d_Lw_law_1384 ?_
  obtain ⟨hk16, h⟩ := gd_e h
  obtain ⟨hg17, h⟩ := gd_e h
  obtain ⟨r18, hr19, h⟩ := bd_e h
  refine r_callV1 (As := [_, _, _, _]) hX hM mw_Lw_146 (T_M_copy _ _ _ _ _ _ hr19) (rc_of ci_12 hk16) rfl rfl (al_3 (al_ck (c := 0) hzz hg10) (al_cq (d := 0) hqq hg10) hg17) rfl rfl d_Lw_law_1385 ?_
  obtain ⟨hg20, h⟩ := gd_e h
  refine r_icmp_eq hX d_Lw_law_1388 rfl h (fun h => ?_) (fun h => ?_)
  · refine r_iinc (i := 3) (v := (6 : Int32)) hX d_Lw_law_1698 3 rfl rfl (by decide) ?_
    refine r_goto hX d_Lw_law_1701 rfl ?_
    exact rj_sub [1, 2, 3, 0] rfl (hrec18 _ _ _ _ _ _ _ h (al_ck (c := 0) (al_ck (c := 0) hzz hg10) hg20) (al_cq (d := 0) (al_cq (d := 0) hqq hg10) hg20))
  · refine r_iconst (v := (0 : Int32)) hX d_Lw_law_1391 rfl ?_
    obtain ⟨hg22, h⟩ := gd_e h
    cases h; exact r_lawret hX hM hR (al_ck (c := 0) (al_ck (c := 0) hzz hg10) hg20) (al_cq (d := 0) (al_cq (d := 0) hqq hg10) hg20) hg22 d_Lw_law_1392
def F_Lw_law_1297 (rec18 : Nat → Nat → Nat → Int32 → AW → Option (Int32 × AW)) (z0 q0 : Nat) (a0 : Nat) (a1 : Nat) (a2 : Nat) (x3 : Int32) (w : AW) : Option (Int32 × AW) :=
  gd (wk w a0 == 110) <|
  gd (inb (x3 + (1 : Int32)) (wn w a0)) <|
  gd (inb (x3 + (2 : Int32)) (wn w a0)) <|
  gd (inb (x3 + (3 : Int32)) (wn w a0)) <|
  gd (wk w a1 == 1) <|
  gd (Nat.ble (wz w + 0) (z0 + 600000) && Nat.ble (wq w + 0) (q0 + 7302250)) <|
  (F_A_draw a1 (wi w a0 (Int32.toNatClampNeg (x3 + (1 : Int32)))) (wi w a0 (Int32.toNatClampNeg (x3 + (2 : Int32)))) (wi w a0 (Int32.toNatClampNeg (x3 + (3 : Int32)))) w).bind fun r7 =>
  gd ((wz r7.2 == wz w + 0) && (wq r7.2 == wq w + 0)) <|
  gd (wk r7.2 a0 == 110) <|
  gd (inb (x3 + (1 : Int32)) (wn r7.2 a0)) <|
  gd (inb (x3 + (2 : Int32)) (wn r7.2 a0)) <|
  gd (inb (x3 + (3 : Int32)) (wn r7.2 a0)) <|
  gd (wk r7.2 a2 == 13) <|
  gd (Nat.ble (wz r7.2 + 0) (z0 + 600000) && Nat.ble (wq r7.2 + 0) (q0 + 7302250)) <|
  (F_M_draw a2 (wi r7.2 a0 (Int32.toNatClampNeg (x3 + (1 : Int32)))) (wi r7.2 a0 (Int32.toNatClampNeg (x3 + (2 : Int32)))) (wi r7.2 a0 (Int32.toNatClampNeg (x3 + (3 : Int32)))) r7.2).bind fun r16 =>
  gd ((wz r16.2 == wz r7.2 + 0) && (wq r16.2 == wq r7.2 + 0)) <|
  if r7.1 = r16.1 then
    let v19 : Int32 := (x3 + (6 : Int32))
    rec18 a0 a1 a2 v19 r16.2
  else
    gd (Nat.ble (wz r16.2) (z0 + 600000) && Nat.ble (wq r16.2) (q0 + 7302250)) <|
    some ((0 : Int32), r16.2)
theorem P_Lw_law_1297 {X : AX} {l : Launch} {G : AG} {z0 q0 : Nat} {rec18 : Nat → Nat → Nat → Int32 → AW → Option (Int32 × AW)} (hX : XOK X b_Lw_law "RedSkyLaw" 4) (hM : XM X l G room_1) {o : Int32 × AW} (hR : XL X o.1) (hrec18 : ∀ (k n : Nat) (a0 : Nat) (a1 : Nat) (a2 : Nat) (x3 : Int32) (w : AW), rec18 a0 a1 a2 x3 w = some o → z0 + k = wz w → q0 + n = wq w → RJ X 4 k n 18 [(0, vr a0), (1, vr a1), (2, vr a2), (3, vi x3)] [] w) (k n : Nat) (a0 : Nat) (a1 : Nat) (a2 : Nat) (x3 : Int32) (w : AW) (h : F_Lw_law_1297 rec18 z0 q0 a0 a1 a2 x3 w = some o) (hzz : z0 + k = wz w) (hqq : q0 + n = wq w) : RJ X 4 k n 1297 [(0, vr a0), (1, vr a1), (2, vr a2), (3, vi x3)] [] w := by
  unfold F_Lw_law_1297 at h
  refine r_aload_n (i := 1) hX d_Lw_law_1297 1 rfl rfl ?_
  refine r_aload_n (i := 0) hX d_Lw_law_1298 0 rfl rfl ?_
  refine r_iload_n (i := 3) hX d_Lw_law_1299 3 rfl rfl ?_
  refine r_iconst (v := (1 : Int32)) hX d_Lw_law_1300 rfl ?_
  refine r_iadd hX d_Lw_law_1301 ?_
  obtain ⟨hk1, h⟩ := gd_e h
  obtain ⟨hg2, h⟩ := gd_e h
  refine r_xald hX hk1 hg2 d_Lw_law_1302 ?_
  refine r_aload_n (i := 0) hX d_Lw_law_1303 0 rfl rfl ?_
  refine r_iload_n (i := 3) hX d_Lw_law_1304 3 rfl rfl ?_
  refine r_iconst (v := (2 : Int32)) hX d_Lw_law_1305 rfl ?_
  refine r_iadd hX d_Lw_law_1306 ?_
  obtain ⟨hg3, h⟩ := gd_e h
  refine r_xald hX hk1 hg3 d_Lw_law_1307 ?_
  refine r_aload_n (i := 0) hX d_Lw_law_1308 0 rfl rfl ?_
  refine r_iload_n (i := 3) hX d_Lw_law_1309 3 rfl rfl ?_
  refine r_iconst (v := (3 : Int32)) hX d_Lw_law_1310 rfl ?_
  refine r_iadd hX d_Lw_law_1311 ?_
  obtain ⟨hg4, h⟩ := gd_e h
  refine r_xald hX hk1 hg4 d_Lw_law_1312 ?_
  obtain ⟨hk5, h⟩ := gd_e h
  obtain ⟨hg6, h⟩ := gd_e h
  obtain ⟨r7, hr8, h⟩ := bd_e h
  refine r_callV1 (As := [_, _, _]) hX hM mw_Lw_139 (T_A_draw _ _ _ _ _ hr8) (rc_of ci_0 hk5) rfl rfl (al_3 hzz hqq hg6) rfl rfl d_Lw_law_1313 ?_
  obtain ⟨hg9, h⟩ := gd_e h
  refine r_aload_n (i := 2) hX d_Lw_law_1316 2 rfl rfl ?_
  refine r_aload_n (i := 0) hX d_Lw_law_1317 0 rfl rfl ?_
  refine r_iload_n (i := 3) hX d_Lw_law_1318 3 rfl rfl ?_
  refine r_iconst (v := (1 : Int32)) hX d_Lw_law_1319 rfl ?_
  refine r_iadd hX d_Lw_law_1320 ?_
  obtain ⟨hk10, h⟩ := gd_e h
  obtain ⟨hg11, h⟩ := gd_e h
  refine r_xald hX hk10 hg11 d_Lw_law_1321 ?_
  refine r_aload_n (i := 0) hX d_Lw_law_1322 0 rfl rfl ?_
  refine r_iload_n (i := 3) hX d_Lw_law_1323 3 rfl rfl ?_
  refine r_iconst (v := (2 : Int32)) hX d_Lw_law_1324 rfl ?_
  refine r_iadd hX d_Lw_law_1325 ?_
  obtain ⟨hg12, h⟩ := gd_e h
  refine r_xald hX hk10 hg12 d_Lw_law_1326 ?_
  refine r_aload_n (i := 0) hX d_Lw_law_1327 0 rfl rfl ?_
  refine r_iload_n (i := 3) hX d_Lw_law_1328 3 rfl rfl ?_
  refine r_iconst (v := (3 : Int32)) hX d_Lw_law_1329 rfl ?_
  refine r_iadd hX d_Lw_law_1330 ?_
  obtain ⟨hg13, h⟩ := gd_e h
  refine r_xald hX hk10 hg13 d_Lw_law_1331 ?_
  obtain ⟨hk14, h⟩ := gd_e h
  obtain ⟨hg15, h⟩ := gd_e h
  obtain ⟨r16, hr17, h⟩ := bd_e h
  refine r_callV1 (As := [_, _, _]) hX hM mw_Lw_142 (T_M_draw _ _ _ _ _ hr17) (rc_of ci_12 hk14) rfl rfl (al_3 (al_ck (c := 0) hzz hg9) (al_cq (d := 0) hqq hg9) hg15) rfl rfl d_Lw_law_1332 ?_
  obtain ⟨hg18, h⟩ := gd_e h
  refine r_icmp_eq hX d_Lw_law_1335 rfl h (fun h => ?_) (fun h => ?_)
  · refine r_iinc (i := 3) (v := (6 : Int32)) hX d_Lw_law_1698 3 rfl rfl (by decide) ?_
    refine r_goto hX d_Lw_law_1701 rfl ?_
    exact rj_sub [1, 2, 3, 0] rfl (hrec18 _ _ _ _ _ _ _ h (al_ck (c := 0) (al_ck (c := 0) hzz hg9) hg18) (al_cq (d := 0) (al_cq (d := 0) hqq hg9) hg18))
  · refine r_iconst (v := (0 : Int32)) hX d_Lw_law_1338 rfl ?_
    obtain ⟨hg20, h⟩ := gd_e h
    cases h; exact r_lawret hX hM hR (al_ck (c := 0) (al_ck (c := 0) hzz hg9) hg18) (al_cq (d := 0) (al_cq (d := 0) hqq hg9) hg18) hg20 d_Lw_law_1339
def F_Lw_law_1264 (rec18 : Nat → Nat → Nat → Int32 → AW → Option (Int32 × AW)) (z0 q0 : Nat) (a0 : Nat) (a1 : Nat) (a2 : Nat) (x3 : Int32) (w : AW) : Option (Int32 × AW) :=
  gd (wk w a0 == 110) <|
  gd (inb (x3 + (1 : Int32)) (wn w a0)) <|
  gd (inb (x3 + (2 : Int32)) (wn w a0)) <|
  gd (wk w a1 == 1) <|
  gd (Nat.ble (wz w + 0) (z0 + 600000) && Nat.ble (wq w + 0) (q0 + 7302250)) <|
  (F_A_age a1 (wi w a0 (Int32.toNatClampNeg (x3 + (1 : Int32)))) (wi w a0 (Int32.toNatClampNeg (x3 + (2 : Int32)))) w).bind fun r6 =>
  gd ((wz r6.2 == wz w + 0) && (wq r6.2 == wq w + 0)) <|
  gd (wk r6.2 a0 == 110) <|
  gd (inb (x3 + (1 : Int32)) (wn r6.2 a0)) <|
  gd (inb (x3 + (2 : Int32)) (wn r6.2 a0)) <|
  gd (wk r6.2 a2 == 13) <|
  gd (Nat.ble (wz r6.2 + 0) (z0 + 600000) && Nat.ble (wq r6.2 + 0) (q0 + 7302250)) <|
  (F_M_age a2 (wi r6.2 a0 (Int32.toNatClampNeg (x3 + (1 : Int32)))) (wi r6.2 a0 (Int32.toNatClampNeg (x3 + (2 : Int32)))) r6.2).bind fun r14 =>
  gd ((wz r14.2 == wz r6.2 + 0) && (wq r14.2 == wq r6.2 + 0)) <|
  if r6.1 = r14.1 then
    let v17 : Int32 := (x3 + (6 : Int32))
    rec18 a0 a1 a2 v17 r14.2
  else
    gd (Nat.ble (wz r14.2) (z0 + 600000) && Nat.ble (wq r14.2) (q0 + 7302250)) <|
    some ((0 : Int32), r14.2)
theorem P_Lw_law_1264 {X : AX} {l : Launch} {G : AG} {z0 q0 : Nat} {rec18 : Nat → Nat → Nat → Int32 → AW → Option (Int32 × AW)} (hX : XOK X b_Lw_law "RedSkyLaw" 4) (hM : XM X l G room_1) {o : Int32 × AW} (hR : XL X o.1) (hrec18 : ∀ (k n : Nat) (a0 : Nat) (a1 : Nat) (a2 : Nat) (x3 : Int32) (w : AW), rec18 a0 a1 a2 x3 w = some o → z0 + k = wz w → q0 + n = wq w → RJ X 4 k n 18 [(0, vr a0), (1, vr a1), (2, vr a2), (3, vi x3)] [] w) (k n : Nat) (a0 : Nat) (a1 : Nat) (a2 : Nat) (x3 : Int32) (w : AW) (h : F_Lw_law_1264 rec18 z0 q0 a0 a1 a2 x3 w = some o) (hzz : z0 + k = wz w) (hqq : q0 + n = wq w) : RJ X 4 k n 1264 [(0, vr a0), (1, vr a1), (2, vr a2), (3, vi x3)] [] w := by
  unfold F_Lw_law_1264 at h
  refine r_aload_n (i := 1) hX d_Lw_law_1264 1 rfl rfl ?_
  refine r_aload_n (i := 0) hX d_Lw_law_1265 0 rfl rfl ?_
  refine r_iload_n (i := 3) hX d_Lw_law_1266 3 rfl rfl ?_
  refine r_iconst (v := (1 : Int32)) hX d_Lw_law_1267 rfl ?_
  refine r_iadd hX d_Lw_law_1268 ?_
  obtain ⟨hk1, h⟩ := gd_e h
  obtain ⟨hg2, h⟩ := gd_e h
  refine r_xald hX hk1 hg2 d_Lw_law_1269 ?_
  refine r_aload_n (i := 0) hX d_Lw_law_1270 0 rfl rfl ?_
  refine r_iload_n (i := 3) hX d_Lw_law_1271 3 rfl rfl ?_
  refine r_iconst (v := (2 : Int32)) hX d_Lw_law_1272 rfl ?_
  refine r_iadd hX d_Lw_law_1273 ?_
  obtain ⟨hg3, h⟩ := gd_e h
  refine r_xald hX hk1 hg3 d_Lw_law_1274 ?_
  obtain ⟨hk4, h⟩ := gd_e h
  obtain ⟨hg5, h⟩ := gd_e h
  obtain ⟨r6, hr7, h⟩ := bd_e h
  refine r_callV1 (As := [_, _]) hX hM mw_Lw_135 (T_A_age _ _ _ _ hr7) (rc_of ci_0 hk4) rfl rfl (al_3 hzz hqq hg5) rfl rfl d_Lw_law_1275 ?_
  obtain ⟨hg8, h⟩ := gd_e h
  refine r_aload_n (i := 2) hX d_Lw_law_1278 2 rfl rfl ?_
  refine r_aload_n (i := 0) hX d_Lw_law_1279 0 rfl rfl ?_
  refine r_iload_n (i := 3) hX d_Lw_law_1280 3 rfl rfl ?_
  refine r_iconst (v := (1 : Int32)) hX d_Lw_law_1281 rfl ?_
  refine r_iadd hX d_Lw_law_1282 ?_
  obtain ⟨hk9, h⟩ := gd_e h
  obtain ⟨hg10, h⟩ := gd_e h
  refine r_xald hX hk9 hg10 d_Lw_law_1283 ?_
  refine r_aload_n (i := 0) hX d_Lw_law_1284 0 rfl rfl ?_
  refine r_iload_n (i := 3) hX d_Lw_law_1285 3 rfl rfl ?_
  refine r_iconst (v := (2 : Int32)) hX d_Lw_law_1286 rfl ?_
  refine r_iadd hX d_Lw_law_1287 ?_
  obtain ⟨hg11, h⟩ := gd_e h
  refine r_xald hX hk9 hg11 d_Lw_law_1288 ?_
  obtain ⟨hk12, h⟩ := gd_e h
  obtain ⟨hg13, h⟩ := gd_e h
  obtain ⟨r14, hr15, h⟩ := bd_e h
  refine r_callV1 (As := [_, _]) hX hM mw_Lw_138 (T_M_age _ _ _ _ hr15) (rc_of ci_12 hk12) rfl rfl (al_3 (al_ck (c := 0) hzz hg8) (al_cq (d := 0) hqq hg8) hg13) rfl rfl d_Lw_law_1289 ?_
  obtain ⟨hg16, h⟩ := gd_e h
  refine r_icmp_eq hX d_Lw_law_1292 rfl h (fun h => ?_) (fun h => ?_)
  · refine r_iinc (i := 3) (v := (6 : Int32)) hX d_Lw_law_1698 3 rfl rfl (by decide) ?_
    refine r_goto hX d_Lw_law_1701 rfl ?_
    exact rj_sub [1, 2, 3, 0] rfl (hrec18 _ _ _ _ _ _ _ h (al_ck (c := 0) (al_ck (c := 0) hzz hg8) hg16) (al_cq (d := 0) (al_cq (d := 0) hqq hg8) hg16))
  · refine r_iconst (v := (0 : Int32)) hX d_Lw_law_1295 rfl ?_
    obtain ⟨hg18, h⟩ := gd_e h
    cases h; exact r_lawret hX hM hR (al_ck (c := 0) (al_ck (c := 0) hzz hg8) hg16) (al_cq (d := 0) (al_cq (d := 0) hqq hg8) hg16) hg18 d_Lw_law_1296
def F_Lw_law_1241 (rec18 : Nat → Nat → Nat → Int32 → AW → Option (Int32 × AW)) (z0 q0 : Nat) (a0 : Nat) (a1 : Nat) (a2 : Nat) (x3 : Int32) (w : AW) : Option (Int32 × AW) :=
  gd (wk w a0 == 110) <|
  gd (inb (x3 + (1 : Int32)) (wn w a0)) <|
  gd (wk w a1 == 1) <|
  gd (Nat.ble (wz w + 0) (z0 + 600000) && Nat.ble (wq w + 0) (q0 + 7302250)) <|
  (F_A_list w a1 (wi w a0 (Int32.toNatClampNeg (x3 + (1 : Int32))))).bind fun r5 =>
  gd (inb (x3 + (1 : Int32)) (wn w a0)) <|
  gd (wk w a2 == 13) <|
  gd (Nat.ble (wz w + 0) (z0 + 600000) && Nat.ble (wq w + 0) (q0 + 7302250)) <|
  (F_M_list w a2 (wi w a0 (Int32.toNatClampNeg (x3 + (1 : Int32))))).bind fun r10 =>
  if r5 = r10 then
    let v12 : Int32 := (x3 + (6 : Int32))
    rec18 a0 a1 a2 v12 w
  else
    gd (Nat.ble (wz w) (z0 + 600000) && Nat.ble (wq w) (q0 + 7302250)) <|
    some ((0 : Int32), w)
theorem P_Lw_law_1241 {X : AX} {l : Launch} {G : AG} {z0 q0 : Nat} {rec18 : Nat → Nat → Nat → Int32 → AW → Option (Int32 × AW)} (hX : XOK X b_Lw_law "RedSkyLaw" 4) (hM : XM X l G room_1) {o : Int32 × AW} (hR : XL X o.1) (hrec18 : ∀ (k n : Nat) (a0 : Nat) (a1 : Nat) (a2 : Nat) (x3 : Int32) (w : AW), rec18 a0 a1 a2 x3 w = some o → z0 + k = wz w → q0 + n = wq w → RJ X 4 k n 18 [(0, vr a0), (1, vr a1), (2, vr a2), (3, vi x3)] [] w) (k n : Nat) (a0 : Nat) (a1 : Nat) (a2 : Nat) (x3 : Int32) (w : AW) (h : F_Lw_law_1241 rec18 z0 q0 a0 a1 a2 x3 w = some o) (hzz : z0 + k = wz w) (hqq : q0 + n = wq w) : RJ X 4 k n 1241 [(0, vr a0), (1, vr a1), (2, vr a2), (3, vi x3)] [] w := by
  unfold F_Lw_law_1241 at h
  refine r_aload_n (i := 1) hX d_Lw_law_1241 1 rfl rfl ?_
  refine r_aload_n (i := 0) hX d_Lw_law_1242 0 rfl rfl ?_
  refine r_iload_n (i := 3) hX d_Lw_law_1243 3 rfl rfl ?_
  refine r_iconst (v := (1 : Int32)) hX d_Lw_law_1244 rfl ?_
  refine r_iadd hX d_Lw_law_1245 ?_
  obtain ⟨hk1, h⟩ := gd_e h
  obtain ⟨hg2, h⟩ := gd_e h
  refine r_xald hX hk1 hg2 d_Lw_law_1246 ?_
  obtain ⟨hk3, h⟩ := gd_e h
  obtain ⟨hg4, h⟩ := gd_e h
  obtain ⟨r5, hr6, h⟩ := bd_e h
  refine r_callV1 (As := [_]) hX hM mw_Lw_131 (T_A_list _ _ _ hr6) (rc_of ci_0 hk3) rfl rfl (al_3 hzz hqq hg4) rfl rfl d_Lw_law_1247 ?_
  refine r_aload_n (i := 2) hX d_Lw_law_1250 2 rfl rfl ?_
  refine r_aload_n (i := 0) hX d_Lw_law_1251 0 rfl rfl ?_
  refine r_iload_n (i := 3) hX d_Lw_law_1252 3 rfl rfl ?_
  refine r_iconst (v := (1 : Int32)) hX d_Lw_law_1253 rfl ?_
  refine r_iadd hX d_Lw_law_1254 ?_
  obtain ⟨hg7, h⟩ := gd_e h
  refine r_xald hX hk1 hg7 d_Lw_law_1255 ?_
  obtain ⟨hk8, h⟩ := gd_e h
  obtain ⟨hg9, h⟩ := gd_e h
  obtain ⟨r10, hr11, h⟩ := bd_e h
  refine r_callV1 (As := [_]) hX hM mw_Lw_134 (T_M_list _ _ _ hr11) (rc_of ci_12 hk8) rfl rfl (al_3 hzz hqq hg9) rfl rfl d_Lw_law_1256 ?_
  refine r_icmp_eq hX d_Lw_law_1259 rfl h (fun h => ?_) (fun h => ?_)
  · refine r_iinc (i := 3) (v := (6 : Int32)) hX d_Lw_law_1698 3 rfl rfl (by decide) ?_
    refine r_goto hX d_Lw_law_1701 rfl ?_
    exact rj_sub [1, 2, 3, 0] rfl (hrec18 _ _ _ _ _ _ _ h hzz hqq)
  · refine r_iconst (v := (0 : Int32)) hX d_Lw_law_1262 rfl ?_
    obtain ⟨hg13, h⟩ := gd_e h
    cases h; exact r_lawret hX hM hR hzz hqq hg13 d_Lw_law_1263
def F_Lw_law_1218 (rec18 : Nat → Nat → Nat → Int32 → AW → Option (Int32 × AW)) (z0 q0 : Nat) (a0 : Nat) (a1 : Nat) (a2 : Nat) (x3 : Int32) (w : AW) : Option (Int32 × AW) :=
  gd (wk w a0 == 110) <|
  gd (inb (x3 + (1 : Int32)) (wn w a0)) <|
  gd (wk w a1 == 1) <|
  gd (Nat.ble (wz w + 0) (z0 + 600000) && Nat.ble (wq w + 0) (q0 + 7302250)) <|
  (F_A_entry w a1 (wi w a0 (Int32.toNatClampNeg (x3 + (1 : Int32))))).bind fun r5 =>
  gd (inb (x3 + (1 : Int32)) (wn w a0)) <|
  gd (wk w a2 == 13) <|
  gd (Nat.ble (wz w + 0) (z0 + 600000) && Nat.ble (wq w + 0) (q0 + 7302250)) <|
  (F_M_entry w a2 (wi w a0 (Int32.toNatClampNeg (x3 + (1 : Int32))))).bind fun r10 =>
  if r5 = r10 then
    let v12 : Int32 := (x3 + (6 : Int32))
    rec18 a0 a1 a2 v12 w
  else
    gd (Nat.ble (wz w) (z0 + 600000) && Nat.ble (wq w) (q0 + 7302250)) <|
    some ((0 : Int32), w)
theorem P_Lw_law_1218 {X : AX} {l : Launch} {G : AG} {z0 q0 : Nat} {rec18 : Nat → Nat → Nat → Int32 → AW → Option (Int32 × AW)} (hX : XOK X b_Lw_law "RedSkyLaw" 4) (hM : XM X l G room_1) {o : Int32 × AW} (hR : XL X o.1) (hrec18 : ∀ (k n : Nat) (a0 : Nat) (a1 : Nat) (a2 : Nat) (x3 : Int32) (w : AW), rec18 a0 a1 a2 x3 w = some o → z0 + k = wz w → q0 + n = wq w → RJ X 4 k n 18 [(0, vr a0), (1, vr a1), (2, vr a2), (3, vi x3)] [] w) (k n : Nat) (a0 : Nat) (a1 : Nat) (a2 : Nat) (x3 : Int32) (w : AW) (h : F_Lw_law_1218 rec18 z0 q0 a0 a1 a2 x3 w = some o) (hzz : z0 + k = wz w) (hqq : q0 + n = wq w) : RJ X 4 k n 1218 [(0, vr a0), (1, vr a1), (2, vr a2), (3, vi x3)] [] w := by
  unfold F_Lw_law_1218 at h
  refine r_aload_n (i := 1) hX d_Lw_law_1218 1 rfl rfl ?_
  refine r_aload_n (i := 0) hX d_Lw_law_1219 0 rfl rfl ?_
  refine r_iload_n (i := 3) hX d_Lw_law_1220 3 rfl rfl ?_
  refine r_iconst (v := (1 : Int32)) hX d_Lw_law_1221 rfl ?_
  refine r_iadd hX d_Lw_law_1222 ?_
  obtain ⟨hk1, h⟩ := gd_e h
  obtain ⟨hg2, h⟩ := gd_e h
  refine r_xald hX hk1 hg2 d_Lw_law_1223 ?_
  obtain ⟨hk3, h⟩ := gd_e h
  obtain ⟨hg4, h⟩ := gd_e h
  obtain ⟨r5, hr6, h⟩ := bd_e h
  refine r_callV1 (As := [_]) hX hM mw_Lw_127 (T_A_entry _ _ _ hr6) (rc_of ci_0 hk3) rfl rfl (al_3 hzz hqq hg4) rfl rfl d_Lw_law_1224 ?_
  refine r_aload_n (i := 2) hX d_Lw_law_1227 2 rfl rfl ?_
  refine r_aload_n (i := 0) hX d_Lw_law_1228 0 rfl rfl ?_
  refine r_iload_n (i := 3) hX d_Lw_law_1229 3 rfl rfl ?_
  refine r_iconst (v := (1 : Int32)) hX d_Lw_law_1230 rfl ?_
  refine r_iadd hX d_Lw_law_1231 ?_
  obtain ⟨hg7, h⟩ := gd_e h
  refine r_xald hX hk1 hg7 d_Lw_law_1232 ?_
  obtain ⟨hk8, h⟩ := gd_e h
  obtain ⟨hg9, h⟩ := gd_e h
  obtain ⟨r10, hr11, h⟩ := bd_e h
  refine r_callV1 (As := [_]) hX hM mw_Lw_130 (T_M_entry _ _ _ hr11) (rc_of ci_12 hk8) rfl rfl (al_3 hzz hqq hg9) rfl rfl d_Lw_law_1233 ?_
  refine r_icmp_eq hX d_Lw_law_1236 rfl h (fun h => ?_) (fun h => ?_)
  · refine r_iinc (i := 3) (v := (6 : Int32)) hX d_Lw_law_1698 3 rfl rfl (by decide) ?_
    refine r_goto hX d_Lw_law_1701 rfl ?_
    exact rj_sub [1, 2, 3, 0] rfl (hrec18 _ _ _ _ _ _ _ h hzz hqq)
  · refine r_iconst (v := (0 : Int32)) hX d_Lw_law_1239 rfl ?_
    obtain ⟨hg13, h⟩ := gd_e h
    cases h; exact r_lawret hX hM hR hzz hqq hg13 d_Lw_law_1240
def F_Lw_law_1165 (rec18 : Nat → Nat → Nat → Int32 → AW → Option (Int32 × AW)) (z0 q0 : Nat) (a0 : Nat) (a1 : Nat) (a2 : Nat) (x3 : Int32) (w : AW) : Option (Int32 × AW) :=
  gd (wk w a0 == 110) <|
  gd (inb (x3 + (1 : Int32)) (wn w a0)) <|
  gd (inb (x3 + (2 : Int32)) (wn w a0)) <|
  gd (inb (x3 + (3 : Int32)) (wn w a0)) <|
  gd (inb (x3 + (4 : Int32)) (wn w a0)) <|
  gd (wk w a1 == 1) <|
  gd (Nat.ble (wz w + 0) (z0 + 600000) && Nat.ble (wq w + 0) (q0 + 7302250)) <|
  (F_A_learn a1 (wi w a0 (Int32.toNatClampNeg (x3 + (1 : Int32)))) (wi w a0 (Int32.toNatClampNeg (x3 + (2 : Int32)))) (wi w a0 (Int32.toNatClampNeg (x3 + (3 : Int32)))) (wi w a0 (Int32.toNatClampNeg (x3 + (4 : Int32)))) w).bind fun r8 =>
  gd ((wz r8.2 == wz w + 0) && (wq r8.2 == wq w + 0)) <|
  gd (wk r8.2 a0 == 110) <|
  gd (inb (x3 + (1 : Int32)) (wn r8.2 a0)) <|
  gd (inb (x3 + (2 : Int32)) (wn r8.2 a0)) <|
  gd (inb (x3 + (3 : Int32)) (wn r8.2 a0)) <|
  gd (inb (x3 + (4 : Int32)) (wn r8.2 a0)) <|
  gd (wk r8.2 a2 == 13) <|
  gd (Nat.ble (wz r8.2 + 0) (z0 + 600000) && Nat.ble (wq r8.2 + 0) (q0 + 7302250)) <|
  (F_M_learn a2 (wi r8.2 a0 (Int32.toNatClampNeg (x3 + (1 : Int32)))) (wi r8.2 a0 (Int32.toNatClampNeg (x3 + (2 : Int32)))) (wi r8.2 a0 (Int32.toNatClampNeg (x3 + (3 : Int32)))) (wi r8.2 a0 (Int32.toNatClampNeg (x3 + (4 : Int32)))) r8.2).bind fun r18 =>
  gd ((wz r18.2 == wz r8.2 + 0) && (wq r18.2 == wq r8.2 + 0)) <|
  if r8.1 = r18.1 then
    let v21 : Int32 := (x3 + (6 : Int32))
    rec18 a0 a1 a2 v21 r18.2
  else
    gd (Nat.ble (wz r18.2) (z0 + 600000) && Nat.ble (wq r18.2) (q0 + 7302250)) <|
    some ((0 : Int32), r18.2)
theorem P_Lw_law_1165 {X : AX} {l : Launch} {G : AG} {z0 q0 : Nat} {rec18 : Nat → Nat → Nat → Int32 → AW → Option (Int32 × AW)} (hX : XOK X b_Lw_law "RedSkyLaw" 4) (hM : XM X l G room_1) {o : Int32 × AW} (hR : XL X o.1) (hrec18 : ∀ (k n : Nat) (a0 : Nat) (a1 : Nat) (a2 : Nat) (x3 : Int32) (w : AW), rec18 a0 a1 a2 x3 w = some o → z0 + k = wz w → q0 + n = wq w → RJ X 4 k n 18 [(0, vr a0), (1, vr a1), (2, vr a2), (3, vi x3)] [] w) (k n : Nat) (a0 : Nat) (a1 : Nat) (a2 : Nat) (x3 : Int32) (w : AW) (h : F_Lw_law_1165 rec18 z0 q0 a0 a1 a2 x3 w = some o) (hzz : z0 + k = wz w) (hqq : q0 + n = wq w) : RJ X 4 k n 1165 [(0, vr a0), (1, vr a1), (2, vr a2), (3, vi x3)] [] w := by
  unfold F_Lw_law_1165 at h
  refine r_aload_n (i := 1) hX d_Lw_law_1165 1 rfl rfl ?_
  refine r_aload_n (i := 0) hX d_Lw_law_1166 0 rfl rfl ?_
  refine r_iload_n (i := 3) hX d_Lw_law_1167 3 rfl rfl ?_
  refine r_iconst (v := (1 : Int32)) hX d_Lw_law_1168 rfl ?_
  refine r_iadd hX d_Lw_law_1169 ?_
  obtain ⟨hk1, h⟩ := gd_e h
  obtain ⟨hg2, h⟩ := gd_e h
  refine r_xald hX hk1 hg2 d_Lw_law_1170 ?_
  refine r_aload_n (i := 0) hX d_Lw_law_1171 0 rfl rfl ?_
  refine r_iload_n (i := 3) hX d_Lw_law_1172 3 rfl rfl ?_
  refine r_iconst (v := (2 : Int32)) hX d_Lw_law_1173 rfl ?_
  refine r_iadd hX d_Lw_law_1174 ?_
  obtain ⟨hg3, h⟩ := gd_e h
  refine r_xald hX hk1 hg3 d_Lw_law_1175 ?_
  refine r_aload_n (i := 0) hX d_Lw_law_1176 0 rfl rfl ?_
  refine r_iload_n (i := 3) hX d_Lw_law_1177 3 rfl rfl ?_
  refine r_iconst (v := (3 : Int32)) hX d_Lw_law_1178 rfl ?_
  refine r_iadd hX d_Lw_law_1179 ?_
  obtain ⟨hg4, h⟩ := gd_e h
  refine r_xald hX hk1 hg4 d_Lw_law_1180 ?_
  refine r_aload_n (i := 0) hX d_Lw_law_1181 0 rfl rfl ?_
  refine r_iload_n (i := 3) hX d_Lw_law_1182 3 rfl rfl ?_
  refine r_iconst (v := (4 : Int32)) hX d_Lw_law_1183 rfl ?_
  refine r_iadd hX d_Lw_law_1184 ?_
  obtain ⟨hg5, h⟩ := gd_e h
  refine r_xald hX hk1 hg5 d_Lw_law_1185 ?_
  obtain ⟨hk6, h⟩ := gd_e h
  obtain ⟨hg7, h⟩ := gd_e h
  obtain ⟨r8, hr9, h⟩ := bd_e h
  refine r_callV1 (As := [_, _, _, _]) hX hM mw_Lw_123 (T_A_learn _ _ _ _ _ _ hr9) (rc_of ci_0 hk6) rfl rfl (al_3 hzz hqq hg7) rfl rfl d_Lw_law_1186 ?_
  obtain ⟨hg10, h⟩ := gd_e h
  refine r_aload_n (i := 2) hX d_Lw_law_1189 2 rfl rfl ?_
  refine r_aload_n (i := 0) hX d_Lw_law_1190 0 rfl rfl ?_
  refine r_iload_n (i := 3) hX d_Lw_law_1191 3 rfl rfl ?_
  refine r_iconst (v := (1 : Int32)) hX d_Lw_law_1192 rfl ?_
  refine r_iadd hX d_Lw_law_1193 ?_
  obtain ⟨hk11, h⟩ := gd_e h
  obtain ⟨hg12, h⟩ := gd_e h
  refine r_xald hX hk11 hg12 d_Lw_law_1194 ?_
  refine r_aload_n (i := 0) hX d_Lw_law_1195 0 rfl rfl ?_
  refine r_iload_n (i := 3) hX d_Lw_law_1196 3 rfl rfl ?_
  refine r_iconst (v := (2 : Int32)) hX d_Lw_law_1197 rfl ?_
  refine r_iadd hX d_Lw_law_1198 ?_
  obtain ⟨hg13, h⟩ := gd_e h
  refine r_xald hX hk11 hg13 d_Lw_law_1199 ?_
  refine r_aload_n (i := 0) hX d_Lw_law_1200 0 rfl rfl ?_
  refine r_iload_n (i := 3) hX d_Lw_law_1201 3 rfl rfl ?_
  refine r_iconst (v := (3 : Int32)) hX d_Lw_law_1202 rfl ?_
  refine r_iadd hX d_Lw_law_1203 ?_
  obtain ⟨hg14, h⟩ := gd_e h
  refine r_xald hX hk11 hg14 d_Lw_law_1204 ?_
  refine r_aload_n (i := 0) hX d_Lw_law_1205 0 rfl rfl ?_
  refine r_iload_n (i := 3) hX d_Lw_law_1206 3 rfl rfl ?_
  refine r_iconst (v := (4 : Int32)) hX d_Lw_law_1207 rfl ?_
  refine r_iadd hX d_Lw_law_1208 ?_
  obtain ⟨hg15, h⟩ := gd_e h
  refine r_xald hX hk11 hg15 d_Lw_law_1209 ?_
  obtain ⟨hk16, h⟩ := gd_e h
  obtain ⟨hg17, h⟩ := gd_e h
  obtain ⟨r18, hr19, h⟩ := bd_e h
  refine r_callV1 (As := [_, _, _, _]) hX hM mw_Lw_126 (T_M_learn _ _ _ _ _ _ hr19) (rc_of ci_12 hk16) rfl rfl (al_3 (al_ck (c := 0) hzz hg10) (al_cq (d := 0) hqq hg10) hg17) rfl rfl d_Lw_law_1210 ?_
  obtain ⟨hg20, h⟩ := gd_e h
  refine r_icmp_eq hX d_Lw_law_1213 rfl h (fun h => ?_) (fun h => ?_)
  · refine r_iinc (i := 3) (v := (6 : Int32)) hX d_Lw_law_1698 3 rfl rfl (by decide) ?_
    refine r_goto hX d_Lw_law_1701 rfl ?_
    exact rj_sub [1, 2, 3, 0] rfl (hrec18 _ _ _ _ _ _ _ h (al_ck (c := 0) (al_ck (c := 0) hzz hg10) hg20) (al_cq (d := 0) (al_cq (d := 0) hqq hg10) hg20))
  · refine r_iconst (v := (0 : Int32)) hX d_Lw_law_1216 rfl ?_
    obtain ⟨hg22, h⟩ := gd_e h
    cases h; exact r_lawret hX hM hR (al_ck (c := 0) (al_ck (c := 0) hzz hg10) hg20) (al_cq (d := 0) (al_cq (d := 0) hqq hg10) hg20) hg22 d_Lw_law_1217
def F_Lw_law_1142 (rec18 : Nat → Nat → Nat → Int32 → AW → Option (Int32 × AW)) (z0 q0 : Nat) (a0 : Nat) (a1 : Nat) (a2 : Nat) (x3 : Int32) (w : AW) : Option (Int32 × AW) :=
  gd (wk w a0 == 110) <|
  gd (inb (x3 + (1 : Int32)) (wn w a0)) <|
  gd (wk w a1 == 1) <|
  gd (Nat.ble (wz w + 0) (z0 + 600000) && Nat.ble (wq w + 0) (q0 + 7302250)) <|
  (F_A_home a1 (wi w a0 (Int32.toNatClampNeg (x3 + (1 : Int32)))) w).bind fun r5 =>
  gd ((wz r5.2 == wz w + 0) && (wq r5.2 == wq w + 0)) <|
  gd (wk r5.2 a0 == 110) <|
  gd (inb (x3 + (1 : Int32)) (wn r5.2 a0)) <|
  gd (wk r5.2 a2 == 13) <|
  gd (Nat.ble (wz r5.2 + 0) (z0 + 600000) && Nat.ble (wq r5.2 + 0) (q0 + 7302250)) <|
  (F_M_home a2 (wi r5.2 a0 (Int32.toNatClampNeg (x3 + (1 : Int32)))) r5.2).bind fun r12 =>
  gd ((wz r12.2 == wz r5.2 + 0) && (wq r12.2 == wq r5.2 + 0)) <|
  if r5.1 = r12.1 then
    let v15 : Int32 := (x3 + (6 : Int32))
    rec18 a0 a1 a2 v15 r12.2
  else
    gd (Nat.ble (wz r12.2) (z0 + 600000) && Nat.ble (wq r12.2) (q0 + 7302250)) <|
    some ((0 : Int32), r12.2)
theorem P_Lw_law_1142 {X : AX} {l : Launch} {G : AG} {z0 q0 : Nat} {rec18 : Nat → Nat → Nat → Int32 → AW → Option (Int32 × AW)} (hX : XOK X b_Lw_law "RedSkyLaw" 4) (hM : XM X l G room_1) {o : Int32 × AW} (hR : XL X o.1) (hrec18 : ∀ (k n : Nat) (a0 : Nat) (a1 : Nat) (a2 : Nat) (x3 : Int32) (w : AW), rec18 a0 a1 a2 x3 w = some o → z0 + k = wz w → q0 + n = wq w → RJ X 4 k n 18 [(0, vr a0), (1, vr a1), (2, vr a2), (3, vi x3)] [] w) (k n : Nat) (a0 : Nat) (a1 : Nat) (a2 : Nat) (x3 : Int32) (w : AW) (h : F_Lw_law_1142 rec18 z0 q0 a0 a1 a2 x3 w = some o) (hzz : z0 + k = wz w) (hqq : q0 + n = wq w) : RJ X 4 k n 1142 [(0, vr a0), (1, vr a1), (2, vr a2), (3, vi x3)] [] w := by
  unfold F_Lw_law_1142 at h
  refine r_aload_n (i := 1) hX d_Lw_law_1142 1 rfl rfl ?_
  refine r_aload_n (i := 0) hX d_Lw_law_1143 0 rfl rfl ?_
  refine r_iload_n (i := 3) hX d_Lw_law_1144 3 rfl rfl ?_
  refine r_iconst (v := (1 : Int32)) hX d_Lw_law_1145 rfl ?_
  refine r_iadd hX d_Lw_law_1146 ?_
  obtain ⟨hk1, h⟩ := gd_e h
  obtain ⟨hg2, h⟩ := gd_e h
  refine r_xald hX hk1 hg2 d_Lw_law_1147 ?_
  obtain ⟨hk3, h⟩ := gd_e h
  obtain ⟨hg4, h⟩ := gd_e h
  obtain ⟨r5, hr6, h⟩ := bd_e h
  refine r_callV1 (As := [_]) hX hM mw_Lw_119 (T_A_home _ _ _ hr6) (rc_of ci_0 hk3) rfl rfl (al_3 hzz hqq hg4) rfl rfl d_Lw_law_1148 ?_
  obtain ⟨hg7, h⟩ := gd_e h
  refine r_aload_n (i := 2) hX d_Lw_law_1151 2 rfl rfl ?_
  refine r_aload_n (i := 0) hX d_Lw_law_1152 0 rfl rfl ?_
  refine r_iload_n (i := 3) hX d_Lw_law_1153 3 rfl rfl ?_
  refine r_iconst (v := (1 : Int32)) hX d_Lw_law_1154 rfl ?_
  refine r_iadd hX d_Lw_law_1155 ?_
  obtain ⟨hk8, h⟩ := gd_e h
  obtain ⟨hg9, h⟩ := gd_e h
  refine r_xald hX hk8 hg9 d_Lw_law_1156 ?_
  obtain ⟨hk10, h⟩ := gd_e h
  obtain ⟨hg11, h⟩ := gd_e h
  obtain ⟨r12, hr13, h⟩ := bd_e h
  refine r_callV1 (As := [_]) hX hM mw_Lw_122 (T_M_home _ _ _ hr13) (rc_of ci_12 hk10) rfl rfl (al_3 (al_ck (c := 0) hzz hg7) (al_cq (d := 0) hqq hg7) hg11) rfl rfl d_Lw_law_1157 ?_
  obtain ⟨hg14, h⟩ := gd_e h
  refine r_icmp_eq hX d_Lw_law_1160 rfl h (fun h => ?_) (fun h => ?_)
  · refine r_iinc (i := 3) (v := (6 : Int32)) hX d_Lw_law_1698 3 rfl rfl (by decide) ?_
    refine r_goto hX d_Lw_law_1701 rfl ?_
    exact rj_sub [1, 2, 3, 0] rfl (hrec18 _ _ _ _ _ _ _ h (al_ck (c := 0) (al_ck (c := 0) hzz hg7) hg14) (al_cq (d := 0) (al_cq (d := 0) hqq hg7) hg14))
  · refine r_iconst (v := (0 : Int32)) hX d_Lw_law_1163 rfl ?_
    obtain ⟨hg16, h⟩ := gd_e h
    cases h; exact r_lawret hX hM hR (al_ck (c := 0) (al_ck (c := 0) hzz hg7) hg14) (al_cq (d := 0) (al_cq (d := 0) hqq hg7) hg14) hg16 d_Lw_law_1164
def F_Lw_law_1109 (rec18 : Nat → Nat → Nat → Int32 → AW → Option (Int32 × AW)) (z0 q0 : Nat) (a0 : Nat) (a1 : Nat) (a2 : Nat) (x3 : Int32) (w : AW) : Option (Int32 × AW) :=
  gd (wk w a0 == 110) <|
  gd (inb (x3 + (1 : Int32)) (wn w a0)) <|
  gd (inb (x3 + (2 : Int32)) (wn w a0)) <|
  gd (wk w a1 == 1) <|
  gd (Nat.ble (wz w + 0) (z0 + 600000) && Nat.ble (wq w + 0) (q0 + 7302250)) <|
  (F_A_one a1 (wi w a0 (Int32.toNatClampNeg (x3 + (1 : Int32)))) (wi w a0 (Int32.toNatClampNeg (x3 + (2 : Int32)))) w).bind fun r6 =>
  gd ((wz r6.2 == wz w + 0) && (wq r6.2 == wq w + 0)) <|
  gd (wk r6.2 a0 == 110) <|
  gd (inb (x3 + (1 : Int32)) (wn r6.2 a0)) <|
  gd (inb (x3 + (2 : Int32)) (wn r6.2 a0)) <|
  gd (wk r6.2 a2 == 13) <|
  gd (Nat.ble (wz r6.2 + 0) (z0 + 600000) && Nat.ble (wq r6.2 + 0) (q0 + 7302250)) <|
  (F_M_one a2 (wi r6.2 a0 (Int32.toNatClampNeg (x3 + (1 : Int32)))) (wi r6.2 a0 (Int32.toNatClampNeg (x3 + (2 : Int32)))) r6.2).bind fun r14 =>
  gd ((wz r14.2 == wz r6.2 + 0) && (wq r14.2 == wq r6.2 + 0)) <|
  if r6.1 = r14.1 then
    let v17 : Int32 := (x3 + (6 : Int32))
    rec18 a0 a1 a2 v17 r14.2
  else
    gd (Nat.ble (wz r14.2) (z0 + 600000) && Nat.ble (wq r14.2) (q0 + 7302250)) <|
    some ((0 : Int32), r14.2)
theorem P_Lw_law_1109 {X : AX} {l : Launch} {G : AG} {z0 q0 : Nat} {rec18 : Nat → Nat → Nat → Int32 → AW → Option (Int32 × AW)} (hX : XOK X b_Lw_law "RedSkyLaw" 4) (hM : XM X l G room_1) {o : Int32 × AW} (hR : XL X o.1) (hrec18 : ∀ (k n : Nat) (a0 : Nat) (a1 : Nat) (a2 : Nat) (x3 : Int32) (w : AW), rec18 a0 a1 a2 x3 w = some o → z0 + k = wz w → q0 + n = wq w → RJ X 4 k n 18 [(0, vr a0), (1, vr a1), (2, vr a2), (3, vi x3)] [] w) (k n : Nat) (a0 : Nat) (a1 : Nat) (a2 : Nat) (x3 : Int32) (w : AW) (h : F_Lw_law_1109 rec18 z0 q0 a0 a1 a2 x3 w = some o) (hzz : z0 + k = wz w) (hqq : q0 + n = wq w) : RJ X 4 k n 1109 [(0, vr a0), (1, vr a1), (2, vr a2), (3, vi x3)] [] w := by
  unfold F_Lw_law_1109 at h
  refine r_aload_n (i := 1) hX d_Lw_law_1109 1 rfl rfl ?_
  refine r_aload_n (i := 0) hX d_Lw_law_1110 0 rfl rfl ?_
  refine r_iload_n (i := 3) hX d_Lw_law_1111 3 rfl rfl ?_
  refine r_iconst (v := (1 : Int32)) hX d_Lw_law_1112 rfl ?_
  refine r_iadd hX d_Lw_law_1113 ?_
  obtain ⟨hk1, h⟩ := gd_e h
  obtain ⟨hg2, h⟩ := gd_e h
  refine r_xald hX hk1 hg2 d_Lw_law_1114 ?_
  refine r_aload_n (i := 0) hX d_Lw_law_1115 0 rfl rfl ?_
  refine r_iload_n (i := 3) hX d_Lw_law_1116 3 rfl rfl ?_
  refine r_iconst (v := (2 : Int32)) hX d_Lw_law_1117 rfl ?_
  refine r_iadd hX d_Lw_law_1118 ?_
  obtain ⟨hg3, h⟩ := gd_e h
  refine r_xald hX hk1 hg3 d_Lw_law_1119 ?_
  obtain ⟨hk4, h⟩ := gd_e h
  obtain ⟨hg5, h⟩ := gd_e h
  obtain ⟨r6, hr7, h⟩ := bd_e h
  refine r_callV1 (As := [_, _]) hX hM mw_Lw_115 (T_A_one _ _ _ _ hr7) (rc_of ci_0 hk4) rfl rfl (al_3 hzz hqq hg5) rfl rfl d_Lw_law_1120 ?_
  obtain ⟨hg8, h⟩ := gd_e h
  refine r_aload_n (i := 2) hX d_Lw_law_1123 2 rfl rfl ?_
  refine r_aload_n (i := 0) hX d_Lw_law_1124 0 rfl rfl ?_
  refine r_iload_n (i := 3) hX d_Lw_law_1125 3 rfl rfl ?_
  refine r_iconst (v := (1 : Int32)) hX d_Lw_law_1126 rfl ?_
  refine r_iadd hX d_Lw_law_1127 ?_
  obtain ⟨hk9, h⟩ := gd_e h
  obtain ⟨hg10, h⟩ := gd_e h
  refine r_xald hX hk9 hg10 d_Lw_law_1128 ?_
  refine r_aload_n (i := 0) hX d_Lw_law_1129 0 rfl rfl ?_
  refine r_iload_n (i := 3) hX d_Lw_law_1130 3 rfl rfl ?_
  refine r_iconst (v := (2 : Int32)) hX d_Lw_law_1131 rfl ?_
  refine r_iadd hX d_Lw_law_1132 ?_
  obtain ⟨hg11, h⟩ := gd_e h
  refine r_xald hX hk9 hg11 d_Lw_law_1133 ?_
  obtain ⟨hk12, h⟩ := gd_e h
  obtain ⟨hg13, h⟩ := gd_e h
  obtain ⟨r14, hr15, h⟩ := bd_e h
  refine r_callV1 (As := [_, _]) hX hM mw_Lw_118 (T_M_one _ _ _ _ hr15) (rc_of ci_12 hk12) rfl rfl (al_3 (al_ck (c := 0) hzz hg8) (al_cq (d := 0) hqq hg8) hg13) rfl rfl d_Lw_law_1134 ?_
  obtain ⟨hg16, h⟩ := gd_e h
  refine r_icmp_eq hX d_Lw_law_1137 rfl h (fun h => ?_) (fun h => ?_)
  · refine r_iinc (i := 3) (v := (6 : Int32)) hX d_Lw_law_1698 3 rfl rfl (by decide) ?_
    refine r_goto hX d_Lw_law_1701 rfl ?_
    exact rj_sub [1, 2, 3, 0] rfl (hrec18 _ _ _ _ _ _ _ h (al_ck (c := 0) (al_ck (c := 0) hzz hg8) hg16) (al_cq (d := 0) (al_cq (d := 0) hqq hg8) hg16))
  · refine r_iconst (v := (0 : Int32)) hX d_Lw_law_1140 rfl ?_
    obtain ⟨hg18, h⟩ := gd_e h
    cases h; exact r_lawret hX hM hR (al_ck (c := 0) (al_ck (c := 0) hzz hg8) hg16) (al_cq (d := 0) (al_cq (d := 0) hqq hg8) hg16) hg18 d_Lw_law_1141
def F_Lw_law_1066 (rec18 : Nat → Nat → Nat → Int32 → AW → Option (Int32 × AW)) (z0 q0 : Nat) (a0 : Nat) (a1 : Nat) (a2 : Nat) (x3 : Int32) (w : AW) : Option (Int32 × AW) :=
  gd (wk w a0 == 110) <|
  gd (inb (x3 + (1 : Int32)) (wn w a0)) <|
  gd (inb (x3 + (2 : Int32)) (wn w a0)) <|
  gd (inb (x3 + (3 : Int32)) (wn w a0)) <|
  gd (wk w a1 == 1) <|
  gd (Nat.ble (wz w + 0) (z0 + 600000) && Nat.ble (wq w + 0) (q0 + 7302250)) <|
  (F_A_parted a1 (wi w a0 (Int32.toNatClampNeg (x3 + (1 : Int32)))) (wi w a0 (Int32.toNatClampNeg (x3 + (2 : Int32)))) (wi w a0 (Int32.toNatClampNeg (x3 + (3 : Int32)))) w).bind fun r7 =>
  gd ((wz r7.2 == wz w + 0) && (wq r7.2 == wq w + 0)) <|
  gd (wk r7.2 a0 == 110) <|
  gd (inb (x3 + (1 : Int32)) (wn r7.2 a0)) <|
  gd (inb (x3 + (2 : Int32)) (wn r7.2 a0)) <|
  gd (inb (x3 + (3 : Int32)) (wn r7.2 a0)) <|
  gd (wk r7.2 a2 == 13) <|
  gd (Nat.ble (wz r7.2 + 0) (z0 + 600000) && Nat.ble (wq r7.2 + 0) (q0 + 7302250)) <|
  (F_M_parted a2 (wi r7.2 a0 (Int32.toNatClampNeg (x3 + (1 : Int32)))) (wi r7.2 a0 (Int32.toNatClampNeg (x3 + (2 : Int32)))) (wi r7.2 a0 (Int32.toNatClampNeg (x3 + (3 : Int32)))) r7.2).bind fun r16 =>
  gd ((wz r16.2 == wz r7.2 + 0) && (wq r16.2 == wq r7.2 + 0)) <|
  if r7.1 = r16.1 then
    let v19 : Int32 := (x3 + (6 : Int32))
    rec18 a0 a1 a2 v19 r16.2
  else
    gd (Nat.ble (wz r16.2) (z0 + 600000) && Nat.ble (wq r16.2) (q0 + 7302250)) <|
    some ((0 : Int32), r16.2)
theorem P_Lw_law_1066 {X : AX} {l : Launch} {G : AG} {z0 q0 : Nat} {rec18 : Nat → Nat → Nat → Int32 → AW → Option (Int32 × AW)} (hX : XOK X b_Lw_law "RedSkyLaw" 4) (hM : XM X l G room_1) {o : Int32 × AW} (hR : XL X o.1) (hrec18 : ∀ (k n : Nat) (a0 : Nat) (a1 : Nat) (a2 : Nat) (x3 : Int32) (w : AW), rec18 a0 a1 a2 x3 w = some o → z0 + k = wz w → q0 + n = wq w → RJ X 4 k n 18 [(0, vr a0), (1, vr a1), (2, vr a2), (3, vi x3)] [] w) (k n : Nat) (a0 : Nat) (a1 : Nat) (a2 : Nat) (x3 : Int32) (w : AW) (h : F_Lw_law_1066 rec18 z0 q0 a0 a1 a2 x3 w = some o) (hzz : z0 + k = wz w) (hqq : q0 + n = wq w) : RJ X 4 k n 1066 [(0, vr a0), (1, vr a1), (2, vr a2), (3, vi x3)] [] w := by
  unfold F_Lw_law_1066 at h
  refine r_aload_n (i := 1) hX d_Lw_law_1066 1 rfl rfl ?_
  refine r_aload_n (i := 0) hX d_Lw_law_1067 0 rfl rfl ?_
  refine r_iload_n (i := 3) hX d_Lw_law_1068 3 rfl rfl ?_
  refine r_iconst (v := (1 : Int32)) hX d_Lw_law_1069 rfl ?_
  refine r_iadd hX d_Lw_law_1070 ?_
  obtain ⟨hk1, h⟩ := gd_e h
  obtain ⟨hg2, h⟩ := gd_e h
  refine r_xald hX hk1 hg2 d_Lw_law_1071 ?_
  refine r_aload_n (i := 0) hX d_Lw_law_1072 0 rfl rfl ?_
  refine r_iload_n (i := 3) hX d_Lw_law_1073 3 rfl rfl ?_
  refine r_iconst (v := (2 : Int32)) hX d_Lw_law_1074 rfl ?_
  refine r_iadd hX d_Lw_law_1075 ?_
  obtain ⟨hg3, h⟩ := gd_e h
  refine r_xald hX hk1 hg3 d_Lw_law_1076 ?_
  refine r_aload_n (i := 0) hX d_Lw_law_1077 0 rfl rfl ?_
  refine r_iload_n (i := 3) hX d_Lw_law_1078 3 rfl rfl ?_
  refine r_iconst (v := (3 : Int32)) hX d_Lw_law_1079 rfl ?_
  refine r_iadd hX d_Lw_law_1080 ?_
  obtain ⟨hg4, h⟩ := gd_e h
  refine r_xald hX hk1 hg4 d_Lw_law_1081 ?_
  obtain ⟨hk5, h⟩ := gd_e h
  obtain ⟨hg6, h⟩ := gd_e h
  obtain ⟨r7, hr8, h⟩ := bd_e h
  refine r_callV1 (As := [_, _, _]) hX hM mw_Lw_111 (T_A_parted _ _ _ _ _ hr8) (rc_of ci_0 hk5) rfl rfl (al_3 hzz hqq hg6) rfl rfl d_Lw_law_1082 ?_
  obtain ⟨hg9, h⟩ := gd_e h
  refine r_aload_n (i := 2) hX d_Lw_law_1085 2 rfl rfl ?_
  refine r_aload_n (i := 0) hX d_Lw_law_1086 0 rfl rfl ?_
  refine r_iload_n (i := 3) hX d_Lw_law_1087 3 rfl rfl ?_
  refine r_iconst (v := (1 : Int32)) hX d_Lw_law_1088 rfl ?_
  refine r_iadd hX d_Lw_law_1089 ?_
  obtain ⟨hk10, h⟩ := gd_e h
  obtain ⟨hg11, h⟩ := gd_e h
  refine r_xald hX hk10 hg11 d_Lw_law_1090 ?_
  refine r_aload_n (i := 0) hX d_Lw_law_1091 0 rfl rfl ?_
  refine r_iload_n (i := 3) hX d_Lw_law_1092 3 rfl rfl ?_
  refine r_iconst (v := (2 : Int32)) hX d_Lw_law_1093 rfl ?_
  refine r_iadd hX d_Lw_law_1094 ?_
  obtain ⟨hg12, h⟩ := gd_e h
  refine r_xald hX hk10 hg12 d_Lw_law_1095 ?_
  refine r_aload_n (i := 0) hX d_Lw_law_1096 0 rfl rfl ?_
  refine r_iload_n (i := 3) hX d_Lw_law_1097 3 rfl rfl ?_
  refine r_iconst (v := (3 : Int32)) hX d_Lw_law_1098 rfl ?_
  refine r_iadd hX d_Lw_law_1099 ?_
  obtain ⟨hg13, h⟩ := gd_e h
  refine r_xald hX hk10 hg13 d_Lw_law_1100 ?_
  obtain ⟨hk14, h⟩ := gd_e h
  obtain ⟨hg15, h⟩ := gd_e h
  obtain ⟨r16, hr17, h⟩ := bd_e h
  refine r_callV1 (As := [_, _, _]) hX hM mw_Lw_114 (T_M_parted _ _ _ _ _ hr17) (rc_of ci_12 hk14) rfl rfl (al_3 (al_ck (c := 0) hzz hg9) (al_cq (d := 0) hqq hg9) hg15) rfl rfl d_Lw_law_1101 ?_
  obtain ⟨hg18, h⟩ := gd_e h
  refine r_icmp_eq hX d_Lw_law_1104 rfl h (fun h => ?_) (fun h => ?_)
  · refine r_iinc (i := 3) (v := (6 : Int32)) hX d_Lw_law_1698 3 rfl rfl (by decide) ?_
    refine r_goto hX d_Lw_law_1701 rfl ?_
    exact rj_sub [1, 2, 3, 0] rfl (hrec18 _ _ _ _ _ _ _ h (al_ck (c := 0) (al_ck (c := 0) hzz hg9) hg18) (al_cq (d := 0) (al_cq (d := 0) hqq hg9) hg18))
  · refine r_iconst (v := (0 : Int32)) hX d_Lw_law_1107 rfl ?_
    obtain ⟨hg20, h⟩ := gd_e h
    cases h; exact r_lawret hX hM hR (al_ck (c := 0) (al_ck (c := 0) hzz hg9) hg18) (al_cq (d := 0) (al_cq (d := 0) hqq hg9) hg18) hg20 d_Lw_law_1108
def F_Lw_law_1033 (rec18 : Nat → Nat → Nat → Int32 → AW → Option (Int32 × AW)) (z0 q0 : Nat) (a0 : Nat) (a1 : Nat) (a2 : Nat) (x3 : Int32) (w : AW) : Option (Int32 × AW) :=
  gd (wk w a0 == 110) <|
  gd (inb (x3 + (1 : Int32)) (wn w a0)) <|
  gd (inb (x3 + (2 : Int32)) (wn w a0)) <|
  gd (wk w a1 == 1) <|
  gd (Nat.ble (wz w + 0) (z0 + 600000) && Nat.ble (wq w + 0) (q0 + 7302250)) <|
  (F_A_chance a1 (wi w a0 (Int32.toNatClampNeg (x3 + (1 : Int32)))) (wi w a0 (Int32.toNatClampNeg (x3 + (2 : Int32)))) w).bind fun r6 =>
  gd ((wz r6.2 == wz w + 0) && (wq r6.2 == wq w + 0)) <|
  gd (wk r6.2 a0 == 110) <|
  gd (inb (x3 + (1 : Int32)) (wn r6.2 a0)) <|
  gd (inb (x3 + (2 : Int32)) (wn r6.2 a0)) <|
  gd (wk r6.2 a2 == 13) <|
  gd (Nat.ble (wz r6.2 + 0) (z0 + 600000) && Nat.ble (wq r6.2 + 0) (q0 + 7302250)) <|
  (F_M_chance a2 (wi r6.2 a0 (Int32.toNatClampNeg (x3 + (1 : Int32)))) (wi r6.2 a0 (Int32.toNatClampNeg (x3 + (2 : Int32)))) r6.2).bind fun r14 =>
  gd ((wz r14.2 == wz r6.2 + 0) && (wq r14.2 == wq r6.2 + 0)) <|
  if r6.1 = r14.1 then
    let v17 : Int32 := (x3 + (6 : Int32))
    rec18 a0 a1 a2 v17 r14.2
  else
    gd (Nat.ble (wz r14.2) (z0 + 600000) && Nat.ble (wq r14.2) (q0 + 7302250)) <|
    some ((0 : Int32), r14.2)
theorem P_Lw_law_1033 {X : AX} {l : Launch} {G : AG} {z0 q0 : Nat} {rec18 : Nat → Nat → Nat → Int32 → AW → Option (Int32 × AW)} (hX : XOK X b_Lw_law "RedSkyLaw" 4) (hM : XM X l G room_1) {o : Int32 × AW} (hR : XL X o.1) (hrec18 : ∀ (k n : Nat) (a0 : Nat) (a1 : Nat) (a2 : Nat) (x3 : Int32) (w : AW), rec18 a0 a1 a2 x3 w = some o → z0 + k = wz w → q0 + n = wq w → RJ X 4 k n 18 [(0, vr a0), (1, vr a1), (2, vr a2), (3, vi x3)] [] w) (k n : Nat) (a0 : Nat) (a1 : Nat) (a2 : Nat) (x3 : Int32) (w : AW) (h : F_Lw_law_1033 rec18 z0 q0 a0 a1 a2 x3 w = some o) (hzz : z0 + k = wz w) (hqq : q0 + n = wq w) : RJ X 4 k n 1033 [(0, vr a0), (1, vr a1), (2, vr a2), (3, vi x3)] [] w := by
  unfold F_Lw_law_1033 at h
  refine r_aload_n (i := 1) hX d_Lw_law_1033 1 rfl rfl ?_
  refine r_aload_n (i := 0) hX d_Lw_law_1034 0 rfl rfl ?_
  refine r_iload_n (i := 3) hX d_Lw_law_1035 3 rfl rfl ?_
  refine r_iconst (v := (1 : Int32)) hX d_Lw_law_1036 rfl ?_
  refine r_iadd hX d_Lw_law_1037 ?_
  obtain ⟨hk1, h⟩ := gd_e h
  obtain ⟨hg2, h⟩ := gd_e h
  refine r_xald hX hk1 hg2 d_Lw_law_1038 ?_
  refine r_aload_n (i := 0) hX d_Lw_law_1039 0 rfl rfl ?_
  refine r_iload_n (i := 3) hX d_Lw_law_1040 3 rfl rfl ?_
  refine r_iconst (v := (2 : Int32)) hX d_Lw_law_1041 rfl ?_
  refine r_iadd hX d_Lw_law_1042 ?_
  obtain ⟨hg3, h⟩ := gd_e h
  refine r_xald hX hk1 hg3 d_Lw_law_1043 ?_
  obtain ⟨hk4, h⟩ := gd_e h
  obtain ⟨hg5, h⟩ := gd_e h
  obtain ⟨r6, hr7, h⟩ := bd_e h
  refine r_callV1 (As := [_, _]) hX hM mw_Lw_107 (T_A_chance _ _ _ _ hr7) (rc_of ci_0 hk4) rfl rfl (al_3 hzz hqq hg5) rfl rfl d_Lw_law_1044 ?_
  obtain ⟨hg8, h⟩ := gd_e h
  refine r_aload_n (i := 2) hX d_Lw_law_1047 2 rfl rfl ?_
  refine r_aload_n (i := 0) hX d_Lw_law_1048 0 rfl rfl ?_
  refine r_iload_n (i := 3) hX d_Lw_law_1049 3 rfl rfl ?_
  refine r_iconst (v := (1 : Int32)) hX d_Lw_law_1050 rfl ?_
  refine r_iadd hX d_Lw_law_1051 ?_
  obtain ⟨hk9, h⟩ := gd_e h
  obtain ⟨hg10, h⟩ := gd_e h
  refine r_xald hX hk9 hg10 d_Lw_law_1052 ?_
  refine r_aload_n (i := 0) hX d_Lw_law_1053 0 rfl rfl ?_
  refine r_iload_n (i := 3) hX d_Lw_law_1054 3 rfl rfl ?_
  refine r_iconst (v := (2 : Int32)) hX d_Lw_law_1055 rfl ?_
  refine r_iadd hX d_Lw_law_1056 ?_
  obtain ⟨hg11, h⟩ := gd_e h
  refine r_xald hX hk9 hg11 d_Lw_law_1057 ?_
  obtain ⟨hk12, h⟩ := gd_e h
  obtain ⟨hg13, h⟩ := gd_e h
  obtain ⟨r14, hr15, h⟩ := bd_e h
  refine r_callV1 (As := [_, _]) hX hM mw_Lw_110 (T_M_chance _ _ _ _ hr15) (rc_of ci_12 hk12) rfl rfl (al_3 (al_ck (c := 0) hzz hg8) (al_cq (d := 0) hqq hg8) hg13) rfl rfl d_Lw_law_1058 ?_
  obtain ⟨hg16, h⟩ := gd_e h
  refine r_icmp_eq hX d_Lw_law_1061 rfl h (fun h => ?_) (fun h => ?_)
  · refine r_iinc (i := 3) (v := (6 : Int32)) hX d_Lw_law_1698 3 rfl rfl (by decide) ?_
    refine r_goto hX d_Lw_law_1701 rfl ?_
    exact rj_sub [1, 2, 3, 0] rfl (hrec18 _ _ _ _ _ _ _ h (al_ck (c := 0) (al_ck (c := 0) hzz hg8) hg16) (al_cq (d := 0) (al_cq (d := 0) hqq hg8) hg16))
  · refine r_iconst (v := (0 : Int32)) hX d_Lw_law_1064 rfl ?_
    obtain ⟨hg18, h⟩ := gd_e h
    cases h; exact r_lawret hX hM hR (al_ck (c := 0) (al_ck (c := 0) hzz hg8) hg16) (al_cq (d := 0) (al_cq (d := 0) hqq hg8) hg16) hg18 d_Lw_law_1065
def F_Lw_law_980 (rec18 : Nat → Nat → Nat → Int32 → AW → Option (Int32 × AW)) (z0 q0 : Nat) (a0 : Nat) (a1 : Nat) (a2 : Nat) (x3 : Int32) (w : AW) : Option (Int32 × AW) :=
  gd (wk w a0 == 110) <|
  gd (inb (x3 + (1 : Int32)) (wn w a0)) <|
  gd (inb (x3 + (2 : Int32)) (wn w a0)) <|
  gd (inb (x3 + (3 : Int32)) (wn w a0)) <|
  gd (inb (x3 + (4 : Int32)) (wn w a0)) <|
  gd (wk w a1 == 1) <|
  gd (Nat.ble (wz w + 0) (z0 + 600000) && Nat.ble (wq w + 0) (q0 + 7302250)) <|
  (F_A_turned a1 (wi w a0 (Int32.toNatClampNeg (x3 + (1 : Int32)))) (wi w a0 (Int32.toNatClampNeg (x3 + (2 : Int32)))) (wi w a0 (Int32.toNatClampNeg (x3 + (3 : Int32)))) (wi w a0 (Int32.toNatClampNeg (x3 + (4 : Int32)))) w).bind fun r8 =>
  gd ((wz r8.2 == wz w + 0) && (wq r8.2 == wq w + 0)) <|
  gd (wk r8.2 a0 == 110) <|
  gd (inb (x3 + (1 : Int32)) (wn r8.2 a0)) <|
  gd (inb (x3 + (2 : Int32)) (wn r8.2 a0)) <|
  gd (inb (x3 + (3 : Int32)) (wn r8.2 a0)) <|
  gd (inb (x3 + (4 : Int32)) (wn r8.2 a0)) <|
  gd (wk r8.2 a2 == 13) <|
  gd (Nat.ble (wz r8.2 + 0) (z0 + 600000) && Nat.ble (wq r8.2 + 0) (q0 + 7302250)) <|
  (F_M_turned a2 (wi r8.2 a0 (Int32.toNatClampNeg (x3 + (1 : Int32)))) (wi r8.2 a0 (Int32.toNatClampNeg (x3 + (2 : Int32)))) (wi r8.2 a0 (Int32.toNatClampNeg (x3 + (3 : Int32)))) (wi r8.2 a0 (Int32.toNatClampNeg (x3 + (4 : Int32)))) r8.2).bind fun r18 =>
  gd ((wz r18.2 == wz r8.2 + 0) && (wq r18.2 == wq r8.2 + 0)) <|
  if r8.1 = r18.1 then
    let v21 : Int32 := (x3 + (6 : Int32))
    rec18 a0 a1 a2 v21 r18.2
  else
    gd (Nat.ble (wz r18.2) (z0 + 600000) && Nat.ble (wq r18.2) (q0 + 7302250)) <|
    some ((0 : Int32), r18.2)
theorem P_Lw_law_980 {X : AX} {l : Launch} {G : AG} {z0 q0 : Nat} {rec18 : Nat → Nat → Nat → Int32 → AW → Option (Int32 × AW)} (hX : XOK X b_Lw_law "RedSkyLaw" 4) (hM : XM X l G room_1) {o : Int32 × AW} (hR : XL X o.1) (hrec18 : ∀ (k n : Nat) (a0 : Nat) (a1 : Nat) (a2 : Nat) (x3 : Int32) (w : AW), rec18 a0 a1 a2 x3 w = some o → z0 + k = wz w → q0 + n = wq w → RJ X 4 k n 18 [(0, vr a0), (1, vr a1), (2, vr a2), (3, vi x3)] [] w) (k n : Nat) (a0 : Nat) (a1 : Nat) (a2 : Nat) (x3 : Int32) (w : AW) (h : F_Lw_law_980 rec18 z0 q0 a0 a1 a2 x3 w = some o) (hzz : z0 + k = wz w) (hqq : q0 + n = wq w) : RJ X 4 k n 980 [(0, vr a0), (1, vr a1), (2, vr a2), (3, vi x3)] [] w := by
  unfold F_Lw_law_980 at h
  refine r_aload_n (i := 1) hX d_Lw_law_980 1 rfl rfl ?_
  refine r_aload_n (i := 0) hX d_Lw_law_981 0 rfl rfl ?_
  refine r_iload_n (i := 3) hX d_Lw_law_982 3 rfl rfl ?_
  refine r_iconst (v := (1 : Int32)) hX d_Lw_law_983 rfl ?_
  refine r_iadd hX d_Lw_law_984 ?_
  obtain ⟨hk1, h⟩ := gd_e h
  obtain ⟨hg2, h⟩ := gd_e h
  refine r_xald hX hk1 hg2 d_Lw_law_985 ?_
  refine r_aload_n (i := 0) hX d_Lw_law_986 0 rfl rfl ?_
  refine r_iload_n (i := 3) hX d_Lw_law_987 3 rfl rfl ?_
  refine r_iconst (v := (2 : Int32)) hX d_Lw_law_988 rfl ?_
  refine r_iadd hX d_Lw_law_989 ?_
  obtain ⟨hg3, h⟩ := gd_e h
  refine r_xald hX hk1 hg3 d_Lw_law_990 ?_
  refine r_aload_n (i := 0) hX d_Lw_law_991 0 rfl rfl ?_
  refine r_iload_n (i := 3) hX d_Lw_law_992 3 rfl rfl ?_
  refine r_iconst (v := (3 : Int32)) hX d_Lw_law_993 rfl ?_
  refine r_iadd hX d_Lw_law_994 ?_
  obtain ⟨hg4, h⟩ := gd_e h
  refine r_xald hX hk1 hg4 d_Lw_law_995 ?_
  refine r_aload_n (i := 0) hX d_Lw_law_996 0 rfl rfl ?_
  refine r_iload_n (i := 3) hX d_Lw_law_997 3 rfl rfl ?_
  refine r_iconst (v := (4 : Int32)) hX d_Lw_law_998 rfl ?_
  refine r_iadd hX d_Lw_law_999 ?_
  obtain ⟨hg5, h⟩ := gd_e h
  refine r_xald hX hk1 hg5 d_Lw_law_1000 ?_
  obtain ⟨hk6, h⟩ := gd_e h
  obtain ⟨hg7, h⟩ := gd_e h
  obtain ⟨r8, hr9, h⟩ := bd_e h
  refine r_callV1 (As := [_, _, _, _]) hX hM mw_Lw_103 (T_A_turned _ _ _ _ _ _ hr9) (rc_of ci_0 hk6) rfl rfl (al_3 hzz hqq hg7) rfl rfl d_Lw_law_1001 ?_
  obtain ⟨hg10, h⟩ := gd_e h
  refine r_aload_n (i := 2) hX d_Lw_law_1004 2 rfl rfl ?_
  refine r_aload_n (i := 0) hX d_Lw_law_1005 0 rfl rfl ?_
  refine r_iload_n (i := 3) hX d_Lw_law_1006 3 rfl rfl ?_
  refine r_iconst (v := (1 : Int32)) hX d_Lw_law_1007 rfl ?_
  refine r_iadd hX d_Lw_law_1008 ?_
  obtain ⟨hk11, h⟩ := gd_e h
  obtain ⟨hg12, h⟩ := gd_e h
  refine r_xald hX hk11 hg12 d_Lw_law_1009 ?_
  refine r_aload_n (i := 0) hX d_Lw_law_1010 0 rfl rfl ?_
  refine r_iload_n (i := 3) hX d_Lw_law_1011 3 rfl rfl ?_
  refine r_iconst (v := (2 : Int32)) hX d_Lw_law_1012 rfl ?_
  refine r_iadd hX d_Lw_law_1013 ?_
  obtain ⟨hg13, h⟩ := gd_e h
  refine r_xald hX hk11 hg13 d_Lw_law_1014 ?_
  refine r_aload_n (i := 0) hX d_Lw_law_1015 0 rfl rfl ?_
  refine r_iload_n (i := 3) hX d_Lw_law_1016 3 rfl rfl ?_
  refine r_iconst (v := (3 : Int32)) hX d_Lw_law_1017 rfl ?_
  refine r_iadd hX d_Lw_law_1018 ?_
  obtain ⟨hg14, h⟩ := gd_e h
  refine r_xald hX hk11 hg14 d_Lw_law_1019 ?_
  refine r_aload_n (i := 0) hX d_Lw_law_1020 0 rfl rfl ?_
  refine r_iload_n (i := 3) hX d_Lw_law_1021 3 rfl rfl ?_
  refine r_iconst (v := (4 : Int32)) hX d_Lw_law_1022 rfl ?_
  refine r_iadd hX d_Lw_law_1023 ?_
  obtain ⟨hg15, h⟩ := gd_e h
  refine r_xald hX hk11 hg15 d_Lw_law_1024 ?_
  obtain ⟨hk16, h⟩ := gd_e h
  obtain ⟨hg17, h⟩ := gd_e h
  obtain ⟨r18, hr19, h⟩ := bd_e h
  refine r_callV1 (As := [_, _, _, _]) hX hM mw_Lw_106 (T_M_turned _ _ _ _ _ _ hr19) (rc_of ci_12 hk16) rfl rfl (al_3 (al_ck (c := 0) hzz hg10) (al_cq (d := 0) hqq hg10) hg17) rfl rfl d_Lw_law_1025 ?_
  obtain ⟨hg20, h⟩ := gd_e h
  refine r_icmp_eq hX d_Lw_law_1028 rfl h (fun h => ?_) (fun h => ?_)
  · refine r_iinc (i := 3) (v := (6 : Int32)) hX d_Lw_law_1698 3 rfl rfl (by decide) ?_
    refine r_goto hX d_Lw_law_1701 rfl ?_
    exact rj_sub [1, 2, 3, 0] rfl (hrec18 _ _ _ _ _ _ _ h (al_ck (c := 0) (al_ck (c := 0) hzz hg10) hg20) (al_cq (d := 0) (al_cq (d := 0) hqq hg10) hg20))
  · refine r_iconst (v := (0 : Int32)) hX d_Lw_law_1031 rfl ?_
    obtain ⟨hg22, h⟩ := gd_e h
    cases h; exact r_lawret hX hM hR (al_ck (c := 0) (al_ck (c := 0) hzz hg10) hg20) (al_cq (d := 0) (al_cq (d := 0) hqq hg10) hg20) hg22 d_Lw_law_1032
def F_Lw_law_947 (rec18 : Nat → Nat → Nat → Int32 → AW → Option (Int32 × AW)) (z0 q0 : Nat) (a0 : Nat) (a1 : Nat) (a2 : Nat) (x3 : Int32) (w : AW) : Option (Int32 × AW) :=
  gd (wk w a0 == 110) <|
  gd (inb (x3 + (1 : Int32)) (wn w a0)) <|
  gd (inb (x3 + (2 : Int32)) (wn w a0)) <|
  gd (wk w a1 == 1) <|
  gd (Nat.ble (wz w + 0) (z0 + 600000) && Nat.ble (wq w + 0) (q0 + 7302250)) <|
  (F_A_worth a1 (wi w a0 (Int32.toNatClampNeg (x3 + (1 : Int32)))) (wi w a0 (Int32.toNatClampNeg (x3 + (2 : Int32)))) w).bind fun r6 =>
  gd ((wz r6.2 == wz w + 0) && (wq r6.2 == wq w + 0)) <|
  gd (wk r6.2 a0 == 110) <|
  gd (inb (x3 + (1 : Int32)) (wn r6.2 a0)) <|
  gd (inb (x3 + (2 : Int32)) (wn r6.2 a0)) <|
  gd (wk r6.2 a2 == 13) <|
  gd (Nat.ble (wz r6.2 + 0) (z0 + 600000) && Nat.ble (wq r6.2 + 0) (q0 + 7302250)) <|
  (F_M_worth a2 (wi r6.2 a0 (Int32.toNatClampNeg (x3 + (1 : Int32)))) (wi r6.2 a0 (Int32.toNatClampNeg (x3 + (2 : Int32)))) r6.2).bind fun r14 =>
  gd ((wz r14.2 == wz r6.2 + 0) && (wq r14.2 == wq r6.2 + 0)) <|
  if r6.1 = r14.1 then
    let v17 : Int32 := (x3 + (6 : Int32))
    rec18 a0 a1 a2 v17 r14.2
  else
    gd (Nat.ble (wz r14.2) (z0 + 600000) && Nat.ble (wq r14.2) (q0 + 7302250)) <|
    some ((0 : Int32), r14.2)
theorem P_Lw_law_947 {X : AX} {l : Launch} {G : AG} {z0 q0 : Nat} {rec18 : Nat → Nat → Nat → Int32 → AW → Option (Int32 × AW)} (hX : XOK X b_Lw_law "RedSkyLaw" 4) (hM : XM X l G room_1) {o : Int32 × AW} (hR : XL X o.1) (hrec18 : ∀ (k n : Nat) (a0 : Nat) (a1 : Nat) (a2 : Nat) (x3 : Int32) (w : AW), rec18 a0 a1 a2 x3 w = some o → z0 + k = wz w → q0 + n = wq w → RJ X 4 k n 18 [(0, vr a0), (1, vr a1), (2, vr a2), (3, vi x3)] [] w) (k n : Nat) (a0 : Nat) (a1 : Nat) (a2 : Nat) (x3 : Int32) (w : AW) (h : F_Lw_law_947 rec18 z0 q0 a0 a1 a2 x3 w = some o) (hzz : z0 + k = wz w) (hqq : q0 + n = wq w) : RJ X 4 k n 947 [(0, vr a0), (1, vr a1), (2, vr a2), (3, vi x3)] [] w := by
  unfold F_Lw_law_947 at h
  refine r_aload_n (i := 1) hX d_Lw_law_947 1 rfl rfl ?_
  refine r_aload_n (i := 0) hX d_Lw_law_948 0 rfl rfl ?_
  refine r_iload_n (i := 3) hX d_Lw_law_949 3 rfl rfl ?_
  refine r_iconst (v := (1 : Int32)) hX d_Lw_law_950 rfl ?_
  refine r_iadd hX d_Lw_law_951 ?_
  obtain ⟨hk1, h⟩ := gd_e h
  obtain ⟨hg2, h⟩ := gd_e h
  refine r_xald hX hk1 hg2 d_Lw_law_952 ?_
  refine r_aload_n (i := 0) hX d_Lw_law_953 0 rfl rfl ?_
  refine r_iload_n (i := 3) hX d_Lw_law_954 3 rfl rfl ?_
  refine r_iconst (v := (2 : Int32)) hX d_Lw_law_955 rfl ?_
  refine r_iadd hX d_Lw_law_956 ?_
  obtain ⟨hg3, h⟩ := gd_e h
  refine r_xald hX hk1 hg3 d_Lw_law_957 ?_
  obtain ⟨hk4, h⟩ := gd_e h
  obtain ⟨hg5, h⟩ := gd_e h
  obtain ⟨r6, hr7, h⟩ := bd_e h
  refine r_callV1 (As := [_, _]) hX hM mw_Lw_99 (T_A_worth _ _ _ _ hr7) (rc_of ci_0 hk4) rfl rfl (al_3 hzz hqq hg5) rfl rfl d_Lw_law_958 ?_
  obtain ⟨hg8, h⟩ := gd_e h
  refine r_aload_n (i := 2) hX d_Lw_law_961 2 rfl rfl ?_
  refine r_aload_n (i := 0) hX d_Lw_law_962 0 rfl rfl ?_
  refine r_iload_n (i := 3) hX d_Lw_law_963 3 rfl rfl ?_
  refine r_iconst (v := (1 : Int32)) hX d_Lw_law_964 rfl ?_
  refine r_iadd hX d_Lw_law_965 ?_
  obtain ⟨hk9, h⟩ := gd_e h
  obtain ⟨hg10, h⟩ := gd_e h
  refine r_xald hX hk9 hg10 d_Lw_law_966 ?_
  refine r_aload_n (i := 0) hX d_Lw_law_967 0 rfl rfl ?_
  refine r_iload_n (i := 3) hX d_Lw_law_968 3 rfl rfl ?_
  refine r_iconst (v := (2 : Int32)) hX d_Lw_law_969 rfl ?_
  refine r_iadd hX d_Lw_law_970 ?_
  obtain ⟨hg11, h⟩ := gd_e h
  refine r_xald hX hk9 hg11 d_Lw_law_971 ?_
  obtain ⟨hk12, h⟩ := gd_e h
  obtain ⟨hg13, h⟩ := gd_e h
  obtain ⟨r14, hr15, h⟩ := bd_e h
  refine r_callV1 (As := [_, _]) hX hM mw_Lw_102 (T_M_worth _ _ _ _ hr15) (rc_of ci_12 hk12) rfl rfl (al_3 (al_ck (c := 0) hzz hg8) (al_cq (d := 0) hqq hg8) hg13) rfl rfl d_Lw_law_972 ?_
  obtain ⟨hg16, h⟩ := gd_e h
  refine r_icmp_eq hX d_Lw_law_975 rfl h (fun h => ?_) (fun h => ?_)
  · refine r_iinc (i := 3) (v := (6 : Int32)) hX d_Lw_law_1698 3 rfl rfl (by decide) ?_
    refine r_goto hX d_Lw_law_1701 rfl ?_
    exact rj_sub [1, 2, 3, 0] rfl (hrec18 _ _ _ _ _ _ _ h (al_ck (c := 0) (al_ck (c := 0) hzz hg8) hg16) (al_cq (d := 0) (al_cq (d := 0) hqq hg8) hg16))
  · refine r_iconst (v := (0 : Int32)) hX d_Lw_law_978 rfl ?_
    obtain ⟨hg18, h⟩ := gd_e h
    cases h; exact r_lawret hX hM hR (al_ck (c := 0) (al_ck (c := 0) hzz hg8) hg16) (al_cq (d := 0) (al_cq (d := 0) hqq hg8) hg16) hg18 d_Lw_law_979
def F_Lw_law_914 (rec18 : Nat → Nat → Nat → Int32 → AW → Option (Int32 × AW)) (z0 q0 : Nat) (a0 : Nat) (a1 : Nat) (a2 : Nat) (x3 : Int32) (w : AW) : Option (Int32 × AW) :=
  gd (wk w a0 == 110) <|
  gd (inb (x3 + (1 : Int32)) (wn w a0)) <|
  gd (inb (x3 + (2 : Int32)) (wn w a0)) <|
  gd (wk w a1 == 1) <|
  gd (Nat.ble (wz w + 0) (z0 + 600000) && Nat.ble (wq w + 0) (q0 + 7302250)) <|
  (F_A_expected a1 (wi w a0 (Int32.toNatClampNeg (x3 + (1 : Int32)))) (wi w a0 (Int32.toNatClampNeg (x3 + (2 : Int32)))) w).bind fun r6 =>
  gd ((wz r6.2 == wz w + 0) && (wq r6.2 == wq w + 0)) <|
  gd (wk r6.2 a0 == 110) <|
  gd (inb (x3 + (1 : Int32)) (wn r6.2 a0)) <|
  gd (inb (x3 + (2 : Int32)) (wn r6.2 a0)) <|
  gd (wk r6.2 a2 == 13) <|
  gd (Nat.ble (wz r6.2 + 0) (z0 + 600000) && Nat.ble (wq r6.2 + 0) (q0 + 7302250)) <|
  (F_M_expected a2 (wi r6.2 a0 (Int32.toNatClampNeg (x3 + (1 : Int32)))) (wi r6.2 a0 (Int32.toNatClampNeg (x3 + (2 : Int32)))) r6.2).bind fun r14 =>
  gd ((wz r14.2 == wz r6.2 + 0) && (wq r14.2 == wq r6.2 + 0)) <|
  if r6.1 = r14.1 then
    let v17 : Int32 := (x3 + (6 : Int32))
    rec18 a0 a1 a2 v17 r14.2
  else
    gd (Nat.ble (wz r14.2) (z0 + 600000) && Nat.ble (wq r14.2) (q0 + 7302250)) <|
    some ((0 : Int32), r14.2)
theorem P_Lw_law_914 {X : AX} {l : Launch} {G : AG} {z0 q0 : Nat} {rec18 : Nat → Nat → Nat → Int32 → AW → Option (Int32 × AW)} (hX : XOK X b_Lw_law "RedSkyLaw" 4) (hM : XM X l G room_1) {o : Int32 × AW} (hR : XL X o.1) (hrec18 : ∀ (k n : Nat) (a0 : Nat) (a1 : Nat) (a2 : Nat) (x3 : Int32) (w : AW), rec18 a0 a1 a2 x3 w = some o → z0 + k = wz w → q0 + n = wq w → RJ X 4 k n 18 [(0, vr a0), (1, vr a1), (2, vr a2), (3, vi x3)] [] w) (k n : Nat) (a0 : Nat) (a1 : Nat) (a2 : Nat) (x3 : Int32) (w : AW) (h : F_Lw_law_914 rec18 z0 q0 a0 a1 a2 x3 w = some o) (hzz : z0 + k = wz w) (hqq : q0 + n = wq w) : RJ X 4 k n 914 [(0, vr a0), (1, vr a1), (2, vr a2), (3, vi x3)] [] w := by
  unfold F_Lw_law_914 at h
  refine r_aload_n (i := 1) hX d_Lw_law_914 1 rfl rfl ?_
  refine r_aload_n (i := 0) hX d_Lw_law_915 0 rfl rfl ?_
  refine r_iload_n (i := 3) hX d_Lw_law_916 3 rfl rfl ?_
  refine r_iconst (v := (1 : Int32)) hX d_Lw_law_917 rfl ?_
  refine r_iadd hX d_Lw_law_918 ?_
  obtain ⟨hk1, h⟩ := gd_e h
  obtain ⟨hg2, h⟩ := gd_e h
  refine r_xald hX hk1 hg2 d_Lw_law_919 ?_
  refine r_aload_n (i := 0) hX d_Lw_law_920 0 rfl rfl ?_
  refine r_iload_n (i := 3) hX d_Lw_law_921 3 rfl rfl ?_
  refine r_iconst (v := (2 : Int32)) hX d_Lw_law_922 rfl ?_
  refine r_iadd hX d_Lw_law_923 ?_
  obtain ⟨hg3, h⟩ := gd_e h
  refine r_xald hX hk1 hg3 d_Lw_law_924 ?_
  obtain ⟨hk4, h⟩ := gd_e h
  obtain ⟨hg5, h⟩ := gd_e h
  obtain ⟨r6, hr7, h⟩ := bd_e h
  refine r_callV1 (As := [_, _]) hX hM mw_Lw_95 (T_A_expected _ _ _ _ hr7) (rc_of ci_0 hk4) rfl rfl (al_3 hzz hqq hg5) rfl rfl d_Lw_law_925 ?_
  obtain ⟨hg8, h⟩ := gd_e h
  refine r_aload_n (i := 2) hX d_Lw_law_928 2 rfl rfl ?_
  refine r_aload_n (i := 0) hX d_Lw_law_929 0 rfl rfl ?_
  refine r_iload_n (i := 3) hX d_Lw_law_930 3 rfl rfl ?_
  refine r_iconst (v := (1 : Int32)) hX d_Lw_law_931 rfl ?_
  refine r_iadd hX d_Lw_law_932 ?_
  obtain ⟨hk9, h⟩ := gd_e h
  obtain ⟨hg10, h⟩ := gd_e h
  refine r_xald hX hk9 hg10 d_Lw_law_933 ?_
  refine r_aload_n (i := 0) hX d_Lw_law_934 0 rfl rfl ?_
  refine r_iload_n (i := 3) hX d_Lw_law_935 3 rfl rfl ?_
  refine r_iconst (v := (2 : Int32)) hX d_Lw_law_936 rfl ?_
  refine r_iadd hX d_Lw_law_937 ?_
  obtain ⟨hg11, h⟩ := gd_e h
  refine r_xald hX hk9 hg11 d_Lw_law_938 ?_
  obtain ⟨hk12, h⟩ := gd_e h
  obtain ⟨hg13, h⟩ := gd_e h
  obtain ⟨r14, hr15, h⟩ := bd_e h
  refine r_callV1 (As := [_, _]) hX hM mw_Lw_98 (T_M_expected _ _ _ _ hr15) (rc_of ci_12 hk12) rfl rfl (al_3 (al_ck (c := 0) hzz hg8) (al_cq (d := 0) hqq hg8) hg13) rfl rfl d_Lw_law_939 ?_
  obtain ⟨hg16, h⟩ := gd_e h
  refine r_icmp_eq hX d_Lw_law_942 rfl h (fun h => ?_) (fun h => ?_)
  · refine r_iinc (i := 3) (v := (6 : Int32)) hX d_Lw_law_1698 3 rfl rfl (by decide) ?_
    refine r_goto hX d_Lw_law_1701 rfl ?_
    exact rj_sub [1, 2, 3, 0] rfl (hrec18 _ _ _ _ _ _ _ h (al_ck (c := 0) (al_ck (c := 0) hzz hg8) hg16) (al_cq (d := 0) (al_cq (d := 0) hqq hg8) hg16))
  · refine r_iconst (v := (0 : Int32)) hX d_Lw_law_945 rfl ?_
    obtain ⟨hg18, h⟩ := gd_e h
    cases h; exact r_lawret hX hM hR (al_ck (c := 0) (al_ck (c := 0) hzz hg8) hg16) (al_cq (d := 0) (al_cq (d := 0) hqq hg8) hg16) hg18 d_Lw_law_946
def F_Lw_law_861 (rec18 : Nat → Nat → Nat → Int32 → AW → Option (Int32 × AW)) (z0 q0 : Nat) (a0 : Nat) (a1 : Nat) (a2 : Nat) (x3 : Int32) (w : AW) : Option (Int32 × AW) :=
  gd (wk w a0 == 110) <|
  gd (inb (x3 + (1 : Int32)) (wn w a0)) <|
  gd (inb (x3 + (2 : Int32)) (wn w a0)) <|
  gd (inb (x3 + (3 : Int32)) (wn w a0)) <|
  gd (inb (x3 + (4 : Int32)) (wn w a0)) <|
  gd (wk w a1 == 1) <|
  gd (Nat.ble (wz w + 0) (z0 + 600000) && Nat.ble (wq w + 0) (q0 + 7302250)) <|
  (F_A_month a1 (wi w a0 (Int32.toNatClampNeg (x3 + (1 : Int32)))) (wi w a0 (Int32.toNatClampNeg (x3 + (2 : Int32)))) (wi w a0 (Int32.toNatClampNeg (x3 + (3 : Int32)))) (wi w a0 (Int32.toNatClampNeg (x3 + (4 : Int32)))) w).bind fun r8 =>
  gd ((wz r8.2 == wz w + 0) && (wq r8.2 == wq w + 0)) <|
  gd (wk r8.2 a0 == 110) <|
  gd (inb (x3 + (1 : Int32)) (wn r8.2 a0)) <|
  gd (inb (x3 + (2 : Int32)) (wn r8.2 a0)) <|
  gd (inb (x3 + (3 : Int32)) (wn r8.2 a0)) <|
  gd (inb (x3 + (4 : Int32)) (wn r8.2 a0)) <|
  gd (wk r8.2 a2 == 13) <|
  gd (Nat.ble (wz r8.2 + 0) (z0 + 600000) && Nat.ble (wq r8.2 + 0) (q0 + 7302250)) <|
  (F_M_month a2 (wi r8.2 a0 (Int32.toNatClampNeg (x3 + (1 : Int32)))) (wi r8.2 a0 (Int32.toNatClampNeg (x3 + (2 : Int32)))) (wi r8.2 a0 (Int32.toNatClampNeg (x3 + (3 : Int32)))) (wi r8.2 a0 (Int32.toNatClampNeg (x3 + (4 : Int32)))) r8.2).bind fun r18 =>
  gd ((wz r18.2 == wz r8.2 + 0) && (wq r18.2 == wq r8.2 + 0)) <|
  if r8.1 = r18.1 then
    let v21 : Int32 := (x3 + (6 : Int32))
    rec18 a0 a1 a2 v21 r18.2
  else
    gd (Nat.ble (wz r18.2) (z0 + 600000) && Nat.ble (wq r18.2) (q0 + 7302250)) <|
    some ((0 : Int32), r18.2)
theorem P_Lw_law_861 {X : AX} {l : Launch} {G : AG} {z0 q0 : Nat} {rec18 : Nat → Nat → Nat → Int32 → AW → Option (Int32 × AW)} (hX : XOK X b_Lw_law "RedSkyLaw" 4) (hM : XM X l G room_1) {o : Int32 × AW} (hR : XL X o.1) (hrec18 : ∀ (k n : Nat) (a0 : Nat) (a1 : Nat) (a2 : Nat) (x3 : Int32) (w : AW), rec18 a0 a1 a2 x3 w = some o → z0 + k = wz w → q0 + n = wq w → RJ X 4 k n 18 [(0, vr a0), (1, vr a1), (2, vr a2), (3, vi x3)] [] w) (k n : Nat) (a0 : Nat) (a1 : Nat) (a2 : Nat) (x3 : Int32) (w : AW) (h : F_Lw_law_861 rec18 z0 q0 a0 a1 a2 x3 w = some o) (hzz : z0 + k = wz w) (hqq : q0 + n = wq w) : RJ X 4 k n 861 [(0, vr a0), (1, vr a1), (2, vr a2), (3, vi x3)] [] w := by
  unfold F_Lw_law_861 at h
  refine r_aload_n (i := 1) hX d_Lw_law_861 1 rfl rfl ?_
  refine r_aload_n (i := 0) hX d_Lw_law_862 0 rfl rfl ?_
  refine r_iload_n (i := 3) hX d_Lw_law_863 3 rfl rfl ?_
  refine r_iconst (v := (1 : Int32)) hX d_Lw_law_864 rfl ?_
  refine r_iadd hX d_Lw_law_865 ?_
  obtain ⟨hk1, h⟩ := gd_e h
  obtain ⟨hg2, h⟩ := gd_e h
  refine r_xald hX hk1 hg2 d_Lw_law_866 ?_
  refine r_aload_n (i := 0) hX d_Lw_law_867 0 rfl rfl ?_
  refine r_iload_n (i := 3) hX d_Lw_law_868 3 rfl rfl ?_
  refine r_iconst (v := (2 : Int32)) hX d_Lw_law_869 rfl ?_
  refine r_iadd hX d_Lw_law_870 ?_
  obtain ⟨hg3, h⟩ := gd_e h
  refine r_xald hX hk1 hg3 d_Lw_law_871 ?_
  refine r_aload_n (i := 0) hX d_Lw_law_872 0 rfl rfl ?_
  refine r_iload_n (i := 3) hX d_Lw_law_873 3 rfl rfl ?_
  refine r_iconst (v := (3 : Int32)) hX d_Lw_law_874 rfl ?_
  refine r_iadd hX d_Lw_law_875 ?_
  obtain ⟨hg4, h⟩ := gd_e h
  refine r_xald hX hk1 hg4 d_Lw_law_876 ?_
  refine r_aload_n (i := 0) hX d_Lw_law_877 0 rfl rfl ?_
  refine r_iload_n (i := 3) hX d_Lw_law_878 3 rfl rfl ?_
  refine r_iconst (v := (4 : Int32)) hX d_Lw_law_879 rfl ?_
  refine r_iadd hX d_Lw_law_880 ?_
  obtain ⟨hg5, h⟩ := gd_e h
  refine r_xald hX hk1 hg5 d_Lw_law_881 ?_
  obtain ⟨hk6, h⟩ := gd_e h
  obtain ⟨hg7, h⟩ := gd_e h
  obtain ⟨r8, hr9, h⟩ := bd_e h
  refine r_callV1 (As := [_, _, _, _]) hX hM mw_Lw_91 (T_A_month _ _ _ _ _ _ hr9) (rc_of ci_0 hk6) rfl rfl (al_3 hzz hqq hg7) rfl rfl d_Lw_law_882 ?_
  obtain ⟨hg10, h⟩ := gd_e h
  refine r_aload_n (i := 2) hX d_Lw_law_885 2 rfl rfl ?_
  refine r_aload_n (i := 0) hX d_Lw_law_886 0 rfl rfl ?_
  refine r_iload_n (i := 3) hX d_Lw_law_887 3 rfl rfl ?_
  refine r_iconst (v := (1 : Int32)) hX d_Lw_law_888 rfl ?_
  refine r_iadd hX d_Lw_law_889 ?_
  obtain ⟨hk11, h⟩ := gd_e h
  obtain ⟨hg12, h⟩ := gd_e h
  refine r_xald hX hk11 hg12 d_Lw_law_890 ?_
  refine r_aload_n (i := 0) hX d_Lw_law_891 0 rfl rfl ?_
  refine r_iload_n (i := 3) hX d_Lw_law_892 3 rfl rfl ?_
  refine r_iconst (v := (2 : Int32)) hX d_Lw_law_893 rfl ?_
  refine r_iadd hX d_Lw_law_894 ?_
  obtain ⟨hg13, h⟩ := gd_e h
  refine r_xald hX hk11 hg13 d_Lw_law_895 ?_
  refine r_aload_n (i := 0) hX d_Lw_law_896 0 rfl rfl ?_
  refine r_iload_n (i := 3) hX d_Lw_law_897 3 rfl rfl ?_
  refine r_iconst (v := (3 : Int32)) hX d_Lw_law_898 rfl ?_
  refine r_iadd hX d_Lw_law_899 ?_
  obtain ⟨hg14, h⟩ := gd_e h
  refine r_xald hX hk11 hg14 d_Lw_law_900 ?_
  refine r_aload_n (i := 0) hX d_Lw_law_901 0 rfl rfl ?_
  refine r_iload_n (i := 3) hX d_Lw_law_902 3 rfl rfl ?_
  refine r_iconst (v := (4 : Int32)) hX d_Lw_law_903 rfl ?_
  refine r_iadd hX d_Lw_law_904 ?_
  obtain ⟨hg15, h⟩ := gd_e h
  refine r_xald hX hk11 hg15 d_Lw_law_905 ?_
  obtain ⟨hk16, h⟩ := gd_e h
  obtain ⟨hg17, h⟩ := gd_e h
  obtain ⟨r18, hr19, h⟩ := bd_e h
  refine r_callV1 (As := [_, _, _, _]) hX hM mw_Lw_94 (T_M_month _ _ _ _ _ _ hr19) (rc_of ci_12 hk16) rfl rfl (al_3 (al_ck (c := 0) hzz hg10) (al_cq (d := 0) hqq hg10) hg17) rfl rfl d_Lw_law_906 ?_
  obtain ⟨hg20, h⟩ := gd_e h
  refine r_icmp_eq hX d_Lw_law_909 rfl h (fun h => ?_) (fun h => ?_)
  · refine r_iinc (i := 3) (v := (6 : Int32)) hX d_Lw_law_1698 3 rfl rfl (by decide) ?_
    refine r_goto hX d_Lw_law_1701 rfl ?_
    exact rj_sub [1, 2, 3, 0] rfl (hrec18 _ _ _ _ _ _ _ h (al_ck (c := 0) (al_ck (c := 0) hzz hg10) hg20) (al_cq (d := 0) (al_cq (d := 0) hqq hg10) hg20))
  · refine r_iconst (v := (0 : Int32)) hX d_Lw_law_912 rfl ?_
    obtain ⟨hg22, h⟩ := gd_e h
    cases h; exact r_lawret hX hM hR (al_ck (c := 0) (al_ck (c := 0) hzz hg10) hg20) (al_cq (d := 0) (al_cq (d := 0) hqq hg10) hg20) hg22 d_Lw_law_913
def F_Lw_law_798 (rec18 : Nat → Nat → Nat → Int32 → AW → Option (Int32 × AW)) (z0 q0 : Nat) (a0 : Nat) (a1 : Nat) (a2 : Nat) (x3 : Int32) (w : AW) : Option (Int32 × AW) :=
  gd (wk w a0 == 110) <|
  gd (inb (x3 + (1 : Int32)) (wn w a0)) <|
  gd (inb (x3 + (2 : Int32)) (wn w a0)) <|
  gd (inb (x3 + (3 : Int32)) (wn w a0)) <|
  gd (inb (x3 + (4 : Int32)) (wn w a0)) <|
  gd (inb (x3 + (5 : Int32)) (wn w a0)) <|
  gd (wk w a1 == 1) <|
  gd (Nat.ble (wz w + 0) (z0 + 600000) && Nat.ble (wq w + 0) (q0 + 7302250)) <|
  (F_A_cases a1 (wi w a0 (Int32.toNatClampNeg (x3 + (1 : Int32)))) (wi w a0 (Int32.toNatClampNeg (x3 + (2 : Int32)))) (wi w a0 (Int32.toNatClampNeg (x3 + (3 : Int32)))) (wi w a0 (Int32.toNatClampNeg (x3 + (4 : Int32)))) (wi w a0 (Int32.toNatClampNeg (x3 + (5 : Int32)))) w).bind fun r9 =>
  gd ((wz r9.2 == wz w + 0) && (wq r9.2 == wq w + 0)) <|
  gd (wk r9.2 a0 == 110) <|
  gd (inb (x3 + (1 : Int32)) (wn r9.2 a0)) <|
  gd (inb (x3 + (2 : Int32)) (wn r9.2 a0)) <|
  gd (inb (x3 + (3 : Int32)) (wn r9.2 a0)) <|
  gd (inb (x3 + (4 : Int32)) (wn r9.2 a0)) <|
  gd (inb (x3 + (5 : Int32)) (wn r9.2 a0)) <|
  gd (wk r9.2 a2 == 13) <|
  gd (Nat.ble (wz r9.2 + 0) (z0 + 600000) && Nat.ble (wq r9.2 + 0) (q0 + 7302250)) <|
  (F_M_cases a2 (wi r9.2 a0 (Int32.toNatClampNeg (x3 + (1 : Int32)))) (wi r9.2 a0 (Int32.toNatClampNeg (x3 + (2 : Int32)))) (wi r9.2 a0 (Int32.toNatClampNeg (x3 + (3 : Int32)))) (wi r9.2 a0 (Int32.toNatClampNeg (x3 + (4 : Int32)))) (wi r9.2 a0 (Int32.toNatClampNeg (x3 + (5 : Int32)))) r9.2).bind fun r20 =>
  gd ((wz r20.2 == wz r9.2 + 0) && (wq r20.2 == wq r9.2 + 0)) <|
  if r9.1 = r20.1 then
    let v23 : Int32 := (x3 + (6 : Int32))
    rec18 a0 a1 a2 v23 r20.2
  else
    gd (Nat.ble (wz r20.2) (z0 + 600000) && Nat.ble (wq r20.2) (q0 + 7302250)) <|
    some ((0 : Int32), r20.2)
theorem P_Lw_law_798 {X : AX} {l : Launch} {G : AG} {z0 q0 : Nat} {rec18 : Nat → Nat → Nat → Int32 → AW → Option (Int32 × AW)} (hX : XOK X b_Lw_law "RedSkyLaw" 4) (hM : XM X l G room_1) {o : Int32 × AW} (hR : XL X o.1) (hrec18 : ∀ (k n : Nat) (a0 : Nat) (a1 : Nat) (a2 : Nat) (x3 : Int32) (w : AW), rec18 a0 a1 a2 x3 w = some o → z0 + k = wz w → q0 + n = wq w → RJ X 4 k n 18 [(0, vr a0), (1, vr a1), (2, vr a2), (3, vi x3)] [] w) (k n : Nat) (a0 : Nat) (a1 : Nat) (a2 : Nat) (x3 : Int32) (w : AW) (h : F_Lw_law_798 rec18 z0 q0 a0 a1 a2 x3 w = some o) (hzz : z0 + k = wz w) (hqq : q0 + n = wq w) : RJ X 4 k n 798 [(0, vr a0), (1, vr a1), (2, vr a2), (3, vi x3)] [] w := by
  unfold F_Lw_law_798 at h
  refine r_aload_n (i := 1) hX d_Lw_law_798 1 rfl rfl ?_
  refine r_aload_n (i := 0) hX d_Lw_law_799 0 rfl rfl ?_
  refine r_iload_n (i := 3) hX d_Lw_law_800 3 rfl rfl ?_
  refine r_iconst (v := (1 : Int32)) hX d_Lw_law_801 rfl ?_
  refine r_iadd hX d_Lw_law_802 ?_
  obtain ⟨hk1, h⟩ := gd_e h
  obtain ⟨hg2, h⟩ := gd_e h
  refine r_xald hX hk1 hg2 d_Lw_law_803 ?_
  refine r_aload_n (i := 0) hX d_Lw_law_804 0 rfl rfl ?_
  refine r_iload_n (i := 3) hX d_Lw_law_805 3 rfl rfl ?_
  refine r_iconst (v := (2 : Int32)) hX d_Lw_law_806 rfl ?_
  refine r_iadd hX d_Lw_law_807 ?_
  obtain ⟨hg3, h⟩ := gd_e h
  refine r_xald hX hk1 hg3 d_Lw_law_808 ?_
  refine r_aload_n (i := 0) hX d_Lw_law_809 0 rfl rfl ?_
  refine r_iload_n (i := 3) hX d_Lw_law_810 3 rfl rfl ?_
  refine r_iconst (v := (3 : Int32)) hX d_Lw_law_811 rfl ?_
  refine r_iadd hX d_Lw_law_812 ?_
  obtain ⟨hg4, h⟩ := gd_e h
  refine r_xald hX hk1 hg4 d_Lw_law_813 ?_
  refine r_aload_n (i := 0) hX d_Lw_law_814 0 rfl rfl ?_
  refine r_iload_n (i := 3) hX d_Lw_law_815 3 rfl rfl ?_
  refine r_iconst (v := (4 : Int32)) hX d_Lw_law_816 rfl ?_
  refine r_iadd hX d_Lw_law_817 ?_
  obtain ⟨hg5, h⟩ := gd_e h
  refine r_xald hX hk1 hg5 d_Lw_law_818 ?_
  refine r_aload_n (i := 0) hX d_Lw_law_819 0 rfl rfl ?_
  refine r_iload_n (i := 3) hX d_Lw_law_820 3 rfl rfl ?_
  refine r_iconst (v := (5 : Int32)) hX d_Lw_law_821 rfl ?_
  refine r_iadd hX d_Lw_law_822 ?_
  obtain ⟨hg6, h⟩ := gd_e h
  refine r_xald hX hk1 hg6 d_Lw_law_823 ?_
  obtain ⟨hk7, h⟩ := gd_e h
  obtain ⟨hg8, h⟩ := gd_e h
  obtain ⟨r9, hr10, h⟩ := bd_e h
  refine r_callV1 (As := [_, _, _, _, _]) hX hM mw_Lw_87 (T_A_cases _ _ _ _ _ _ _ hr10) (rc_of ci_0 hk7) rfl rfl (al_3 hzz hqq hg8) rfl rfl d_Lw_law_824 ?_
  obtain ⟨hg11, h⟩ := gd_e h
  refine r_aload_n (i := 2) hX d_Lw_law_827 2 rfl rfl ?_
  refine r_aload_n (i := 0) hX d_Lw_law_828 0 rfl rfl ?_
  refine r_iload_n (i := 3) hX d_Lw_law_829 3 rfl rfl ?_
  refine r_iconst (v := (1 : Int32)) hX d_Lw_law_830 rfl ?_
  refine r_iadd hX d_Lw_law_831 ?_
  obtain ⟨hk12, h⟩ := gd_e h
  obtain ⟨hg13, h⟩ := gd_e h
  refine r_xald hX hk12 hg13 d_Lw_law_832 ?_
  refine r_aload_n (i := 0) hX d_Lw_law_833 0 rfl rfl ?_
  refine r_iload_n (i := 3) hX d_Lw_law_834 3 rfl rfl ?_
  refine r_iconst (v := (2 : Int32)) hX d_Lw_law_835 rfl ?_
  refine r_iadd hX d_Lw_law_836 ?_
  obtain ⟨hg14, h⟩ := gd_e h
  refine r_xald hX hk12 hg14 d_Lw_law_837 ?_
  refine r_aload_n (i := 0) hX d_Lw_law_838 0 rfl rfl ?_
  refine r_iload_n (i := 3) hX d_Lw_law_839 3 rfl rfl ?_
  refine r_iconst (v := (3 : Int32)) hX d_Lw_law_840 rfl ?_
  refine r_iadd hX d_Lw_law_841 ?_
  obtain ⟨hg15, h⟩ := gd_e h
  refine r_xald hX hk12 hg15 d_Lw_law_842 ?_
  refine r_aload_n (i := 0) hX d_Lw_law_843 0 rfl rfl ?_
  refine r_iload_n (i := 3) hX d_Lw_law_844 3 rfl rfl ?_
  refine r_iconst (v := (4 : Int32)) hX d_Lw_law_845 rfl ?_
  refine r_iadd hX d_Lw_law_846 ?_
  obtain ⟨hg16, h⟩ := gd_e h
  refine r_xald hX hk12 hg16 d_Lw_law_847 ?_
  refine r_aload_n (i := 0) hX d_Lw_law_848 0 rfl rfl ?_
  refine r_iload_n (i := 3) hX d_Lw_law_849 3 rfl rfl ?_
  refine r_iconst (v := (5 : Int32)) hX d_Lw_law_850 rfl ?_
  refine r_iadd hX d_Lw_law_851 ?_
  obtain ⟨hg17, h⟩ := gd_e h
  refine r_xald hX hk12 hg17 d_Lw_law_852 ?_
  obtain ⟨hk18, h⟩ := gd_e h
  obtain ⟨hg19, h⟩ := gd_e h
  obtain ⟨r20, hr21, h⟩ := bd_e h
  refine r_callV1 (As := [_, _, _, _, _]) hX hM mw_Lw_90 (T_M_cases _ _ _ _ _ _ _ hr21) (rc_of ci_12 hk18) rfl rfl (al_3 (al_ck (c := 0) hzz hg11) (al_cq (d := 0) hqq hg11) hg19) rfl rfl d_Lw_law_853 ?_
  obtain ⟨hg22, h⟩ := gd_e h
  refine r_icmp_eq hX d_Lw_law_856 rfl h (fun h => ?_) (fun h => ?_)
  · refine r_iinc (i := 3) (v := (6 : Int32)) hX d_Lw_law_1698 3 rfl rfl (by decide) ?_
    refine r_goto hX d_Lw_law_1701 rfl ?_
    exact rj_sub [1, 2, 3, 0] rfl (hrec18 _ _ _ _ _ _ _ h (al_ck (c := 0) (al_ck (c := 0) hzz hg11) hg22) (al_cq (d := 0) (al_cq (d := 0) hqq hg11) hg22))
  · refine r_iconst (v := (0 : Int32)) hX d_Lw_law_859 rfl ?_
    obtain ⟨hg24, h⟩ := gd_e h
    cases h; exact r_lawret hX hM hR (al_ck (c := 0) (al_ck (c := 0) hzz hg11) hg22) (al_cq (d := 0) (al_cq (d := 0) hqq hg11) hg22) hg24 d_Lw_law_860
def F_Lw_law_745 (rec18 : Nat → Nat → Nat → Int32 → AW → Option (Int32 × AW)) (z0 q0 : Nat) (a0 : Nat) (a1 : Nat) (a2 : Nat) (x3 : Int32) (w : AW) : Option (Int32 × AW) :=
  gd (wk w a0 == 110) <|
  gd (inb (x3 + (1 : Int32)) (wn w a0)) <|
  gd (inb (x3 + (2 : Int32)) (wn w a0)) <|
  gd (inb (x3 + (3 : Int32)) (wn w a0)) <|
  gd (inb (x3 + (4 : Int32)) (wn w a0)) <|
  gd (wk w a1 == 1) <|
  gd (Nat.ble (wz w + 0) (z0 + 600000) && Nat.ble (wq w + 0) (q0 + 7302250)) <|
  (F_A_truth a1 (wi w a0 (Int32.toNatClampNeg (x3 + (1 : Int32)))) (wi w a0 (Int32.toNatClampNeg (x3 + (2 : Int32)))) (wi w a0 (Int32.toNatClampNeg (x3 + (3 : Int32)))) (wi w a0 (Int32.toNatClampNeg (x3 + (4 : Int32)))) w).bind fun r8 =>
  gd ((wz r8.2 == wz w + 0) && (wq r8.2 == wq w + 0)) <|
  gd (wk r8.2 a0 == 110) <|
  gd (inb (x3 + (1 : Int32)) (wn r8.2 a0)) <|
  gd (inb (x3 + (2 : Int32)) (wn r8.2 a0)) <|
  gd (inb (x3 + (3 : Int32)) (wn r8.2 a0)) <|
  gd (inb (x3 + (4 : Int32)) (wn r8.2 a0)) <|
  gd (wk r8.2 a2 == 13) <|
  gd (Nat.ble (wz r8.2 + 0) (z0 + 600000) && Nat.ble (wq r8.2 + 0) (q0 + 7302250)) <|
  (F_M_truth a2 (wi r8.2 a0 (Int32.toNatClampNeg (x3 + (1 : Int32)))) (wi r8.2 a0 (Int32.toNatClampNeg (x3 + (2 : Int32)))) (wi r8.2 a0 (Int32.toNatClampNeg (x3 + (3 : Int32)))) (wi r8.2 a0 (Int32.toNatClampNeg (x3 + (4 : Int32)))) r8.2).bind fun r18 =>
  gd ((wz r18.2 == wz r8.2 + 0) && (wq r18.2 == wq r8.2 + 0)) <|
  if r8.1 = r18.1 then
    let v21 : Int32 := (x3 + (6 : Int32))
    rec18 a0 a1 a2 v21 r18.2
  else
    gd (Nat.ble (wz r18.2) (z0 + 600000) && Nat.ble (wq r18.2) (q0 + 7302250)) <|
    some ((0 : Int32), r18.2)
theorem P_Lw_law_745 {X : AX} {l : Launch} {G : AG} {z0 q0 : Nat} {rec18 : Nat → Nat → Nat → Int32 → AW → Option (Int32 × AW)} (hX : XOK X b_Lw_law "RedSkyLaw" 4) (hM : XM X l G room_1) {o : Int32 × AW} (hR : XL X o.1) (hrec18 : ∀ (k n : Nat) (a0 : Nat) (a1 : Nat) (a2 : Nat) (x3 : Int32) (w : AW), rec18 a0 a1 a2 x3 w = some o → z0 + k = wz w → q0 + n = wq w → RJ X 4 k n 18 [(0, vr a0), (1, vr a1), (2, vr a2), (3, vi x3)] [] w) (k n : Nat) (a0 : Nat) (a1 : Nat) (a2 : Nat) (x3 : Int32) (w : AW) (h : F_Lw_law_745 rec18 z0 q0 a0 a1 a2 x3 w = some o) (hzz : z0 + k = wz w) (hqq : q0 + n = wq w) : RJ X 4 k n 745 [(0, vr a0), (1, vr a1), (2, vr a2), (3, vi x3)] [] w := by
  unfold F_Lw_law_745 at h
  refine r_aload_n (i := 1) hX d_Lw_law_745 1 rfl rfl ?_
  refine r_aload_n (i := 0) hX d_Lw_law_746 0 rfl rfl ?_
  refine r_iload_n (i := 3) hX d_Lw_law_747 3 rfl rfl ?_
  refine r_iconst (v := (1 : Int32)) hX d_Lw_law_748 rfl ?_
  refine r_iadd hX d_Lw_law_749 ?_
  obtain ⟨hk1, h⟩ := gd_e h
  obtain ⟨hg2, h⟩ := gd_e h
  refine r_xald hX hk1 hg2 d_Lw_law_750 ?_
  refine r_aload_n (i := 0) hX d_Lw_law_751 0 rfl rfl ?_
  refine r_iload_n (i := 3) hX d_Lw_law_752 3 rfl rfl ?_
  refine r_iconst (v := (2 : Int32)) hX d_Lw_law_753 rfl ?_
  refine r_iadd hX d_Lw_law_754 ?_
  obtain ⟨hg3, h⟩ := gd_e h
  refine r_xald hX hk1 hg3 d_Lw_law_755 ?_
  refine r_aload_n (i := 0) hX d_Lw_law_756 0 rfl rfl ?_
  refine r_iload_n (i := 3) hX d_Lw_law_757 3 rfl rfl ?_
  refine r_iconst (v := (3 : Int32)) hX d_Lw_law_758 rfl ?_
  refine r_iadd hX d_Lw_law_759 ?_
  obtain ⟨hg4, h⟩ := gd_e h
  refine r_xald hX hk1 hg4 d_Lw_law_760 ?_
  refine r_aload_n (i := 0) hX d_Lw_law_761 0 rfl rfl ?_
  refine r_iload_n (i := 3) hX d_Lw_law_762 3 rfl rfl ?_
  refine r_iconst (v := (4 : Int32)) hX d_Lw_law_763 rfl ?_
  refine r_iadd hX d_Lw_law_764 ?_
  obtain ⟨hg5, h⟩ := gd_e h
  refine r_xald hX hk1 hg5 d_Lw_law_765 ?_
  obtain ⟨hk6, h⟩ := gd_e h
  obtain ⟨hg7, h⟩ := gd_e h
  obtain ⟨r8, hr9, h⟩ := bd_e h
  refine r_callV1 (As := [_, _, _, _]) hX hM mw_Lw_83 (T_A_truth _ _ _ _ _ _ hr9) (rc_of ci_0 hk6) rfl rfl (al_3 hzz hqq hg7) rfl rfl d_Lw_law_766 ?_
  obtain ⟨hg10, h⟩ := gd_e h
  refine r_aload_n (i := 2) hX d_Lw_law_769 2 rfl rfl ?_
  refine r_aload_n (i := 0) hX d_Lw_law_770 0 rfl rfl ?_
  refine r_iload_n (i := 3) hX d_Lw_law_771 3 rfl rfl ?_
  refine r_iconst (v := (1 : Int32)) hX d_Lw_law_772 rfl ?_
  refine r_iadd hX d_Lw_law_773 ?_
  obtain ⟨hk11, h⟩ := gd_e h
  obtain ⟨hg12, h⟩ := gd_e h
  refine r_xald hX hk11 hg12 d_Lw_law_774 ?_
  refine r_aload_n (i := 0) hX d_Lw_law_775 0 rfl rfl ?_
  refine r_iload_n (i := 3) hX d_Lw_law_776 3 rfl rfl ?_
  refine r_iconst (v := (2 : Int32)) hX d_Lw_law_777 rfl ?_
  refine r_iadd hX d_Lw_law_778 ?_
  obtain ⟨hg13, h⟩ := gd_e h
  refine r_xald hX hk11 hg13 d_Lw_law_779 ?_
  refine r_aload_n (i := 0) hX d_Lw_law_780 0 rfl rfl ?_
  refine r_iload_n (i := 3) hX d_Lw_law_781 3 rfl rfl ?_
  refine r_iconst (v := (3 : Int32)) hX d_Lw_law_782 rfl ?_
  refine r_iadd hX d_Lw_law_783 ?_
  obtain ⟨hg14, h⟩ := gd_e h
  refine r_xald hX hk11 hg14 d_Lw_law_784 ?_
  refine r_aload_n (i := 0) hX d_Lw_law_785 0 rfl rfl ?_
  refine r_iload_n (i := 3) hX d_Lw_law_786 3 rfl rfl ?_
  refine r_iconst (v := (4 : Int32)) hX d_Lw_law_787 rfl ?_
  refine r_iadd hX d_Lw_law_788 ?_
  obtain ⟨hg15, h⟩ := gd_e h
  refine r_xald hX hk11 hg15 d_Lw_law_789 ?_
  obtain ⟨hk16, h⟩ := gd_e h
  obtain ⟨hg17, h⟩ := gd_e h
  obtain ⟨r18, hr19, h⟩ := bd_e h
  refine r_callV1 (As := [_, _, _, _]) hX hM mw_Lw_86 (T_M_truth _ _ _ _ _ _ hr19) (rc_of ci_12 hk16) rfl rfl (al_3 (al_ck (c := 0) hzz hg10) (al_cq (d := 0) hqq hg10) hg17) rfl rfl d_Lw_law_790 ?_
  obtain ⟨hg20, h⟩ := gd_e h
  refine r_icmp_eq hX d_Lw_law_793 rfl h (fun h => ?_) (fun h => ?_)
  · refine r_iinc (i := 3) (v := (6 : Int32)) hX d_Lw_law_1698 3 rfl rfl (by decide) ?_
    refine r_goto hX d_Lw_law_1701 rfl ?_
    exact rj_sub [1, 2, 3, 0] rfl (hrec18 _ _ _ _ _ _ _ h (al_ck (c := 0) (al_ck (c := 0) hzz hg10) hg20) (al_cq (d := 0) (al_cq (d := 0) hqq hg10) hg20))
  · refine r_iconst (v := (0 : Int32)) hX d_Lw_law_796 rfl ?_
    obtain ⟨hg22, h⟩ := gd_e h
    cases h; exact r_lawret hX hM hR (al_ck (c := 0) (al_ck (c := 0) hzz hg10) hg20) (al_cq (d := 0) (al_cq (d := 0) hqq hg10) hg20) hg22 d_Lw_law_797
def F_Lw_law_732 (rec18 : Nat → Nat → Nat → Int32 → AW → Option (Int32 × AW)) (z0 q0 : Nat) (a0 : Nat) (a1 : Nat) (a2 : Nat) (x3 : Int32) (w : AW) : Option (Int32 × AW) :=
  gd (wk w a1 == 1) <|
  gd (Nat.ble (wz w + 0) (z0 + 600000) && Nat.ble (wq w + 0) (q0 + 7302250)) <|
  (F_A_forget a1 w).bind fun r3 =>
  gd ((wz r3.2 == wz w + 0) && (wq r3.2 == wq w + 0)) <|
  gd (wk r3.2 a2 == 13) <|
  gd (Nat.ble (wz r3.2 + 0) (z0 + 600000) && Nat.ble (wq r3.2 + 0) (q0 + 7302250)) <|
  (F_M_forget a2 r3.2).bind fun r8 =>
  gd ((wz r8.2 == wz r3.2 + 0) && (wq r8.2 == wq r3.2 + 0)) <|
  if r3.1 = r8.1 then
    let v11 : Int32 := (x3 + (6 : Int32))
    rec18 a0 a1 a2 v11 r8.2
  else
    gd (Nat.ble (wz r8.2) (z0 + 600000) && Nat.ble (wq r8.2) (q0 + 7302250)) <|
    some ((0 : Int32), r8.2)
theorem P_Lw_law_732 {X : AX} {l : Launch} {G : AG} {z0 q0 : Nat} {rec18 : Nat → Nat → Nat → Int32 → AW → Option (Int32 × AW)} (hX : XOK X b_Lw_law "RedSkyLaw" 4) (hM : XM X l G room_1) {o : Int32 × AW} (hR : XL X o.1) (hrec18 : ∀ (k n : Nat) (a0 : Nat) (a1 : Nat) (a2 : Nat) (x3 : Int32) (w : AW), rec18 a0 a1 a2 x3 w = some o → z0 + k = wz w → q0 + n = wq w → RJ X 4 k n 18 [(0, vr a0), (1, vr a1), (2, vr a2), (3, vi x3)] [] w) (k n : Nat) (a0 : Nat) (a1 : Nat) (a2 : Nat) (x3 : Int32) (w : AW) (h : F_Lw_law_732 rec18 z0 q0 a0 a1 a2 x3 w = some o) (hzz : z0 + k = wz w) (hqq : q0 + n = wq w) : RJ X 4 k n 732 [(0, vr a0), (1, vr a1), (2, vr a2), (3, vi x3)] [] w := by
  unfold F_Lw_law_732 at h
  refine r_aload_n (i := 1) hX d_Lw_law_732 1 rfl rfl ?_
  obtain ⟨hk1, h⟩ := gd_e h
  obtain ⟨hg2, h⟩ := gd_e h
  obtain ⟨r3, hr4, h⟩ := bd_e h
  refine r_callV1 (As := []) hX hM mw_Lw_79 (T_A_forget _ _ hr4) (rc_of ci_0 hk1) rfl rfl (al_3 hzz hqq hg2) rfl rfl d_Lw_law_733 ?_
  obtain ⟨hg5, h⟩ := gd_e h
  refine r_aload_n (i := 2) hX d_Lw_law_736 2 rfl rfl ?_
  obtain ⟨hk6, h⟩ := gd_e h
  obtain ⟨hg7, h⟩ := gd_e h
  obtain ⟨r8, hr9, h⟩ := bd_e h
  refine r_callV1 (As := []) hX hM mw_Lw_82 (T_M_forget _ _ hr9) (rc_of ci_12 hk6) rfl rfl (al_3 (al_ck (c := 0) hzz hg5) (al_cq (d := 0) hqq hg5) hg7) rfl rfl d_Lw_law_737 ?_
  obtain ⟨hg10, h⟩ := gd_e h
  refine r_icmp_eq hX d_Lw_law_740 rfl h (fun h => ?_) (fun h => ?_)
  · refine r_iinc (i := 3) (v := (6 : Int32)) hX d_Lw_law_1698 3 rfl rfl (by decide) ?_
    refine r_goto hX d_Lw_law_1701 rfl ?_
    exact rj_sub [1, 2, 3, 0] rfl (hrec18 _ _ _ _ _ _ _ h (al_ck (c := 0) (al_ck (c := 0) hzz hg5) hg10) (al_cq (d := 0) (al_cq (d := 0) hqq hg5) hg10))
  · refine r_iconst (v := (0 : Int32)) hX d_Lw_law_743 rfl ?_
    obtain ⟨hg12, h⟩ := gd_e h
    cases h; exact r_lawret hX hM hR (al_ck (c := 0) (al_ck (c := 0) hzz hg5) hg10) (al_cq (d := 0) (al_cq (d := 0) hqq hg5) hg10) hg12 d_Lw_law_744
def F_Lw_law_699 (rec18 : Nat → Nat → Nat → Int32 → AW → Option (Int32 × AW)) (z0 q0 : Nat) (a0 : Nat) (a1 : Nat) (a2 : Nat) (x3 : Int32) (w : AW) : Option (Int32 × AW) :=
  gd (wk w a0 == 110) <|
  gd (inb (x3 + (1 : Int32)) (wn w a0)) <|
  gd (inb (x3 + (2 : Int32)) (wn w a0)) <|
  gd (wk w a1 == 1) <|
  gd (Nat.ble (wz w + 0) (z0 + 600000) && Nat.ble (wq w + 0) (q0 + 7302250)) <|
  (F_A_asks w a1 (wi w a0 (Int32.toNatClampNeg (x3 + (1 : Int32)))) (wi w a0 (Int32.toNatClampNeg (x3 + (2 : Int32))))).bind fun r6 =>
  gd (inb (x3 + (1 : Int32)) (wn w a0)) <|
  gd (inb (x3 + (2 : Int32)) (wn w a0)) <|
  gd (wk w a2 == 13) <|
  gd (Nat.ble (wz w + 0) (z0 + 600000) && Nat.ble (wq w + 0) (q0 + 7302250)) <|
  (F_M_asks w a2 (wi w a0 (Int32.toNatClampNeg (x3 + (1 : Int32)))) (wi w a0 (Int32.toNatClampNeg (x3 + (2 : Int32))))).bind fun r12 =>
  if r6 = r12 then
    let v14 : Int32 := (x3 + (6 : Int32))
    rec18 a0 a1 a2 v14 w
  else
    gd (Nat.ble (wz w) (z0 + 600000) && Nat.ble (wq w) (q0 + 7302250)) <|
    some ((0 : Int32), w)
theorem P_Lw_law_699 {X : AX} {l : Launch} {G : AG} {z0 q0 : Nat} {rec18 : Nat → Nat → Nat → Int32 → AW → Option (Int32 × AW)} (hX : XOK X b_Lw_law "RedSkyLaw" 4) (hM : XM X l G room_1) {o : Int32 × AW} (hR : XL X o.1) (hrec18 : ∀ (k n : Nat) (a0 : Nat) (a1 : Nat) (a2 : Nat) (x3 : Int32) (w : AW), rec18 a0 a1 a2 x3 w = some o → z0 + k = wz w → q0 + n = wq w → RJ X 4 k n 18 [(0, vr a0), (1, vr a1), (2, vr a2), (3, vi x3)] [] w) (k n : Nat) (a0 : Nat) (a1 : Nat) (a2 : Nat) (x3 : Int32) (w : AW) (h : F_Lw_law_699 rec18 z0 q0 a0 a1 a2 x3 w = some o) (hzz : z0 + k = wz w) (hqq : q0 + n = wq w) : RJ X 4 k n 699 [(0, vr a0), (1, vr a1), (2, vr a2), (3, vi x3)] [] w := by
  unfold F_Lw_law_699 at h
  refine r_aload_n (i := 1) hX d_Lw_law_699 1 rfl rfl ?_
  refine r_aload_n (i := 0) hX d_Lw_law_700 0 rfl rfl ?_
  refine r_iload_n (i := 3) hX d_Lw_law_701 3 rfl rfl ?_
  refine r_iconst (v := (1 : Int32)) hX d_Lw_law_702 rfl ?_
  refine r_iadd hX d_Lw_law_703 ?_
  obtain ⟨hk1, h⟩ := gd_e h
  obtain ⟨hg2, h⟩ := gd_e h
  refine r_xald hX hk1 hg2 d_Lw_law_704 ?_
  refine r_aload_n (i := 0) hX d_Lw_law_705 0 rfl rfl ?_
  refine r_iload_n (i := 3) hX d_Lw_law_706 3 rfl rfl ?_
  refine r_iconst (v := (2 : Int32)) hX d_Lw_law_707 rfl ?_
  refine r_iadd hX d_Lw_law_708 ?_
  obtain ⟨hg3, h⟩ := gd_e h
  refine r_xald hX hk1 hg3 d_Lw_law_709 ?_
  obtain ⟨hk4, h⟩ := gd_e h
  obtain ⟨hg5, h⟩ := gd_e h
  obtain ⟨r6, hr7, h⟩ := bd_e h
  refine r_callV1 (As := [_, _]) hX hM mw_Lw_75 (T_A_asks _ _ _ _ hr7) (rc_of ci_0 hk4) rfl rfl (al_3 hzz hqq hg5) rfl rfl d_Lw_law_710 ?_
  refine r_aload_n (i := 2) hX d_Lw_law_713 2 rfl rfl ?_
  refine r_aload_n (i := 0) hX d_Lw_law_714 0 rfl rfl ?_
  refine r_iload_n (i := 3) hX d_Lw_law_715 3 rfl rfl ?_
  refine r_iconst (v := (1 : Int32)) hX d_Lw_law_716 rfl ?_
  refine r_iadd hX d_Lw_law_717 ?_
  obtain ⟨hg8, h⟩ := gd_e h
  refine r_xald hX hk1 hg8 d_Lw_law_718 ?_
  refine r_aload_n (i := 0) hX d_Lw_law_719 0 rfl rfl ?_
  refine r_iload_n (i := 3) hX d_Lw_law_720 3 rfl rfl ?_
  refine r_iconst (v := (2 : Int32)) hX d_Lw_law_721 rfl ?_
  refine r_iadd hX d_Lw_law_722 ?_
  obtain ⟨hg9, h⟩ := gd_e h
  refine r_xald hX hk1 hg9 d_Lw_law_723 ?_
  obtain ⟨hk10, h⟩ := gd_e h
  obtain ⟨hg11, h⟩ := gd_e h
  obtain ⟨r12, hr13, h⟩ := bd_e h
  refine r_callV1 (As := [_, _]) hX hM mw_Lw_78 (T_M_asks _ _ _ _ hr13) (rc_of ci_12 hk10) rfl rfl (al_3 hzz hqq hg11) rfl rfl d_Lw_law_724 ?_
  refine r_icmp_eq hX d_Lw_law_727 rfl h (fun h => ?_) (fun h => ?_)
  · refine r_iinc (i := 3) (v := (6 : Int32)) hX d_Lw_law_1698 3 rfl rfl (by decide) ?_
    refine r_goto hX d_Lw_law_1701 rfl ?_
    exact rj_sub [1, 2, 3, 0] rfl (hrec18 _ _ _ _ _ _ _ h hzz hqq)
  · refine r_iconst (v := (0 : Int32)) hX d_Lw_law_730 rfl ?_
    obtain ⟨hg15, h⟩ := gd_e h
    cases h; exact r_lawret hX hM hR hzz hqq hg15 d_Lw_law_731
def F_Lw_law_686 (rec18 : Nat → Nat → Nat → Int32 → AW → Option (Int32 × AW)) (z0 q0 : Nat) (a0 : Nat) (a1 : Nat) (a2 : Nat) (x3 : Int32) (w : AW) : Option (Int32 × AW) :=
  gd (wk w a1 == 1) <|
  gd (Nat.ble (wz w + 0) (z0 + 600000) && Nat.ble (wq w + 0) (q0 + 7302250)) <|
  (F_A_good a1 w).bind fun r3 =>
  gd ((wz r3.2 == wz w + 0) && (wq r3.2 == wq w + 0)) <|
  gd (wk r3.2 a2 == 13) <|
  gd (Nat.ble (wz r3.2 + 0) (z0 + 600000) && Nat.ble (wq r3.2 + 0) (q0 + 7302250)) <|
  (F_M_good a2 r3.2).bind fun r8 =>
  gd ((wz r8.2 == wz r3.2 + 0) && (wq r8.2 == wq r3.2 + 0)) <|
  if r3.1 = r8.1 then
    let v11 : Int32 := (x3 + (6 : Int32))
    rec18 a0 a1 a2 v11 r8.2
  else
    gd (Nat.ble (wz r8.2) (z0 + 600000) && Nat.ble (wq r8.2) (q0 + 7302250)) <|
    some ((0 : Int32), r8.2)
theorem P_Lw_law_686 {X : AX} {l : Launch} {G : AG} {z0 q0 : Nat} {rec18 : Nat → Nat → Nat → Int32 → AW → Option (Int32 × AW)} (hX : XOK X b_Lw_law "RedSkyLaw" 4) (hM : XM X l G room_1) {o : Int32 × AW} (hR : XL X o.1) (hrec18 : ∀ (k n : Nat) (a0 : Nat) (a1 : Nat) (a2 : Nat) (x3 : Int32) (w : AW), rec18 a0 a1 a2 x3 w = some o → z0 + k = wz w → q0 + n = wq w → RJ X 4 k n 18 [(0, vr a0), (1, vr a1), (2, vr a2), (3, vi x3)] [] w) (k n : Nat) (a0 : Nat) (a1 : Nat) (a2 : Nat) (x3 : Int32) (w : AW) (h : F_Lw_law_686 rec18 z0 q0 a0 a1 a2 x3 w = some o) (hzz : z0 + k = wz w) (hqq : q0 + n = wq w) : RJ X 4 k n 686 [(0, vr a0), (1, vr a1), (2, vr a2), (3, vi x3)] [] w := by
  unfold F_Lw_law_686 at h
  refine r_aload_n (i := 1) hX d_Lw_law_686 1 rfl rfl ?_
  obtain ⟨hk1, h⟩ := gd_e h
  obtain ⟨hg2, h⟩ := gd_e h
  obtain ⟨r3, hr4, h⟩ := bd_e h
  refine r_callV1 (As := []) hX hM mw_Lw_71 (T_A_good _ _ hr4) (rc_of ci_0 hk1) rfl rfl (al_3 hzz hqq hg2) rfl rfl d_Lw_law_687 ?_
  obtain ⟨hg5, h⟩ := gd_e h
  refine r_aload_n (i := 2) hX d_Lw_law_690 2 rfl rfl ?_
  obtain ⟨hk6, h⟩ := gd_e h
  obtain ⟨hg7, h⟩ := gd_e h
  obtain ⟨r8, hr9, h⟩ := bd_e h
  refine r_callV1 (As := []) hX hM mw_Lw_74 (T_M_good _ _ hr9) (rc_of ci_12 hk6) rfl rfl (al_3 (al_ck (c := 0) hzz hg5) (al_cq (d := 0) hqq hg5) hg7) rfl rfl d_Lw_law_691 ?_
  obtain ⟨hg10, h⟩ := gd_e h
  refine r_icmp_eq hX d_Lw_law_694 rfl h (fun h => ?_) (fun h => ?_)
  · refine r_iinc (i := 3) (v := (6 : Int32)) hX d_Lw_law_1698 3 rfl rfl (by decide) ?_
    refine r_goto hX d_Lw_law_1701 rfl ?_
    exact rj_sub [1, 2, 3, 0] rfl (hrec18 _ _ _ _ _ _ _ h (al_ck (c := 0) (al_ck (c := 0) hzz hg5) hg10) (al_cq (d := 0) (al_cq (d := 0) hqq hg5) hg10))
  · refine r_iconst (v := (0 : Int32)) hX d_Lw_law_697 rfl ?_
    obtain ⟨hg12, h⟩ := gd_e h
    cases h; exact r_lawret hX hM hR (al_ck (c := 0) (al_ck (c := 0) hzz hg5) hg10) (al_cq (d := 0) (al_cq (d := 0) hqq hg5) hg10) hg12 d_Lw_law_698
def F_Lw_law_673 (rec18 : Nat → Nat → Nat → Int32 → AW → Option (Int32 × AW)) (z0 q0 : Nat) (a0 : Nat) (a1 : Nat) (a2 : Nat) (x3 : Int32) (w : AW) : Option (Int32 × AW) :=
  gd (wk w a1 == 1) <|
  gd (Nat.ble (wz w + 0) (z0 + 600000) && Nat.ble (wq w + 0) (q0 + 7302250)) <|
  (F_A_say a1 w).bind fun r3 =>
  gd ((wz r3.2 == wz w + 0) && (wq r3.2 == wq w + 0)) <|
  gd (wk r3.2 a2 == 13) <|
  gd (Nat.ble (wz r3.2 + 0) (z0 + 600000) && Nat.ble (wq r3.2 + 0) (q0 + 7302250)) <|
  (F_M_say a2 r3.2).bind fun r8 =>
  gd ((wz r8.2 == wz r3.2 + 0) && (wq r8.2 == wq r3.2 + 0)) <|
  if r3.1 = r8.1 then
    let v11 : Int32 := (x3 + (6 : Int32))
    rec18 a0 a1 a2 v11 r8.2
  else
    gd (Nat.ble (wz r8.2) (z0 + 600000) && Nat.ble (wq r8.2) (q0 + 7302250)) <|
    some ((0 : Int32), r8.2)
theorem P_Lw_law_673 {X : AX} {l : Launch} {G : AG} {z0 q0 : Nat} {rec18 : Nat → Nat → Nat → Int32 → AW → Option (Int32 × AW)} (hX : XOK X b_Lw_law "RedSkyLaw" 4) (hM : XM X l G room_1) {o : Int32 × AW} (hR : XL X o.1) (hrec18 : ∀ (k n : Nat) (a0 : Nat) (a1 : Nat) (a2 : Nat) (x3 : Int32) (w : AW), rec18 a0 a1 a2 x3 w = some o → z0 + k = wz w → q0 + n = wq w → RJ X 4 k n 18 [(0, vr a0), (1, vr a1), (2, vr a2), (3, vi x3)] [] w) (k n : Nat) (a0 : Nat) (a1 : Nat) (a2 : Nat) (x3 : Int32) (w : AW) (h : F_Lw_law_673 rec18 z0 q0 a0 a1 a2 x3 w = some o) (hzz : z0 + k = wz w) (hqq : q0 + n = wq w) : RJ X 4 k n 673 [(0, vr a0), (1, vr a1), (2, vr a2), (3, vi x3)] [] w := by
  unfold F_Lw_law_673 at h
  refine r_aload_n (i := 1) hX d_Lw_law_673 1 rfl rfl ?_
  obtain ⟨hk1, h⟩ := gd_e h
  obtain ⟨hg2, h⟩ := gd_e h
  obtain ⟨r3, hr4, h⟩ := bd_e h
  refine r_callV1 (As := []) hX hM mw_Lw_67 (T_A_say _ _ hr4) (rc_of ci_0 hk1) rfl rfl (al_3 hzz hqq hg2) rfl rfl d_Lw_law_674 ?_
  obtain ⟨hg5, h⟩ := gd_e h
  refine r_aload_n (i := 2) hX d_Lw_law_677 2 rfl rfl ?_
  obtain ⟨hk6, h⟩ := gd_e h
  obtain ⟨hg7, h⟩ := gd_e h
  obtain ⟨r8, hr9, h⟩ := bd_e h
  refine r_callV1 (As := []) hX hM mw_Lw_70 (T_M_say _ _ hr9) (rc_of ci_12 hk6) rfl rfl (al_3 (al_ck (c := 0) hzz hg5) (al_cq (d := 0) hqq hg5) hg7) rfl rfl d_Lw_law_678 ?_
  obtain ⟨hg10, h⟩ := gd_e h
  refine r_icmp_eq hX d_Lw_law_681 rfl h (fun h => ?_) (fun h => ?_)
  · refine r_iinc (i := 3) (v := (6 : Int32)) hX d_Lw_law_1698 3 rfl rfl (by decide) ?_
    refine r_goto hX d_Lw_law_1701 rfl ?_
    exact rj_sub [1, 2, 3, 0] rfl (hrec18 _ _ _ _ _ _ _ h (al_ck (c := 0) (al_ck (c := 0) hzz hg5) hg10) (al_cq (d := 0) (al_cq (d := 0) hqq hg5) hg10))
  · refine r_iconst (v := (0 : Int32)) hX d_Lw_law_684 rfl ?_
    obtain ⟨hg12, h⟩ := gd_e h
    cases h; exact r_lawret hX hM hR (al_ck (c := 0) (al_ck (c := 0) hzz hg5) hg10) (al_cq (d := 0) (al_cq (d := 0) hqq hg5) hg10) hg12 d_Lw_law_685
def F_Lw_law_660 (rec18 : Nat → Nat → Nat → Int32 → AW → Option (Int32 × AW)) (z0 q0 : Nat) (a0 : Nat) (a1 : Nat) (a2 : Nat) (x3 : Int32) (w : AW) : Option (Int32 × AW) :=
  gd (wk w a1 == 1) <|
  gd (Nat.ble (wz w + 0) (z0 + 600000) && Nat.ble (wq w + 0) (q0 + 7302250)) <|
  (F_A_blank a1 w).bind fun r3 =>
  gd ((wz r3.2 == wz w + 0) && (wq r3.2 == wq w + 0)) <|
  gd (wk r3.2 a2 == 13) <|
  gd (Nat.ble (wz r3.2 + 0) (z0 + 600000) && Nat.ble (wq r3.2 + 0) (q0 + 7302250)) <|
  (F_M_blank a2 r3.2).bind fun r8 =>
  gd ((wz r8.2 == wz r3.2 + 0) && (wq r8.2 == wq r3.2 + 0)) <|
  if r3.1 = r8.1 then
    let v11 : Int32 := (x3 + (6 : Int32))
    rec18 a0 a1 a2 v11 r8.2
  else
    gd (Nat.ble (wz r8.2) (z0 + 600000) && Nat.ble (wq r8.2) (q0 + 7302250)) <|
    some ((0 : Int32), r8.2)
theorem P_Lw_law_660 {X : AX} {l : Launch} {G : AG} {z0 q0 : Nat} {rec18 : Nat → Nat → Nat → Int32 → AW → Option (Int32 × AW)} (hX : XOK X b_Lw_law "RedSkyLaw" 4) (hM : XM X l G room_1) {o : Int32 × AW} (hR : XL X o.1) (hrec18 : ∀ (k n : Nat) (a0 : Nat) (a1 : Nat) (a2 : Nat) (x3 : Int32) (w : AW), rec18 a0 a1 a2 x3 w = some o → z0 + k = wz w → q0 + n = wq w → RJ X 4 k n 18 [(0, vr a0), (1, vr a1), (2, vr a2), (3, vi x3)] [] w) (k n : Nat) (a0 : Nat) (a1 : Nat) (a2 : Nat) (x3 : Int32) (w : AW) (h : F_Lw_law_660 rec18 z0 q0 a0 a1 a2 x3 w = some o) (hzz : z0 + k = wz w) (hqq : q0 + n = wq w) : RJ X 4 k n 660 [(0, vr a0), (1, vr a1), (2, vr a2), (3, vi x3)] [] w := by
  unfold F_Lw_law_660 at h
  refine r_aload_n (i := 1) hX d_Lw_law_660 1 rfl rfl ?_
  obtain ⟨hk1, h⟩ := gd_e h
  obtain ⟨hg2, h⟩ := gd_e h
  obtain ⟨r3, hr4, h⟩ := bd_e h
  refine r_callV1 (As := []) hX hM mw_Lw_62 (T_A_blank _ _ hr4) (rc_of ci_0 hk1) rfl rfl (al_3 hzz hqq hg2) rfl rfl d_Lw_law_661 ?_
  obtain ⟨hg5, h⟩ := gd_e h
  refine r_aload_n (i := 2) hX d_Lw_law_664 2 rfl rfl ?_
  obtain ⟨hk6, h⟩ := gd_e h
  obtain ⟨hg7, h⟩ := gd_e h
  obtain ⟨r8, hr9, h⟩ := bd_e h
  refine r_callV1 (As := []) hX hM mw_Lw_66 (T_M_blank _ _ hr9) (rc_of ci_12 hk6) rfl rfl (al_3 (al_ck (c := 0) hzz hg5) (al_cq (d := 0) hqq hg5) hg7) rfl rfl d_Lw_law_665 ?_
  obtain ⟨hg10, h⟩ := gd_e h
  refine r_icmp_eq hX d_Lw_law_668 rfl h (fun h => ?_) (fun h => ?_)
  · refine r_iinc (i := 3) (v := (6 : Int32)) hX d_Lw_law_1698 3 rfl rfl (by decide) ?_
    refine r_goto hX d_Lw_law_1701 rfl ?_
    exact rj_sub [1, 2, 3, 0] rfl (hrec18 _ _ _ _ _ _ _ h (al_ck (c := 0) (al_ck (c := 0) hzz hg5) hg10) (al_cq (d := 0) (al_cq (d := 0) hqq hg5) hg10))
  · refine r_iconst (v := (0 : Int32)) hX d_Lw_law_671 rfl ?_
    obtain ⟨hg12, h⟩ := gd_e h
    cases h; exact r_lawret hX hM hR (al_ck (c := 0) (al_ck (c := 0) hzz hg5) hg10) (al_cq (d := 0) (al_cq (d := 0) hqq hg5) hg10) hg12 d_Lw_law_672
def F_Lw_law_607 (rec18 : Nat → Nat → Nat → Int32 → AW → Option (Int32 × AW)) (z0 q0 : Nat) (a0 : Nat) (a1 : Nat) (a2 : Nat) (x3 : Int32) (w : AW) : Option (Int32 × AW) :=
  gd (wk w a0 == 110) <|
  gd (inb (x3 + (1 : Int32)) (wn w a0)) <|
  gd (inb (x3 + (2 : Int32)) (wn w a0)) <|
  gd (wk w a1 == 1) <|
  gd (Nat.ble (wz w + 0) (z0 + 600000) && Nat.ble (wq w + 0) (q0 + 7302250)) <|
  (F_A_letters a1 (((Int32.toInt64 (wi w a0 (Int32.toNatClampNeg (x3 + (1 : Int32))))) <<< (Int32.toInt64 (32 : Int32) &&& 63)) ||| ((Int32.toInt64 (wi w a0 (Int32.toNatClampNeg (x3 + (2 : Int32))))) &&& (4294967295 : Int64))) w).bind fun r6 =>
  gd ((wz r6.2 == wz w + 0) && (wq r6.2 == wq w + 0)) <|
  gd (wk r6.2 a0 == 110) <|
  gd (inb (x3 + (1 : Int32)) (wn r6.2 a0)) <|
  gd (inb (x3 + (2 : Int32)) (wn r6.2 a0)) <|
  gd (wk r6.2 a2 == 13) <|
  gd (Nat.ble (wz r6.2 + 0) (z0 + 600000) && Nat.ble (wq r6.2 + 0) (q0 + 7302250)) <|
  (F_M_letters a2 (((Int32.toInt64 (wi r6.2 a0 (Int32.toNatClampNeg (x3 + (1 : Int32))))) <<< (Int32.toInt64 (32 : Int32) &&& 63)) ||| ((Int32.toInt64 (wi r6.2 a0 (Int32.toNatClampNeg (x3 + (2 : Int32))))) &&& (4294967295 : Int64))) r6.2).bind fun r14 =>
  gd ((wz r14.2 == wz r6.2 + 0) && (wq r14.2 == wq r6.2 + 0)) <|
  if r6.1 = r14.1 then
    let v17 : Int32 := (x3 + (6 : Int32))
    rec18 a0 a1 a2 v17 r14.2
  else
    gd (Nat.ble (wz r14.2) (z0 + 600000) && Nat.ble (wq r14.2) (q0 + 7302250)) <|
    some ((0 : Int32), r14.2)
theorem P_Lw_law_607 {X : AX} {l : Launch} {G : AG} {z0 q0 : Nat} {rec18 : Nat → Nat → Nat → Int32 → AW → Option (Int32 × AW)} (hX : XOK X b_Lw_law "RedSkyLaw" 4) (hM : XM X l G room_1) {o : Int32 × AW} (hR : XL X o.1) (hrec18 : ∀ (k n : Nat) (a0 : Nat) (a1 : Nat) (a2 : Nat) (x3 : Int32) (w : AW), rec18 a0 a1 a2 x3 w = some o → z0 + k = wz w → q0 + n = wq w → RJ X 4 k n 18 [(0, vr a0), (1, vr a1), (2, vr a2), (3, vi x3)] [] w) (k n : Nat) (a0 : Nat) (a1 : Nat) (a2 : Nat) (x3 : Int32) (w : AW) (h : F_Lw_law_607 rec18 z0 q0 a0 a1 a2 x3 w = some o) (hzz : z0 + k = wz w) (hqq : q0 + n = wq w) : RJ X 4 k n 607 [(0, vr a0), (1, vr a1), (2, vr a2), (3, vi x3)] [] w := by
  unfold F_Lw_law_607 at h
  refine r_aload_n (i := 1) hX d_Lw_law_607 1 rfl rfl ?_
  refine r_aload_n (i := 0) hX d_Lw_law_608 0 rfl rfl ?_
  refine r_iload_n (i := 3) hX d_Lw_law_609 3 rfl rfl ?_
  refine r_iconst (v := (1 : Int32)) hX d_Lw_law_610 rfl ?_
  refine r_iadd hX d_Lw_law_611 ?_
  obtain ⟨hk1, h⟩ := gd_e h
  obtain ⟨hg2, h⟩ := gd_e h
  refine r_xald hX hk1 hg2 d_Lw_law_612 ?_
  refine r_i2l hX d_Lw_law_613 ?_
  refine r_bipush (v := (32 : Int32)) hX d_Lw_law_614 rfl ?_
  refine r_lshl hX d_Lw_law_616 ?_
  refine r_aload_n (i := 0) hX d_Lw_law_617 0 rfl rfl ?_
  refine r_iload_n (i := 3) hX d_Lw_law_618 3 rfl rfl ?_
  refine r_iconst (v := (2 : Int32)) hX d_Lw_law_619 rfl ?_
  refine r_iadd hX d_Lw_law_620 ?_
  obtain ⟨hg3, h⟩ := gd_e h
  refine r_xald hX hk1 hg3 d_Lw_law_621 ?_
  refine r_i2l hX d_Lw_law_622 ?_
  refine r_ldc2 hX d_Lw_law_623 cw_Lw_55 ?_
  refine r_land hX d_Lw_law_626 ?_
  refine r_lor hX d_Lw_law_627 ?_
  obtain ⟨hk4, h⟩ := gd_e h
  obtain ⟨hg5, h⟩ := gd_e h
  obtain ⟨r6, hr7, h⟩ := bd_e h
  refine r_callV1 (As := [_]) hX hM mw_Lw_57 (T_A_letters _ _ _ hr7) (rc_of ci_0 hk4) rfl rfl (al_3 hzz hqq hg5) rfl rfl d_Lw_law_628 ?_
  obtain ⟨hg8, h⟩ := gd_e h
  refine r_aload_n (i := 2) hX d_Lw_law_631 2 rfl rfl ?_
  refine r_aload_n (i := 0) hX d_Lw_law_632 0 rfl rfl ?_
  refine r_iload_n (i := 3) hX d_Lw_law_633 3 rfl rfl ?_
  refine r_iconst (v := (1 : Int32)) hX d_Lw_law_634 rfl ?_
  refine r_iadd hX d_Lw_law_635 ?_
  obtain ⟨hk9, h⟩ := gd_e h
  obtain ⟨hg10, h⟩ := gd_e h
  refine r_xald hX hk9 hg10 d_Lw_law_636 ?_
  refine r_i2l hX d_Lw_law_637 ?_
  refine r_bipush (v := (32 : Int32)) hX d_Lw_law_638 rfl ?_
  refine r_lshl hX d_Lw_law_640 ?_
  refine r_aload_n (i := 0) hX d_Lw_law_641 0 rfl rfl ?_
  refine r_iload_n (i := 3) hX d_Lw_law_642 3 rfl rfl ?_
  refine r_iconst (v := (2 : Int32)) hX d_Lw_law_643 rfl ?_
  refine r_iadd hX d_Lw_law_644 ?_
  obtain ⟨hg11, h⟩ := gd_e h
  refine r_xald hX hk9 hg11 d_Lw_law_645 ?_
  refine r_i2l hX d_Lw_law_646 ?_
  refine r_ldc2 hX d_Lw_law_647 cw_Lw_55 ?_
  refine r_land hX d_Lw_law_650 ?_
  refine r_lor hX d_Lw_law_651 ?_
  obtain ⟨hk12, h⟩ := gd_e h
  obtain ⟨hg13, h⟩ := gd_e h
  obtain ⟨r14, hr15, h⟩ := bd_e h
  refine r_callV1 (As := [_]) hX hM mw_Lw_61 (T_M_letters _ _ _ hr15) (rc_of ci_12 hk12) rfl rfl (al_3 (al_ck (c := 0) hzz hg8) (al_cq (d := 0) hqq hg8) hg13) rfl rfl d_Lw_law_652 ?_
  obtain ⟨hg16, h⟩ := gd_e h
  refine r_icmp_eq hX d_Lw_law_655 rfl h (fun h => ?_) (fun h => ?_)
  · refine r_iinc (i := 3) (v := (6 : Int32)) hX d_Lw_law_1698 3 rfl rfl (by decide) ?_
    refine r_goto hX d_Lw_law_1701 rfl ?_
    exact rj_sub [1, 2, 3, 0] rfl (hrec18 _ _ _ _ _ _ _ h (al_ck (c := 0) (al_ck (c := 0) hzz hg8) hg16) (al_cq (d := 0) (al_cq (d := 0) hqq hg8) hg16))
  · refine r_iconst (v := (0 : Int32)) hX d_Lw_law_658 rfl ?_
    obtain ⟨hg18, h⟩ := gd_e h
    cases h; exact r_lawret hX hM hR (al_ck (c := 0) (al_ck (c := 0) hzz hg8) hg16) (al_cq (d := 0) (al_cq (d := 0) hqq hg8) hg16) hg18 d_Lw_law_659
def F_Lw_law_574 (rec18 : Nat → Nat → Nat → Int32 → AW → Option (Int32 × AW)) (z0 q0 : Nat) (a0 : Nat) (a1 : Nat) (a2 : Nat) (x3 : Int32) (w : AW) : Option (Int32 × AW) :=
  gd (wk w a0 == 110) <|
  gd (inb (x3 + (1 : Int32)) (wn w a0)) <|
  gd (inb (x3 + (2 : Int32)) (wn w a0)) <|
  gd (wk w a1 == 1) <|
  gd (Nat.ble (wz w + 0) (z0 + 600000) && Nat.ble (wq w + 0) (q0 + 7302250)) <|
  (F_A_kept w a1 (wi w a0 (Int32.toNatClampNeg (x3 + (1 : Int32)))) (wi w a0 (Int32.toNatClampNeg (x3 + (2 : Int32))))).bind fun r6 =>
  gd (inb (x3 + (1 : Int32)) (wn w a0)) <|
  gd (inb (x3 + (2 : Int32)) (wn w a0)) <|
  gd (wk w a2 == 13) <|
  gd (Nat.ble (wz w + 0) (z0 + 600000) && Nat.ble (wq w + 0) (q0 + 7302250)) <|
  (F_M_kept w a2 (wi w a0 (Int32.toNatClampNeg (x3 + (1 : Int32)))) (wi w a0 (Int32.toNatClampNeg (x3 + (2 : Int32))))).bind fun r12 =>
  if r6 = r12 then
    let v14 : Int32 := (x3 + (6 : Int32))
    rec18 a0 a1 a2 v14 w
  else
    gd (Nat.ble (wz w) (z0 + 600000) && Nat.ble (wq w) (q0 + 7302250)) <|
    some ((0 : Int32), w)
theorem P_Lw_law_574 {X : AX} {l : Launch} {G : AG} {z0 q0 : Nat} {rec18 : Nat → Nat → Nat → Int32 → AW → Option (Int32 × AW)} (hX : XOK X b_Lw_law "RedSkyLaw" 4) (hM : XM X l G room_1) {o : Int32 × AW} (hR : XL X o.1) (hrec18 : ∀ (k n : Nat) (a0 : Nat) (a1 : Nat) (a2 : Nat) (x3 : Int32) (w : AW), rec18 a0 a1 a2 x3 w = some o → z0 + k = wz w → q0 + n = wq w → RJ X 4 k n 18 [(0, vr a0), (1, vr a1), (2, vr a2), (3, vi x3)] [] w) (k n : Nat) (a0 : Nat) (a1 : Nat) (a2 : Nat) (x3 : Int32) (w : AW) (h : F_Lw_law_574 rec18 z0 q0 a0 a1 a2 x3 w = some o) (hzz : z0 + k = wz w) (hqq : q0 + n = wq w) : RJ X 4 k n 574 [(0, vr a0), (1, vr a1), (2, vr a2), (3, vi x3)] [] w := by
  unfold F_Lw_law_574 at h
  refine r_aload_n (i := 1) hX d_Lw_law_574 1 rfl rfl ?_
  refine r_aload_n (i := 0) hX d_Lw_law_575 0 rfl rfl ?_
  refine r_iload_n (i := 3) hX d_Lw_law_576 3 rfl rfl ?_
  refine r_iconst (v := (1 : Int32)) hX d_Lw_law_577 rfl ?_
  refine r_iadd hX d_Lw_law_578 ?_
  obtain ⟨hk1, h⟩ := gd_e h
  obtain ⟨hg2, h⟩ := gd_e h
  refine r_xald hX hk1 hg2 d_Lw_law_579 ?_
  refine r_aload_n (i := 0) hX d_Lw_law_580 0 rfl rfl ?_
  refine r_iload_n (i := 3) hX d_Lw_law_581 3 rfl rfl ?_
  refine r_iconst (v := (2 : Int32)) hX d_Lw_law_582 rfl ?_
  refine r_iadd hX d_Lw_law_583 ?_
  obtain ⟨hg3, h⟩ := gd_e h
  refine r_xald hX hk1 hg3 d_Lw_law_584 ?_
  obtain ⟨hk4, h⟩ := gd_e h
  obtain ⟨hg5, h⟩ := gd_e h
  obtain ⟨r6, hr7, h⟩ := bd_e h
  refine r_callV1 (As := [_, _]) hX hM mw_Lw_51 (T_A_kept _ _ _ _ hr7) (rc_of ci_0 hk4) rfl rfl (al_3 hzz hqq hg5) rfl rfl d_Lw_law_585 ?_
  refine r_aload_n (i := 2) hX d_Lw_law_588 2 rfl rfl ?_
  refine r_aload_n (i := 0) hX d_Lw_law_589 0 rfl rfl ?_
  refine r_iload_n (i := 3) hX d_Lw_law_590 3 rfl rfl ?_
  refine r_iconst (v := (1 : Int32)) hX d_Lw_law_591 rfl ?_
  refine r_iadd hX d_Lw_law_592 ?_
  obtain ⟨hg8, h⟩ := gd_e h
  refine r_xald hX hk1 hg8 d_Lw_law_593 ?_
  refine r_aload_n (i := 0) hX d_Lw_law_594 0 rfl rfl ?_
  refine r_iload_n (i := 3) hX d_Lw_law_595 3 rfl rfl ?_
  refine r_iconst (v := (2 : Int32)) hX d_Lw_law_596 rfl ?_
  refine r_iadd hX d_Lw_law_597 ?_
  obtain ⟨hg9, h⟩ := gd_e h
  refine r_xald hX hk1 hg9 d_Lw_law_598 ?_
  obtain ⟨hk10, h⟩ := gd_e h
  obtain ⟨hg11, h⟩ := gd_e h
  obtain ⟨r12, hr13, h⟩ := bd_e h
  refine r_callV1 (As := [_, _]) hX hM mw_Lw_54 (T_M_kept _ _ _ _ hr13) (rc_of ci_12 hk10) rfl rfl (al_3 hzz hqq hg11) rfl rfl d_Lw_law_599 ?_
  refine r_icmp_eq hX d_Lw_law_602 rfl h (fun h => ?_) (fun h => ?_)
  · refine r_iinc (i := 3) (v := (6 : Int32)) hX d_Lw_law_1698 3 rfl rfl (by decide) ?_
    refine r_goto hX d_Lw_law_1701 rfl ?_
    exact rj_sub [1, 2, 3, 0] rfl (hrec18 _ _ _ _ _ _ _ h hzz hqq)
  · refine r_iconst (v := (0 : Int32)) hX d_Lw_law_605 rfl ?_
    obtain ⟨hg15, h⟩ := gd_e h
    cases h; exact r_lawret hX hM hR hzz hqq hg15 d_Lw_law_606
def F_Lw_law_531 (rec18 : Nat → Nat → Nat → Int32 → AW → Option (Int32 × AW)) (z0 q0 : Nat) (a0 : Nat) (a1 : Nat) (a2 : Nat) (x3 : Int32) (w : AW) : Option (Int32 × AW) :=
  gd (wk w a0 == 110) <|
  gd (inb (x3 + (1 : Int32)) (wn w a0)) <|
  gd (inb (x3 + (2 : Int32)) (wn w a0)) <|
  gd (inb (x3 + (3 : Int32)) (wn w a0)) <|
  gd (wk w a1 == 1) <|
  gd (Nat.ble (wz w + 0) (z0 + 600000) && Nat.ble (wq w + 0) (q0 + 7302250)) <|
  (F_A_get w a1 (wi w a0 (Int32.toNatClampNeg (x3 + (1 : Int32)))) (wi w a0 (Int32.toNatClampNeg (x3 + (2 : Int32)))) (wi w a0 (Int32.toNatClampNeg (x3 + (3 : Int32))))).bind fun r7 =>
  gd (inb (x3 + (1 : Int32)) (wn w a0)) <|
  gd (inb (x3 + (2 : Int32)) (wn w a0)) <|
  gd (inb (x3 + (3 : Int32)) (wn w a0)) <|
  gd (wk w a2 == 13) <|
  gd (Nat.ble (wz w + 0) (z0 + 600000) && Nat.ble (wq w + 0) (q0 + 7302250)) <|
  (F_M_get w a2 (wi w a0 (Int32.toNatClampNeg (x3 + (1 : Int32)))) (wi w a0 (Int32.toNatClampNeg (x3 + (2 : Int32)))) (wi w a0 (Int32.toNatClampNeg (x3 + (3 : Int32))))).bind fun r14 =>
  if r7 = r14 then
    let v16 : Int32 := (x3 + (6 : Int32))
    rec18 a0 a1 a2 v16 w
  else
    gd (Nat.ble (wz w) (z0 + 600000) && Nat.ble (wq w) (q0 + 7302250)) <|
    some ((0 : Int32), w)
theorem P_Lw_law_531 {X : AX} {l : Launch} {G : AG} {z0 q0 : Nat} {rec18 : Nat → Nat → Nat → Int32 → AW → Option (Int32 × AW)} (hX : XOK X b_Lw_law "RedSkyLaw" 4) (hM : XM X l G room_1) {o : Int32 × AW} (hR : XL X o.1) (hrec18 : ∀ (k n : Nat) (a0 : Nat) (a1 : Nat) (a2 : Nat) (x3 : Int32) (w : AW), rec18 a0 a1 a2 x3 w = some o → z0 + k = wz w → q0 + n = wq w → RJ X 4 k n 18 [(0, vr a0), (1, vr a1), (2, vr a2), (3, vi x3)] [] w) (k n : Nat) (a0 : Nat) (a1 : Nat) (a2 : Nat) (x3 : Int32) (w : AW) (h : F_Lw_law_531 rec18 z0 q0 a0 a1 a2 x3 w = some o) (hzz : z0 + k = wz w) (hqq : q0 + n = wq w) : RJ X 4 k n 531 [(0, vr a0), (1, vr a1), (2, vr a2), (3, vi x3)] [] w := by
  unfold F_Lw_law_531 at h
  refine r_aload_n (i := 1) hX d_Lw_law_531 1 rfl rfl ?_
  refine r_aload_n (i := 0) hX d_Lw_law_532 0 rfl rfl ?_
  refine r_iload_n (i := 3) hX d_Lw_law_533 3 rfl rfl ?_
  refine r_iconst (v := (1 : Int32)) hX d_Lw_law_534 rfl ?_
  refine r_iadd hX d_Lw_law_535 ?_
  obtain ⟨hk1, h⟩ := gd_e h
  obtain ⟨hg2, h⟩ := gd_e h
  refine r_xald hX hk1 hg2 d_Lw_law_536 ?_
  refine r_aload_n (i := 0) hX d_Lw_law_537 0 rfl rfl ?_
  refine r_iload_n (i := 3) hX d_Lw_law_538 3 rfl rfl ?_
  refine r_iconst (v := (2 : Int32)) hX d_Lw_law_539 rfl ?_
  refine r_iadd hX d_Lw_law_540 ?_
  obtain ⟨hg3, h⟩ := gd_e h
  refine r_xald hX hk1 hg3 d_Lw_law_541 ?_
  refine r_aload_n (i := 0) hX d_Lw_law_542 0 rfl rfl ?_
  refine r_iload_n (i := 3) hX d_Lw_law_543 3 rfl rfl ?_
  refine r_iconst (v := (3 : Int32)) hX d_Lw_law_544 rfl ?_
  refine r_iadd hX d_Lw_law_545 ?_
  obtain ⟨hg4, h⟩ := gd_e h
  refine r_xald hX hk1 hg4 d_Lw_law_546 ?_
  obtain ⟨hk5, h⟩ := gd_e h
  obtain ⟨hg6, h⟩ := gd_e h
  obtain ⟨r7, hr8, h⟩ := bd_e h
  refine r_callV1 (As := [_, _, _]) hX hM mw_Lw_47 (T_A_get _ _ _ _ _ hr8) (rc_of ci_0 hk5) rfl rfl (al_3 hzz hqq hg6) rfl rfl d_Lw_law_547 ?_
  refine r_aload_n (i := 2) hX d_Lw_law_550 2 rfl rfl ?_
  refine r_aload_n (i := 0) hX d_Lw_law_551 0 rfl rfl ?_
  refine r_iload_n (i := 3) hX d_Lw_law_552 3 rfl rfl ?_
  refine r_iconst (v := (1 : Int32)) hX d_Lw_law_553 rfl ?_
  refine r_iadd hX d_Lw_law_554 ?_
  obtain ⟨hg9, h⟩ := gd_e h
  refine r_xald hX hk1 hg9 d_Lw_law_555 ?_
  refine r_aload_n (i := 0) hX d_Lw_law_556 0 rfl rfl ?_
  refine r_iload_n (i := 3) hX d_Lw_law_557 3 rfl rfl ?_
  refine r_iconst (v := (2 : Int32)) hX d_Lw_law_558 rfl ?_
  refine r_iadd hX d_Lw_law_559 ?_
  obtain ⟨hg10, h⟩ := gd_e h
  refine r_xald hX hk1 hg10 d_Lw_law_560 ?_
  refine r_aload_n (i := 0) hX d_Lw_law_561 0 rfl rfl ?_
  refine r_iload_n (i := 3) hX d_Lw_law_562 3 rfl rfl ?_
  refine r_iconst (v := (3 : Int32)) hX d_Lw_law_563 rfl ?_
  refine r_iadd hX d_Lw_law_564 ?_
  obtain ⟨hg11, h⟩ := gd_e h
  refine r_xald hX hk1 hg11 d_Lw_law_565 ?_
  obtain ⟨hk12, h⟩ := gd_e h
  obtain ⟨hg13, h⟩ := gd_e h
  obtain ⟨r14, hr15, h⟩ := bd_e h
  refine r_callV1 (As := [_, _, _]) hX hM mw_Lw_50 (T_M_get _ _ _ _ _ hr15) (rc_of ci_12 hk12) rfl rfl (al_3 hzz hqq hg13) rfl rfl d_Lw_law_566 ?_
  refine r_icmp_eq hX d_Lw_law_569 rfl h (fun h => ?_) (fun h => ?_)
  · refine r_iinc (i := 3) (v := (6 : Int32)) hX d_Lw_law_1698 3 rfl rfl (by decide) ?_
    refine r_goto hX d_Lw_law_1701 rfl ?_
    exact rj_sub [1, 2, 3, 0] rfl (hrec18 _ _ _ _ _ _ _ h hzz hqq)
  · refine r_iconst (v := (0 : Int32)) hX d_Lw_law_572 rfl ?_
    obtain ⟨hg17, h⟩ := gd_e h
    cases h; exact r_lawret hX hM hR hzz hqq hg17 d_Lw_law_573
def F_Lw_law_523 (rec18 : Nat → Nat → Nat → Int32 → AW → Option (Int32 × AW)) (z0 q0 : Nat) (a0 : Nat) (a1 : Nat) (a2 : Nat) (x3 : Int32) (s6 : Int32) (s5 : Int32) (s4 : Int32) (s3 : Int32) (s2 : Int32) (s1 : Nat) (s0 : Int32) (w : AW) : Option (Int32 × AW) :=
  gd (wk w s1 == 13) <|
  gd (Nat.ble (wz w + 0) (z0 + 600000) && Nat.ble (wq w + 0) (q0 + 7302250)) <|
  (F_M_set s1 s2 s3 s4 s5 s6 w).bind fun r3 =>
  gd ((wz r3.2 == wz w + 0) && (wq r3.2 == wq w + 0)) <|
  if s0 = r3.1 then
    let v6 : Int32 := (x3 + (6 : Int32))
    rec18 a0 a1 a2 v6 r3.2
  else
    gd (Nat.ble (wz r3.2) (z0 + 600000) && Nat.ble (wq r3.2) (q0 + 7302250)) <|
    some ((0 : Int32), r3.2)
theorem P_Lw_law_523 {X : AX} {l : Launch} {G : AG} {z0 q0 : Nat} {rec18 : Nat → Nat → Nat → Int32 → AW → Option (Int32 × AW)} (hX : XOK X b_Lw_law "RedSkyLaw" 4) (hM : XM X l G room_1) {o : Int32 × AW} (hR : XL X o.1) (hrec18 : ∀ (k n : Nat) (a0 : Nat) (a1 : Nat) (a2 : Nat) (x3 : Int32) (w : AW), rec18 a0 a1 a2 x3 w = some o → z0 + k = wz w → q0 + n = wq w → RJ X 4 k n 18 [(0, vr a0), (1, vr a1), (2, vr a2), (3, vi x3)] [] w) (k n : Nat) (a0 : Nat) (a1 : Nat) (a2 : Nat) (x3 : Int32) (s6 : Int32) (s5 : Int32) (s4 : Int32) (s3 : Int32) (s2 : Int32) (s1 : Nat) (s0 : Int32) (w : AW) (h : F_Lw_law_523 rec18 z0 q0 a0 a1 a2 x3 s6 s5 s4 s3 s2 s1 s0 w = some o) (hzz : z0 + k = wz w) (hqq : q0 + n = wq w) : RJ X 4 k n 523 [(0, vr a0), (1, vr a1), (2, vr a2), (3, vi x3)] [vi s6, vi s5, vi s4, vi s3, vi s2, vr s1, vi s0] w := by
  unfold F_Lw_law_523 at h
  obtain ⟨hk1, h⟩ := gd_e h
  obtain ⟨hg2, h⟩ := gd_e h
  obtain ⟨r3, hr4, h⟩ := bd_e h
  refine r_callV1 (As := [_, _, _, _, _]) hX hM mw_Lw_46 (T_M_set _ _ _ _ _ _ _ hr4) (rc_of ci_12 hk1) rfl rfl (al_3 hzz hqq hg2) rfl rfl d_Lw_law_523 ?_
  obtain ⟨hg5, h⟩ := gd_e h
  refine r_icmp_eq hX d_Lw_law_526 rfl h (fun h => ?_) (fun h => ?_)
  · refine r_iinc (i := 3) (v := (6 : Int32)) hX d_Lw_law_1698 3 rfl rfl (by decide) ?_
    refine r_goto hX d_Lw_law_1701 rfl ?_
    exact rj_sub [1, 2, 3, 0] rfl (hrec18 _ _ _ _ _ _ _ h (al_ck (c := 0) hzz hg5) (al_cq (d := 0) hqq hg5))
  · refine r_iconst (v := (0 : Int32)) hX d_Lw_law_529 rfl ?_
    obtain ⟨hg7, h⟩ := gd_e h
    cases h; exact r_lawret hX hM hR (al_ck (c := 0) hzz hg5) (al_cq (d := 0) hqq hg5) hg7 d_Lw_law_530
def F_Lw_law_486 (rec18 : Nat → Nat → Nat → Int32 → AW → Option (Int32 × AW)) (z0 q0 : Nat) (a0 : Nat) (a1 : Nat) (a2 : Nat) (x3 : Int32) (s5 : Int32) (s4 : Int32) (s3 : Int32) (s2 : Int32) (s1 : Int32) (s0 : Nat) (w : AW) : Option (Int32 × AW) :=
  gd (wk w s0 == 1) <|
  gd (Nat.ble (wz w + 0) (z0 + 600000) && Nat.ble (wq w + 0) (q0 + 7302250)) <|
  (F_A_set s0 s1 s2 s3 s4 s5 w).bind fun r3 =>
  gd ((wz r3.2 == wz w + 0) && (wq r3.2 == wq w + 0)) <|
  gd (wk r3.2 a0 == 110) <|
  gd (inb (x3 + (1 : Int32)) (wn r3.2 a0)) <|
  gd (inb (x3 + (2 : Int32)) (wn r3.2 a0)) <|
  gd (inb (x3 + (3 : Int32)) (wn r3.2 a0)) <|
  gd (inb (x3 + (4 : Int32)) (wn r3.2 a0)) <|
  gd (inb (x3 + (5 : Int32)) (wn r3.2 a0)) <|
  if (wi r3.2 a0 (Int32.toNatClampNeg (x3 + (5 : Int32)))) = 0 then
    F_Lw_law_523 rec18 z0 q0 a0 a1 a2 x3 (0 : Int32) (wi r3.2 a0 (Int32.toNatClampNeg (x3 + (4 : Int32)))) (wi r3.2 a0 (Int32.toNatClampNeg (x3 + (3 : Int32)))) (wi r3.2 a0 (Int32.toNatClampNeg (x3 + (2 : Int32)))) (wi r3.2 a0 (Int32.toNatClampNeg (x3 + (1 : Int32)))) a2 r3.1 r3.2
  else
    F_Lw_law_523 rec18 z0 q0 a0 a1 a2 x3 (1 : Int32) (wi r3.2 a0 (Int32.toNatClampNeg (x3 + (4 : Int32)))) (wi r3.2 a0 (Int32.toNatClampNeg (x3 + (3 : Int32)))) (wi r3.2 a0 (Int32.toNatClampNeg (x3 + (2 : Int32)))) (wi r3.2 a0 (Int32.toNatClampNeg (x3 + (1 : Int32)))) a2 r3.1 r3.2
theorem P_Lw_law_486 {X : AX} {l : Launch} {G : AG} {z0 q0 : Nat} {rec18 : Nat → Nat → Nat → Int32 → AW → Option (Int32 × AW)} (hX : XOK X b_Lw_law "RedSkyLaw" 4) (hM : XM X l G room_1) {o : Int32 × AW} (hR : XL X o.1) (hrec18 : ∀ (k n : Nat) (a0 : Nat) (a1 : Nat) (a2 : Nat) (x3 : Int32) (w : AW), rec18 a0 a1 a2 x3 w = some o → z0 + k = wz w → q0 + n = wq w → RJ X 4 k n 18 [(0, vr a0), (1, vr a1), (2, vr a2), (3, vi x3)] [] w) (k n : Nat) (a0 : Nat) (a1 : Nat) (a2 : Nat) (x3 : Int32) (s5 : Int32) (s4 : Int32) (s3 : Int32) (s2 : Int32) (s1 : Int32) (s0 : Nat) (w : AW) (h : F_Lw_law_486 rec18 z0 q0 a0 a1 a2 x3 s5 s4 s3 s2 s1 s0 w = some o) (hzz : z0 + k = wz w) (hqq : q0 + n = wq w) : RJ X 4 k n 486 [(0, vr a0), (1, vr a1), (2, vr a2), (3, vi x3)] [vi s5, vi s4, vi s3, vi s2, vi s1, vr s0] w := by
  unfold F_Lw_law_486 at h
  obtain ⟨hk1, h⟩ := gd_e h
  obtain ⟨hg2, h⟩ := gd_e h
  obtain ⟨r3, hr4, h⟩ := bd_e h
  refine r_callV1 (As := [_, _, _, _, _]) hX hM mw_Lw_42 (T_A_set _ _ _ _ _ _ _ hr4) (rc_of ci_0 hk1) rfl rfl (al_3 hzz hqq hg2) rfl rfl d_Lw_law_486 ?_
  obtain ⟨hg5, h⟩ := gd_e h
  refine r_aload_n (i := 2) hX d_Lw_law_489 2 rfl rfl ?_
  refine r_aload_n (i := 0) hX d_Lw_law_490 0 rfl rfl ?_
  refine r_iload_n (i := 3) hX d_Lw_law_491 3 rfl rfl ?_
  refine r_iconst (v := (1 : Int32)) hX d_Lw_law_492 rfl ?_
  refine r_iadd hX d_Lw_law_493 ?_
  obtain ⟨hk6, h⟩ := gd_e h
  obtain ⟨hg7, h⟩ := gd_e h
  refine r_xald hX hk6 hg7 d_Lw_law_494 ?_
  refine r_aload_n (i := 0) hX d_Lw_law_495 0 rfl rfl ?_
  refine r_iload_n (i := 3) hX d_Lw_law_496 3 rfl rfl ?_
  refine r_iconst (v := (2 : Int32)) hX d_Lw_law_497 rfl ?_
  refine r_iadd hX d_Lw_law_498 ?_
  obtain ⟨hg8, h⟩ := gd_e h
  refine r_xald hX hk6 hg8 d_Lw_law_499 ?_
  refine r_aload_n (i := 0) hX d_Lw_law_500 0 rfl rfl ?_
  refine r_iload_n (i := 3) hX d_Lw_law_501 3 rfl rfl ?_
  refine r_iconst (v := (3 : Int32)) hX d_Lw_law_502 rfl ?_
  refine r_iadd hX d_Lw_law_503 ?_
  obtain ⟨hg9, h⟩ := gd_e h
  refine r_xald hX hk6 hg9 d_Lw_law_504 ?_
  refine r_aload_n (i := 0) hX d_Lw_law_505 0 rfl rfl ?_
  refine r_iload_n (i := 3) hX d_Lw_law_506 3 rfl rfl ?_
  refine r_iconst (v := (4 : Int32)) hX d_Lw_law_507 rfl ?_
  refine r_iadd hX d_Lw_law_508 ?_
  obtain ⟨hg10, h⟩ := gd_e h
  refine r_xald hX hk6 hg10 d_Lw_law_509 ?_
  refine r_aload_n (i := 0) hX d_Lw_law_510 0 rfl rfl ?_
  refine r_iload_n (i := 3) hX d_Lw_law_511 3 rfl rfl ?_
  refine r_iconst (v := (5 : Int32)) hX d_Lw_law_512 rfl ?_
  refine r_iadd hX d_Lw_law_513 ?_
  obtain ⟨hg11, h⟩ := gd_e h
  refine r_xald hX hk6 hg11 d_Lw_law_514 ?_
  refine r_if_eq hX d_Lw_law_515 rfl h (fun h => ?_) (fun h => ?_)
  · refine r_iconst (v := (0 : Int32)) hX d_Lw_law_522 rfl ?_
    exact rj_sub [0, 1, 2, 3] rfl (P_Lw_law_523 hX hM hR hrec18 _ _ _ _ _ _ _ _ _ _ _ _ _ _ h  (al_ck (c := 0) hzz hg5) (al_cq (d := 0) hqq hg5))
  · refine r_iconst (v := (1 : Int32)) hX d_Lw_law_518 rfl ?_
    refine r_goto hX d_Lw_law_519 rfl ?_
    exact rj_sub [0, 1, 2, 3] rfl (P_Lw_law_523 hX hM hR hrec18 _ _ _ _ _ _ _ _ _ _ _ _ _ _ h  (al_ck (c := 0) hzz hg5) (al_cq (d := 0) hqq hg5))
def F_Lw_law_452 (rec18 : Nat → Nat → Nat → Int32 → AW → Option (Int32 × AW)) (z0 q0 : Nat) (a0 : Nat) (a1 : Nat) (a2 : Nat) (x3 : Int32) (w : AW) : Option (Int32 × AW) :=
  gd (wk w a0 == 110) <|
  gd (inb (x3 + (1 : Int32)) (wn w a0)) <|
  gd (inb (x3 + (2 : Int32)) (wn w a0)) <|
  gd (inb (x3 + (3 : Int32)) (wn w a0)) <|
  gd (inb (x3 + (4 : Int32)) (wn w a0)) <|
  gd (inb (x3 + (5 : Int32)) (wn w a0)) <|
  if (wi w a0 (Int32.toNatClampNeg (x3 + (5 : Int32)))) = 0 then
    F_Lw_law_486 rec18 z0 q0 a0 a1 a2 x3 (0 : Int32) (wi w a0 (Int32.toNatClampNeg (x3 + (4 : Int32)))) (wi w a0 (Int32.toNatClampNeg (x3 + (3 : Int32)))) (wi w a0 (Int32.toNatClampNeg (x3 + (2 : Int32)))) (wi w a0 (Int32.toNatClampNeg (x3 + (1 : Int32)))) a1 w
  else
    F_Lw_law_486 rec18 z0 q0 a0 a1 a2 x3 (1 : Int32) (wi w a0 (Int32.toNatClampNeg (x3 + (4 : Int32)))) (wi w a0 (Int32.toNatClampNeg (x3 + (3 : Int32)))) (wi w a0 (Int32.toNatClampNeg (x3 + (2 : Int32)))) (wi w a0 (Int32.toNatClampNeg (x3 + (1 : Int32)))) a1 w
theorem P_Lw_law_452 {X : AX} {l : Launch} {G : AG} {z0 q0 : Nat} {rec18 : Nat → Nat → Nat → Int32 → AW → Option (Int32 × AW)} (hX : XOK X b_Lw_law "RedSkyLaw" 4) (hM : XM X l G room_1) {o : Int32 × AW} (hR : XL X o.1) (hrec18 : ∀ (k n : Nat) (a0 : Nat) (a1 : Nat) (a2 : Nat) (x3 : Int32) (w : AW), rec18 a0 a1 a2 x3 w = some o → z0 + k = wz w → q0 + n = wq w → RJ X 4 k n 18 [(0, vr a0), (1, vr a1), (2, vr a2), (3, vi x3)] [] w) (k n : Nat) (a0 : Nat) (a1 : Nat) (a2 : Nat) (x3 : Int32) (w : AW) (h : F_Lw_law_452 rec18 z0 q0 a0 a1 a2 x3 w = some o) (hzz : z0 + k = wz w) (hqq : q0 + n = wq w) : RJ X 4 k n 452 [(0, vr a0), (1, vr a1), (2, vr a2), (3, vi x3)] [] w := by
  unfold F_Lw_law_452 at h
  refine r_aload_n (i := 1) hX d_Lw_law_452 1 rfl rfl ?_
  refine r_aload_n (i := 0) hX d_Lw_law_453 0 rfl rfl ?_
  refine r_iload_n (i := 3) hX d_Lw_law_454 3 rfl rfl ?_
  refine r_iconst (v := (1 : Int32)) hX d_Lw_law_455 rfl ?_
  refine r_iadd hX d_Lw_law_456 ?_
  obtain ⟨hk1, h⟩ := gd_e h
  obtain ⟨hg2, h⟩ := gd_e h
  refine r_xald hX hk1 hg2 d_Lw_law_457 ?_
  refine r_aload_n (i := 0) hX d_Lw_law_458 0 rfl rfl ?_
  refine r_iload_n (i := 3) hX d_Lw_law_459 3 rfl rfl ?_
  refine r_iconst (v := (2 : Int32)) hX d_Lw_law_460 rfl ?_
  refine r_iadd hX d_Lw_law_461 ?_
  obtain ⟨hg3, h⟩ := gd_e h
  refine r_xald hX hk1 hg3 d_Lw_law_462 ?_
  refine r_aload_n (i := 0) hX d_Lw_law_463 0 rfl rfl ?_
  refine r_iload_n (i := 3) hX d_Lw_law_464 3 rfl rfl ?_
  refine r_iconst (v := (3 : Int32)) hX d_Lw_law_465 rfl ?_
  refine r_iadd hX d_Lw_law_466 ?_
  obtain ⟨hg4, h⟩ := gd_e h
  refine r_xald hX hk1 hg4 d_Lw_law_467 ?_
  refine r_aload_n (i := 0) hX d_Lw_law_468 0 rfl rfl ?_
  refine r_iload_n (i := 3) hX d_Lw_law_469 3 rfl rfl ?_
  refine r_iconst (v := (4 : Int32)) hX d_Lw_law_470 rfl ?_
  refine r_iadd hX d_Lw_law_471 ?_
  obtain ⟨hg5, h⟩ := gd_e h
  refine r_xald hX hk1 hg5 d_Lw_law_472 ?_
  refine r_aload_n (i := 0) hX d_Lw_law_473 0 rfl rfl ?_
  refine r_iload_n (i := 3) hX d_Lw_law_474 3 rfl rfl ?_
  refine r_iconst (v := (5 : Int32)) hX d_Lw_law_475 rfl ?_
  refine r_iadd hX d_Lw_law_476 ?_
  obtain ⟨hg6, h⟩ := gd_e h
  refine r_xald hX hk1 hg6 d_Lw_law_477 ?_
  refine r_if_eq hX d_Lw_law_478 rfl h (fun h => ?_) (fun h => ?_)
  · refine r_iconst (v := (0 : Int32)) hX d_Lw_law_485 rfl ?_
    exact rj_sub [0, 1, 2, 3] rfl (P_Lw_law_486 hX hM hR hrec18 _ _ _ _ _ _ _ _ _ _ _ _ _ h  hzz hqq)
  · refine r_iconst (v := (1 : Int32)) hX d_Lw_law_481 rfl ?_
    refine r_goto hX d_Lw_law_482 rfl ?_
    exact rj_sub [0, 1, 2, 3] rfl (P_Lw_law_486 hX hM hR hrec18 _ _ _ _ _ _ _ _ _ _ _ _ _ h  hzz hqq)
def F_Lw_law_399 (rec18 : Nat → Nat → Nat → Int32 → AW → Option (Int32 × AW)) (z0 q0 : Nat) (a0 : Nat) (a1 : Nat) (a2 : Nat) (x3 : Int32) (w : AW) : Option (Int32 × AW) :=
  gd (wk w a0 == 110) <|
  gd (inb (x3 + (1 : Int32)) (wn w a0)) <|
  gd (inb (x3 + (2 : Int32)) (wn w a0)) <|
  gd (inb (x3 + (3 : Int32)) (wn w a0)) <|
  gd (inb (x3 + (4 : Int32)) (wn w a0)) <|
  gd (wk w a1 == 1) <|
  gd (Nat.ble (wz w + 0) (z0 + 600000) && Nat.ble (wq w + 0) (q0 + 7302250)) <|
  (F_A_write a1 (wi w a0 (Int32.toNatClampNeg (x3 + (1 : Int32)))) (wi w a0 (Int32.toNatClampNeg (x3 + (2 : Int32)))) (wi w a0 (Int32.toNatClampNeg (x3 + (3 : Int32)))) (wi w a0 (Int32.toNatClampNeg (x3 + (4 : Int32)))) w).bind fun r8 =>
  gd ((wz r8.2 == wz w + 0) && (wq r8.2 == wq w + 0)) <|
  gd (wk r8.2 a0 == 110) <|
  gd (inb (x3 + (1 : Int32)) (wn r8.2 a0)) <|
  gd (inb (x3 + (2 : Int32)) (wn r8.2 a0)) <|
  gd (inb (x3 + (3 : Int32)) (wn r8.2 a0)) <|
  gd (inb (x3 + (4 : Int32)) (wn r8.2 a0)) <|
  gd (wk r8.2 a2 == 13) <|
  gd (Nat.ble (wz r8.2 + 0) (z0 + 600000) && Nat.ble (wq r8.2 + 0) (q0 + 7302250)) <|
  (F_M_write a2 (wi r8.2 a0 (Int32.toNatClampNeg (x3 + (1 : Int32)))) (wi r8.2 a0 (Int32.toNatClampNeg (x3 + (2 : Int32)))) (wi r8.2 a0 (Int32.toNatClampNeg (x3 + (3 : Int32)))) (wi r8.2 a0 (Int32.toNatClampNeg (x3 + (4 : Int32)))) r8.2).bind fun r18 =>
  gd ((wz r18.2 == wz r8.2 + 0) && (wq r18.2 == wq r8.2 + 0)) <|
  if r8.1 = r18.1 then
    let v21 : Int32 := (x3 + (6 : Int32))
    rec18 a0 a1 a2 v21 r18.2
  else
    gd (Nat.ble (wz r18.2) (z0 + 600000) && Nat.ble (wq r18.2) (q0 + 7302250)) <|
    some ((0 : Int32), r18.2)
theorem P_Lw_law_399 {X : AX} {l : Launch} {G : AG} {z0 q0 : Nat} {rec18 : Nat → Nat → Nat → Int32 → AW → Option (Int32 × AW)} (hX : XOK X b_Lw_law "RedSkyLaw" 4) (hM : XM X l G room_1) {o : Int32 × AW} (hR : XL X o.1) (hrec18 : ∀ (k n : Nat) (a0 : Nat) (a1 : Nat) (a2 : Nat) (x3 : Int32) (w : AW), rec18 a0 a1 a2 x3 w = some o → z0 + k = wz w → q0 + n = wq w → RJ X 4 k n 18 [(0, vr a0), (1, vr a1), (2, vr a2), (3, vi x3)] [] w) (k n : Nat) (a0 : Nat) (a1 : Nat) (a2 : Nat) (x3 : Int32) (w : AW) (h : F_Lw_law_399 rec18 z0 q0 a0 a1 a2 x3 w = some o) (hzz : z0 + k = wz w) (hqq : q0 + n = wq w) : RJ X 4 k n 399 [(0, vr a0), (1, vr a1), (2, vr a2), (3, vi x3)] [] w := by
  unfold F_Lw_law_399 at h
  refine r_aload_n (i := 1) hX d_Lw_law_399 1 rfl rfl ?_
  refine r_aload_n (i := 0) hX d_Lw_law_400 0 rfl rfl ?_
  refine r_iload_n (i := 3) hX d_Lw_law_401 3 rfl rfl ?_
  refine r_iconst (v := (1 : Int32)) hX d_Lw_law_402 rfl ?_
  refine r_iadd hX d_Lw_law_403 ?_
  obtain ⟨hk1, h⟩ := gd_e h
  obtain ⟨hg2, h⟩ := gd_e h
  refine r_xald hX hk1 hg2 d_Lw_law_404 ?_
  refine r_aload_n (i := 0) hX d_Lw_law_405 0 rfl rfl ?_
  refine r_iload_n (i := 3) hX d_Lw_law_406 3 rfl rfl ?_
  refine r_iconst (v := (2 : Int32)) hX d_Lw_law_407 rfl ?_
  refine r_iadd hX d_Lw_law_408 ?_
  obtain ⟨hg3, h⟩ := gd_e h
  refine r_xald hX hk1 hg3 d_Lw_law_409 ?_
  refine r_aload_n (i := 0) hX d_Lw_law_410 0 rfl rfl ?_
  refine r_iload_n (i := 3) hX d_Lw_law_411 3 rfl rfl ?_
  refine r_iconst (v := (3 : Int32)) hX d_Lw_law_412 rfl ?_
  refine r_iadd hX d_Lw_law_413 ?_
  obtain ⟨hg4, h⟩ := gd_e h
  refine r_xald hX hk1 hg4 d_Lw_law_414 ?_
  refine r_aload_n (i := 0) hX d_Lw_law_415 0 rfl rfl ?_
  refine r_iload_n (i := 3) hX d_Lw_law_416 3 rfl rfl ?_
  refine r_iconst (v := (4 : Int32)) hX d_Lw_law_417 rfl ?_
  refine r_iadd hX d_Lw_law_418 ?_
  obtain ⟨hg5, h⟩ := gd_e h
  refine r_xald hX hk1 hg5 d_Lw_law_419 ?_
  obtain ⟨hk6, h⟩ := gd_e h
  obtain ⟨hg7, h⟩ := gd_e h
  obtain ⟨r8, hr9, h⟩ := bd_e h
  refine r_callV1 (As := [_, _, _, _]) hX hM mw_Lw_37 (T_A_write _ _ _ _ _ _ hr9) (rc_of ci_0 hk6) rfl rfl (al_3 hzz hqq hg7) rfl rfl d_Lw_law_420 ?_
  obtain ⟨hg10, h⟩ := gd_e h
  refine r_aload_n (i := 2) hX d_Lw_law_423 2 rfl rfl ?_
  refine r_aload_n (i := 0) hX d_Lw_law_424 0 rfl rfl ?_
  refine r_iload_n (i := 3) hX d_Lw_law_425 3 rfl rfl ?_
  refine r_iconst (v := (1 : Int32)) hX d_Lw_law_426 rfl ?_
  refine r_iadd hX d_Lw_law_427 ?_
  obtain ⟨hk11, h⟩ := gd_e h
  obtain ⟨hg12, h⟩ := gd_e h
  refine r_xald hX hk11 hg12 d_Lw_law_428 ?_
  refine r_aload_n (i := 0) hX d_Lw_law_429 0 rfl rfl ?_
  refine r_iload_n (i := 3) hX d_Lw_law_430 3 rfl rfl ?_
  refine r_iconst (v := (2 : Int32)) hX d_Lw_law_431 rfl ?_
  refine r_iadd hX d_Lw_law_432 ?_
  obtain ⟨hg13, h⟩ := gd_e h
  refine r_xald hX hk11 hg13 d_Lw_law_433 ?_
  refine r_aload_n (i := 0) hX d_Lw_law_434 0 rfl rfl ?_
  refine r_iload_n (i := 3) hX d_Lw_law_435 3 rfl rfl ?_
  refine r_iconst (v := (3 : Int32)) hX d_Lw_law_436 rfl ?_
  refine r_iadd hX d_Lw_law_437 ?_
  obtain ⟨hg14, h⟩ := gd_e h
  refine r_xald hX hk11 hg14 d_Lw_law_438 ?_
  refine r_aload_n (i := 0) hX d_Lw_law_439 0 rfl rfl ?_
  refine r_iload_n (i := 3) hX d_Lw_law_440 3 rfl rfl ?_
  refine r_iconst (v := (4 : Int32)) hX d_Lw_law_441 rfl ?_
  refine r_iadd hX d_Lw_law_442 ?_
  obtain ⟨hg15, h⟩ := gd_e h
  refine r_xald hX hk11 hg15 d_Lw_law_443 ?_
  obtain ⟨hk16, h⟩ := gd_e h
  obtain ⟨hg17, h⟩ := gd_e h
  obtain ⟨r18, hr19, h⟩ := bd_e h
  refine r_callV1 (As := [_, _, _, _]) hX hM mw_Lw_41 (T_M_write _ _ _ _ _ _ hr19) (rc_of ci_12 hk16) rfl rfl (al_3 (al_ck (c := 0) hzz hg10) (al_cq (d := 0) hqq hg10) hg17) rfl rfl d_Lw_law_444 ?_
  obtain ⟨hg20, h⟩ := gd_e h
  refine r_icmp_eq hX d_Lw_law_447 rfl h (fun h => ?_) (fun h => ?_)
  · refine r_iinc (i := 3) (v := (6 : Int32)) hX d_Lw_law_1698 3 rfl rfl (by decide) ?_
    refine r_goto hX d_Lw_law_1701 rfl ?_
    exact rj_sub [1, 2, 3, 0] rfl (hrec18 _ _ _ _ _ _ _ h (al_ck (c := 0) (al_ck (c := 0) hzz hg10) hg20) (al_cq (d := 0) (al_cq (d := 0) hqq hg10) hg20))
  · refine r_iconst (v := (0 : Int32)) hX d_Lw_law_450 rfl ?_
    obtain ⟨hg22, h⟩ := gd_e h
    cases h; exact r_lawret hX hM hR (al_ck (c := 0) (al_ck (c := 0) hzz hg10) hg20) (al_cq (d := 0) (al_cq (d := 0) hqq hg10) hg20) hg22 d_Lw_law_451
def F_Lw_law_366 (rec18 : Nat → Nat → Nat → Int32 → AW → Option (Int32 × AW)) (z0 q0 : Nat) (a0 : Nat) (a1 : Nat) (a2 : Nat) (x3 : Int32) (w : AW) : Option (Int32 × AW) :=
  gd (wk w a0 == 110) <|
  gd (inb (x3 + (1 : Int32)) (wn w a0)) <|
  gd (inb (x3 + (2 : Int32)) (wn w a0)) <|
  gd (wk w a1 == 1) <|
  gd (Nat.ble (wz w + 0) (z0 + 600000) && Nat.ble (wq w + 0) (q0 + 7302250)) <|
  (F_A_feast w a1 (wi w a0 (Int32.toNatClampNeg (x3 + (1 : Int32)))) (wi w a0 (Int32.toNatClampNeg (x3 + (2 : Int32))))).bind fun r6 =>
  gd (inb (x3 + (1 : Int32)) (wn w a0)) <|
  gd (inb (x3 + (2 : Int32)) (wn w a0)) <|
  gd (wk w a2 == 13) <|
  gd (Nat.ble (wz w + 0) (z0 + 600000) && Nat.ble (wq w + 0) (q0 + 7302250)) <|
  (F_M_feast w a2 (wi w a0 (Int32.toNatClampNeg (x3 + (1 : Int32)))) (wi w a0 (Int32.toNatClampNeg (x3 + (2 : Int32))))).bind fun r12 =>
  if r6 = r12 then
    let v14 : Int32 := (x3 + (6 : Int32))
    rec18 a0 a1 a2 v14 w
  else
    gd (Nat.ble (wz w) (z0 + 600000) && Nat.ble (wq w) (q0 + 7302250)) <|
    some ((0 : Int32), w)
theorem P_Lw_law_366 {X : AX} {l : Launch} {G : AG} {z0 q0 : Nat} {rec18 : Nat → Nat → Nat → Int32 → AW → Option (Int32 × AW)} (hX : XOK X b_Lw_law "RedSkyLaw" 4) (hM : XM X l G room_1) {o : Int32 × AW} (hR : XL X o.1) (hrec18 : ∀ (k n : Nat) (a0 : Nat) (a1 : Nat) (a2 : Nat) (x3 : Int32) (w : AW), rec18 a0 a1 a2 x3 w = some o → z0 + k = wz w → q0 + n = wq w → RJ X 4 k n 18 [(0, vr a0), (1, vr a1), (2, vr a2), (3, vi x3)] [] w) (k n : Nat) (a0 : Nat) (a1 : Nat) (a2 : Nat) (x3 : Int32) (w : AW) (h : F_Lw_law_366 rec18 z0 q0 a0 a1 a2 x3 w = some o) (hzz : z0 + k = wz w) (hqq : q0 + n = wq w) : RJ X 4 k n 366 [(0, vr a0), (1, vr a1), (2, vr a2), (3, vi x3)] [] w := by
  unfold F_Lw_law_366 at h
  refine r_aload_n (i := 1) hX d_Lw_law_366 1 rfl rfl ?_
  refine r_aload_n (i := 0) hX d_Lw_law_367 0 rfl rfl ?_
  refine r_iload_n (i := 3) hX d_Lw_law_368 3 rfl rfl ?_
  refine r_iconst (v := (1 : Int32)) hX d_Lw_law_369 rfl ?_
  refine r_iadd hX d_Lw_law_370 ?_
  obtain ⟨hk1, h⟩ := gd_e h
  obtain ⟨hg2, h⟩ := gd_e h
  refine r_xald hX hk1 hg2 d_Lw_law_371 ?_
  refine r_aload_n (i := 0) hX d_Lw_law_372 0 rfl rfl ?_
  refine r_iload_n (i := 3) hX d_Lw_law_373 3 rfl rfl ?_
  refine r_iconst (v := (2 : Int32)) hX d_Lw_law_374 rfl ?_
  refine r_iadd hX d_Lw_law_375 ?_
  obtain ⟨hg3, h⟩ := gd_e h
  refine r_xald hX hk1 hg3 d_Lw_law_376 ?_
  obtain ⟨hk4, h⟩ := gd_e h
  obtain ⟨hg5, h⟩ := gd_e h
  obtain ⟨r6, hr7, h⟩ := bd_e h
  refine r_callV1 (As := [_, _]) hX hM mw_Lw_33 (T_A_feast _ _ _ _ hr7) (rc_of ci_0 hk4) rfl rfl (al_3 hzz hqq hg5) rfl rfl d_Lw_law_377 ?_
  refine r_aload_n (i := 2) hX d_Lw_law_380 2 rfl rfl ?_
  refine r_aload_n (i := 0) hX d_Lw_law_381 0 rfl rfl ?_
  refine r_iload_n (i := 3) hX d_Lw_law_382 3 rfl rfl ?_
  refine r_iconst (v := (1 : Int32)) hX d_Lw_law_383 rfl ?_
  refine r_iadd hX d_Lw_law_384 ?_
  obtain ⟨hg8, h⟩ := gd_e h
  refine r_xald hX hk1 hg8 d_Lw_law_385 ?_
  refine r_aload_n (i := 0) hX d_Lw_law_386 0 rfl rfl ?_
  refine r_iload_n (i := 3) hX d_Lw_law_387 3 rfl rfl ?_
  refine r_iconst (v := (2 : Int32)) hX d_Lw_law_388 rfl ?_
  refine r_iadd hX d_Lw_law_389 ?_
  obtain ⟨hg9, h⟩ := gd_e h
  refine r_xald hX hk1 hg9 d_Lw_law_390 ?_
  obtain ⟨hk10, h⟩ := gd_e h
  obtain ⟨hg11, h⟩ := gd_e h
  obtain ⟨r12, hr13, h⟩ := bd_e h
  refine r_callV1 (As := [_, _]) hX hM mw_Lw_36 (T_M_feast _ _ _ _ hr13) (rc_of ci_12 hk10) rfl rfl (al_3 hzz hqq hg11) rfl rfl d_Lw_law_391 ?_
  refine r_icmp_eq hX d_Lw_law_394 rfl h (fun h => ?_) (fun h => ?_)
  · refine r_iinc (i := 3) (v := (6 : Int32)) hX d_Lw_law_1698 3 rfl rfl (by decide) ?_
    refine r_goto hX d_Lw_law_1701 rfl ?_
    exact rj_sub [1, 2, 3, 0] rfl (hrec18 _ _ _ _ _ _ _ h hzz hqq)
  · refine r_iconst (v := (0 : Int32)) hX d_Lw_law_397 rfl ?_
    obtain ⟨hg15, h⟩ := gd_e h
    cases h; exact r_lawret hX hM hR hzz hqq hg15 d_Lw_law_398
def F_Lw_law_303 (rec18 : Nat → Nat → Nat → Int32 → AW → Option (Int32 × AW)) (z0 q0 : Nat) (a0 : Nat) (a1 : Nat) (a2 : Nat) (x3 : Int32) (w : AW) : Option (Int32 × AW) :=
  gd (wk w a0 == 110) <|
  gd (inb (x3 + (1 : Int32)) (wn w a0)) <|
  gd (inb (x3 + (2 : Int32)) (wn w a0)) <|
  gd (inb (x3 + (3 : Int32)) (wn w a0)) <|
  gd (inb (x3 + (4 : Int32)) (wn w a0)) <|
  gd (inb (x3 + (5 : Int32)) (wn w a0)) <|
  gd (wk w a1 == 1) <|
  gd (Nat.ble (wz w + 0) (z0 + 600000) && Nat.ble (wq w + 0) (q0 + 7302250)) <|
  (F_A_saint a1 (wi w a0 (Int32.toNatClampNeg (x3 + (1 : Int32)))) (wi w a0 (Int32.toNatClampNeg (x3 + (2 : Int32)))) (wi w a0 (Int32.toNatClampNeg (x3 + (3 : Int32)))) (wi w a0 (Int32.toNatClampNeg (x3 + (4 : Int32)))) (wi w a0 (Int32.toNatClampNeg (x3 + (5 : Int32)))) w).bind fun r9 =>
  gd ((wz r9.2 == wz w + 0) && (wq r9.2 == wq w + 0)) <|
  gd (wk r9.2 a0 == 110) <|
  gd (inb (x3 + (1 : Int32)) (wn r9.2 a0)) <|
  gd (inb (x3 + (2 : Int32)) (wn r9.2 a0)) <|
  gd (inb (x3 + (3 : Int32)) (wn r9.2 a0)) <|
  gd (inb (x3 + (4 : Int32)) (wn r9.2 a0)) <|
  gd (inb (x3 + (5 : Int32)) (wn r9.2 a0)) <|
  gd (wk r9.2 a2 == 13) <|
  gd (Nat.ble (wz r9.2 + 0) (z0 + 600000) && Nat.ble (wq r9.2 + 0) (q0 + 7302250)) <|
  (F_M_saint a2 (wi r9.2 a0 (Int32.toNatClampNeg (x3 + (1 : Int32)))) (wi r9.2 a0 (Int32.toNatClampNeg (x3 + (2 : Int32)))) (wi r9.2 a0 (Int32.toNatClampNeg (x3 + (3 : Int32)))) (wi r9.2 a0 (Int32.toNatClampNeg (x3 + (4 : Int32)))) (wi r9.2 a0 (Int32.toNatClampNeg (x3 + (5 : Int32)))) r9.2).bind fun r20 =>
  gd ((wz r20.2 == wz r9.2 + 0) && (wq r20.2 == wq r9.2 + 0)) <|
  if r9.1 = r20.1 then
    let v23 : Int32 := (x3 + (6 : Int32))
    rec18 a0 a1 a2 v23 r20.2
  else
    gd (Nat.ble (wz r20.2) (z0 + 600000) && Nat.ble (wq r20.2) (q0 + 7302250)) <|
    some ((0 : Int32), r20.2)
theorem P_Lw_law_303 {X : AX} {l : Launch} {G : AG} {z0 q0 : Nat} {rec18 : Nat → Nat → Nat → Int32 → AW → Option (Int32 × AW)} (hX : XOK X b_Lw_law "RedSkyLaw" 4) (hM : XM X l G room_1) {o : Int32 × AW} (hR : XL X o.1) (hrec18 : ∀ (k n : Nat) (a0 : Nat) (a1 : Nat) (a2 : Nat) (x3 : Int32) (w : AW), rec18 a0 a1 a2 x3 w = some o → z0 + k = wz w → q0 + n = wq w → RJ X 4 k n 18 [(0, vr a0), (1, vr a1), (2, vr a2), (3, vi x3)] [] w) (k n : Nat) (a0 : Nat) (a1 : Nat) (a2 : Nat) (x3 : Int32) (w : AW) (h : F_Lw_law_303 rec18 z0 q0 a0 a1 a2 x3 w = some o) (hzz : z0 + k = wz w) (hqq : q0 + n = wq w) : RJ X 4 k n 303 [(0, vr a0), (1, vr a1), (2, vr a2), (3, vi x3)] [] w := by
  unfold F_Lw_law_303 at h
  refine r_aload_n (i := 1) hX d_Lw_law_303 1 rfl rfl ?_
  refine r_aload_n (i := 0) hX d_Lw_law_304 0 rfl rfl ?_
  refine r_iload_n (i := 3) hX d_Lw_law_305 3 rfl rfl ?_
  refine r_iconst (v := (1 : Int32)) hX d_Lw_law_306 rfl ?_
  refine r_iadd hX d_Lw_law_307 ?_
  obtain ⟨hk1, h⟩ := gd_e h
  obtain ⟨hg2, h⟩ := gd_e h
  refine r_xald hX hk1 hg2 d_Lw_law_308 ?_
  refine r_aload_n (i := 0) hX d_Lw_law_309 0 rfl rfl ?_
  refine r_iload_n (i := 3) hX d_Lw_law_310 3 rfl rfl ?_
  refine r_iconst (v := (2 : Int32)) hX d_Lw_law_311 rfl ?_
  refine r_iadd hX d_Lw_law_312 ?_
  obtain ⟨hg3, h⟩ := gd_e h
  refine r_xald hX hk1 hg3 d_Lw_law_313 ?_
  refine r_aload_n (i := 0) hX d_Lw_law_314 0 rfl rfl ?_
  refine r_iload_n (i := 3) hX d_Lw_law_315 3 rfl rfl ?_
  refine r_iconst (v := (3 : Int32)) hX d_Lw_law_316 rfl ?_
  refine r_iadd hX d_Lw_law_317 ?_
  obtain ⟨hg4, h⟩ := gd_e h
  refine r_xald hX hk1 hg4 d_Lw_law_318 ?_
  refine r_aload_n (i := 0) hX d_Lw_law_319 0 rfl rfl ?_
  refine r_iload_n (i := 3) hX d_Lw_law_320 3 rfl rfl ?_
  refine r_iconst (v := (4 : Int32)) hX d_Lw_law_321 rfl ?_
  refine r_iadd hX d_Lw_law_322 ?_
  obtain ⟨hg5, h⟩ := gd_e h
  refine r_xald hX hk1 hg5 d_Lw_law_323 ?_
  refine r_aload_n (i := 0) hX d_Lw_law_324 0 rfl rfl ?_
  refine r_iload_n (i := 3) hX d_Lw_law_325 3 rfl rfl ?_
  refine r_iconst (v := (5 : Int32)) hX d_Lw_law_326 rfl ?_
  refine r_iadd hX d_Lw_law_327 ?_
  obtain ⟨hg6, h⟩ := gd_e h
  refine r_xald hX hk1 hg6 d_Lw_law_328 ?_
  obtain ⟨hk7, h⟩ := gd_e h
  obtain ⟨hg8, h⟩ := gd_e h
  obtain ⟨r9, hr10, h⟩ := bd_e h
  refine r_callV1 (As := [_, _, _, _, _]) hX hM mw_Lw_28 (T_A_saint _ _ _ _ _ _ _ hr10) (rc_of ci_0 hk7) rfl rfl (al_3 hzz hqq hg8) rfl rfl d_Lw_law_329 ?_
  obtain ⟨hg11, h⟩ := gd_e h
  refine r_aload_n (i := 2) hX d_Lw_law_332 2 rfl rfl ?_
  refine r_aload_n (i := 0) hX d_Lw_law_333 0 rfl rfl ?_
  refine r_iload_n (i := 3) hX d_Lw_law_334 3 rfl rfl ?_
  refine r_iconst (v := (1 : Int32)) hX d_Lw_law_335 rfl ?_
  refine r_iadd hX d_Lw_law_336 ?_
  obtain ⟨hk12, h⟩ := gd_e h
  obtain ⟨hg13, h⟩ := gd_e h
  refine r_xald hX hk12 hg13 d_Lw_law_337 ?_
  refine r_aload_n (i := 0) hX d_Lw_law_338 0 rfl rfl ?_
  refine r_iload_n (i := 3) hX d_Lw_law_339 3 rfl rfl ?_
  refine r_iconst (v := (2 : Int32)) hX d_Lw_law_340 rfl ?_
  refine r_iadd hX d_Lw_law_341 ?_
  obtain ⟨hg14, h⟩ := gd_e h
  refine r_xald hX hk12 hg14 d_Lw_law_342 ?_
  refine r_aload_n (i := 0) hX d_Lw_law_343 0 rfl rfl ?_
  refine r_iload_n (i := 3) hX d_Lw_law_344 3 rfl rfl ?_
  refine r_iconst (v := (3 : Int32)) hX d_Lw_law_345 rfl ?_
  refine r_iadd hX d_Lw_law_346 ?_
  obtain ⟨hg15, h⟩ := gd_e h
  refine r_xald hX hk12 hg15 d_Lw_law_347 ?_
  refine r_aload_n (i := 0) hX d_Lw_law_348 0 rfl rfl ?_
  refine r_iload_n (i := 3) hX d_Lw_law_349 3 rfl rfl ?_
  refine r_iconst (v := (4 : Int32)) hX d_Lw_law_350 rfl ?_
  refine r_iadd hX d_Lw_law_351 ?_
  obtain ⟨hg16, h⟩ := gd_e h
  refine r_xald hX hk12 hg16 d_Lw_law_352 ?_
  refine r_aload_n (i := 0) hX d_Lw_law_353 0 rfl rfl ?_
  refine r_iload_n (i := 3) hX d_Lw_law_354 3 rfl rfl ?_
  refine r_iconst (v := (5 : Int32)) hX d_Lw_law_355 rfl ?_
  refine r_iadd hX d_Lw_law_356 ?_
  obtain ⟨hg17, h⟩ := gd_e h
  refine r_xald hX hk12 hg17 d_Lw_law_357 ?_
  obtain ⟨hk18, h⟩ := gd_e h
  obtain ⟨hg19, h⟩ := gd_e h
  obtain ⟨r20, hr21, h⟩ := bd_e h
  refine r_callV1 (As := [_, _, _, _, _]) hX hM mw_Lw_32 (T_M_saint _ _ _ _ _ _ _ hr21) (rc_of ci_12 hk18) rfl rfl (al_3 (al_ck (c := 0) hzz hg11) (al_cq (d := 0) hqq hg11) hg19) rfl rfl d_Lw_law_358 ?_
  obtain ⟨hg22, h⟩ := gd_e h
  refine r_icmp_eq hX d_Lw_law_361 rfl h (fun h => ?_) (fun h => ?_)
  · refine r_iinc (i := 3) (v := (6 : Int32)) hX d_Lw_law_1698 3 rfl rfl (by decide) ?_
    refine r_goto hX d_Lw_law_1701 rfl ?_
    exact rj_sub [1, 2, 3, 0] rfl (hrec18 _ _ _ _ _ _ _ h (al_ck (c := 0) (al_ck (c := 0) hzz hg11) hg22) (al_cq (d := 0) (al_cq (d := 0) hqq hg11) hg22))
  · refine r_iconst (v := (0 : Int32)) hX d_Lw_law_364 rfl ?_
    obtain ⟨hg24, h⟩ := gd_e h
    cases h; exact r_lawret hX hM hR (al_ck (c := 0) (al_ck (c := 0) hzz hg11) hg22) (al_cq (d := 0) (al_cq (d := 0) hqq hg11) hg22) hg24 d_Lw_law_365
def F_Lw_law_270 (rec18 : Nat → Nat → Nat → Int32 → AW → Option (Int32 × AW)) (z0 q0 : Nat) (a0 : Nat) (a1 : Nat) (a2 : Nat) (x3 : Int32) (w : AW) : Option (Int32 × AW) :=
  gd (wk w a0 == 110) <|
  gd (inb (x3 + (1 : Int32)) (wn w a0)) <|
  gd (inb (x3 + (2 : Int32)) (wn w a0)) <|
  gd (wk w a1 == 1) <|
  gd (Nat.ble (wz w + 0) (z0 + 600000) && Nat.ble (wq w + 0) (q0 + 7302250)) <|
  (F_A_date w a1 (wi w a0 (Int32.toNatClampNeg (x3 + (1 : Int32)))) (wi w a0 (Int32.toNatClampNeg (x3 + (2 : Int32))))).bind fun r6 =>
  gd (inb (x3 + (1 : Int32)) (wn w a0)) <|
  gd (inb (x3 + (2 : Int32)) (wn w a0)) <|
  gd (wk w a2 == 13) <|
  gd (Nat.ble (wz w + 0) (z0 + 600000) && Nat.ble (wq w + 0) (q0 + 7302250)) <|
  (F_M_date w a2 (wi w a0 (Int32.toNatClampNeg (x3 + (1 : Int32)))) (wi w a0 (Int32.toNatClampNeg (x3 + (2 : Int32))))).bind fun r12 =>
  if r6 = r12 then
    let v14 : Int32 := (x3 + (6 : Int32))
    rec18 a0 a1 a2 v14 w
  else
    gd (Nat.ble (wz w) (z0 + 600000) && Nat.ble (wq w) (q0 + 7302250)) <|
    some ((0 : Int32), w)
theorem P_Lw_law_270 {X : AX} {l : Launch} {G : AG} {z0 q0 : Nat} {rec18 : Nat → Nat → Nat → Int32 → AW → Option (Int32 × AW)} (hX : XOK X b_Lw_law "RedSkyLaw" 4) (hM : XM X l G room_1) {o : Int32 × AW} (hR : XL X o.1) (hrec18 : ∀ (k n : Nat) (a0 : Nat) (a1 : Nat) (a2 : Nat) (x3 : Int32) (w : AW), rec18 a0 a1 a2 x3 w = some o → z0 + k = wz w → q0 + n = wq w → RJ X 4 k n 18 [(0, vr a0), (1, vr a1), (2, vr a2), (3, vi x3)] [] w) (k n : Nat) (a0 : Nat) (a1 : Nat) (a2 : Nat) (x3 : Int32) (w : AW) (h : F_Lw_law_270 rec18 z0 q0 a0 a1 a2 x3 w = some o) (hzz : z0 + k = wz w) (hqq : q0 + n = wq w) : RJ X 4 k n 270 [(0, vr a0), (1, vr a1), (2, vr a2), (3, vi x3)] [] w := by
  unfold F_Lw_law_270 at h
  refine r_aload_n (i := 1) hX d_Lw_law_270 1 rfl rfl ?_
  refine r_aload_n (i := 0) hX d_Lw_law_271 0 rfl rfl ?_
  refine r_iload_n (i := 3) hX d_Lw_law_272 3 rfl rfl ?_
  refine r_iconst (v := (1 : Int32)) hX d_Lw_law_273 rfl ?_
  refine r_iadd hX d_Lw_law_274 ?_
  obtain ⟨hk1, h⟩ := gd_e h
  obtain ⟨hg2, h⟩ := gd_e h
  refine r_xald hX hk1 hg2 d_Lw_law_275 ?_
  refine r_aload_n (i := 0) hX d_Lw_law_276 0 rfl rfl ?_
  refine r_iload_n (i := 3) hX d_Lw_law_277 3 rfl rfl ?_
  refine r_iconst (v := (2 : Int32)) hX d_Lw_law_278 rfl ?_
  refine r_iadd hX d_Lw_law_279 ?_
  obtain ⟨hg3, h⟩ := gd_e h
  refine r_xald hX hk1 hg3 d_Lw_law_280 ?_
  obtain ⟨hk4, h⟩ := gd_e h
  obtain ⟨hg5, h⟩ := gd_e h
  obtain ⟨r6, hr7, h⟩ := bd_e h
  refine r_callV1 (As := [_, _]) hX hM mw_Lw_23 (T_A_date _ _ _ _ hr7) (rc_of ci_0 hk4) rfl rfl (al_3 hzz hqq hg5) rfl rfl d_Lw_law_281 ?_
  refine r_aload_n (i := 2) hX d_Lw_law_284 2 rfl rfl ?_
  refine r_aload_n (i := 0) hX d_Lw_law_285 0 rfl rfl ?_
  refine r_iload_n (i := 3) hX d_Lw_law_286 3 rfl rfl ?_
  refine r_iconst (v := (1 : Int32)) hX d_Lw_law_287 rfl ?_
  refine r_iadd hX d_Lw_law_288 ?_
  obtain ⟨hg8, h⟩ := gd_e h
  refine r_xald hX hk1 hg8 d_Lw_law_289 ?_
  refine r_aload_n (i := 0) hX d_Lw_law_290 0 rfl rfl ?_
  refine r_iload_n (i := 3) hX d_Lw_law_291 3 rfl rfl ?_
  refine r_iconst (v := (2 : Int32)) hX d_Lw_law_292 rfl ?_
  refine r_iadd hX d_Lw_law_293 ?_
  obtain ⟨hg9, h⟩ := gd_e h
  refine r_xald hX hk1 hg9 d_Lw_law_294 ?_
  obtain ⟨hk10, h⟩ := gd_e h
  obtain ⟨hg11, h⟩ := gd_e h
  obtain ⟨r12, hr13, h⟩ := bd_e h
  refine r_callV1 (As := [_, _]) hX hM mw_Lw_27 (T_M_date _ _ _ _ hr13) (rc_of ci_12 hk10) rfl rfl (al_3 hzz hqq hg11) rfl rfl d_Lw_law_295 ?_
  refine r_icmp_eq hX d_Lw_law_298 rfl h (fun h => ?_) (fun h => ?_)
  · refine r_iinc (i := 3) (v := (6 : Int32)) hX d_Lw_law_1698 3 rfl rfl (by decide) ?_
    refine r_goto hX d_Lw_law_1701 rfl ?_
    exact rj_sub [1, 2, 3, 0] rfl (hrec18 _ _ _ _ _ _ _ h hzz hqq)
  · refine r_iconst (v := (0 : Int32)) hX d_Lw_law_301 rfl ?_
    obtain ⟨hg15, h⟩ := gd_e h
    cases h; exact r_lawret hX hM hR hzz hqq hg15 d_Lw_law_302
def F_Lw_law_227 (rec18 : Nat → Nat → Nat → Int32 → AW → Option (Int32 × AW)) (z0 q0 : Nat) (a0 : Nat) (a1 : Nat) (a2 : Nat) (x3 : Int32) (w : AW) : Option (Int32 × AW) :=
  gd (wk w a0 == 110) <|
  gd (inb (x3 + (1 : Int32)) (wn w a0)) <|
  gd (inb (x3 + (2 : Int32)) (wn w a0)) <|
  gd (inb (x3 + (3 : Int32)) (wn w a0)) <|
  gd (wk w a1 == 1) <|
  gd (Nat.ble (wz w + 0) (z0 + 600000) && Nat.ble (wq w + 0) (q0 + 7302250)) <|
  (F_A_day w a1 (wi w a0 (Int32.toNatClampNeg (x3 + (1 : Int32)))) (wi w a0 (Int32.toNatClampNeg (x3 + (2 : Int32)))) (wi w a0 (Int32.toNatClampNeg (x3 + (3 : Int32))))).bind fun r7 =>
  gd (inb (x3 + (1 : Int32)) (wn w a0)) <|
  gd (inb (x3 + (2 : Int32)) (wn w a0)) <|
  gd (inb (x3 + (3 : Int32)) (wn w a0)) <|
  gd (wk w a2 == 13) <|
  gd (Nat.ble (wz w + 0) (z0 + 600000) && Nat.ble (wq w + 0) (q0 + 7302250)) <|
  (F_M_day w a2 (wi w a0 (Int32.toNatClampNeg (x3 + (1 : Int32)))) (wi w a0 (Int32.toNatClampNeg (x3 + (2 : Int32)))) (wi w a0 (Int32.toNatClampNeg (x3 + (3 : Int32))))).bind fun r14 =>
  if r7 = r14 then
    let v16 : Int32 := (x3 + (6 : Int32))
    rec18 a0 a1 a2 v16 w
  else
    gd (Nat.ble (wz w) (z0 + 600000) && Nat.ble (wq w) (q0 + 7302250)) <|
    some ((0 : Int32), w)
theorem P_Lw_law_227 {X : AX} {l : Launch} {G : AG} {z0 q0 : Nat} {rec18 : Nat → Nat → Nat → Int32 → AW → Option (Int32 × AW)} (hX : XOK X b_Lw_law "RedSkyLaw" 4) (hM : XM X l G room_1) {o : Int32 × AW} (hR : XL X o.1) (hrec18 : ∀ (k n : Nat) (a0 : Nat) (a1 : Nat) (a2 : Nat) (x3 : Int32) (w : AW), rec18 a0 a1 a2 x3 w = some o → z0 + k = wz w → q0 + n = wq w → RJ X 4 k n 18 [(0, vr a0), (1, vr a1), (2, vr a2), (3, vi x3)] [] w) (k n : Nat) (a0 : Nat) (a1 : Nat) (a2 : Nat) (x3 : Int32) (w : AW) (h : F_Lw_law_227 rec18 z0 q0 a0 a1 a2 x3 w = some o) (hzz : z0 + k = wz w) (hqq : q0 + n = wq w) : RJ X 4 k n 227 [(0, vr a0), (1, vr a1), (2, vr a2), (3, vi x3)] [] w := by
  unfold F_Lw_law_227 at h
  refine r_aload_n (i := 1) hX d_Lw_law_227 1 rfl rfl ?_
  refine r_aload_n (i := 0) hX d_Lw_law_228 0 rfl rfl ?_
  refine r_iload_n (i := 3) hX d_Lw_law_229 3 rfl rfl ?_
  refine r_iconst (v := (1 : Int32)) hX d_Lw_law_230 rfl ?_
  refine r_iadd hX d_Lw_law_231 ?_
  obtain ⟨hk1, h⟩ := gd_e h
  obtain ⟨hg2, h⟩ := gd_e h
  refine r_xald hX hk1 hg2 d_Lw_law_232 ?_
  refine r_aload_n (i := 0) hX d_Lw_law_233 0 rfl rfl ?_
  refine r_iload_n (i := 3) hX d_Lw_law_234 3 rfl rfl ?_
  refine r_iconst (v := (2 : Int32)) hX d_Lw_law_235 rfl ?_
  refine r_iadd hX d_Lw_law_236 ?_
  obtain ⟨hg3, h⟩ := gd_e h
  refine r_xald hX hk1 hg3 d_Lw_law_237 ?_
  refine r_aload_n (i := 0) hX d_Lw_law_238 0 rfl rfl ?_
  refine r_iload_n (i := 3) hX d_Lw_law_239 3 rfl rfl ?_
  refine r_iconst (v := (3 : Int32)) hX d_Lw_law_240 rfl ?_
  refine r_iadd hX d_Lw_law_241 ?_
  obtain ⟨hg4, h⟩ := gd_e h
  refine r_xald hX hk1 hg4 d_Lw_law_242 ?_
  obtain ⟨hk5, h⟩ := gd_e h
  obtain ⟨hg6, h⟩ := gd_e h
  obtain ⟨r7, hr8, h⟩ := bd_e h
  refine r_callV1 (As := [_, _, _]) hX hM mw_Lw_18 (T_A_day _ _ _ _ _ hr8) (rc_of ci_0 hk5) rfl rfl (al_3 hzz hqq hg6) rfl rfl d_Lw_law_243 ?_
  refine r_aload_n (i := 2) hX d_Lw_law_246 2 rfl rfl ?_
  refine r_aload_n (i := 0) hX d_Lw_law_247 0 rfl rfl ?_
  refine r_iload_n (i := 3) hX d_Lw_law_248 3 rfl rfl ?_
  refine r_iconst (v := (1 : Int32)) hX d_Lw_law_249 rfl ?_
  refine r_iadd hX d_Lw_law_250 ?_
  obtain ⟨hg9, h⟩ := gd_e h
  refine r_xald hX hk1 hg9 d_Lw_law_251 ?_
  refine r_aload_n (i := 0) hX d_Lw_law_252 0 rfl rfl ?_
  refine r_iload_n (i := 3) hX d_Lw_law_253 3 rfl rfl ?_
  refine r_iconst (v := (2 : Int32)) hX d_Lw_law_254 rfl ?_
  refine r_iadd hX d_Lw_law_255 ?_
  obtain ⟨hg10, h⟩ := gd_e h
  refine r_xald hX hk1 hg10 d_Lw_law_256 ?_
  refine r_aload_n (i := 0) hX d_Lw_law_257 0 rfl rfl ?_
  refine r_iload_n (i := 3) hX d_Lw_law_258 3 rfl rfl ?_
  refine r_iconst (v := (3 : Int32)) hX d_Lw_law_259 rfl ?_
  refine r_iadd hX d_Lw_law_260 ?_
  obtain ⟨hg11, h⟩ := gd_e h
  refine r_xald hX hk1 hg11 d_Lw_law_261 ?_
  obtain ⟨hk12, h⟩ := gd_e h
  obtain ⟨hg13, h⟩ := gd_e h
  obtain ⟨r14, hr15, h⟩ := bd_e h
  refine r_callV1 (As := [_, _, _]) hX hM mw_Lw_22 (T_M_day _ _ _ _ _ hr15) (rc_of ci_12 hk12) rfl rfl (al_3 hzz hqq hg13) rfl rfl d_Lw_law_262 ?_
  refine r_icmp_eq hX d_Lw_law_265 rfl h (fun h => ?_) (fun h => ?_)
  · refine r_iinc (i := 3) (v := (6 : Int32)) hX d_Lw_law_1698 3 rfl rfl (by decide) ?_
    refine r_goto hX d_Lw_law_1701 rfl ?_
    exact rj_sub [1, 2, 3, 0] rfl (hrec18 _ _ _ _ _ _ _ h hzz hqq)
  · refine r_iconst (v := (0 : Int32)) hX d_Lw_law_268 rfl ?_
    obtain ⟨hg17, h⟩ := gd_e h
    cases h; exact r_lawret hX hM hR hzz hqq hg17 d_Lw_law_269
def F_Lw_law_204 (rec18 : Nat → Nat → Nat → Int32 → AW → Option (Int32 × AW)) (z0 q0 : Nat) (a0 : Nat) (a1 : Nat) (a2 : Nat) (x3 : Int32) (w : AW) : Option (Int32 × AW) :=
  gd (wk w a0 == 110) <|
  gd (inb (x3 + (1 : Int32)) (wn w a0)) <|
  gd (wk w a1 == 1) <|
  gd (Nat.ble (wz w + 0) (z0 + 600000) && Nat.ble (wq w + 0) (q0 + 7302250)) <|
  (F_A_first a1 (wi w a0 (Int32.toNatClampNeg (x3 + (1 : Int32)))) w).bind fun r5 =>
  gd ((wz r5.2 == wz w + 0) && (wq r5.2 == wq w + 0)) <|
  gd (wk r5.2 a0 == 110) <|
  gd (inb (x3 + (1 : Int32)) (wn r5.2 a0)) <|
  gd (wk r5.2 a2 == 13) <|
  gd (Nat.ble (wz r5.2 + 0) (z0 + 600000) && Nat.ble (wq r5.2 + 0) (q0 + 7302250)) <|
  (F_M_first a2 (wi r5.2 a0 (Int32.toNatClampNeg (x3 + (1 : Int32)))) r5.2).bind fun r12 =>
  gd ((wz r12.2 == wz r5.2 + 0) && (wq r12.2 == wq r5.2 + 0)) <|
  if r5.1 = r12.1 then
    let v15 : Int32 := (x3 + (6 : Int32))
    rec18 a0 a1 a2 v15 r12.2
  else
    gd (Nat.ble (wz r12.2) (z0 + 600000) && Nat.ble (wq r12.2) (q0 + 7302250)) <|
    some ((0 : Int32), r12.2)
theorem P_Lw_law_204 {X : AX} {l : Launch} {G : AG} {z0 q0 : Nat} {rec18 : Nat → Nat → Nat → Int32 → AW → Option (Int32 × AW)} (hX : XOK X b_Lw_law "RedSkyLaw" 4) (hM : XM X l G room_1) {o : Int32 × AW} (hR : XL X o.1) (hrec18 : ∀ (k n : Nat) (a0 : Nat) (a1 : Nat) (a2 : Nat) (x3 : Int32) (w : AW), rec18 a0 a1 a2 x3 w = some o → z0 + k = wz w → q0 + n = wq w → RJ X 4 k n 18 [(0, vr a0), (1, vr a1), (2, vr a2), (3, vi x3)] [] w) (k n : Nat) (a0 : Nat) (a1 : Nat) (a2 : Nat) (x3 : Int32) (w : AW) (h : F_Lw_law_204 rec18 z0 q0 a0 a1 a2 x3 w = some o) (hzz : z0 + k = wz w) (hqq : q0 + n = wq w) : RJ X 4 k n 204 [(0, vr a0), (1, vr a1), (2, vr a2), (3, vi x3)] [] w := by
  unfold F_Lw_law_204 at h
  refine r_aload_n (i := 1) hX d_Lw_law_204 1 rfl rfl ?_
  refine r_aload_n (i := 0) hX d_Lw_law_205 0 rfl rfl ?_
  refine r_iload_n (i := 3) hX d_Lw_law_206 3 rfl rfl ?_
  refine r_iconst (v := (1 : Int32)) hX d_Lw_law_207 rfl ?_
  refine r_iadd hX d_Lw_law_208 ?_
  obtain ⟨hk1, h⟩ := gd_e h
  obtain ⟨hg2, h⟩ := gd_e h
  refine r_xald hX hk1 hg2 d_Lw_law_209 ?_
  obtain ⟨hk3, h⟩ := gd_e h
  obtain ⟨hg4, h⟩ := gd_e h
  obtain ⟨r5, hr6, h⟩ := bd_e h
  refine r_callV1 (As := [_]) hX hM mw_Lw_13 (T_A_first _ _ _ hr6) (rc_of ci_0 hk3) rfl rfl (al_3 hzz hqq hg4) rfl rfl d_Lw_law_210 ?_
  obtain ⟨hg7, h⟩ := gd_e h
  refine r_aload_n (i := 2) hX d_Lw_law_213 2 rfl rfl ?_
  refine r_aload_n (i := 0) hX d_Lw_law_214 0 rfl rfl ?_
  refine r_iload_n (i := 3) hX d_Lw_law_215 3 rfl rfl ?_
  refine r_iconst (v := (1 : Int32)) hX d_Lw_law_216 rfl ?_
  refine r_iadd hX d_Lw_law_217 ?_
  obtain ⟨hk8, h⟩ := gd_e h
  obtain ⟨hg9, h⟩ := gd_e h
  refine r_xald hX hk8 hg9 d_Lw_law_218 ?_
  obtain ⟨hk10, h⟩ := gd_e h
  obtain ⟨hg11, h⟩ := gd_e h
  obtain ⟨r12, hr13, h⟩ := bd_e h
  refine r_callV1 (As := [_]) hX hM mw_Lw_17 (T_M_first _ _ _ hr13) (rc_of ci_12 hk10) rfl rfl (al_3 (al_ck (c := 0) hzz hg7) (al_cq (d := 0) hqq hg7) hg11) rfl rfl d_Lw_law_219 ?_
  obtain ⟨hg14, h⟩ := gd_e h
  refine r_icmp_eq hX d_Lw_law_222 rfl h (fun h => ?_) (fun h => ?_)
  · refine r_iinc (i := 3) (v := (6 : Int32)) hX d_Lw_law_1698 3 rfl rfl (by decide) ?_
    refine r_goto hX d_Lw_law_1701 rfl ?_
    exact rj_sub [1, 2, 3, 0] rfl (hrec18 _ _ _ _ _ _ _ h (al_ck (c := 0) (al_ck (c := 0) hzz hg7) hg14) (al_cq (d := 0) (al_cq (d := 0) hqq hg7) hg14))
  · refine r_iconst (v := (0 : Int32)) hX d_Lw_law_225 rfl ?_
    obtain ⟨hg16, h⟩ := gd_e h
    cases h; exact r_lawret hX hM hR (al_ck (c := 0) (al_ck (c := 0) hzz hg7) hg14) (al_cq (d := 0) (al_cq (d := 0) hqq hg7) hg14) hg16 d_Lw_law_226
def F_Lw_law_18_B (rec18 : Nat → Nat → Nat → Int32 → AW → Option (Int32 × AW)) (z0 q0 : Nat) (a0 : Nat) (a1 : Nat) (a2 : Nat) (x3 : Int32) (w : AW) : Option (Int32 × AW) :=
  gd (wk w a0 == 110) <|
  if ((Int32.ofNat (wn w a0)) - (6 : Int32)) < x3 then
    gd (Nat.ble (wz w) (z0 + 600000) && Nat.ble (wq w) (q0 + 7302250)) <|
    some ((1 : Int32), w)
  else
    gd (inb x3 (wn w a0)) <|
    let v4 : Int32 := ((wi w a0 (Int32.toNatClampNeg x3)) &&& (63 : Int32))
    if Int32.toInt v4 < 0 ∨ 38 < Int32.toInt v4 then
      let v5 : Int32 := (x3 + (6 : Int32))
      rec18 a0 a1 a2 v5 w
    else if v4 = (0 : Int32) then
      F_Lw_law_204 rec18 z0 q0 a0 a1 a2 x3 w
    else if v4 = (1 : Int32) then
      F_Lw_law_227 rec18 z0 q0 a0 a1 a2 x3 w
    else if v4 = (2 : Int32) then
      F_Lw_law_270 rec18 z0 q0 a0 a1 a2 x3 w
    else if v4 = (3 : Int32) then
      F_Lw_law_303 rec18 z0 q0 a0 a1 a2 x3 w
    else if v4 = (4 : Int32) then
      F_Lw_law_366 rec18 z0 q0 a0 a1 a2 x3 w
    else if v4 = (5 : Int32) then
      F_Lw_law_399 rec18 z0 q0 a0 a1 a2 x3 w
    else if v4 = (6 : Int32) then
      F_Lw_law_452 rec18 z0 q0 a0 a1 a2 x3 w
    else if v4 = (7 : Int32) then
      F_Lw_law_531 rec18 z0 q0 a0 a1 a2 x3 w
    else if v4 = (8 : Int32) then
      F_Lw_law_574 rec18 z0 q0 a0 a1 a2 x3 w
    else if v4 = (9 : Int32) then
      F_Lw_law_607 rec18 z0 q0 a0 a1 a2 x3 w
    else if v4 = (10 : Int32) then
      F_Lw_law_660 rec18 z0 q0 a0 a1 a2 x3 w
    else if v4 = (11 : Int32) then
      F_Lw_law_673 rec18 z0 q0 a0 a1 a2 x3 w
    else if v4 = (12 : Int32) then
      F_Lw_law_686 rec18 z0 q0 a0 a1 a2 x3 w
    else if v4 = (13 : Int32) then
      F_Lw_law_699 rec18 z0 q0 a0 a1 a2 x3 w
    else if v4 = (14 : Int32) then
      F_Lw_law_732 rec18 z0 q0 a0 a1 a2 x3 w
    else if v4 = (15 : Int32) then
      F_Lw_law_745 rec18 z0 q0 a0 a1 a2 x3 w
    else if v4 = (16 : Int32) then
      F_Lw_law_798 rec18 z0 q0 a0 a1 a2 x3 w
    else if v4 = (17 : Int32) then
      F_Lw_law_861 rec18 z0 q0 a0 a1 a2 x3 w
    else if v4 = (18 : Int32) then
      F_Lw_law_914 rec18 z0 q0 a0 a1 a2 x3 w
    else if v4 = (19 : Int32) then
      F_Lw_law_947 rec18 z0 q0 a0 a1 a2 x3 w
    else if v4 = (20 : Int32) then
      F_Lw_law_980 rec18 z0 q0 a0 a1 a2 x3 w
    else if v4 = (21 : Int32) then
      F_Lw_law_1033 rec18 z0 q0 a0 a1 a2 x3 w
    else if v4 = (22 : Int32) then
      F_Lw_law_1066 rec18 z0 q0 a0 a1 a2 x3 w
    else if v4 = (23 : Int32) then
      F_Lw_law_1109 rec18 z0 q0 a0 a1 a2 x3 w
    else if v4 = (24 : Int32) then
      F_Lw_law_1142 rec18 z0 q0 a0 a1 a2 x3 w
    else if v4 = (25 : Int32) then
      F_Lw_law_1165 rec18 z0 q0 a0 a1 a2 x3 w
    else if v4 = (26 : Int32) then
      F_Lw_law_1218 rec18 z0 q0 a0 a1 a2 x3 w
    else if v4 = (27 : Int32) then
      F_Lw_law_1241 rec18 z0 q0 a0 a1 a2 x3 w
    else if v4 = (28 : Int32) then
      F_Lw_law_1264 rec18 z0 q0 a0 a1 a2 x3 w
    else if v4 = (29 : Int32) then
      F_Lw_law_1297 rec18 z0 q0 a0 a1 a2 x3 w
    else if v4 = (30 : Int32) then
      F_Lw_law_1340 rec18 z0 q0 a0 a1 a2 x3 w
    else if v4 = (31 : Int32) then
      F_Lw_law_1393 rec18 z0 q0 a0 a1 a2 x3 w
    else if v4 = (32 : Int32) then
      F_Lw_law_1436 rec18 z0 q0 a0 a1 a2 x3 w
    else if v4 = (33 : Int32) then
      F_Lw_law_1469 rec18 z0 q0 a0 a1 a2 x3 w
    else if v4 = (34 : Int32) then
      F_Lw_law_1522 rec18 z0 q0 a0 a1 a2 x3 w
    else if v4 = (35 : Int32) then
      F_Lw_law_1575 rec18 z0 q0 a0 a1 a2 x3 w
    else if v4 = (36 : Int32) then
      F_Lw_law_1618 rec18 z0 q0 a0 a1 a2 x3 w
    else if v4 = (37 : Int32) then
      F_Lw_law_1661 rec18 z0 q0 a0 a1 a2 x3 w
    else if v4 = (38 : Int32) then
      F_Lw_law_1684 rec18 z0 q0 a0 a1 a2 x3 w
    else none
theorem P_Lw_law_18_B {X : AX} {l : Launch} {G : AG} {z0 q0 : Nat} {rec18 : Nat → Nat → Nat → Int32 → AW → Option (Int32 × AW)} (hX : XOK X b_Lw_law "RedSkyLaw" 4) (hM : XM X l G room_1) {o : Int32 × AW} (hR : XL X o.1) (hrec18 : ∀ (k n : Nat) (a0 : Nat) (a1 : Nat) (a2 : Nat) (x3 : Int32) (w : AW), rec18 a0 a1 a2 x3 w = some o → z0 + k = wz w → q0 + n = wq w → RJ X 4 k n 18 [(0, vr a0), (1, vr a1), (2, vr a2), (3, vi x3)] [] w) (k n : Nat) (a0 : Nat) (a1 : Nat) (a2 : Nat) (x3 : Int32) (w : AW) (h : F_Lw_law_18_B rec18 z0 q0 a0 a1 a2 x3 w = some o) (hzz : z0 + k = wz w) (hqq : q0 + n = wq w) : RJ X 4 k n 18 [(0, vr a0), (1, vr a1), (2, vr a2), (3, vi x3)] [] w := by
  unfold F_Lw_law_18_B at h
  refine r_iload_n (i := 3) hX d_Lw_law_18 3 rfl rfl ?_
  refine r_aload_n (i := 0) hX d_Lw_law_19 0 rfl rfl ?_
  obtain ⟨hk1, h⟩ := gd_e h
  refine r_xlen hX hk1 d_Lw_law_20 ?_
  refine r_bipush (v := (6 : Int32)) hX d_Lw_law_21 rfl ?_
  refine r_isub hX d_Lw_law_23 ?_
  refine r_icmp_gt hX d_Lw_law_24 rfl h (fun h => ?_) (fun h => ?_)
  · refine r_iconst (v := (1 : Int32)) hX d_Lw_law_1704 rfl ?_
    obtain ⟨hg2, h⟩ := gd_e h
    cases h; exact r_lawret hX hM hR hzz hqq hg2 d_Lw_law_1705
  · refine r_aload_n (i := 0) hX d_Lw_law_27 0 rfl rfl ?_
    refine r_iload_n (i := 3) hX d_Lw_law_28 3 rfl rfl ?_
    obtain ⟨hg3, h⟩ := gd_e h
    refine r_xald hX hk1 hg3 d_Lw_law_29 ?_
    refine r_bipush (v := (63 : Int32)) hX d_Lw_law_30 rfl ?_
    refine r_iand hX d_Lw_law_32 ?_
    rcases it_e h with ⟨hc, h⟩ | ⟨-, h⟩
    · refine r_tsOut hX hc d_Lw_law_33 rfl ?_
      refine r_iinc (i := 3) (v := (6 : Int32)) hX d_Lw_law_1698 3 rfl rfl (by decide) ?_
      refine r_goto hX d_Lw_law_1701 rfl ?_
      exact rj_sub [1, 2, 3, 0] rfl (hrec18 _ _ _ _ _ _ _ h hzz hqq)
    rcases it_e h with ⟨hc, h⟩ | ⟨-, h⟩
    · refine r_tsIn (v := (0 : Int32)) hX hc d_Lw_law_33 (by decide) (by decide) rfl rfl ?_
      exact rj_sub [0, 1, 2, 3] rfl (P_Lw_law_204 hX hM hR hrec18 _ _ _ _ _ _ _ h  hzz hqq)
    rcases it_e h with ⟨hc, h⟩ | ⟨-, h⟩
    · refine r_tsIn (v := (1 : Int32)) hX hc d_Lw_law_33 (by decide) (by decide) rfl rfl ?_
      exact rj_sub [0, 1, 2, 3] rfl (P_Lw_law_227 hX hM hR hrec18 _ _ _ _ _ _ _ h  hzz hqq)
    rcases it_e h with ⟨hc, h⟩ | ⟨-, h⟩
    · refine r_tsIn (v := (2 : Int32)) hX hc d_Lw_law_33 (by decide) (by decide) rfl rfl ?_
      exact rj_sub [0, 1, 2, 3] rfl (P_Lw_law_270 hX hM hR hrec18 _ _ _ _ _ _ _ h  hzz hqq)
    rcases it_e h with ⟨hc, h⟩ | ⟨-, h⟩
    · refine r_tsIn (v := (3 : Int32)) hX hc d_Lw_law_33 (by decide) (by decide) rfl rfl ?_
      exact rj_sub [0, 1, 2, 3] rfl (P_Lw_law_303 hX hM hR hrec18 _ _ _ _ _ _ _ h  hzz hqq)
    rcases it_e h with ⟨hc, h⟩ | ⟨-, h⟩
    · refine r_tsIn (v := (4 : Int32)) hX hc d_Lw_law_33 (by decide) (by decide) rfl rfl ?_
      exact rj_sub [0, 1, 2, 3] rfl (P_Lw_law_366 hX hM hR hrec18 _ _ _ _ _ _ _ h  hzz hqq)
    rcases it_e h with ⟨hc, h⟩ | ⟨-, h⟩
    · refine r_tsIn (v := (5 : Int32)) hX hc d_Lw_law_33 (by decide) (by decide) rfl rfl ?_
      exact rj_sub [0, 1, 2, 3] rfl (P_Lw_law_399 hX hM hR hrec18 _ _ _ _ _ _ _ h  hzz hqq)
    rcases it_e h with ⟨hc, h⟩ | ⟨-, h⟩
    · refine r_tsIn (v := (6 : Int32)) hX hc d_Lw_law_33 (by decide) (by decide) rfl rfl ?_
      exact rj_sub [0, 1, 2, 3] rfl (P_Lw_law_452 hX hM hR hrec18 _ _ _ _ _ _ _ h  hzz hqq)
    rcases it_e h with ⟨hc, h⟩ | ⟨-, h⟩
    · refine r_tsIn (v := (7 : Int32)) hX hc d_Lw_law_33 (by decide) (by decide) rfl rfl ?_
      exact rj_sub [0, 1, 2, 3] rfl (P_Lw_law_531 hX hM hR hrec18 _ _ _ _ _ _ _ h  hzz hqq)
    rcases it_e h with ⟨hc, h⟩ | ⟨-, h⟩
    · refine r_tsIn (v := (8 : Int32)) hX hc d_Lw_law_33 (by decide) (by decide) rfl rfl ?_
      exact rj_sub [0, 1, 2, 3] rfl (P_Lw_law_574 hX hM hR hrec18 _ _ _ _ _ _ _ h  hzz hqq)
    rcases it_e h with ⟨hc, h⟩ | ⟨-, h⟩
    · refine r_tsIn (v := (9 : Int32)) hX hc d_Lw_law_33 (by decide) (by decide) rfl rfl ?_
      exact rj_sub [0, 1, 2, 3] rfl (P_Lw_law_607 hX hM hR hrec18 _ _ _ _ _ _ _ h  hzz hqq)
    rcases it_e h with ⟨hc, h⟩ | ⟨-, h⟩
    · refine r_tsIn (v := (10 : Int32)) hX hc d_Lw_law_33 (by decide) (by decide) rfl rfl ?_
      exact rj_sub [0, 1, 2, 3] rfl (P_Lw_law_660 hX hM hR hrec18 _ _ _ _ _ _ _ h  hzz hqq)
    rcases it_e h with ⟨hc, h⟩ | ⟨-, h⟩
    · refine r_tsIn (v := (11 : Int32)) hX hc d_Lw_law_33 (by decide) (by decide) rfl rfl ?_
      exact rj_sub [0, 1, 2, 3] rfl (P_Lw_law_673 hX hM hR hrec18 _ _ _ _ _ _ _ h  hzz hqq)
    rcases it_e h with ⟨hc, h⟩ | ⟨-, h⟩
    · refine r_tsIn (v := (12 : Int32)) hX hc d_Lw_law_33 (by decide) (by decide) rfl rfl ?_
      exact rj_sub [0, 1, 2, 3] rfl (P_Lw_law_686 hX hM hR hrec18 _ _ _ _ _ _ _ h  hzz hqq)
    rcases it_e h with ⟨hc, h⟩ | ⟨-, h⟩
    · refine r_tsIn (v := (13 : Int32)) hX hc d_Lw_law_33 (by decide) (by decide) rfl rfl ?_
      exact rj_sub [0, 1, 2, 3] rfl (P_Lw_law_699 hX hM hR hrec18 _ _ _ _ _ _ _ h  hzz hqq)
    rcases it_e h with ⟨hc, h⟩ | ⟨-, h⟩
    · refine r_tsIn (v := (14 : Int32)) hX hc d_Lw_law_33 (by decide) (by decide) rfl rfl ?_
      exact rj_sub [0, 1, 2, 3] rfl (P_Lw_law_732 hX hM hR hrec18 _ _ _ _ _ _ _ h  hzz hqq)
    rcases it_e h with ⟨hc, h⟩ | ⟨-, h⟩
    · refine r_tsIn (v := (15 : Int32)) hX hc d_Lw_law_33 (by decide) (by decide) rfl rfl ?_
      exact rj_sub [0, 1, 2, 3] rfl (P_Lw_law_745 hX hM hR hrec18 _ _ _ _ _ _ _ h  hzz hqq)
    rcases it_e h with ⟨hc, h⟩ | ⟨-, h⟩
    · refine r_tsIn (v := (16 : Int32)) hX hc d_Lw_law_33 (by decide) (by decide) rfl rfl ?_
      exact rj_sub [0, 1, 2, 3] rfl (P_Lw_law_798 hX hM hR hrec18 _ _ _ _ _ _ _ h  hzz hqq)
    rcases it_e h with ⟨hc, h⟩ | ⟨-, h⟩
    · refine r_tsIn (v := (17 : Int32)) hX hc d_Lw_law_33 (by decide) (by decide) rfl rfl ?_
      exact rj_sub [0, 1, 2, 3] rfl (P_Lw_law_861 hX hM hR hrec18 _ _ _ _ _ _ _ h  hzz hqq)
    rcases it_e h with ⟨hc, h⟩ | ⟨-, h⟩
    · refine r_tsIn (v := (18 : Int32)) hX hc d_Lw_law_33 (by decide) (by decide) rfl rfl ?_
      exact rj_sub [0, 1, 2, 3] rfl (P_Lw_law_914 hX hM hR hrec18 _ _ _ _ _ _ _ h  hzz hqq)
    rcases it_e h with ⟨hc, h⟩ | ⟨-, h⟩
    · refine r_tsIn (v := (19 : Int32)) hX hc d_Lw_law_33 (by decide) (by decide) rfl rfl ?_
      exact rj_sub [0, 1, 2, 3] rfl (P_Lw_law_947 hX hM hR hrec18 _ _ _ _ _ _ _ h  hzz hqq)
    rcases it_e h with ⟨hc, h⟩ | ⟨-, h⟩
    · refine r_tsIn (v := (20 : Int32)) hX hc d_Lw_law_33 (by decide) (by decide) rfl rfl ?_
      exact rj_sub [0, 1, 2, 3] rfl (P_Lw_law_980 hX hM hR hrec18 _ _ _ _ _ _ _ h  hzz hqq)
    rcases it_e h with ⟨hc, h⟩ | ⟨-, h⟩
    · refine r_tsIn (v := (21 : Int32)) hX hc d_Lw_law_33 (by decide) (by decide) rfl rfl ?_
      exact rj_sub [0, 1, 2, 3] rfl (P_Lw_law_1033 hX hM hR hrec18 _ _ _ _ _ _ _ h  hzz hqq)
    rcases it_e h with ⟨hc, h⟩ | ⟨-, h⟩
    · refine r_tsIn (v := (22 : Int32)) hX hc d_Lw_law_33 (by decide) (by decide) rfl rfl ?_
      exact rj_sub [0, 1, 2, 3] rfl (P_Lw_law_1066 hX hM hR hrec18 _ _ _ _ _ _ _ h  hzz hqq)
    rcases it_e h with ⟨hc, h⟩ | ⟨-, h⟩
    · refine r_tsIn (v := (23 : Int32)) hX hc d_Lw_law_33 (by decide) (by decide) rfl rfl ?_
      exact rj_sub [0, 1, 2, 3] rfl (P_Lw_law_1109 hX hM hR hrec18 _ _ _ _ _ _ _ h  hzz hqq)
    rcases it_e h with ⟨hc, h⟩ | ⟨-, h⟩
    · refine r_tsIn (v := (24 : Int32)) hX hc d_Lw_law_33 (by decide) (by decide) rfl rfl ?_
      exact rj_sub [0, 1, 2, 3] rfl (P_Lw_law_1142 hX hM hR hrec18 _ _ _ _ _ _ _ h  hzz hqq)
    rcases it_e h with ⟨hc, h⟩ | ⟨-, h⟩
    · refine r_tsIn (v := (25 : Int32)) hX hc d_Lw_law_33 (by decide) (by decide) rfl rfl ?_
      exact rj_sub [0, 1, 2, 3] rfl (P_Lw_law_1165 hX hM hR hrec18 _ _ _ _ _ _ _ h  hzz hqq)
    rcases it_e h with ⟨hc, h⟩ | ⟨-, h⟩
    · refine r_tsIn (v := (26 : Int32)) hX hc d_Lw_law_33 (by decide) (by decide) rfl rfl ?_
      exact rj_sub [0, 1, 2, 3] rfl (P_Lw_law_1218 hX hM hR hrec18 _ _ _ _ _ _ _ h  hzz hqq)
    rcases it_e h with ⟨hc, h⟩ | ⟨-, h⟩
    · refine r_tsIn (v := (27 : Int32)) hX hc d_Lw_law_33 (by decide) (by decide) rfl rfl ?_
      exact rj_sub [0, 1, 2, 3] rfl (P_Lw_law_1241 hX hM hR hrec18 _ _ _ _ _ _ _ h  hzz hqq)
    rcases it_e h with ⟨hc, h⟩ | ⟨-, h⟩
    · refine r_tsIn (v := (28 : Int32)) hX hc d_Lw_law_33 (by decide) (by decide) rfl rfl ?_
      exact rj_sub [0, 1, 2, 3] rfl (P_Lw_law_1264 hX hM hR hrec18 _ _ _ _ _ _ _ h  hzz hqq)
    rcases it_e h with ⟨hc, h⟩ | ⟨-, h⟩
    · refine r_tsIn (v := (29 : Int32)) hX hc d_Lw_law_33 (by decide) (by decide) rfl rfl ?_
      exact rj_sub [0, 1, 2, 3] rfl (P_Lw_law_1297 hX hM hR hrec18 _ _ _ _ _ _ _ h  hzz hqq)
    rcases it_e h with ⟨hc, h⟩ | ⟨-, h⟩
    · refine r_tsIn (v := (30 : Int32)) hX hc d_Lw_law_33 (by decide) (by decide) rfl rfl ?_
      exact rj_sub [0, 1, 2, 3] rfl (P_Lw_law_1340 hX hM hR hrec18 _ _ _ _ _ _ _ h  hzz hqq)
    rcases it_e h with ⟨hc, h⟩ | ⟨-, h⟩
    · refine r_tsIn (v := (31 : Int32)) hX hc d_Lw_law_33 (by decide) (by decide) rfl rfl ?_
      exact rj_sub [0, 1, 2, 3] rfl (P_Lw_law_1393 hX hM hR hrec18 _ _ _ _ _ _ _ h  hzz hqq)
    rcases it_e h with ⟨hc, h⟩ | ⟨-, h⟩
    · refine r_tsIn (v := (32 : Int32)) hX hc d_Lw_law_33 (by decide) (by decide) rfl rfl ?_
      exact rj_sub [0, 1, 2, 3] rfl (P_Lw_law_1436 hX hM hR hrec18 _ _ _ _ _ _ _ h  hzz hqq)
    rcases it_e h with ⟨hc, h⟩ | ⟨-, h⟩
    · refine r_tsIn (v := (33 : Int32)) hX hc d_Lw_law_33 (by decide) (by decide) rfl rfl ?_
      exact rj_sub [0, 1, 2, 3] rfl (P_Lw_law_1469 hX hM hR hrec18 _ _ _ _ _ _ _ h  hzz hqq)
    rcases it_e h with ⟨hc, h⟩ | ⟨-, h⟩
    · refine r_tsIn (v := (34 : Int32)) hX hc d_Lw_law_33 (by decide) (by decide) rfl rfl ?_
      exact rj_sub [0, 1, 2, 3] rfl (P_Lw_law_1522 hX hM hR hrec18 _ _ _ _ _ _ _ h  hzz hqq)
    rcases it_e h with ⟨hc, h⟩ | ⟨-, h⟩
    · refine r_tsIn (v := (35 : Int32)) hX hc d_Lw_law_33 (by decide) (by decide) rfl rfl ?_
      exact rj_sub [0, 1, 2, 3] rfl (P_Lw_law_1575 hX hM hR hrec18 _ _ _ _ _ _ _ h  hzz hqq)
    rcases it_e h with ⟨hc, h⟩ | ⟨-, h⟩
    · refine r_tsIn (v := (36 : Int32)) hX hc d_Lw_law_33 (by decide) (by decide) rfl rfl ?_
      exact rj_sub [0, 1, 2, 3] rfl (P_Lw_law_1618 hX hM hR hrec18 _ _ _ _ _ _ _ h  hzz hqq)
    rcases it_e h with ⟨hc, h⟩ | ⟨-, h⟩
    · refine r_tsIn (v := (37 : Int32)) hX hc d_Lw_law_33 (by decide) (by decide) rfl rfl ?_
      exact rj_sub [0, 1, 2, 3] rfl (P_Lw_law_1661 hX hM hR hrec18 _ _ _ _ _ _ _ h  hzz hqq)
    rcases it_e h with ⟨hc, h⟩ | ⟨-, h⟩
    · refine r_tsIn (v := (38 : Int32)) hX hc d_Lw_law_33 (by decide) (by decide) rfl rfl ?_
      exact rj_sub [0, 1, 2, 3] rfl (P_Lw_law_1684 hX hM hR hrec18 _ _ _ _ _ _ _ h  hzz hqq)
    cases h
def F_Lw_law_18 (z0 q0 : Nat) : Nat → Nat → Nat → Nat → Int32 → AW → Option (Int32 × AW)
  | 0 => fun _ _ _ _ _ => none
  | n + 1 => fun a0 a1 a2 x3 w => F_Lw_law_18_B (F_Lw_law_18 z0 q0 n) z0 q0 a0 a1 a2 x3 w
theorem P_Lw_law_18 {X : AX} {l : Launch} {G : AG} {z0 q0 : Nat} (hX : XOK X b_Lw_law "RedSkyLaw" 4) (hM : XM X l G room_1) {o : Int32 × AW} (hR : XL X o.1) (fu : Nat) : ∀ (k n : Nat) (a0 : Nat) (a1 : Nat) (a2 : Nat) (x3 : Int32) (w : AW), F_Lw_law_18 z0 q0 fu a0 a1 a2 x3 w = some o → z0 + k = wz w → q0 + n = wq w → RJ X 4 k n 18 [(0, vr a0), (1, vr a1), (2, vr a2), (3, vi x3)] [] w := by
  induction fu with
  | zero => intro k n a0 a1 a2 x3 w h; cases h
  | succ n9 ih => intro k n a0 a1 a2 x3 w h hzz hqq; exact P_Lw_law_18_B hX hM hR ih _ _ _ _ _ _ _ h hzz hqq
def F_Lw_law_15 (z0 q0 : Nat) (a0 : Nat) (a1 : Nat) (s0 : Nat) (w : AW) : Option (Int32 × AW) :=
  F_Lw_law_18 z0 q0 FUEL a0 a1 s0 (0 : Int32) w
theorem P_Lw_law_15 {X : AX} {l : Launch} {G : AG} {z0 q0 : Nat} (hX : XOK X b_Lw_law "RedSkyLaw" 4) (hM : XM X l G room_1) {o : Int32 × AW} (hR : XL X o.1) (k n : Nat) (a0 : Nat) (a1 : Nat) (s0 : Nat) (w : AW) (h : F_Lw_law_15 z0 q0 a0 a1 s0 w = some o) (hzz : z0 + k = wz w) (hqq : q0 + n = wq w) : RJ X 4 k n 15 [(0, vr a0), (1, vr a1)] [vr s0] w := by
  unfold F_Lw_law_15 at h
  refine r_astore_n (i := 2) hX d_Lw_law_15 rfl (by decide) ?_
  refine r_iconst (v := (0 : Int32)) hX d_Lw_law_16 rfl ?_
  refine r_istore_n (i := 3) hX d_Lw_law_17 rfl (by decide) ?_
  exact rj_sub [2, 3, 1, 0] rfl (P_Lw_law_18 hX hM hR FUEL _ _ _ _ _ _ _ h  hzz hqq)
def F_Lw_law_12 (z0 q0 : Nat) (a0 : Nat) (a1 : Nat) (s1 : Nat) (s0 : Nat) (w : AW) : Option (Int32 × AW) :=
  gd (wk w s1 == 13) <|
  gd (Nat.ble (wz w + 28) (z0 + 600000) && Nat.ble (wq w + 32912) (q0 + 7302250)) <|
  (F_M_init s1 w).bind fun r3 =>
  gd ((wz r3 == wz w + 28) && (wq r3 == wq w + 32912)) <|
  F_Lw_law_15 z0 q0 a0 a1 s0 r3
theorem P_Lw_law_12 {X : AX} {l : Launch} {G : AG} {z0 q0 : Nat} (hX : XOK X b_Lw_law "RedSkyLaw" 4) (hM : XM X l G room_1) {o : Int32 × AW} (hR : XL X o.1) (k n : Nat) (a0 : Nat) (a1 : Nat) (s1 : Nat) (s0 : Nat) (w : AW) (h : F_Lw_law_12 z0 q0 a0 a1 s1 s0 w = some o) (hzz : z0 + k = wz w) (hqq : q0 + n = wq w) : RJ X 4 k n 12 [(0, vr a0), (1, vr a1)] [vr s1, vr s0] w := by
  unfold F_Lw_law_12 at h
  obtain ⟨hk1, h⟩ := gd_e h
  obtain ⟨hg2, h⟩ := gd_e h
  obtain ⟨r3, hr4, h⟩ := bd_e h
  refine r_callI (As := []) hX hM mw_Lw_12 (T_M_init _ _ hr4) (kn_ne hk1) rfl rfl (al_3 hzz hqq hg2) rfl rfl d_Lw_law_12 ?_
  obtain ⟨hg5, h⟩ := gd_e h
  exact rj_sub [0, 1] rfl (P_Lw_law_15 hX hM hR _ _ _ _ _ _ h  (al_ck (c := 28) hzz hg5) (al_cq (d := 32912) hqq hg5))
def F_Lw_law_7 (z0 q0 : Nat) (a0 : Nat) (s0 : Nat) (w : AW) : Option (Int32 × AW) :=
  gd (Nat.blt (wz w) (z0 + 600000) && Nat.ble (wq w + 49) (q0 + 7302250)) <|
  let p2 : Nat := wz w
  let w3 : AW := wnew w 13 0 49
  F_Lw_law_12 z0 q0 a0 s0 p2 p2 w3
theorem P_Lw_law_7 {X : AX} {l : Launch} {G : AG} {z0 q0 : Nat} (hX : XOK X b_Lw_law "RedSkyLaw" 4) (hM : XM X l G room_1) {o : Int32 × AW} (hR : XL X o.1) (k n : Nat) (a0 : Nat) (s0 : Nat) (w : AW) (h : F_Lw_law_7 z0 q0 a0 s0 w = some o) (hzz : z0 + k = wz w) (hqq : q0 + n = wq w) : RJ X 4 k n 7 [(0, vr a0)] [vr s0] w := by
  unfold F_Lw_law_7 at h
  refine r_astore_n (i := 1) hX d_Lw_law_7 rfl (by decide) ?_
  obtain ⟨hg1, h⟩ := gd_e h
  refine r_new (i := 12) hX hM ci_12 cn_Lw_10 df_12 (al_1 hzz hg1) (al_2 hqq hg1) d_Lw_law_8 ?_
  refine r_dup hX d_Lw_law_11 rfl ?_
  exact rj_sub [1, 0] rfl (P_Lw_law_12 hX hM hR _ _ _ _ _ _ _ h  (al_k 13 0 49 hzz) (al_q 13 0 49 hqq))
def F_Lw_law_4 (z0 q0 : Nat) (a0 : Nat) (s1 : Nat) (s0 : Nat) (w : AW) : Option (Int32 × AW) :=
  gd (wk w s1 == 1) <|
  gd (Nat.ble (wz w + 254) (z0 + 600000) && Nat.ble (wq w + 9954) (q0 + 7302250)) <|
  (F_A_init s1 w).bind fun r3 =>
  gd ((wz r3 == wz w + 254) && (wq r3 == wq w + 9954)) <|
  F_Lw_law_7 z0 q0 a0 s0 r3
theorem P_Lw_law_4 {X : AX} {l : Launch} {G : AG} {z0 q0 : Nat} (hX : XOK X b_Lw_law "RedSkyLaw" 4) (hM : XM X l G room_1) {o : Int32 × AW} (hR : XL X o.1) (k n : Nat) (a0 : Nat) (s1 : Nat) (s0 : Nat) (w : AW) (h : F_Lw_law_4 z0 q0 a0 s1 s0 w = some o) (hzz : z0 + k = wz w) (hqq : q0 + n = wq w) : RJ X 4 k n 4 [(0, vr a0)] [vr s1, vr s0] w := by
  unfold F_Lw_law_4 at h
  obtain ⟨hk1, h⟩ := gd_e h
  obtain ⟨hg2, h⟩ := gd_e h
  obtain ⟨r3, hr4, h⟩ := bd_e h
  refine r_callI (As := []) hX hM mw_Lw_9 (T_A_init _ _ hr4) (kn_ne hk1) rfl rfl (al_3 hzz hqq hg2) rfl rfl d_Lw_law_4 ?_
  obtain ⟨hg5, h⟩ := gd_e h
  exact rj_sub [0] rfl (P_Lw_law_7 hX hM hR _ _ _ _ _ h  (al_ck (c := 254) hzz hg5) (al_cq (d := 9954) hqq hg5))
def F_Lw_law (a0 : Nat) (w : AW) : Option (Int32 × AW) :=
  gd (Nat.blt (wz w) ((wz w) + 600000) && Nat.ble (wq w + 12) ((wq w) + 7302250)) <|
  let p2 : Nat := wz w
  let w3 : AW := wnew w 1 0 12
  F_Lw_law_4 (wz w) (wq w) a0 p2 p2 w3
theorem P_Lw_law_0 {X : AX} {l : Launch} {G : AG} (hX : XOK X b_Lw_law "RedSkyLaw" 4) (hM : XM X l G room_1) {o : Int32 × AW} (hR : XL X o.1) (k n : Nat) (a0 : Nat) (w : AW) (h : F_Lw_law a0 w = some o) (hzz : wz w + k = wz w) (hqq : wq w + n = wq w) : RJ X 4 k n 0 [(0, vr a0)] [] w := by
  unfold F_Lw_law at h
  obtain ⟨hg1, h⟩ := gd_e h
  refine r_new (i := 0) hX hM ci_0 cn_Lw_7 df_0 (al_1 hzz hg1) (al_2 hqq hg1) d_Lw_law_0 ?_
  refine r_dup hX d_Lw_law_3 rfl ?_
  exact rj_sub [0] rfl (P_Lw_law_4 hX hM hR _ _ _ _ _ _ h  (al_k 1 0 12 hzz) (al_q 1 0 12 hqq))
