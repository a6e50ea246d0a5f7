def FL_law_1648 (Ln : Nat) (xs : Nat → Int) (k18 : Int → Mm → Option (Int × Mm)) (x3 : Int) (f : Mm) : Option (Int × Mm) := (if 0 ≤ (w32 (x3 + 1)) ∧ (w32 (x3 + 1)) < ((Ln : Nat) : Int) then (b2 (FX10_when (xs (w32 (x3 + 1)).toNat) f) fun y2 f2 => (if 0 ≤ (w32 (x3 + 1)) ∧ (w32 (x3 + 1)) < ((Ln : Nat) : Int) then (b2 (FX11_when (xs (w32 (x3 + 1)).toNat) f2) fun y4 f4 => (if y2 = y4 then FL_law_2110 Ln xs k18 x3 f4 else some (0, f4))) else none)) else none)
set_option maxHeartbeats 8000000 in
set_option maxRecDepth 100000 in
theorem SL_law_1648 {G : GT} {l : Launch} {Ln : Nat} {xs : Nat → Int} (hL : gL G = Ln) (hxs : ∀ j, (gX G j).toInt = xs j) {k18 : Int → Mm → Option (Int × Mm)} (q18 : ∀ (x3 : Int) (f : Mm), PL (k18 x3 f) → Ev G l ML_law room_1 (ZL G) 178 4676 18 [some (vR 100000), some (vR 0), some (vR 150), some (vI x3)] [] (SH, RF, f)) (x3 : Int) (f : Mm) (h : PL (FL_law_1648 Ln xs k18 x3 f)) : Ev G l ML_law room_1 (ZL G) 178 4676 1648 [some (vR 100000), some (vR 0), some (vR 150), some (vI x3)] [] (SH, RF, f) := by
  unfold FL_law_1648 at h
  refine ev_aload_n (i := 1) dL_law_1648 rfl rfl ?_
  refine ev_aload_n (i := 0) dL_law_1649 rfl rfl ?_
  refine ev_iload_n (i := 3) dL_law_1650 rfl rfl ?_
  refine ev_iconst dL_law_1651 (r32c rfl) ?_
  refine ev_iadd dL_law_1652 ?_
  by_cases g1 : 0 ≤ (w32 (x3 + 1)) ∧ (w32 (x3 + 1)) < ((Ln : Nat) : Int)
  · rw [if_pos g1] at h
    refine ex_sld hL hxs dL_law_1653 g1.1 g1.2 ?_
    refine ev_cVI (b := 0) (av := [vI (xs (w32 (x3 + 1)).toNat)]) (S := []) PLn h dL_law_1654 (fun Q' q => TX10_when (xs (w32 (x3 + 1)).toNat) _ q) kvX10_when ml_L_255 sh_0 rfl (RRL (by decide) (by decide)) (Nat.le_of_ble_eq_true rfl) ⟨Nat.le_of_ble_eq_true rfl, Nat.le_of_ble_eq_true rfl⟩ (fun y2 f2 h => ?_)
    refine ev_aload_n (i := 2) dL_law_1657 rfl rfl ?_
    refine ev_aload_n (i := 0) dL_law_1658 rfl rfl ?_
    refine ev_iload_n (i := 3) dL_law_1659 rfl rfl ?_
    refine ev_iconst dL_law_1660 (r32c rfl) ?_
    refine ev_iadd dL_law_1661 ?_
    by_cases g3 : 0 ≤ (w32 (x3 + 1)) ∧ (w32 (x3 + 1)) < ((Ln : Nat) : Int)
    · rw [if_pos g3] at h
      refine ex_sld hL hxs dL_law_1662 g3.1 g3.2 ?_
      refine ev_cVI (b := 150) (av := [vI (xs (w32 (x3 + 1)).toNat)]) (S := [vI y2]) PLn h dL_law_1663 (fun Q' q => TX11_when (xs (w32 (x3 + 1)).toNat) _ q) kvX11_when ml_L_258 sh_150 rfl (RRL (by decide) (by decide)) (Nat.le_of_ble_eq_true rfl) ⟨Nat.le_of_ble_eq_true rfl, Nat.le_of_ble_eq_true rfl⟩ (fun y4 f4 h => ?_)
      refine ev_icmp_eq (tgt := 2110) dL_law_1666 (by decide) (fun c5 => ?_) (fun c5 => ?_)
      · rw [if_pos c5] at h
        exact SL_law_2110 hL hxs q18 x3 _ h
      · rw [if_neg c5] at h
        refine ev_iconst dL_law_1669 (r32c rfl) ?_
        obtain ⟨g, hg⟩ := h
        cases hg
    · rw [if_neg g3] at h; exact (PLn h).elim
  · rw [if_neg g1] at h; exact (PLn h).elim
def FL_law_1671 (Ln : Nat) (xs : Nat → Int) (k18 : Int → Mm → Option (Int × Mm)) (x3 : Int) (f : Mm) : Option (Int × Mm) := (if 0 ≤ (w32 (x3 + 1)) ∧ (w32 (x3 + 1)) < ((Ln : Nat) : Int) then (if 0 ≤ (w32 (x3 + 2)) ∧ (w32 (x3 + 2)) < ((Ln : Nat) : Int) then (b2 (FX10_drawn (xs (w32 (x3 + 1)).toNat) (xs (w32 (x3 + 2)).toNat) f) fun y3 f3 => (if 0 ≤ (w32 (x3 + 1)) ∧ (w32 (x3 + 1)) < ((Ln : Nat) : Int) then (if 0 ≤ (w32 (x3 + 2)) ∧ (w32 (x3 + 2)) < ((Ln : Nat) : Int) then (b2 (FX11_drawn (xs (w32 (x3 + 1)).toNat) (xs (w32 (x3 + 2)).toNat) f3) fun y6 f6 => (if y3 = y6 then FL_law_2110 Ln xs k18 x3 f6 else some (0, f6))) else none) else none)) else none) else none)
set_option maxHeartbeats 8000000 in
set_option maxRecDepth 100000 in
theorem SL_law_1671 {G : GT} {l : Launch} {Ln : Nat} {xs : Nat → Int} (hL : gL G = Ln) (hxs : ∀ j, (gX G j).toInt = xs j) {k18 : Int → Mm → Option (Int × Mm)} (q18 : ∀ (x3 : Int) (f : Mm), PL (k18 x3 f) → Ev G l ML_law room_1 (ZL G) 178 4676 18 [some (vR 100000), some (vR 0), some (vR 150), some (vI x3)] [] (SH, RF, f)) (x3 : Int) (f : Mm) (h : PL (FL_law_1671 Ln xs k18 x3 f)) : Ev G l ML_law room_1 (ZL G) 178 4676 1671 [some (vR 100000), some (vR 0), some (vR 150), some (vI x3)] [] (SH, RF, f) := by
  unfold FL_law_1671 at h
  refine ev_aload_n (i := 1) dL_law_1671 rfl rfl ?_
  refine ev_aload_n (i := 0) dL_law_1672 rfl rfl ?_
  refine ev_iload_n (i := 3) dL_law_1673 rfl rfl ?_
  refine ev_iconst dL_law_1674 (r32c rfl) ?_
  refine ev_iadd dL_law_1675 ?_
  by_cases g1 : 0 ≤ (w32 (x3 + 1)) ∧ (w32 (x3 + 1)) < ((Ln : Nat) : Int)
  · rw [if_pos g1] at h
    refine ex_sld hL hxs dL_law_1676 g1.1 g1.2 ?_
    refine ev_aload_n (i := 0) dL_law_1677 rfl rfl ?_
    refine ev_iload_n (i := 3) dL_law_1678 rfl rfl ?_
    refine ev_iconst dL_law_1679 (r32c rfl) ?_
    refine ev_iadd dL_law_1680 ?_
    by_cases g2 : 0 ≤ (w32 (x3 + 2)) ∧ (w32 (x3 + 2)) < ((Ln : Nat) : Int)
    · rw [if_pos g2] at h
      refine ex_sld hL hxs dL_law_1681 g2.1 g2.2 ?_
      refine ev_cVI (b := 0) (av := [vI (xs (w32 (x3 + 1)).toNat), vI (xs (w32 (x3 + 2)).toNat)]) (S := []) PLn h dL_law_1682 (fun Q' q => TX10_drawn (xs (w32 (x3 + 1)).toNat) (xs (w32 (x3 + 2)).toNat) _ q) kvX10_drawn ml_L_259 sh_0 rfl (RRL (by decide) (by decide)) (Nat.le_of_ble_eq_true rfl) ⟨Nat.le_of_ble_eq_true rfl, Nat.le_of_ble_eq_true rfl⟩ (fun y3 f3 h => ?_)
      refine ev_aload_n (i := 2) dL_law_1685 rfl rfl ?_
      refine ev_aload_n (i := 0) dL_law_1686 rfl rfl ?_
      refine ev_iload_n (i := 3) dL_law_1687 rfl rfl ?_
      refine ev_iconst dL_law_1688 (r32c rfl) ?_
      refine ev_iadd dL_law_1689 ?_
      by_cases g4 : 0 ≤ (w32 (x3 + 1)) ∧ (w32 (x3 + 1)) < ((Ln : Nat) : Int)
      · rw [if_pos g4] at h
        refine ex_sld hL hxs dL_law_1690 g4.1 g4.2 ?_
        refine ev_aload_n (i := 0) dL_law_1691 rfl rfl ?_
        refine ev_iload_n (i := 3) dL_law_1692 rfl rfl ?_
        refine ev_iconst dL_law_1693 (r32c rfl) ?_
        refine ev_iadd dL_law_1694 ?_
        by_cases g5 : 0 ≤ (w32 (x3 + 2)) ∧ (w32 (x3 + 2)) < ((Ln : Nat) : Int)
        · rw [if_pos g5] at h
          refine ex_sld hL hxs dL_law_1695 g5.1 g5.2 ?_
          refine ev_cVI (b := 150) (av := [vI (xs (w32 (x3 + 1)).toNat), vI (xs (w32 (x3 + 2)).toNat)]) (S := [vI y3]) PLn h dL_law_1696 (fun Q' q => TX11_drawn (xs (w32 (x3 + 1)).toNat) (xs (w32 (x3 + 2)).toNat) _ q) kvX11_drawn ml_L_262 sh_150 rfl (RRL (by decide) (by decide)) (Nat.le_of_ble_eq_true rfl) ⟨Nat.le_of_ble_eq_true rfl, Nat.le_of_ble_eq_true rfl⟩ (fun y6 f6 h => ?_)
          refine ev_icmp_eq (tgt := 2110) dL_law_1699 (by decide) (fun c7 => ?_) (fun c7 => ?_)
          · rw [if_pos c7] at h
            exact SL_law_2110 hL hxs q18 x3 _ h
          · rw [if_neg c7] at h
            refine ev_iconst dL_law_1702 (r32c rfl) ?_
            obtain ⟨g, hg⟩ := h
            cases hg
        · rw [if_neg g5] at h; exact (PLn h).elim
      · rw [if_neg g4] at h; exact (PLn h).elim
    · rw [if_neg g2] at h; exact (PLn h).elim
  · rw [if_neg g1] at h; exact (PLn h).elim
def FL_law_1704 (Ln : Nat) (xs : Nat → Int) (k18 : Int → Mm → Option (Int × Mm)) (x3 : Int) (f : Mm) : Option (Int × Mm) := (if 0 ≤ (w32 (x3 + 1)) ∧ (w32 (x3 + 1)) < ((Ln : Nat) : Int) then (if 0 ≤ (w32 (x3 + 2)) ∧ (w32 (x3 + 2)) < ((Ln : Nat) : Int) then (if 0 ≤ (w32 (x3 + 3)) ∧ (w32 (x3 + 3)) < ((Ln : Nat) : Int) then (b2 (FX10_luck (xs (w32 (x3 + 1)).toNat) (xs (w32 (x3 + 2)).toNat) (xs (w32 (x3 + 3)).toNat) f) fun y4 f4 => (if 0 ≤ (w32 (x3 + 1)) ∧ (w32 (x3 + 1)) < ((Ln : Nat) : Int) then (if 0 ≤ (w32 (x3 + 2)) ∧ (w32 (x3 + 2)) < ((Ln : Nat) : Int) then (if 0 ≤ (w32 (x3 + 3)) ∧ (w32 (x3 + 3)) < ((Ln : Nat) : Int) then (b2 (FX11_luck (xs (w32 (x3 + 1)).toNat) (xs (w32 (x3 + 2)).toNat) (xs (w32 (x3 + 3)).toNat) f4) fun y8 f8 => (if y4 = y8 then FL_law_2110 Ln xs k18 x3 f8 else some (0, f8))) else none) else none) else none)) else none) else none) else none)
set_option maxHeartbeats 8000000 in
set_option maxRecDepth 100000 in
theorem SL_law_1704 {G : GT} {l : Launch} {Ln : Nat} {xs : Nat → Int} (hL : gL G = Ln) (hxs : ∀ j, (gX G j).toInt = xs j) {k18 : Int → Mm → Option (Int × Mm)} (q18 : ∀ (x3 : Int) (f : Mm), PL (k18 x3 f) → Ev G l ML_law room_1 (ZL G) 178 4676 18 [some (vR 100000), some (vR 0), some (vR 150), some (vI x3)] [] (SH, RF, f)) (x3 : Int) (f : Mm) (h : PL (FL_law_1704 Ln xs k18 x3 f)) : Ev G l ML_law room_1 (ZL G) 178 4676 1704 [some (vR 100000), some (vR 0), some (vR 150), some (vI x3)] [] (SH, RF, f) := by
  unfold FL_law_1704 at h
  refine ev_aload_n (i := 1) dL_law_1704 rfl rfl ?_
  refine ev_aload_n (i := 0) dL_law_1705 rfl rfl ?_
  refine ev_iload_n (i := 3) dL_law_1706 rfl rfl ?_
  refine ev_iconst dL_law_1707 (r32c rfl) ?_
  refine ev_iadd dL_law_1708 ?_
  by_cases g1 : 0 ≤ (w32 (x3 + 1)) ∧ (w32 (x3 + 1)) < ((Ln : Nat) : Int)
  · rw [if_pos g1] at h
    refine ex_sld hL hxs dL_law_1709 g1.1 g1.2 ?_
    refine ev_aload_n (i := 0) dL_law_1710 rfl rfl ?_
    refine ev_iload_n (i := 3) dL_law_1711 rfl rfl ?_
    refine ev_iconst dL_law_1712 (r32c rfl) ?_
    refine ev_iadd dL_law_1713 ?_
    by_cases g2 : 0 ≤ (w32 (x3 + 2)) ∧ (w32 (x3 + 2)) < ((Ln : Nat) : Int)
    · rw [if_pos g2] at h
      refine ex_sld hL hxs dL_law_1714 g2.1 g2.2 ?_
      refine ev_aload_n (i := 0) dL_law_1715 rfl rfl ?_
      refine ev_iload_n (i := 3) dL_law_1716 rfl rfl ?_
      refine ev_iconst dL_law_1717 (r32c rfl) ?_
      refine ev_iadd dL_law_1718 ?_
      by_cases g3 : 0 ≤ (w32 (x3 + 3)) ∧ (w32 (x3 + 3)) < ((Ln : Nat) : Int)
      · rw [if_pos g3] at h
        refine ex_sld hL hxs dL_law_1719 g3.1 g3.2 ?_
        refine ev_cVI (b := 0) (av := [vI (xs (w32 (x3 + 1)).toNat), vI (xs (w32 (x3 + 2)).toNat), vI (xs (w32 (x3 + 3)).toNat)]) (S := []) PLn h dL_law_1720 (fun Q' q => TX10_luck (xs (w32 (x3 + 1)).toNat) (xs (w32 (x3 + 2)).toNat) (xs (w32 (x3 + 3)).toNat) _ q) kvX10_luck ml_L_263 sh_0 rfl (RRL (by decide) (by decide)) (Nat.le_of_ble_eq_true rfl) ⟨Nat.le_of_ble_eq_true rfl, Nat.le_of_ble_eq_true rfl⟩ (fun y4 f4 h => ?_)
        refine ev_aload_n (i := 2) dL_law_1723 rfl rfl ?_
        refine ev_aload_n (i := 0) dL_law_1724 rfl rfl ?_
        refine ev_iload_n (i := 3) dL_law_1725 rfl rfl ?_
        refine ev_iconst dL_law_1726 (r32c rfl) ?_
        refine ev_iadd dL_law_1727 ?_
        by_cases g5 : 0 ≤ (w32 (x3 + 1)) ∧ (w32 (x3 + 1)) < ((Ln : Nat) : Int)
        · rw [if_pos g5] at h
          refine ex_sld hL hxs dL_law_1728 g5.1 g5.2 ?_
          refine ev_aload_n (i := 0) dL_law_1729 rfl rfl ?_
          refine ev_iload_n (i := 3) dL_law_1730 rfl rfl ?_
          refine ev_iconst dL_law_1731 (r32c rfl) ?_
          refine ev_iadd dL_law_1732 ?_
          by_cases g6 : 0 ≤ (w32 (x3 + 2)) ∧ (w32 (x3 + 2)) < ((Ln : Nat) : Int)
          · rw [if_pos g6] at h
            refine ex_sld hL hxs dL_law_1733 g6.1 g6.2 ?_
            refine ev_aload_n (i := 0) dL_law_1734 rfl rfl ?_
            refine ev_iload_n (i := 3) dL_law_1735 rfl rfl ?_
            refine ev_iconst dL_law_1736 (r32c rfl) ?_
            refine ev_iadd dL_law_1737 ?_
            by_cases g7 : 0 ≤ (w32 (x3 + 3)) ∧ (w32 (x3 + 3)) < ((Ln : Nat) : Int)
            · rw [if_pos g7] at h
              refine ex_sld hL hxs dL_law_1738 g7.1 g7.2 ?_
              refine ev_cVI (b := 150) (av := [vI (xs (w32 (x3 + 1)).toNat), vI (xs (w32 (x3 + 2)).toNat), vI (xs (w32 (x3 + 3)).toNat)]) (S := [vI y4]) PLn h dL_law_1739 (fun Q' q => TX11_luck (xs (w32 (x3 + 1)).toNat) (xs (w32 (x3 + 2)).toNat) (xs (w32 (x3 + 3)).toNat) _ q) kvX11_luck ml_L_267 sh_150 rfl (RRL (by decide) (by decide)) (Nat.le_of_ble_eq_true rfl) ⟨Nat.le_of_ble_eq_true rfl, Nat.le_of_ble_eq_true rfl⟩ (fun y8 f8 h => ?_)
              refine ev_icmp_eq (tgt := 2110) dL_law_1742 (by decide) (fun c9 => ?_) (fun c9 => ?_)
              · rw [if_pos c9] at h
                exact SL_law_2110 hL hxs q18 x3 _ h
              · rw [if_neg c9] at h
                refine ev_iconst dL_law_1745 (r32c rfl) ?_
                obtain ⟨g, hg⟩ := h
                cases hg
            · rw [if_neg g7] at h; exact (PLn h).elim
          · rw [if_neg g6] at h; exact (PLn h).elim
        · rw [if_neg g5] at h; exact (PLn h).elim
      · rw [if_neg g3] at h; exact (PLn h).elim
    · rw [if_neg g2] at h; exact (PLn h).elim
  · rw [if_neg g1] at h; exact (PLn h).elim
def FL_law_1747 (Ln : Nat) (xs : Nat → Int) (k18 : Int → Mm → Option (Int × Mm)) (x3 : Int) (f : Mm) : Option (Int × Mm) := (if 0 ≤ (w32 (x3 + 1)) ∧ (w32 (x3 + 1)) < ((Ln : Nat) : Int) then (if 0 ≤ (w32 (x3 + 2)) ∧ (w32 (x3 + 2)) < ((Ln : Nat) : Int) then (b2 (FX10_does (xs (w32 (x3 + 1)).toNat) (xs (w32 (x3 + 2)).toNat) f) fun y3 f3 => (if 0 ≤ (w32 (x3 + 1)) ∧ (w32 (x3 + 1)) < ((Ln : Nat) : Int) then (if 0 ≤ (w32 (x3 + 2)) ∧ (w32 (x3 + 2)) < ((Ln : Nat) : Int) then (b2 (FX11_does (xs (w32 (x3 + 1)).toNat) (xs (w32 (x3 + 2)).toNat) f3) fun y6 f6 => (if y3 = y6 then FL_law_2110 Ln xs k18 x3 f6 else some (0, f6))) else none) else none)) else none) else none)
set_option maxHeartbeats 8000000 in
set_option maxRecDepth 100000 in
theorem SL_law_1747 {G : GT} {l : Launch} {Ln : Nat} {xs : Nat → Int} (hL : gL G = Ln) (hxs : ∀ j, (gX G j).toInt = xs j) {k18 : Int → Mm → Option (Int × Mm)} (q18 : ∀ (x3 : Int) (f : Mm), PL (k18 x3 f) → Ev G l ML_law room_1 (ZL G) 178 4676 18 [some (vR 100000), some (vR 0), some (vR 150), some (vI x3)] [] (SH, RF, f)) (x3 : Int) (f : Mm) (h : PL (FL_law_1747 Ln xs k18 x3 f)) : Ev G l ML_law room_1 (ZL G) 178 4676 1747 [some (vR 100000), some (vR 0), some (vR 150), some (vI x3)] [] (SH, RF, f) := by
  unfold FL_law_1747 at h
  refine ev_aload_n (i := 1) dL_law_1747 rfl rfl ?_
  refine ev_aload_n (i := 0) dL_law_1748 rfl rfl ?_
  refine ev_iload_n (i := 3) dL_law_1749 rfl rfl ?_
  refine ev_iconst dL_law_1750 (r32c rfl) ?_
  refine ev_iadd dL_law_1751 ?_
  by_cases g1 : 0 ≤ (w32 (x3 + 1)) ∧ (w32 (x3 + 1)) < ((Ln : Nat) : Int)
  · rw [if_pos g1] at h
    refine ex_sld hL hxs dL_law_1752 g1.1 g1.2 ?_
    refine ev_aload_n (i := 0) dL_law_1753 rfl rfl ?_
    refine ev_iload_n (i := 3) dL_law_1754 rfl rfl ?_
    refine ev_iconst dL_law_1755 (r32c rfl) ?_
    refine ev_iadd dL_law_1756 ?_
    by_cases g2 : 0 ≤ (w32 (x3 + 2)) ∧ (w32 (x3 + 2)) < ((Ln : Nat) : Int)
    · rw [if_pos g2] at h
      refine ex_sld hL hxs dL_law_1757 g2.1 g2.2 ?_
      refine ev_cVI (b := 0) (av := [vI (xs (w32 (x3 + 1)).toNat), vI (xs (w32 (x3 + 2)).toNat)]) (S := []) PLn h dL_law_1758 (fun Q' q => TX10_does (xs (w32 (x3 + 1)).toNat) (xs (w32 (x3 + 2)).toNat) _ q) kvX10_does ml_L_268 sh_0 rfl (RRL (by decide) (by decide)) (Nat.le_of_ble_eq_true rfl) ⟨Nat.le_of_ble_eq_true rfl, Nat.le_of_ble_eq_true rfl⟩ (fun y3 f3 h => ?_)
      refine ev_aload_n (i := 2) dL_law_1761 rfl rfl ?_
      refine ev_aload_n (i := 0) dL_law_1762 rfl rfl ?_
      refine ev_iload_n (i := 3) dL_law_1763 rfl rfl ?_
      refine ev_iconst dL_law_1764 (r32c rfl) ?_
      refine ev_iadd dL_law_1765 ?_
      by_cases g4 : 0 ≤ (w32 (x3 + 1)) ∧ (w32 (x3 + 1)) < ((Ln : Nat) : Int)
      · rw [if_pos g4] at h
        refine ex_sld hL hxs dL_law_1766 g4.1 g4.2 ?_
        refine ev_aload_n (i := 0) dL_law_1767 rfl rfl ?_
        refine ev_iload_n (i := 3) dL_law_1768 rfl rfl ?_
        refine ev_iconst dL_law_1769 (r32c rfl) ?_
        refine ev_iadd dL_law_1770 ?_
        by_cases g5 : 0 ≤ (w32 (x3 + 2)) ∧ (w32 (x3 + 2)) < ((Ln : Nat) : Int)
        · rw [if_pos g5] at h
          refine ex_sld hL hxs dL_law_1771 g5.1 g5.2 ?_
          refine ev_cVI (b := 150) (av := [vI (xs (w32 (x3 + 1)).toNat), vI (xs (w32 (x3 + 2)).toNat)]) (S := [vI y3]) PLn h dL_law_1772 (fun Q' q => TX11_does (xs (w32 (x3 + 1)).toNat) (xs (w32 (x3 + 2)).toNat) _ q) kvX11_does ml_L_271 sh_150 rfl (RRL (by decide) (by decide)) (Nat.le_of_ble_eq_true rfl) ⟨Nat.le_of_ble_eq_true rfl, Nat.le_of_ble_eq_true rfl⟩ (fun y6 f6 h => ?_)
          refine ev_icmp_eq (tgt := 2110) dL_law_1775 (by decide) (fun c7 => ?_) (fun c7 => ?_)
          · rw [if_pos c7] at h
            exact SL_law_2110 hL hxs q18 x3 _ h
          · rw [if_neg c7] at h
            refine ev_iconst dL_law_1778 (r32c rfl) ?_
            obtain ⟨g, hg⟩ := h
            cases hg
        · rw [if_neg g5] at h; exact (PLn h).elim
      · rw [if_neg g4] at h; exact (PLn h).elim
    · rw [if_neg g2] at h; exact (PLn h).elim
  · rw [if_neg g1] at h; exact (PLn h).elim
def FL_law_1780 (Ln : Nat) (xs : Nat → Int) (k18 : Int → Mm → Option (Int × Mm)) (x3 : Int) (f : Mm) : Option (Int × Mm) := (b2 (FX10_undo f) fun y1 f1 => (b2 (FX11_undo f1) fun y2 f2 => (if y1 = y2 then FL_law_2110 Ln xs k18 x3 f2 else some (0, f2))))
set_option maxHeartbeats 8000000 in
set_option maxRecDepth 100000 in
theorem SL_law_1780 {G : GT} {l : Launch} {Ln : Nat} {xs : Nat → Int} (hL : gL G = Ln) (hxs : ∀ j, (gX G j).toInt = xs j) {k18 : Int → Mm → Option (Int × Mm)} (q18 : ∀ (x3 : Int) (f : Mm), PL (k18 x3 f) → Ev G l ML_law room_1 (ZL G) 178 4676 18 [some (vR 100000), some (vR 0), some (vR 150), some (vI x3)] [] (SH, RF, f)) (x3 : Int) (f : Mm) (h : PL (FL_law_1780 Ln xs k18 x3 f)) : Ev G l ML_law room_1 (ZL G) 178 4676 1780 [some (vR 100000), some (vR 0), some (vR 150), some (vI x3)] [] (SH, RF, f) := by
  unfold FL_law_1780 at h
  refine ev_aload_n (i := 1) dL_law_1780 rfl rfl ?_
  refine ev_cVI (b := 0) (av := []) (S := []) PLn h dL_law_1781 (fun Q' q => TX10_undo _ q) kvX10_undo ml_L_272 sh_0 rfl (RRL (by decide) (by decide)) (Nat.le_of_ble_eq_true rfl) ⟨Nat.le_of_ble_eq_true rfl, Nat.le_of_ble_eq_true rfl⟩ (fun y1 f1 h => ?_)
  refine ev_aload_n (i := 2) dL_law_1784 rfl rfl ?_
  refine ev_cVI (b := 150) (av := []) (S := [vI y1]) PLn h dL_law_1785 (fun Q' q => TX11_undo _ q) kvX11_undo ml_L_275 sh_150 rfl (RRL (by decide) (by decide)) (Nat.le_of_ble_eq_true rfl) ⟨Nat.le_of_ble_eq_true rfl, Nat.le_of_ble_eq_true rfl⟩ (fun y2 f2 h => ?_)
  refine ev_icmp_eq (tgt := 2110) dL_law_1788 (by decide) (fun c3 => ?_) (fun c3 => ?_)
  · rw [if_pos c3] at h
    exact SL_law_2110 hL hxs q18 x3 _ h
  · rw [if_neg c3] at h
    refine ev_iconst dL_law_1791 (r32c rfl) ?_
    obtain ⟨g, hg⟩ := h
    cases hg
def FL_law_1793 (Ln : Nat) (xs : Nat → Int) (k18 : Int → Mm → Option (Int × Mm)) (x3 : Int) (f : Mm) : Option (Int × Mm) := (b2 (FX10_anew f) fun y1 f1 => (b2 (FX11_anew f1) fun y2 f2 => (if y1 = y2 then FL_law_2110 Ln xs k18 x3 f2 else some (0, f2))))
set_option maxHeartbeats 8000000 in
set_option maxRecDepth 100000 in
theorem SL_law_1793 {G : GT} {l : Launch} {Ln : Nat} {xs : Nat → Int} (hL : gL G = Ln) (hxs : ∀ j, (gX G j).toInt = xs j) {k18 : Int → Mm → Option (Int × Mm)} (q18 : ∀ (x3 : Int) (f : Mm), PL (k18 x3 f) → Ev G l ML_law room_1 (ZL G) 178 4676 18 [some (vR 100000), some (vR 0), some (vR 150), some (vI x3)] [] (SH, RF, f)) (x3 : Int) (f : Mm) (h : PL (FL_law_1793 Ln xs k18 x3 f)) : Ev G l ML_law room_1 (ZL G) 178 4676 1793 [some (vR 100000), some (vR 0), some (vR 150), some (vI x3)] [] (SH, RF, f) := by
  unfold FL_law_1793 at h
  refine ev_aload_n (i := 1) dL_law_1793 rfl rfl ?_
  refine ev_cVI (b := 0) (av := []) (S := []) PLn h dL_law_1794 (fun Q' q => TX10_anew _ q) kvX10_anew ml_L_276 sh_0 rfl (RRL (by decide) (by decide)) (Nat.le_of_ble_eq_true rfl) ⟨Nat.le_of_ble_eq_true rfl, Nat.le_of_ble_eq_true rfl⟩ (fun y1 f1 h => ?_)
  refine ev_aload_n (i := 2) dL_law_1797 rfl rfl ?_
  refine ev_cVI (b := 150) (av := []) (S := [vI y1]) PLn h dL_law_1798 (fun Q' q => TX11_anew _ q) kvX11_anew ml_L_279 sh_150 rfl (RRL (by decide) (by decide)) (Nat.le_of_ble_eq_true rfl) ⟨Nat.le_of_ble_eq_true rfl, Nat.le_of_ble_eq_true rfl⟩ (fun y2 f2 h => ?_)
  refine ev_icmp_eq (tgt := 2110) dL_law_1801 (by decide) (fun c3 => ?_) (fun c3 => ?_)
  · rw [if_pos c3] at h
    exact SL_law_2110 hL hxs q18 x3 _ h
  · rw [if_neg c3] at h
    refine ev_iconst dL_law_1804 (r32c rfl) ?_
    obtain ⟨g, hg⟩ := h
    cases hg
def FL_law_1806 (Ln : Nat) (xs : Nat → Int) (k18 : Int → Mm → Option (Int × Mm)) (x3 : Int) (f : Mm) : Option (Int × Mm) := (if 0 ≤ (w32 (x3 + 1)) ∧ (w32 (x3 + 1)) < ((Ln : Nat) : Int) then (b2 (FX10_done (xs (w32 (x3 + 1)).toNat) f) fun y2 f2 => (if 0 ≤ (w32 (x3 + 1)) ∧ (w32 (x3 + 1)) < ((Ln : Nat) : Int) then (b2 (FX11_done (xs (w32 (x3 + 1)).toNat) f2) fun y4 f4 => (if y2 = y4 then FL_law_2110 Ln xs k18 x3 f4 else some (0, f4))) else none)) else none)
set_option maxHeartbeats 8000000 in
set_option maxRecDepth 100000 in
theorem SL_law_1806 {G : GT} {l : Launch} {Ln : Nat} {xs : Nat → Int} (hL : gL G = Ln) (hxs : ∀ j, (gX G j).toInt = xs j) {k18 : Int → Mm → Option (Int × Mm)} (q18 : ∀ (x3 : Int) (f : Mm), PL (k18 x3 f) → Ev G l ML_law room_1 (ZL G) 178 4676 18 [some (vR 100000), some (vR 0), some (vR 150), some (vI x3)] [] (SH, RF, f)) (x3 : Int) (f : Mm) (h : PL (FL_law_1806 Ln xs k18 x3 f)) : Ev G l ML_law room_1 (ZL G) 178 4676 1806 [some (vR 100000), some (vR 0), some (vR 150), some (vI x3)] [] (SH, RF, f) := by
  unfold FL_law_1806 at h
  refine ev_aload_n (i := 1) dL_law_1806 rfl rfl ?_
  refine ev_aload_n (i := 0) dL_law_1807 rfl rfl ?_
  refine ev_iload_n (i := 3) dL_law_1808 rfl rfl ?_
  refine ev_iconst dL_law_1809 (r32c rfl) ?_
  refine ev_iadd dL_law_1810 ?_
  by_cases g1 : 0 ≤ (w32 (x3 + 1)) ∧ (w32 (x3 + 1)) < ((Ln : Nat) : Int)
  · rw [if_pos g1] at h
    refine ex_sld hL hxs dL_law_1811 g1.1 g1.2 ?_
    refine ev_cVI (b := 0) (av := [vI (xs (w32 (x3 + 1)).toNat)]) (S := []) PLn h dL_law_1812 (fun Q' q => TX10_done (xs (w32 (x3 + 1)).toNat) _ q) kvX10_done ml_L_280 sh_0 rfl (RRL (by decide) (by decide)) (Nat.le_of_ble_eq_true rfl) ⟨Nat.le_of_ble_eq_true rfl, Nat.le_of_ble_eq_true rfl⟩ (fun y2 f2 h => ?_)
    refine ev_aload_n (i := 2) dL_law_1815 rfl rfl ?_
    refine ev_aload_n (i := 0) dL_law_1816 rfl rfl ?_
    refine ev_iload_n (i := 3) dL_law_1817 rfl rfl ?_
    refine ev_iconst dL_law_1818 (r32c rfl) ?_
    refine ev_iadd dL_law_1819 ?_
    by_cases g3 : 0 ≤ (w32 (x3 + 1)) ∧ (w32 (x3 + 1)) < ((Ln : Nat) : Int)
    · rw [if_pos g3] at h
      refine ex_sld hL hxs dL_law_1820 g3.1 g3.2 ?_
      refine ev_cVI (b := 150) (av := [vI (xs (w32 (x3 + 1)).toNat)]) (S := [vI y2]) PLn h dL_law_1821 (fun Q' q => TX11_done (xs (w32 (x3 + 1)).toNat) _ q) kvX11_done ml_L_283 sh_150 rfl (RRL (by decide) (by decide)) (Nat.le_of_ble_eq_true rfl) ⟨Nat.le_of_ble_eq_true rfl, Nat.le_of_ble_eq_true rfl⟩ (fun y4 f4 h => ?_)
      refine ev_icmp_eq (tgt := 2110) dL_law_1824 (by decide) (fun c5 => ?_) (fun c5 => ?_)
      · rw [if_pos c5] at h
        exact SL_law_2110 hL hxs q18 x3 _ h
      · rw [if_neg c5] at h
        refine ev_iconst dL_law_1827 (r32c rfl) ?_
        obtain ⟨g, hg⟩ := h
        cases hg
    · rw [if_neg g3] at h; exact (PLn h).elim
  · rw [if_neg g1] at h; exact (PLn h).elim
def FL_law_1829 (Ln : Nat) (xs : Nat → Int) (k18 : Int → Mm → Option (Int × Mm)) (x3 : Int) (f : Mm) : Option (Int × Mm) := (if 0 ≤ (w32 (x3 + 1)) ∧ (w32 (x3 + 1)) < ((Ln : Nat) : Int) then (if 0 ≤ (w32 (x3 + 2)) ∧ (w32 (x3 + 2)) < ((Ln : Nat) : Int) then (b2 (FX10_rate (xs (w32 (x3 + 1)).toNat) (xs (w32 (x3 + 2)).toNat) f) fun y3 f3 => (if 0 ≤ (w32 (x3 + 1)) ∧ (w32 (x3 + 1)) < ((Ln : Nat) : Int) then (if 0 ≤ (w32 (x3 + 2)) ∧ (w32 (x3 + 2)) < ((Ln : Nat) : Int) then (b2 (FX11_rate (xs (w32 (x3 + 1)).toNat) (xs (w32 (x3 + 2)).toNat) f3) fun y6 f6 => (if y3 = y6 then FL_law_2110 Ln xs k18 x3 f6 else some (0, f6))) else none) else none)) else none) else none)
set_option maxHeartbeats 8000000 in
set_option maxRecDepth 100000 in
theorem SL_law_1829 {G : GT} {l : Launch} {Ln : Nat} {xs : Nat → Int} (hL : gL G = Ln) (hxs : ∀ j, (gX G j).toInt = xs j) {k18 : Int → Mm → Option (Int × Mm)} (q18 : ∀ (x3 : Int) (f : Mm), PL (k18 x3 f) → Ev G l ML_law room_1 (ZL G) 178 4676 18 [some (vR 100000), some (vR 0), some (vR 150), some (vI x3)] [] (SH, RF, f)) (x3 : Int) (f : Mm) (h : PL (FL_law_1829 Ln xs k18 x3 f)) : Ev G l ML_law room_1 (ZL G) 178 4676 1829 [some (vR 100000), some (vR 0), some (vR 150), some (vI x3)] [] (SH, RF, f) := by
  unfold FL_law_1829 at h
  refine ev_aload_n (i := 1) dL_law_1829 rfl rfl ?_
  refine ev_aload_n (i := 0) dL_law_1830 rfl rfl ?_
  refine ev_iload_n (i := 3) dL_law_1831 rfl rfl ?_
  refine ev_iconst dL_law_1832 (r32c rfl) ?_
  refine ev_iadd dL_law_1833 ?_
  by_cases g1 : 0 ≤ (w32 (x3 + 1)) ∧ (w32 (x3 + 1)) < ((Ln : Nat) : Int)
  · rw [if_pos g1] at h
    refine ex_sld hL hxs dL_law_1834 g1.1 g1.2 ?_
    refine ev_aload_n (i := 0) dL_law_1835 rfl rfl ?_
    refine ev_iload_n (i := 3) dL_law_1836 rfl rfl ?_
    refine ev_iconst dL_law_1837 (r32c rfl) ?_
    refine ev_iadd dL_law_1838 ?_
    by_cases g2 : 0 ≤ (w32 (x3 + 2)) ∧ (w32 (x3 + 2)) < ((Ln : Nat) : Int)
    · rw [if_pos g2] at h
      refine ex_sld hL hxs dL_law_1839 g2.1 g2.2 ?_
      refine ev_cVI (b := 0) (av := [vI (xs (w32 (x3 + 1)).toNat), vI (xs (w32 (x3 + 2)).toNat)]) (S := []) PLn h dL_law_1840 (fun Q' q => TX10_rate (xs (w32 (x3 + 1)).toNat) (xs (w32 (x3 + 2)).toNat) _ q) kvX10_rate ml_L_284 sh_0 rfl (RRL (by decide) (by decide)) (Nat.le_of_ble_eq_true rfl) ⟨Nat.le_of_ble_eq_true rfl, Nat.le_of_ble_eq_true rfl⟩ (fun y3 f3 h => ?_)
      refine ev_aload_n (i := 2) dL_law_1843 rfl rfl ?_
      refine ev_aload_n (i := 0) dL_law_1844 rfl rfl ?_
      refine ev_iload_n (i := 3) dL_law_1845 rfl rfl ?_
      refine ev_iconst dL_law_1846 (r32c rfl) ?_
      refine ev_iadd dL_law_1847 ?_
      by_cases g4 : 0 ≤ (w32 (x3 + 1)) ∧ (w32 (x3 + 1)) < ((Ln : Nat) : Int)
      · rw [if_pos g4] at h
        refine ex_sld hL hxs dL_law_1848 g4.1 g4.2 ?_
        refine ev_aload_n (i := 0) dL_law_1849 rfl rfl ?_
        refine ev_iload_n (i := 3) dL_law_1850 rfl rfl ?_
        refine ev_iconst dL_law_1851 (r32c rfl) ?_
        refine ev_iadd dL_law_1852 ?_
        by_cases g5 : 0 ≤ (w32 (x3 + 2)) ∧ (w32 (x3 + 2)) < ((Ln : Nat) : Int)
        · rw [if_pos g5] at h
          refine ex_sld hL hxs dL_law_1853 g5.1 g5.2 ?_
          refine ev_cVI (b := 150) (av := [vI (xs (w32 (x3 + 1)).toNat), vI (xs (w32 (x3 + 2)).toNat)]) (S := [vI y3]) PLn h dL_law_1854 (fun Q' q => TX11_rate (xs (w32 (x3 + 1)).toNat) (xs (w32 (x3 + 2)).toNat) _ q) kvX11_rate ml_L_287 sh_150 rfl (RRL (by decide) (by decide)) (Nat.le_of_ble_eq_true rfl) ⟨Nat.le_of_ble_eq_true rfl, Nat.le_of_ble_eq_true rfl⟩ (fun y6 f6 h => ?_)
          refine ev_icmp_eq (tgt := 2110) dL_law_1857 (by decide) (fun c7 => ?_) (fun c7 => ?_)
          · rw [if_pos c7] at h
            exact SL_law_2110 hL hxs q18 x3 _ h
          · rw [if_neg c7] at h
            refine ev_iconst dL_law_1860 (r32c rfl) ?_
            obtain ⟨g, hg⟩ := h
            cases hg
        · rw [if_neg g5] at h; exact (PLn h).elim
      · rw [if_neg g4] at h; exact (PLn h).elim
    · rw [if_neg g2] at h; exact (PLn h).elim
  · rw [if_neg g1] at h; exact (PLn h).elim
def FL_law_1862 (Ln : Nat) (xs : Nat → Int) (k18 : Int → Mm → Option (Int × Mm)) (x3 : Int) (f : Mm) : Option (Int × Mm) := (if 0 ≤ (w32 (x3 + 1)) ∧ (w32 (x3 + 1)) < ((Ln : Nat) : Int) then (b2 (FX10_count (xs (w32 (x3 + 1)).toNat) f) fun y2 f2 => (if 0 ≤ (w32 (x3 + 1)) ∧ (w32 (x3 + 1)) < ((Ln : Nat) : Int) then (b2 (FX11_count (xs (w32 (x3 + 1)).toNat) f2) fun y4 f4 => (if y2 = y4 then FL_law_2110 Ln xs k18 x3 f4 else some (0, f4))) else none)) else none)
set_option maxHeartbeats 8000000 in
set_option maxRecDepth 100000 in
theorem SL_law_1862 {G : GT} {l : Launch} {Ln : Nat} {xs : Nat → Int} (hL : gL G = Ln) (hxs : ∀ j, (gX G j).toInt = xs j) {k18 : Int → Mm → Option (Int × Mm)} (q18 : ∀ (x3 : Int) (f : Mm), PL (k18 x3 f) → Ev G l ML_law room_1 (ZL G) 178 4676 18 [some (vR 100000), some (vR 0), some (vR 150), some (vI x3)] [] (SH, RF, f)) (x3 : Int) (f : Mm) (h : PL (FL_law_1862 Ln xs k18 x3 f)) : Ev G l ML_law room_1 (ZL G) 178 4676 1862 [some (vR 100000), some (vR 0), some (vR 150), some (vI x3)] [] (SH, RF, f) := by
  unfold FL_law_1862 at h
  refine ev_aload_n (i := 1) dL_law_1862 rfl rfl ?_
  refine ev_aload_n (i := 0) dL_law_1863 rfl rfl ?_
  refine ev_iload_n (i := 3) dL_law_1864 rfl rfl ?_
  refine ev_iconst dL_law_1865 (r32c rfl) ?_
  refine ev_iadd dL_law_1866 ?_
  by_cases g1 : 0 ≤ (w32 (x3 + 1)) ∧ (w32 (x3 + 1)) < ((Ln : Nat) : Int)
  · rw [if_pos g1] at h
    refine ex_sld hL hxs dL_law_1867 g1.1 g1.2 ?_
    refine ev_cVI (b := 0) (av := [vI (xs (w32 (x3 + 1)).toNat)]) (S := []) PLn h dL_law_1868 (fun Q' q => TX10_count (xs (w32 (x3 + 1)).toNat) _ q) kvX10_count ml_L_288 sh_0 rfl (RRL (by decide) (by decide)) (Nat.le_of_ble_eq_true rfl) ⟨Nat.le_of_ble_eq_true rfl, Nat.le_of_ble_eq_true rfl⟩ (fun y2 f2 h => ?_)
    refine ev_aload_n (i := 2) dL_law_1871 rfl rfl ?_
    refine ev_aload_n (i := 0) dL_law_1872 rfl rfl ?_
    refine ev_iload_n (i := 3) dL_law_1873 rfl rfl ?_
    refine ev_iconst dL_law_1874 (r32c rfl) ?_
    refine ev_iadd dL_law_1875 ?_
    by_cases g3 : 0 ≤ (w32 (x3 + 1)) ∧ (w32 (x3 + 1)) < ((Ln : Nat) : Int)
    · rw [if_pos g3] at h
      refine ex_sld hL hxs dL_law_1876 g3.1 g3.2 ?_
      refine ev_cVI (b := 150) (av := [vI (xs (w32 (x3 + 1)).toNat)]) (S := [vI y2]) PLn h dL_law_1877 (fun Q' q => TX11_count (xs (w32 (x3 + 1)).toNat) _ q) kvX11_count ml_L_291 sh_150 rfl (RRL (by decide) (by decide)) (Nat.le_of_ble_eq_true rfl) ⟨Nat.le_of_ble_eq_true rfl, Nat.le_of_ble_eq_true rfl⟩ (fun y4 f4 h => ?_)
      refine ev_icmp_eq (tgt := 2110) dL_law_1880 (by decide) (fun c5 => ?_) (fun c5 => ?_)
      · rw [if_pos c5] at h
        exact SL_law_2110 hL hxs q18 x3 _ h
      · rw [if_neg c5] at h
        refine ev_iconst dL_law_1883 (r32c rfl) ?_
        obtain ⟨g, hg⟩ := h
        cases hg
    · rw [if_neg g3] at h; exact (PLn h).elim
  · rw [if_neg g1] at h; exact (PLn h).elim
def FL_law_1885 (Ln : Nat) (xs : Nat → Int) (k18 : Int → Mm → Option (Int × Mm)) (x3 : Int) (f : Mm) : Option (Int × Mm) := (if 0 ≤ (w32 (x3 + 1)) ∧ (w32 (x3 + 1)) < ((Ln : Nat) : Int) then (b2 (FX10_image (xs (w32 (x3 + 1)).toNat) f) fun y2 f2 => (if 0 ≤ (w32 (x3 + 1)) ∧ (w32 (x3 + 1)) < ((Ln : Nat) : Int) then (b2 (FX11_image (xs (w32 (x3 + 1)).toNat) f2) fun y4 f4 => (if y2 = y4 then FL_law_2110 Ln xs k18 x3 f4 else some (0, f4))) else none)) else none)
set_option maxHeartbeats 8000000 in
set_option maxRecDepth 100000 in
theorem SL_law_1885 {G : GT} {l : Launch} {Ln : Nat} {xs : Nat → Int} (hL : gL G = Ln) (hxs : ∀ j, (gX G j).toInt = xs j) {k18 : Int → Mm → Option (Int × Mm)} (q18 : ∀ (x3 : Int) (f : Mm), PL (k18 x3 f) → Ev G l ML_law room_1 (ZL G) 178 4676 18 [some (vR 100000), some (vR 0), some (vR 150), some (vI x3)] [] (SH, RF, f)) (x3 : Int) (f : Mm) (h : PL (FL_law_1885 Ln xs k18 x3 f)) : Ev G l ML_law room_1 (ZL G) 178 4676 1885 [some (vR 100000), some (vR 0), some (vR 150), some (vI x3)] [] (SH, RF, f) := by
  unfold FL_law_1885 at h
  refine ev_aload_n (i := 1) dL_law_1885 rfl rfl ?_
  refine ev_aload_n (i := 0) dL_law_1886 rfl rfl ?_
  refine ev_iload_n (i := 3) dL_law_1887 rfl rfl ?_
  refine ev_iconst dL_law_1888 (r32c rfl) ?_
  refine ev_iadd dL_law_1889 ?_
  by_cases g1 : 0 ≤ (w32 (x3 + 1)) ∧ (w32 (x3 + 1)) < ((Ln : Nat) : Int)
  · rw [if_pos g1] at h
    refine ex_sld hL hxs dL_law_1890 g1.1 g1.2 ?_
    refine ev_cVI (b := 0) (av := [vI (xs (w32 (x3 + 1)).toNat)]) (S := []) PLn h dL_law_1891 (fun Q' q => TX10_image (xs (w32 (x3 + 1)).toNat) _ q) kvX10_image ml_L_292 sh_0 rfl (RRL (by decide) (by decide)) (Nat.le_of_ble_eq_true rfl) ⟨Nat.le_of_ble_eq_true rfl, Nat.le_of_ble_eq_true rfl⟩ (fun y2 f2 h => ?_)
    refine ev_aload_n (i := 2) dL_law_1894 rfl rfl ?_
    refine ev_aload_n (i := 0) dL_law_1895 rfl rfl ?_
    refine ev_iload_n (i := 3) dL_law_1896 rfl rfl ?_
    refine ev_iconst dL_law_1897 (r32c rfl) ?_
    refine ev_iadd dL_law_1898 ?_
    by_cases g3 : 0 ≤ (w32 (x3 + 1)) ∧ (w32 (x3 + 1)) < ((Ln : Nat) : Int)
    · rw [if_pos g3] at h
      refine ex_sld hL hxs dL_law_1899 g3.1 g3.2 ?_
      refine ev_cVI (b := 150) (av := [vI (xs (w32 (x3 + 1)).toNat)]) (S := [vI y2]) PLn h dL_law_1900 (fun Q' q => TX11_image (xs (w32 (x3 + 1)).toNat) _ q) kvX11_image ml_L_295 sh_150 rfl (RRL (by decide) (by decide)) (Nat.le_of_ble_eq_true rfl) ⟨Nat.le_of_ble_eq_true rfl, Nat.le_of_ble_eq_true rfl⟩ (fun y4 f4 h => ?_)
      refine ev_icmp_eq (tgt := 2110) dL_law_1903 (by decide) (fun c5 => ?_) (fun c5 => ?_)
      · rw [if_pos c5] at h
        exact SL_law_2110 hL hxs q18 x3 _ h
      · rw [if_neg c5] at h
        refine ev_iconst dL_law_1906 (r32c rfl) ?_
        obtain ⟨g, hg⟩ := h
        cases hg
    · rw [if_neg g3] at h; exact (PLn h).elim
  · rw [if_neg g1] at h; exact (PLn h).elim
def FL_law_1908 (Ln : Nat) (xs : Nat → Int) (k18 : Int → Mm → Option (Int × Mm)) (x3 : Int) (f : Mm) : Option (Int × Mm) := (if 0 ≤ (w32 (x3 + 1)) ∧ (w32 (x3 + 1)) < ((Ln : Nat) : Int) then (b2 (FX10_back (xs (w32 (x3 + 1)).toNat) f) fun y2 f2 => (if 0 ≤ (w32 (x3 + 1)) ∧ (w32 (x3 + 1)) < ((Ln : Nat) : Int) then (b2 (FX11_back (xs (w32 (x3 + 1)).toNat) f2) fun y4 f4 => (if y2 = y4 then FL_law_2110 Ln xs k18 x3 f4 else some (0, f4))) else none)) else none)
set_option maxHeartbeats 8000000 in
set_option maxRecDepth 100000 in
theorem SL_law_1908 {G : GT} {l : Launch} {Ln : Nat} {xs : Nat → Int} (hL : gL G = Ln) (hxs : ∀ j, (gX G j).toInt = xs j) {k18 : Int → Mm → Option (Int × Mm)} (q18 : ∀ (x3 : Int) (f : Mm), PL (k18 x3 f) → Ev G l ML_law room_1 (ZL G) 178 4676 18 [some (vR 100000), some (vR 0), some (vR 150), some (vI x3)] [] (SH, RF, f)) (x3 : Int) (f : Mm) (h : PL (FL_law_1908 Ln xs k18 x3 f)) : Ev G l ML_law room_1 (ZL G) 178 4676 1908 [some (vR 100000), some (vR 0), some (vR 150), some (vI x3)] [] (SH, RF, f) := by
  unfold FL_law_1908 at h
  refine ev_aload_n (i := 1) dL_law_1908 rfl rfl ?_
  refine ev_aload_n (i := 0) dL_law_1909 rfl rfl ?_
  refine ev_iload_n (i := 3) dL_law_1910 rfl rfl ?_
  refine ev_iconst dL_law_1911 (r32c rfl) ?_
  refine ev_iadd dL_law_1912 ?_
  by_cases g1 : 0 ≤ (w32 (x3 + 1)) ∧ (w32 (x3 + 1)) < ((Ln : Nat) : Int)
  · rw [if_pos g1] at h
    refine ex_sld hL hxs dL_law_1913 g1.1 g1.2 ?_
    refine ev_cVI (b := 0) (av := [vI (xs (w32 (x3 + 1)).toNat)]) (S := []) PLn h dL_law_1914 (fun Q' q => TX10_back (xs (w32 (x3 + 1)).toNat) _ q) kvX10_back ml_L_296 sh_0 rfl (RRL (by decide) (by decide)) (Nat.le_of_ble_eq_true rfl) ⟨Nat.le_of_ble_eq_true rfl, Nat.le_of_ble_eq_true rfl⟩ (fun y2 f2 h => ?_)
    refine ev_aload_n (i := 2) dL_law_1917 rfl rfl ?_
    refine ev_aload_n (i := 0) dL_law_1918 rfl rfl ?_
    refine ev_iload_n (i := 3) dL_law_1919 rfl rfl ?_
    refine ev_iconst dL_law_1920 (r32c rfl) ?_
    refine ev_iadd dL_law_1921 ?_
    by_cases g3 : 0 ≤ (w32 (x3 + 1)) ∧ (w32 (x3 + 1)) < ((Ln : Nat) : Int)
    · rw [if_pos g3] at h
      refine ex_sld hL hxs dL_law_1922 g3.1 g3.2 ?_
      refine ev_cVI (b := 150) (av := [vI (xs (w32 (x3 + 1)).toNat)]) (S := [vI y2]) PLn h dL_law_1923 (fun Q' q => TX11_back (xs (w32 (x3 + 1)).toNat) _ q) kvX11_back ml_L_299 sh_150 rfl (RRL (by decide) (by decide)) (Nat.le_of_ble_eq_true rfl) ⟨Nat.le_of_ble_eq_true rfl, Nat.le_of_ble_eq_true rfl⟩ (fun y4 f4 h => ?_)
      refine ev_icmp_eq (tgt := 2110) dL_law_1926 (by decide) (fun c5 => ?_) (fun c5 => ?_)
      · rw [if_pos c5] at h
        exact SL_law_2110 hL hxs q18 x3 _ h
      · rw [if_neg c5] at h
        refine ev_iconst dL_law_1929 (r32c rfl) ?_
        obtain ⟨g, hg⟩ := h
        cases hg
    · rw [if_neg g3] at h; exact (PLn h).elim
  · rw [if_neg g1] at h; exact (PLn h).elim
def FL_law_1931 (Ln : Nat) (xs : Nat → Int) (k18 : Int → Mm → Option (Int × Mm)) (x3 : Int) (f : Mm) : Option (Int × Mm) := (if 0 ≤ (w32 (x3 + 1)) ∧ (w32 (x3 + 1)) < ((Ln : Nat) : Int) then (if 0 ≤ (w32 (x3 + 2)) ∧ (w32 (x3 + 2)) < ((Ln : Nat) : Int) then (if 0 ≤ (w32 (x3 + 3)) ∧ (w32 (x3 + 3)) < ((Ln : Nat) : Int) then (b2 (FX10_row (xs (w32 (x3 + 1)).toNat) (xs (w32 (x3 + 2)).toNat) (xs (w32 (x3 + 3)).toNat) f) fun y4 f4 => (if 0 ≤ (w32 (x3 + 1)) ∧ (w32 (x3 + 1)) < ((Ln : Nat) : Int) then (if 0 ≤ (w32 (x3 + 2)) ∧ (w32 (x3 + 2)) < ((Ln : Nat) : Int) then (if 0 ≤ (w32 (x3 + 3)) ∧ (w32 (x3 + 3)) < ((Ln : Nat) : Int) then (b2 (FX11_row (xs (w32 (x3 + 1)).toNat) (xs (w32 (x3 + 2)).toNat) (xs (w32 (x3 + 3)).toNat) f4) fun y8 f8 => (if y4 = y8 then FL_law_2110 Ln xs k18 x3 f8 else some (0, f8))) else none) else none) else none)) else none) else none) else none)
set_option maxHeartbeats 8000000 in
set_option maxRecDepth 100000 in
theorem SL_law_1931 {G : GT} {l : Launch} {Ln : Nat} {xs : Nat → Int} (hL : gL G = Ln) (hxs : ∀ j, (gX G j).toInt = xs j) {k18 : Int → Mm → Option (Int × Mm)} (q18 : ∀ (x3 : Int) (f : Mm), PL (k18 x3 f) → Ev G l ML_law room_1 (ZL G) 178 4676 18 [some (vR 100000), some (vR 0), some (vR 150), some (vI x3)] [] (SH, RF, f)) (x3 : Int) (f : Mm) (h : PL (FL_law_1931 Ln xs k18 x3 f)) : Ev G l ML_law room_1 (ZL G) 178 4676 1931 [some (vR 100000), some (vR 0), some (vR 150), some (vI x3)] [] (SH, RF, f) := by
  unfold FL_law_1931 at h
  refine ev_aload_n (i := 1) dL_law_1931 rfl rfl ?_
  refine ev_aload_n (i := 0) dL_law_1932 rfl rfl ?_
  refine ev_iload_n (i := 3) dL_law_1933 rfl rfl ?_
  refine ev_iconst dL_law_1934 (r32c rfl) ?_
  refine ev_iadd dL_law_1935 ?_
  by_cases g1 : 0 ≤ (w32 (x3 + 1)) ∧ (w32 (x3 + 1)) < ((Ln : Nat) : Int)
  · rw [if_pos g1] at h
    refine ex_sld hL hxs dL_law_1936 g1.1 g1.2 ?_
    refine ev_aload_n (i := 0) dL_law_1937 rfl rfl ?_
    refine ev_iload_n (i := 3) dL_law_1938 rfl rfl ?_
    refine ev_iconst dL_law_1939 (r32c rfl) ?_
    refine ev_iadd dL_law_1940 ?_
    by_cases g2 : 0 ≤ (w32 (x3 + 2)) ∧ (w32 (x3 + 2)) < ((Ln : Nat) : Int)
    · rw [if_pos g2] at h
      refine ex_sld hL hxs dL_law_1941 g2.1 g2.2 ?_
      refine ev_aload_n (i := 0) dL_law_1942 rfl rfl ?_
      refine ev_iload_n (i := 3) dL_law_1943 rfl rfl ?_
      refine ev_iconst dL_law_1944 (r32c rfl) ?_
      refine ev_iadd dL_law_1945 ?_
      by_cases g3 : 0 ≤ (w32 (x3 + 3)) ∧ (w32 (x3 + 3)) < ((Ln : Nat) : Int)
      · rw [if_pos g3] at h
        refine ex_sld hL hxs dL_law_1946 g3.1 g3.2 ?_
        refine ev_cVI (b := 0) (av := [vI (xs (w32 (x3 + 1)).toNat), vI (xs (w32 (x3 + 2)).toNat), vI (xs (w32 (x3 + 3)).toNat)]) (S := []) PLn h dL_law_1947 (fun Q' q => TX10_row (xs (w32 (x3 + 1)).toNat) (xs (w32 (x3 + 2)).toNat) (xs (w32 (x3 + 3)).toNat) _ q) kvX10_row ml_L_300 sh_0 rfl (RRL (by decide) (by decide)) (Nat.le_of_ble_eq_true rfl) ⟨Nat.le_of_ble_eq_true rfl, Nat.le_of_ble_eq_true rfl⟩ (fun y4 f4 h => ?_)
        refine ev_aload_n (i := 2) dL_law_1950 rfl rfl ?_
        refine ev_aload_n (i := 0) dL_law_1951 rfl rfl ?_
        refine ev_iload_n (i := 3) dL_law_1952 rfl rfl ?_
        refine ev_iconst dL_law_1953 (r32c rfl) ?_
        refine ev_iadd dL_law_1954 ?_
        by_cases g5 : 0 ≤ (w32 (x3 + 1)) ∧ (w32 (x3 + 1)) < ((Ln : Nat) : Int)
        · rw [if_pos g5] at h
          refine ex_sld hL hxs dL_law_1955 g5.1 g5.2 ?_
          refine ev_aload_n (i := 0) dL_law_1956 rfl rfl ?_
          refine ev_iload_n (i := 3) dL_law_1957 rfl rfl ?_
          refine ev_iconst dL_law_1958 (r32c rfl) ?_
          refine ev_iadd dL_law_1959 ?_
          by_cases g6 : 0 ≤ (w32 (x3 + 2)) ∧ (w32 (x3 + 2)) < ((Ln : Nat) : Int)
          · rw [if_pos g6] at h
            refine ex_sld hL hxs dL_law_1960 g6.1 g6.2 ?_
            refine ev_aload_n (i := 0) dL_law_1961 rfl rfl ?_
            refine ev_iload_n (i := 3) dL_law_1962 rfl rfl ?_
            refine ev_iconst dL_law_1963 (r32c rfl) ?_
            refine ev_iadd dL_law_1964 ?_
            by_cases g7 : 0 ≤ (w32 (x3 + 3)) ∧ (w32 (x3 + 3)) < ((Ln : Nat) : Int)
            · rw [if_pos g7] at h
              refine ex_sld hL hxs dL_law_1965 g7.1 g7.2 ?_
              refine ev_cVI (b := 150) (av := [vI (xs (w32 (x3 + 1)).toNat), vI (xs (w32 (x3 + 2)).toNat), vI (xs (w32 (x3 + 3)).toNat)]) (S := [vI y4]) PLn h dL_law_1966 (fun Q' q => TX11_row (xs (w32 (x3 + 1)).toNat) (xs (w32 (x3 + 2)).toNat) (xs (w32 (x3 + 3)).toNat) _ q) kvX11_row ml_L_303 sh_150 rfl (RRL (by decide) (by decide)) (Nat.le_of_ble_eq_true rfl) ⟨Nat.le_of_ble_eq_true rfl, Nat.le_of_ble_eq_true rfl⟩ (fun y8 f8 h => ?_)
              refine ev_icmp_eq (tgt := 2110) dL_law_1969 (by decide) (fun c9 => ?_) (fun c9 => ?_)
              · rw [if_pos c9] at h
                exact SL_law_2110 hL hxs q18 x3 _ h
              · rw [if_neg c9] at h
                refine ev_iconst dL_law_1972 (r32c rfl) ?_
                obtain ⟨g, hg⟩ := h
                cases hg
            · rw [if_neg g7] at h; exact (PLn h).elim
          · rw [if_neg g6] at h; exact (PLn h).elim
        · rw [if_neg g5] at h; exact (PLn h).elim
      · rw [if_neg g3] at h; exact (PLn h).elim
    · rw [if_neg g2] at h; exact (PLn h).elim
  · rw [if_neg g1] at h; exact (PLn h).elim
def FL_law_1974 (Ln : Nat) (xs : Nat → Int) (k18 : Int → Mm → Option (Int × Mm)) (x3 : Int) (f : Mm) : Option (Int × Mm) := (if 0 ≤ (w32 (x3 + 1)) ∧ (w32 (x3 + 1)) < ((Ln : Nat) : Int) then (if 0 ≤ (w32 (x3 + 2)) ∧ (w32 (x3 + 2)) < ((Ln : Nat) : Int) then (if 0 ≤ (w32 (x3 + 3)) ∧ (w32 (x3 + 3)) < ((Ln : Nat) : Int) then (if 0 ≤ (w32 (x3 + 4)) ∧ (w32 (x3 + 4)) < ((Ln : Nat) : Int) then (b2 (FX10_write (xs (w32 (x3 + 1)).toNat) (xs (w32 (x3 + 2)).toNat) (lOr (lShl (xs (w32 (x3 + 3)).toNat) 32) (lAnd (xs (w32 (x3 + 4)).toNat) 4294967295)) f) fun y5 f5 => (if 0 ≤ (w32 (x3 + 1)) ∧ (w32 (x3 + 1)) < ((Ln : Nat) : Int) then (if 0 ≤ (w32 (x3 + 2)) ∧ (w32 (x3 + 2)) < ((Ln : Nat) : Int) then (if 0 ≤ (w32 (x3 + 3)) ∧ (w32 (x3 + 3)) < ((Ln : Nat) : Int) then (if 0 ≤ (w32 (x3 + 4)) ∧ (w32 (x3 + 4)) < ((Ln : Nat) : Int) then (b2 (FX11_write (xs (w32 (x3 + 1)).toNat) (xs (w32 (x3 + 2)).toNat) (lOr (lShl (xs (w32 (x3 + 3)).toNat) 32) (lAnd (xs (w32 (x3 + 4)).toNat) 4294967295)) f5) fun y10 f10 => (if y5 = y10 then FL_law_2110 Ln xs k18 x3 f10 else some (0, f10))) else none) else none) else none) else none)) else none) else none) else none) else none)
set_option maxHeartbeats 8000000 in
set_option maxRecDepth 100000 in
theorem SL_law_1974 {G : GT} {l : Launch} {Ln : Nat} {xs : Nat → Int} (hL : gL G = Ln) (hxs : ∀ j, (gX G j).toInt = xs j) {k18 : Int → Mm → Option (Int × Mm)} (q18 : ∀ (x3 : Int) (f : Mm), PL (k18 x3 f) → Ev G l ML_law room_1 (ZL G) 178 4676 18 [some (vR 100000), some (vR 0), some (vR 150), some (vI x3)] [] (SH, RF, f)) (x3 : Int) (f : Mm) (h : PL (FL_law_1974 Ln xs k18 x3 f)) : Ev G l ML_law room_1 (ZL G) 178 4676 1974 [some (vR 100000), some (vR 0), some (vR 150), some (vI x3)] [] (SH, RF, f) := by
  unfold FL_law_1974 at h
  refine ev_aload_n (i := 1) dL_law_1974 rfl rfl ?_
  refine ev_aload_n (i := 0) dL_law_1975 rfl rfl ?_
  refine ev_iload_n (i := 3) dL_law_1976 rfl rfl ?_
  refine ev_iconst dL_law_1977 (r32c rfl) ?_
  refine ev_iadd dL_law_1978 ?_
  by_cases g1 : 0 ≤ (w32 (x3 + 1)) ∧ (w32 (x3 + 1)) < ((Ln : Nat) : Int)
  · rw [if_pos g1] at h
    refine ex_sld hL hxs dL_law_1979 g1.1 g1.2 ?_
    refine ev_aload_n (i := 0) dL_law_1980 rfl rfl ?_
    refine ev_iload_n (i := 3) dL_law_1981 rfl rfl ?_
    refine ev_iconst dL_law_1982 (r32c rfl) ?_
    refine ev_iadd dL_law_1983 ?_
    by_cases g2 : 0 ≤ (w32 (x3 + 2)) ∧ (w32 (x3 + 2)) < ((Ln : Nat) : Int)
    · rw [if_pos g2] at h
      refine ex_sld hL hxs dL_law_1984 g2.1 g2.2 ?_
      refine ev_aload_n (i := 0) dL_law_1985 rfl rfl ?_
      refine ev_iload_n (i := 3) dL_law_1986 rfl rfl ?_
      refine ev_iconst dL_law_1987 (r32c rfl) ?_
      refine ev_iadd dL_law_1988 ?_
      by_cases g3 : 0 ≤ (w32 (x3 + 3)) ∧ (w32 (x3 + 3)) < ((Ln : Nat) : Int)
      · rw [if_pos g3] at h
        refine ex_sld hL hxs dL_law_1989 g3.1 g3.2 ?_
        refine ev_i2l dL_law_1990 ?_
        refine ev_bipush (v := 32) dL_law_1991 (r32c rfl) (by decide) ?_
        refine ev_lshl dL_law_1993 ?_
        refine ev_aload_n (i := 0) dL_law_1994 rfl rfl ?_
        refine ev_iload_n (i := 3) dL_law_1995 rfl rfl ?_
        refine ev_iconst dL_law_1996 (r32c rfl) ?_
        refine ev_iadd dL_law_1997 ?_
        by_cases g4 : 0 ≤ (w32 (x3 + 4)) ∧ (w32 (x3 + 4)) < ((Ln : Nat) : Int)
        · rw [if_pos g4] at h
          refine ex_sld hL hxs dL_law_1998 g4.1 g4.2 ?_
          refine ev_i2l dL_law_1999 ?_
          refine ev_ldc2 (v := 4294967295) dL_law_2000 (r64c rfl) kc_L_304 ?_
          refine ev_land dL_law_2003 ?_
          refine ev_lor dL_law_2004 ?_
          refine ev_cVI (b := 0) (av := [vI (xs (w32 (x3 + 1)).toNat), vI (xs (w32 (x3 + 2)).toNat), vJ (lOr (lShl (xs (w32 (x3 + 3)).toNat) 32) (lAnd (xs (w32 (x3 + 4)).toNat) 4294967295))]) (S := []) PLn h dL_law_2005 (fun Q' q => TX10_write (xs (w32 (x3 + 1)).toNat) (xs (w32 (x3 + 2)).toNat) (lOr (lShl (xs (w32 (x3 + 3)).toNat) 32) (lAnd (xs (w32 (x3 + 4)).toNat) 4294967295)) _ q) kvX10_write ml_L_306 sh_0 rfl (RRL (by decide) (by decide)) (Nat.le_of_ble_eq_true rfl) ⟨Nat.le_of_ble_eq_true rfl, Nat.le_of_ble_eq_true rfl⟩ (fun y5 f5 h => ?_)
          refine ev_aload_n (i := 2) dL_law_2008 rfl rfl ?_
          refine ev_aload_n (i := 0) dL_law_2009 rfl rfl ?_
          refine ev_iload_n (i := 3) dL_law_2010 rfl rfl ?_
          refine ev_iconst dL_law_2011 (r32c rfl) ?_
          refine ev_iadd dL_law_2012 ?_
          by_cases g6 : 0 ≤ (w32 (x3 + 1)) ∧ (w32 (x3 + 1)) < ((Ln : Nat) : Int)
          · rw [if_pos g6] at h
            refine ex_sld hL hxs dL_law_2013 g6.1 g6.2 ?_
            refine ev_aload_n (i := 0) dL_law_2014 rfl rfl ?_
            refine ev_iload_n (i := 3) dL_law_2015 rfl rfl ?_
            refine ev_iconst dL_law_2016 (r32c rfl) ?_
            refine ev_iadd dL_law_2017 ?_
            by_cases g7 : 0 ≤ (w32 (x3 + 2)) ∧ (w32 (x3 + 2)) < ((Ln : Nat) : Int)
            · rw [if_pos g7] at h
              refine ex_sld hL hxs dL_law_2018 g7.1 g7.2 ?_
              refine ev_aload_n (i := 0) dL_law_2019 rfl rfl ?_
              refine ev_iload_n (i := 3) dL_law_2020 rfl rfl ?_
              refine ev_iconst dL_law_2021 (r32c rfl) ?_
              refine ev_iadd dL_law_2022 ?_
              by_cases g8 : 0 ≤ (w32 (x3 + 3)) ∧ (w32 (x3 + 3)) < ((Ln : Nat) : Int)
              · rw [if_pos g8] at h
                refine ex_sld hL hxs dL_law_2023 g8.1 g8.2 ?_
                refine ev_i2l dL_law_2024 ?_
                refine ev_bipush (v := 32) dL_law_2025 (r32c rfl) (by decide) ?_
                refine ev_lshl dL_law_2027 ?_
                refine ev_aload_n (i := 0) dL_law_2028 rfl rfl ?_
                refine ev_iload_n (i := 3) dL_law_2029 rfl rfl ?_
                refine ev_iconst dL_law_2030 (r32c rfl) ?_
                refine ev_iadd dL_law_2031 ?_
                by_cases g9 : 0 ≤ (w32 (x3 + 4)) ∧ (w32 (x3 + 4)) < ((Ln : Nat) : Int)
                · rw [if_pos g9] at h
                  refine ex_sld hL hxs dL_law_2032 g9.1 g9.2 ?_
                  refine ev_i2l dL_law_2033 ?_
                  refine ev_ldc2 (v := 4294967295) dL_law_2034 (r64c rfl) kc_L_304 ?_
                  refine ev_land dL_law_2037 ?_
                  refine ev_lor dL_law_2038 ?_
                  refine ev_cVI (b := 150) (av := [vI (xs (w32 (x3 + 1)).toNat), vI (xs (w32 (x3 + 2)).toNat), vJ (lOr (lShl (xs (w32 (x3 + 3)).toNat) 32) (lAnd (xs (w32 (x3 + 4)).toNat) 4294967295))]) (S := [vI y5]) PLn h dL_law_2039 (fun Q' q => TX11_write (xs (w32 (x3 + 1)).toNat) (xs (w32 (x3 + 2)).toNat) (lOr (lShl (xs (w32 (x3 + 3)).toNat) 32) (lAnd (xs (w32 (x3 + 4)).toNat) 4294967295)) _ q) kvX11_write ml_L_310 sh_150 rfl (RRL (by decide) (by decide)) (Nat.le_of_ble_eq_true rfl) ⟨Nat.le_of_ble_eq_true rfl, Nat.le_of_ble_eq_true rfl⟩ (fun y10 f10 h => ?_)
                  refine ev_icmp_eq (tgt := 2110) dL_law_2042 (by decide) (fun c11 => ?_) (fun c11 => ?_)
                  · rw [if_pos c11] at h
                    exact SL_law_2110 hL hxs q18 x3 _ h
                  · rw [if_neg c11] at h
                    refine ev_iconst dL_law_2045 (r32c rfl) ?_
                    obtain ⟨g, hg⟩ := h
                    cases hg
                · rw [if_neg g9] at h; exact (PLn h).elim
              · rw [if_neg g8] at h; exact (PLn h).elim
            · rw [if_neg g7] at h; exact (PLn h).elim
          · rw [if_neg g6] at h; exact (PLn h).elim
        · rw [if_neg g4] at h; exact (PLn h).elim
      · rw [if_neg g3] at h; exact (PLn h).elim
    · rw [if_neg g2] at h; exact (PLn h).elim
  · rw [if_neg g1] at h; exact (PLn h).elim
def FL_law_2047 (Ln : Nat) (xs : Nat → Int) (k18 : Int → Mm → Option (Int × Mm)) (x3 : Int) (f : Mm) : Option (Int × Mm) := (if 0 ≤ (w32 (x3 + 1)) ∧ (w32 (x3 + 1)) < ((Ln : Nat) : Int) then (if 0 ≤ (w32 (x3 + 2)) ∧ (w32 (x3 + 2)) < ((Ln : Nat) : Int) then (if 0 ≤ (w32 (x3 + 3)) ∧ (w32 (x3 + 3)) < ((Ln : Nat) : Int) then (if 0 ≤ (w32 (x3 + 4)) ∧ (w32 (x3 + 4)) < ((Ln : Nat) : Int) then (if 0 ≤ (w32 (x3 + 5)) ∧ (w32 (x3 + 5)) < ((Ln : Nat) : Int) then (b2 (FX10_paste (xs (w32 (x3 + 1)).toNat) (xs (w32 (x3 + 2)).toNat) (xs (w32 (x3 + 3)).toNat) (xs (w32 (x3 + 4)).toNat) (xs (w32 (x3 + 5)).toNat) f) fun y6 f6 => (if 0 ≤ (w32 (x3 + 1)) ∧ (w32 (x3 + 1)) < ((Ln : Nat) : Int) then (if 0 ≤ (w32 (x3 + 2)) ∧ (w32 (x3 + 2)) < ((Ln : Nat) : Int) then (if 0 ≤ (w32 (x3 + 3)) ∧ (w32 (x3 + 3)) < ((Ln : Nat) : Int) then (if 0 ≤ (w32 (x3 + 4)) ∧ (w32 (x3 + 4)) < ((Ln : Nat) : Int) then (if 0 ≤ (w32 (x3 + 5)) ∧ (w32 (x3 + 5)) < ((Ln : Nat) : Int) then (b2 (FX11_paste (xs (w32 (x3 + 1)).toNat) (xs (w32 (x3 + 2)).toNat) (xs (w32 (x3 + 3)).toNat) (xs (w32 (x3 + 4)).toNat) (xs (w32 (x3 + 5)).toNat) f6) fun y12 f12 => (if y6 = y12 then FL_law_2110 Ln xs k18 x3 f12 else some (0, f12))) else none) else none) else none) else none) else none)) else none) else none) else none) else none) else none)
set_option maxHeartbeats 8000000 in
set_option maxRecDepth 100000 in
theorem SL_law_2047 {G : GT} {l : Launch} {Ln : Nat} {xs : Nat → Int} (hL : gL G = Ln) (hxs : ∀ j, (gX G j).toInt = xs j) {k18 : Int → Mm → Option (Int × Mm)} (q18 : ∀ (x3 : Int) (f : Mm), PL (k18 x3 f) → Ev G l ML_law room_1 (ZL G) 178 4676 18 [some (vR 100000), some (vR 0), some (vR 150), some (vI x3)] [] (SH, RF, f)) (x3 : Int) (f : Mm) (h : PL (FL_law_2047 Ln xs k18 x3 f)) : Ev G l ML_law room_1 (ZL G) 178 4676 2047 [some (vR 100000), some (vR 0), some (vR 150), some (vI x3)] [] (SH, RF, f) := by
  unfold FL_law_2047 at h
  refine ev_aload_n (i := 1) dL_law_2047 rfl rfl ?_
  refine ev_aload_n (i := 0) dL_law_2048 rfl rfl ?_
  refine ev_iload_n (i := 3) dL_law_2049 rfl rfl ?_
  refine ev_iconst dL_law_2050 (r32c rfl) ?_
  refine ev_iadd dL_law_2051 ?_
  by_cases g1 : 0 ≤ (w32 (x3 + 1)) ∧ (w32 (x3 + 1)) < ((Ln : Nat) : Int)
  · rw [if_pos g1] at h
    refine ex_sld hL hxs dL_law_2052 g1.1 g1.2 ?_
    refine ev_aload_n (i := 0) dL_law_2053 rfl rfl ?_
    refine ev_iload_n (i := 3) dL_law_2054 rfl rfl ?_
    refine ev_iconst dL_law_2055 (r32c rfl) ?_
    refine ev_iadd dL_law_2056 ?_
    by_cases g2 : 0 ≤ (w32 (x3 + 2)) ∧ (w32 (x3 + 2)) < ((Ln : Nat) : Int)
    · rw [if_pos g2] at h
      refine ex_sld hL hxs dL_law_2057 g2.1 g2.2 ?_
      refine ev_aload_n (i := 0) dL_law_2058 rfl rfl ?_
      refine ev_iload_n (i := 3) dL_law_2059 rfl rfl ?_
      refine ev_iconst dL_law_2060 (r32c rfl) ?_
      refine ev_iadd dL_law_2061 ?_
      by_cases g3 : 0 ≤ (w32 (x3 + 3)) ∧ (w32 (x3 + 3)) < ((Ln : Nat) : Int)
      · rw [if_pos g3] at h
        refine ex_sld hL hxs dL_law_2062 g3.1 g3.2 ?_
        refine ev_aload_n (i := 0) dL_law_2063 rfl rfl ?_
        refine ev_iload_n (i := 3) dL_law_2064 rfl rfl ?_
        refine ev_iconst dL_law_2065 (r32c rfl) ?_
        refine ev_iadd dL_law_2066 ?_
        by_cases g4 : 0 ≤ (w32 (x3 + 4)) ∧ (w32 (x3 + 4)) < ((Ln : Nat) : Int)
        · rw [if_pos g4] at h
          refine ex_sld hL hxs dL_law_2067 g4.1 g4.2 ?_
          refine ev_aload_n (i := 0) dL_law_2068 rfl rfl ?_
          refine ev_iload_n (i := 3) dL_law_2069 rfl rfl ?_
          refine ev_iconst dL_law_2070 (r32c rfl) ?_
          refine ev_iadd dL_law_2071 ?_
          by_cases g5 : 0 ≤ (w32 (x3 + 5)) ∧ (w32 (x3 + 5)) < ((Ln : Nat) : Int)
          · rw [if_pos g5] at h
            refine ex_sld hL hxs dL_law_2072 g5.1 g5.2 ?_
            refine ev_cVI (b := 0) (av := [vI (xs (w32 (x3 + 1)).toNat), vI (xs (w32 (x3 + 2)).toNat), vI (xs (w32 (x3 + 3)).toNat), vI (xs (w32 (x3 + 4)).toNat), vI (xs (w32 (x3 + 5)).toNat)]) (S := []) PLn h dL_law_2073 (fun Q' q => TX10_paste (xs (w32 (x3 + 1)).toNat) (xs (w32 (x3 + 2)).toNat) (xs (w32 (x3 + 3)).toNat) (xs (w32 (x3 + 4)).toNat) (xs (w32 (x3 + 5)).toNat) _ q) kvX10_paste ml_L_311 sh_0 rfl (RRL (by decide) (by decide)) (Nat.le_of_ble_eq_true rfl) ⟨Nat.le_of_ble_eq_true rfl, Nat.le_of_ble_eq_true rfl⟩ (fun y6 f6 h => ?_)
            refine ev_aload_n (i := 2) dL_law_2076 rfl rfl ?_
            refine ev_aload_n (i := 0) dL_law_2077 rfl rfl ?_
            refine ev_iload_n (i := 3) dL_law_2078 rfl rfl ?_
            refine ev_iconst dL_law_2079 (r32c rfl) ?_
            refine ev_iadd dL_law_2080 ?_
            by_cases g7 : 0 ≤ (w32 (x3 + 1)) ∧ (w32 (x3 + 1)) < ((Ln : Nat) : Int)
            · rw [if_pos g7] at h
              refine ex_sld hL hxs dL_law_2081 g7.1 g7.2 ?_
              refine ev_aload_n (i := 0) dL_law_2082 rfl rfl ?_
              refine ev_iload_n (i := 3) dL_law_2083 rfl rfl ?_
              refine ev_iconst dL_law_2084 (r32c rfl) ?_
              refine ev_iadd dL_law_2085 ?_
              by_cases g8 : 0 ≤ (w32 (x3 + 2)) ∧ (w32 (x3 + 2)) < ((Ln : Nat) : Int)
              · rw [if_pos g8] at h
                refine ex_sld hL hxs dL_law_2086 g8.1 g8.2 ?_
                refine ev_aload_n (i := 0) dL_law_2087 rfl rfl ?_
                refine ev_iload_n (i := 3) dL_law_2088 rfl rfl ?_
                refine ev_iconst dL_law_2089 (r32c rfl) ?_
                refine ev_iadd dL_law_2090 ?_
                by_cases g9 : 0 ≤ (w32 (x3 + 3)) ∧ (w32 (x3 + 3)) < ((Ln : Nat) : Int)
                · rw [if_pos g9] at h
                  refine ex_sld hL hxs dL_law_2091 g9.1 g9.2 ?_
                  refine ev_aload_n (i := 0) dL_law_2092 rfl rfl ?_
                  refine ev_iload_n (i := 3) dL_law_2093 rfl rfl ?_
                  refine ev_iconst dL_law_2094 (r32c rfl) ?_
                  refine ev_iadd dL_law_2095 ?_
                  by_cases g10 : 0 ≤ (w32 (x3 + 4)) ∧ (w32 (x3 + 4)) < ((Ln : Nat) : Int)
                  · rw [if_pos g10] at h
                    refine ex_sld hL hxs dL_law_2096 g10.1 g10.2 ?_
                    refine ev_aload_n (i := 0) dL_law_2097 rfl rfl ?_
                    refine ev_iload_n (i := 3) dL_law_2098 rfl rfl ?_
                    refine ev_iconst dL_law_2099 (r32c rfl) ?_
                    refine ev_iadd dL_law_2100 ?_
                    by_cases g11 : 0 ≤ (w32 (x3 + 5)) ∧ (w32 (x3 + 5)) < ((Ln : Nat) : Int)
                    · rw [if_pos g11] at h
                      refine ex_sld hL hxs dL_law_2101 g11.1 g11.2 ?_
                      refine ev_cVI (b := 150) (av := [vI (xs (w32 (x3 + 1)).toNat), vI (xs (w32 (x3 + 2)).toNat), vI (xs (w32 (x3 + 3)).toNat), vI (xs (w32 (x3 + 4)).toNat), vI (xs (w32 (x3 + 5)).toNat)]) (S := [vI y6]) PLn h dL_law_2102 (fun Q' q => TX11_paste (xs (w32 (x3 + 1)).toNat) (xs (w32 (x3 + 2)).toNat) (xs (w32 (x3 + 3)).toNat) (xs (w32 (x3 + 4)).toNat) (xs (w32 (x3 + 5)).toNat) _ q) kvX11_paste ml_L_314 sh_150 rfl (RRL (by decide) (by decide)) (Nat.le_of_ble_eq_true rfl) ⟨Nat.le_of_ble_eq_true rfl, Nat.le_of_ble_eq_true rfl⟩ (fun y12 f12 h => ?_)
                      refine ev_icmp_eq (tgt := 2110) dL_law_2105 (by decide) (fun c13 => ?_) (fun c13 => ?_)
                      · rw [if_pos c13] at h
                        exact SL_law_2110 hL hxs q18 x3 _ h
                      · rw [if_neg c13] at h
                        refine ev_iconst dL_law_2108 (r32c rfl) ?_
                        obtain ⟨g, hg⟩ := h
                        cases hg
                    · rw [if_neg g11] at h; exact (PLn h).elim
                  · rw [if_neg g10] at h; exact (PLn h).elim
                · rw [if_neg g9] at h; exact (PLn h).elim
              · rw [if_neg g8] at h; exact (PLn h).elim
            · rw [if_neg g7] at h; exact (PLn h).elim
          · rw [if_neg g5] at h; exact (PLn h).elim
        · rw [if_neg g4] at h; exact (PLn h).elim
      · rw [if_neg g3] at h; exact (PLn h).elim
    · rw [if_neg g2] at h; exact (PLn h).elim
  · rw [if_neg g1] at h; exact (PLn h).elim
def FL_law_18 (Ln : Nat) (xs : Nat → Int)  : Nat → Int → Mm → Option (Int × Mm)
  | 0, _, _ => none
  | n + 1, x3, f => (if (w32 (((Ln : Nat) : Int) - 6)) < x3 then some (1, f) else (if 0 ≤ x3 ∧ x3 < ((Ln : Nat) : Int) then (if (bAnd (xs x3.toNat) 127) = 0 then FL_law_340 Ln xs (FL_law_18 Ln xs n) x3 f else (if (bAnd (xs x3.toNat) 127) = 1 then FL_law_403 Ln xs (FL_law_18 Ln xs n) x3 f else (if (bAnd (xs x3.toNat) 127) = 2 then FL_law_426 Ln xs (FL_law_18 Ln xs n) x3 f else (if (bAnd (xs x3.toNat) 127) = 3 then FL_law_439 Ln xs (FL_law_18 Ln xs n) x3 f else (if (bAnd (xs x3.toNat) 127) = 4 then FL_law_462 Ln xs (FL_law_18 Ln xs n) x3 f else (if (bAnd (xs x3.toNat) 127) = 5 then FL_law_495 Ln xs (FL_law_18 Ln xs n) x3 f else (if (bAnd (xs x3.toNat) 127) = 6 then FL_law_528 Ln xs (FL_law_18 Ln xs n) x3 f else (if (bAnd (xs x3.toNat) 127) = 7 then FL_law_561 Ln xs (FL_law_18 Ln xs n) x3 f else (if (bAnd (xs x3.toNat) 127) = 8 then FL_law_584 Ln xs (FL_law_18 Ln xs n) x3 f else (if (bAnd (xs x3.toNat) 127) = 9 then FL_law_597 Ln xs (FL_law_18 Ln xs n) x3 f else (if (bAnd (xs x3.toNat) 127) = 10 then FL_law_610 Ln xs (FL_law_18 Ln xs n) x3 f else (if (bAnd (xs x3.toNat) 127) = 11 then FL_law_633 Ln xs (FL_law_18 Ln xs n) x3 f else (if (bAnd (xs x3.toNat) 127) = 12 then FL_law_656 Ln xs (FL_law_18 Ln xs n) x3 f else (if (bAnd (xs x3.toNat) 127) = 13 then FL_law_679 Ln xs (FL_law_18 Ln xs n) x3 f else (if (bAnd (xs x3.toNat) 127) = 14 then FL_law_702 Ln xs (FL_law_18 Ln xs n) x3 f else (if (bAnd (xs x3.toNat) 127) = 15 then FL_law_715 Ln xs (FL_law_18 Ln xs n) x3 f else (if (bAnd (xs x3.toNat) 127) = 16 then FL_law_728 Ln xs (FL_law_18 Ln xs n) x3 f else (if (bAnd (xs x3.toNat) 127) = 17 then FL_law_741 Ln xs (FL_law_18 Ln xs n) x3 f else (if (bAnd (xs x3.toNat) 127) = 18 then FL_law_754 Ln xs (FL_law_18 Ln xs n) x3 f else (if (bAnd (xs x3.toNat) 127) = 19 then FL_law_767 Ln xs (FL_law_18 Ln xs n) x3 f else (if (bAnd (xs x3.toNat) 127) = 20 then FL_law_780 Ln xs (FL_law_18 Ln xs n) x3 f else (if (bAnd (xs x3.toNat) 127) = 21 then FL_law_803 Ln xs (FL_law_18 Ln xs n) x3 f else (if (bAnd (xs x3.toNat) 127) = 22 then FL_law_816 Ln xs (FL_law_18 Ln xs n) x3 f else (if (bAnd (xs x3.toNat) 127) = 23 then FL_law_829 Ln xs (FL_law_18 Ln xs n) x3 f else (if (bAnd (xs x3.toNat) 127) = 24 then FL_law_852 Ln xs (FL_law_18 Ln xs n) x3 f else (if (bAnd (xs x3.toNat) 127) = 25 then FL_law_865 Ln xs (FL_law_18 Ln xs n) x3 f else (if (bAnd (xs x3.toNat) 127) = 26 then FL_law_878 Ln xs (FL_law_18 Ln xs n) x3 f else (if (bAnd (xs x3.toNat) 127) = 27 then FL_law_891 Ln xs (FL_law_18 Ln xs n) x3 f else (if (bAnd (xs x3.toNat) 127) = 28 then FL_law_914 Ln xs (FL_law_18 Ln xs n) x3 f else (if (bAnd (xs x3.toNat) 127) = 29 then FL_law_937 Ln xs (FL_law_18 Ln xs n) x3 f else (if (bAnd (xs x3.toNat) 127) = 30 then FL_law_960 Ln xs (FL_law_18 Ln xs n) x3 f else (if (bAnd (xs x3.toNat) 127) = 31 then FL_law_983 Ln xs (FL_law_18 Ln xs n) x3 f else (if (bAnd (xs x3.toNat) 127) = 32 then FL_law_1006 Ln xs (FL_law_18 Ln xs n) x3 f else (if (bAnd (xs x3.toNat) 127) = 33 then FL_law_1019 Ln xs (FL_law_18 Ln xs n) x3 f else (if (bAnd (xs x3.toNat) 127) = 34 then FL_law_1042 Ln xs (FL_law_18 Ln xs n) x3 f else (if (bAnd (xs x3.toNat) 127) = 35 then FL_law_1065 Ln xs (FL_law_18 Ln xs n) x3 f else (if (bAnd (xs x3.toNat) 127) = 36 then FL_law_1098 Ln xs (FL_law_18 Ln xs n) x3 f else (if (bAnd (xs x3.toNat) 127) = 37 then FL_law_1121 Ln xs (FL_law_18 Ln xs n) x3 f else (if (bAnd (xs x3.toNat) 127) = 38 then FL_law_1144 Ln xs (FL_law_18 Ln xs n) x3 f else (if (bAnd (xs x3.toNat) 127) = 39 then FL_law_1157 Ln xs (FL_law_18 Ln xs n) x3 f else (if (bAnd (xs x3.toNat) 127) = 40 then FL_law_1180 Ln xs (FL_law_18 Ln xs n) x3 f else (if (bAnd (xs x3.toNat) 127) = 41 then FL_law_1203 Ln xs (FL_law_18 Ln xs n) x3 f else (if (bAnd (xs x3.toNat) 127) = 42 then FL_law_1226 Ln xs (FL_law_18 Ln xs n) x3 f else (if (bAnd (xs x3.toNat) 127) = 43 then FL_law_1249 Ln xs (FL_law_18 Ln xs n) x3 f else (if (bAnd (xs x3.toNat) 127) = 44 then FL_law_1262 Ln xs (FL_law_18 Ln xs n) x3 f else (if (bAnd (xs x3.toNat) 127) = 45 then FL_law_1285 Ln xs (FL_law_18 Ln xs n) x3 f else (if (bAnd (xs x3.toNat) 127) = 46 then FL_law_1298 Ln xs (FL_law_18 Ln xs n) x3 f else (if (bAnd (xs x3.toNat) 127) = 47 then FL_law_1321 Ln xs (FL_law_18 Ln xs n) x3 f else (if (bAnd (xs x3.toNat) 127) = 48 then FL_law_1344 Ln xs (FL_law_18 Ln xs n) x3 f else (if (bAnd (xs x3.toNat) 127) = 49 then FL_law_1367 Ln xs (FL_law_18 Ln xs n) x3 f else (if (bAnd (xs x3.toNat) 127) = 50 then FL_law_1390 Ln xs (FL_law_18 Ln xs n) x3 f else (if (bAnd (xs x3.toNat) 127) = 51 then FL_law_1413 Ln xs (FL_law_18 Ln xs n) x3 f else (if (bAnd (xs x3.toNat) 127) = 52 then FL_law_1436 Ln xs (FL_law_18 Ln xs n) x3 f else (if (bAnd (xs x3.toNat) 127) = 53 then FL_law_1459 Ln xs (FL_law_18 Ln xs n) x3 f else (if (bAnd (xs x3.toNat) 127) = 54 then FL_law_1482 Ln xs (FL_law_18 Ln xs n) x3 f else (if (bAnd (xs x3.toNat) 127) = 55 then FL_law_1505 Ln xs (FL_law_18 Ln xs n) x3 f else (if (bAnd (xs x3.toNat) 127) = 56 then FL_law_1558 Ln xs (FL_law_18 Ln xs n) x3 f else (if (bAnd (xs x3.toNat) 127) = 57 then FL_law_1581 Ln xs (FL_law_18 Ln xs n) x3 f else (if (bAnd (xs x3.toNat) 127) = 58 then FL_law_1604 Ln xs (FL_law_18 Ln xs n) x3 f else (if (bAnd (xs x3.toNat) 127) = 59 then FL_law_1648 Ln xs (FL_law_18 Ln xs n) x3 f else (if (bAnd (xs x3.toNat) 127) = 60 then FL_law_1671 Ln xs (FL_law_18 Ln xs n) x3 f else (if (bAnd (xs x3.toNat) 127) = 61 then FL_law_1704 Ln xs (FL_law_18 Ln xs n) x3 f else (if (bAnd (xs x3.toNat) 127) = 62 then FL_law_1747 Ln xs (FL_law_18 Ln xs n) x3 f else (if (bAnd (xs x3.toNat) 127) = 63 then FL_law_1780 Ln xs (FL_law_18 Ln xs n) x3 f else (if (bAnd (xs x3.toNat) 127) = 64 then FL_law_1793 Ln xs (FL_law_18 Ln xs n) x3 f else (if (bAnd (xs x3.toNat) 127) = 65 then FL_law_1806 Ln xs (FL_law_18 Ln xs n) x3 f else (if (bAnd (xs x3.toNat) 127) = 66 then FL_law_1829 Ln xs (FL_law_18 Ln xs n) x3 f else (if (bAnd (xs x3.toNat) 127) = 67 then FL_law_1862 Ln xs (FL_law_18 Ln xs n) x3 f else (if (bAnd (xs x3.toNat) 127) = 68 then FL_law_1885 Ln xs (FL_law_18 Ln xs n) x3 f else (if (bAnd (xs x3.toNat) 127) = 69 then FL_law_1908 Ln xs (FL_law_18 Ln xs n) x3 f else (if (bAnd (xs x3.toNat) 127) = 70 then FL_law_1931 Ln xs (FL_law_18 Ln xs n) x3 f else (if (bAnd (xs x3.toNat) 127) = 71 then FL_law_1974 Ln xs (FL_law_18 Ln xs n) x3 f else (if (bAnd (xs x3.toNat) 127) = 72 then FL_law_2047 Ln xs (FL_law_18 Ln xs n) x3 f else FL_law_2110 Ln xs (FL_law_18 Ln xs n) x3 f))))))))))))))))))))))))))))))))))))))))))))))))))))))))))))))))))))))))) else none))
set_option maxHeartbeats 8000000 in
set_option maxRecDepth 100000 in
theorem SL_law_18 {G : GT} {l : Launch} {Ln : Nat} {xs : Nat → Int} (hL : gL G = Ln) (hxs : ∀ j, (gX G j).toInt = xs j)  : ∀ (n : Nat) (x3 : Int) (f : Mm), PL (FL_law_18 Ln xs  n x3 f) → Ev G l ML_law room_1 (ZL G) 178 4676 18 [some (vR 100000), some (vR 0), some (vR 150), some (vI x3)] [] (SH, RF, f) := by
  intro n
  induction n with
  | zero => intro x3 f h; exact absurd h (by rw [FL_law_18]; exact PLn)
  | succ n ih =>
    intro x3 f h
    rw [FL_law_18] at h
    refine ev_iload_n (i := 3) dL_law_18 rfl rfl ?_
    refine ev_aload_n (i := 0) dL_law_19 rfl rfl ?_
    refine ex_slen hL dL_law_20 ?_
    refine ev_bipush (v := 6) dL_law_21 (r32c rfl) (by decide) ?_
    refine ev_isub dL_law_23 ?_
    refine ev_icmp_gt (tgt := 2116) dL_law_24 (by decide) (fun c75 => ?_) (fun c75 => ?_)
    · rw [if_pos c75] at h
      refine ev_iconst dL_law_2116 (r32c rfl) ?_
      exact ev_lawret dL_law_2117
    · rw [if_neg c75] at h
      refine ev_aload_n (i := 0) dL_law_27 rfl rfl ?_
      refine ev_iload_n (i := 3) dL_law_28 rfl rfl ?_
      by_cases g1 : 0 ≤ x3 ∧ x3 < ((Ln : Nat) : Int)
      · rw [if_pos g1] at h
        refine ex_sld hL hxs dL_law_29 g1.1 g1.2 ?_
        refine ev_bipush (v := 127) dL_law_30 (r32c rfl) (by decide) ?_
        refine ev_iand dL_law_32 ?_
        by_cases c2 : (bAnd (xs x3.toNat) 127) = 0
        · rw [if_pos c2] at h
          refine ev_tIn (off := 307) (tgt := 340) dL_law_33 (by omega) (by omega) (by rw [c2]; rfl) (by decide) ?_
          exact SL_law_340 hL hxs ih x3 _ h
        · rw [if_neg c2] at h
          by_cases c3 : (bAnd (xs x3.toNat) 127) = 1
          · rw [if_pos c3] at h
            refine ev_tIn (off := 370) (tgt := 403) dL_law_33 (by omega) (by omega) (by rw [c3]; rfl) (by decide) ?_
            exact SL_law_403 hL hxs ih x3 _ h
          · rw [if_neg c3] at h
            by_cases c4 : (bAnd (xs x3.toNat) 127) = 2
            · rw [if_pos c4] at h
              refine ev_tIn (off := 393) (tgt := 426) dL_law_33 (by omega) (by omega) (by rw [c4]; rfl) (by decide) ?_
              exact SL_law_426 hL hxs ih x3 _ h
            · rw [if_neg c4] at h
              by_cases c5 : (bAnd (xs x3.toNat) 127) = 3
              · rw [if_pos c5] at h
                refine ev_tIn (off := 406) (tgt := 439) dL_law_33 (by omega) (by omega) (by rw [c5]; rfl) (by decide) ?_
                exact SL_law_439 hL hxs ih x3 _ h
              · rw [if_neg c5] at h
                by_cases c6 : (bAnd (xs x3.toNat) 127) = 4
                · rw [if_pos c6] at h
                  refine ev_tIn (off := 429) (tgt := 462) dL_law_33 (by omega) (by omega) (by rw [c6]; rfl) (by decide) ?_
                  exact SL_law_462 hL hxs ih x3 _ h
                · rw [if_neg c6] at h
                  by_cases c7 : (bAnd (xs x3.toNat) 127) = 5
                  · rw [if_pos c7] at h
                    refine ev_tIn (off := 462) (tgt := 495) dL_law_33 (by omega) (by omega) (by rw [c7]; rfl) (by decide) ?_
                    exact SL_law_495 hL hxs ih x3 _ h
                  · rw [if_neg c7] at h
                    by_cases c8 : (bAnd (xs x3.toNat) 127) = 6
                    · rw [if_pos c8] at h
                      refine ev_tIn (off := 495) (tgt := 528) dL_law_33 (by omega) (by omega) (by rw [c8]; rfl) (by decide) ?_
                      exact SL_law_528 hL hxs ih x3 _ h
                    · rw [if_neg c8] at h
                      by_cases c9 : (bAnd (xs x3.toNat) 127) = 7
                      · rw [if_pos c9] at h
                        refine ev_tIn (off := 528) (tgt := 561) dL_law_33 (by omega) (by omega) (by rw [c9]; rfl) (by decide) ?_
                        exact SL_law_561 hL hxs ih x3 _ h
                      · rw [if_neg c9] at h
                        by_cases c10 : (bAnd (xs x3.toNat) 127) = 8
                        · rw [if_pos c10] at h
                          refine ev_tIn (off := 551) (tgt := 584) dL_law_33 (by omega) (by omega) (by rw [c10]; rfl) (by decide) ?_
                          exact SL_law_584 hL hxs ih x3 _ h
                        · rw [if_neg c10] at h
                          by_cases c11 : (bAnd (xs x3.toNat) 127) = 9
                          · rw [if_pos c11] at h
                            refine ev_tIn (off := 564) (tgt := 597) dL_law_33 (by omega) (by omega) (by rw [c11]; rfl) (by decide) ?_
                            exact SL_law_597 hL hxs ih x3 _ h
                          · rw [if_neg c11] at h
                            by_cases c12 : (bAnd (xs x3.toNat) 127) = 10
                            · rw [if_pos c12] at h
                              refine ev_tIn (off := 577) (tgt := 610) dL_law_33 (by omega) (by omega) (by rw [c12]; rfl) (by decide) ?_
                              exact SL_law_610 hL hxs ih x3 _ h
                            · rw [if_neg c12] at h
                              by_cases c13 : (bAnd (xs x3.toNat) 127) = 11
                              · rw [if_pos c13] at h
                                refine ev_tIn (off := 600) (tgt := 633) dL_law_33 (by omega) (by omega) (by rw [c13]; rfl) (by decide) ?_
                                exact SL_law_633 hL hxs ih x3 _ h
                              · rw [if_neg c13] at h
                                by_cases c14 : (bAnd (xs x3.toNat) 127) = 12
                                · rw [if_pos c14] at h
                                  refine ev_tIn (off := 623) (tgt := 656) dL_law_33 (by omega) (by omega) (by rw [c14]; rfl) (by decide) ?_
                                  exact SL_law_656 hL hxs ih x3 _ h
                                · rw [if_neg c14] at h
                                  by_cases c15 : (bAnd (xs x3.toNat) 127) = 13
                                  · rw [if_pos c15] at h
                                    refine ev_tIn (off := 646) (tgt := 679) dL_law_33 (by omega) (by omega) (by rw [c15]; rfl) (by decide) ?_
                                    exact SL_law_679 hL hxs ih x3 _ h
                                  · rw [if_neg c15] at h
                                    by_cases c16 : (bAnd (xs x3.toNat) 127) = 14
                                    · rw [if_pos c16] at h
                                      refine ev_tIn (off := 669) (tgt := 702) dL_law_33 (by omega) (by omega) (by rw [c16]; rfl) (by decide) ?_
                                      exact SL_law_702 hL hxs ih x3 _ h
                                    · rw [if_neg c16] at h
                                      by_cases c17 : (bAnd (xs x3.toNat) 127) = 15
                                      · rw [if_pos c17] at h
                                        refine ev_tIn (off := 682) (tgt := 715) dL_law_33 (by omega) (by omega) (by rw [c17]; rfl) (by decide) ?_
                                        exact SL_law_715 hL hxs ih x3 _ h
                                      · rw [if_neg c17] at h
                                        by_cases c18 : (bAnd (xs x3.toNat) 127) = 16
                                        · rw [if_pos c18] at h
                                          refine ev_tIn (off := 695) (tgt := 728) dL_law_33 (by omega) (by omega) (by rw [c18]; rfl) (by decide) ?_
                                          exact SL_law_728 hL hxs ih x3 _ h
                                        · rw [if_neg c18] at h
                                          by_cases c19 : (bAnd (xs x3.toNat) 127) = 17
                                          · rw [if_pos c19] at h
                                            refine ev_tIn (off := 708) (tgt := 741) dL_law_33 (by omega) (by omega) (by rw [c19]; rfl) (by decide) ?_
                                            exact SL_law_741 hL hxs ih x3 _ h
                                          · rw [if_neg c19] at h
                                            by_cases c20 : (bAnd (xs x3.toNat) 127) = 18
                                            · rw [if_pos c20] at h
                                              refine ev_tIn (off := 721) (tgt := 754) dL_law_33 (by omega) (by omega) (by rw [c20]; rfl) (by decide) ?_
                                              exact SL_law_754 hL hxs ih x3 _ h
                                            · rw [if_neg c20] at h
                                              by_cases c21 : (bAnd (xs x3.toNat) 127) = 19
                                              · rw [if_pos c21] at h
                                                refine ev_tIn (off := 734) (tgt := 767) dL_law_33 (by omega) (by omega) (by rw [c21]; rfl) (by decide) ?_
                                                exact SL_law_767 hL hxs ih x3 _ h
                                              · rw [if_neg c21] at h
                                                by_cases c22 : (bAnd (xs x3.toNat) 127) = 20
                                                · rw [if_pos c22] at h
                                                  refine ev_tIn (off := 747) (tgt := 780) dL_law_33 (by omega) (by omega) (by rw [c22]; rfl) (by decide) ?_
                                                  exact SL_law_780 hL hxs ih x3 _ h
                                                · rw [if_neg c22] at h
                                                  by_cases c23 : (bAnd (xs x3.toNat) 127) = 21
                                                  · rw [if_pos c23] at h
                                                    refine ev_tIn (off := 770) (tgt := 803) dL_law_33 (by omega) (by omega) (by rw [c23]; rfl) (by decide) ?_
                                                    exact SL_law_803 hL hxs ih x3 _ h
                                                  · rw [if_neg c23] at h
                                                    by_cases c24 : (bAnd (xs x3.toNat) 127) = 22
                                                    · rw [if_pos c24] at h
                                                      refine ev_tIn (off := 783) (tgt := 816) dL_law_33 (by omega) (by omega) (by rw [c24]; rfl) (by decide) ?_
                                                      exact SL_law_816 hL hxs ih x3 _ h
                                                    · rw [if_neg c24] at h
                                                      by_cases c25 : (bAnd (xs x3.toNat) 127) = 23
                                                      · rw [if_pos c25] at h
                                                        refine ev_tIn (off := 796) (tgt := 829) dL_law_33 (by omega) (by omega) (by rw [c25]; rfl) (by decide) ?_
                                                        exact SL_law_829 hL hxs ih x3 _ h
                                                      · rw [if_neg c25] at h
                                                        by_cases c26 : (bAnd (xs x3.toNat) 127) = 24
                                                        · rw [if_pos c26] at h
                                                          refine ev_tIn (off := 819) (tgt := 852) dL_law_33 (by omega) (by omega) (by rw [c26]; rfl) (by decide) ?_
                                                          exact SL_law_852 hL hxs ih x3 _ h
                                                        · rw [if_neg c26] at h
                                                          by_cases c27 : (bAnd (xs x3.toNat) 127) = 25
                                                          · rw [if_pos c27] at h
                                                            refine ev_tIn (off := 832) (tgt := 865) dL_law_33 (by omega) (by omega) (by rw [c27]; rfl) (by decide) ?_
                                                            exact SL_law_865 hL hxs ih x3 _ h
                                                          · rw [if_neg c27] at h
                                                            by_cases c28 : (bAnd (xs x3.toNat) 127) = 26
                                                            · rw [if_pos c28] at h
                                                              refine ev_tIn (off := 845) (tgt := 878) dL_law_33 (by omega) (by omega) (by rw [c28]; rfl) (by decide) ?_
                                                              exact SL_law_878 hL hxs ih x3 _ h
                                                            · rw [if_neg c28] at h
                                                              by_cases c29 : (bAnd (xs x3.toNat) 127) = 27
                                                              · rw [if_pos c29] at h
                                                                refine ev_tIn (off := 858) (tgt := 891) dL_law_33 (by omega) (by omega) (by rw [c29]; rfl) (by decide) ?_
                                                                exact SL_law_891 hL hxs ih x3 _ h
                                                              · rw [if_neg c29] at h
                                                                by_cases c30 : (bAnd (xs x3.toNat) 127) = 28
                                                                · rw [if_pos c30] at h
                                                                  refine ev_tIn (off := 881) (tgt := 914) dL_law_33 (by omega) (by omega) (by rw [c30]; rfl) (by decide) ?_
                                                                  exact SL_law_914 hL hxs ih x3 _ h
                                                                · rw [if_neg c30] at h
                                                                  by_cases c31 : (bAnd (xs x3.toNat) 127) = 29
                                                                  · rw [if_pos c31] at h
                                                                    refine ev_tIn (off := 904) (tgt := 937) dL_law_33 (by omega) (by omega) (by rw [c31]; rfl) (by decide) ?_
                                                                    exact SL_law_937 hL hxs ih x3 _ h
                                                                  · rw [if_neg c31] at h
                                                                    by_cases c32 : (bAnd (xs x3.toNat) 127) = 30
                                                                    · rw [if_pos c32] at h
                                                                      refine ev_tIn (off := 927) (tgt := 960) dL_law_33 (by omega) (by omega) (by rw [c32]; rfl) (by decide) ?_
                                                                      exact SL_law_960 hL hxs ih x3 _ h
                                                                    · rw [if_neg c32] at h
                                                                      by_cases c33 : (bAnd (xs x3.toNat) 127) = 31
                                                                      · rw [if_pos c33] at h
                                                                        refine ev_tIn (off := 950) (tgt := 983) dL_law_33 (by omega) (by omega) (by rw [c33]; rfl) (by decide) ?_
                                                                        exact SL_law_983 hL hxs ih x3 _ h
                                                                      · rw [if_neg c33] at h
                                                                        by_cases c34 : (bAnd (xs x3.toNat) 127) = 32
                                                                        · rw [if_pos c34] at h
                                                                          refine ev_tIn (off := 973) (tgt := 1006) dL_law_33 (by omega) (by omega) (by rw [c34]; rfl) (by decide) ?_
                                                                          exact SL_law_1006 hL hxs ih x3 _ h
                                                                        · rw [if_neg c34] at h
                                                                          by_cases c35 : (bAnd (xs x3.toNat) 127) = 33
                                                                          · rw [if_pos c35] at h
                                                                            refine ev_tIn (off := 986) (tgt := 1019) dL_law_33 (by omega) (by omega) (by rw [c35]; rfl) (by decide) ?_
                                                                            exact SL_law_1019 hL hxs ih x3 _ h
                                                                          · rw [if_neg c35] at h
                                                                            by_cases c36 : (bAnd (xs x3.toNat) 127) = 34
                                                                            · rw [if_pos c36] at h
                                                                              refine ev_tIn (off := 1009) (tgt := 1042) dL_law_33 (by omega) (by omega) (by rw [c36]; rfl) (by decide) ?_
                                                                              exact SL_law_1042 hL hxs ih x3 _ h
                                                                            · rw [if_neg c36] at h
                                                                              by_cases c37 : (bAnd (xs x3.toNat) 127) = 35
                                                                              · rw [if_pos c37] at h
                                                                                refine ev_tIn (off := 1032) (tgt := 1065) dL_law_33 (by omega) (by omega) (by rw [c37]; rfl) (by decide) ?_
                                                                                exact SL_law_1065 hL hxs ih x3 _ h
                                                                              · rw [if_neg c37] at h
                                                                                by_cases c38 : (bAnd (xs x3.toNat) 127) = 36
                                                                                · rw [if_pos c38] at h
                                                                                  refine ev_tIn (off := 1065) (tgt := 1098) dL_law_33 (by omega) (by omega) (by rw [c38]; rfl) (by decide) ?_
                                                                                  exact SL_law_1098 hL hxs ih x3 _ h
                                                                                · rw [if_neg c38] at h
                                                                                  by_cases c39 : (bAnd (xs x3.toNat) 127) = 37
                                                                                  · rw [if_pos c39] at h
                                                                                    refine ev_tIn (off := 1088) (tgt := 1121) dL_law_33 (by omega) (by omega) (by rw [c39]; rfl) (by decide) ?_
                                                                                    exact SL_law_1121 hL hxs ih x3 _ h
                                                                                  · rw [if_neg c39] at h
                                                                                    by_cases c40 : (bAnd (xs x3.toNat) 127) = 38
                                                                                    · rw [if_pos c40] at h
                                                                                      refine ev_tIn (off := 1111) (tgt := 1144) dL_law_33 (by omega) (by omega) (by rw [c40]; rfl) (by decide) ?_
                                                                                      exact SL_law_1144 hL hxs ih x3 _ h
                                                                                    · rw [if_neg c40] at h
                                                                                      by_cases c41 : (bAnd (xs x3.toNat) 127) = 39
                                                                                      · rw [if_pos c41] at h
                                                                                        refine ev_tIn (off := 1124) (tgt := 1157) dL_law_33 (by omega) (by omega) (by rw [c41]; rfl) (by decide) ?_
                                                                                        exact SL_law_1157 hL hxs ih x3 _ h
                                                                                      · rw [if_neg c41] at h
                                                                                        by_cases c42 : (bAnd (xs x3.toNat) 127) = 40
                                                                                        · rw [if_pos c42] at h
                                                                                          refine ev_tIn (off := 1147) (tgt := 1180) dL_law_33 (by omega) (by omega) (by rw [c42]; rfl) (by decide) ?_
                                                                                          exact SL_law_1180 hL hxs ih x3 _ h
                                                                                        · rw [if_neg c42] at h
                                                                                          by_cases c43 : (bAnd (xs x3.toNat) 127) = 41
                                                                                          · rw [if_pos c43] at h
                                                                                            refine ev_tIn (off := 1170) (tgt := 1203) dL_law_33 (by omega) (by omega) (by rw [c43]; rfl) (by decide) ?_
                                                                                            exact SL_law_1203 hL hxs ih x3 _ h
                                                                                          · rw [if_neg c43] at h
                                                                                            by_cases c44 : (bAnd (xs x3.toNat) 127) = 42
                                                                                            · rw [if_pos c44] at h
                                                                                              refine ev_tIn (off := 1193) (tgt := 1226) dL_law_33 (by omega) (by omega) (by rw [c44]; rfl) (by decide) ?_
                                                                                              exact SL_law_1226 hL hxs ih x3 _ h
                                                                                            · rw [if_neg c44] at h
                                                                                              by_cases c45 : (bAnd (xs x3.toNat) 127) = 43
                                                                                              · rw [if_pos c45] at h
                                                                                                refine ev_tIn (off := 1216) (tgt := 1249) dL_law_33 (by omega) (by omega) (by rw [c45]; rfl) (by decide) ?_
                                                                                                exact SL_law_1249 hL hxs ih x3 _ h
                                                                                              · rw [if_neg c45] at h
                                                                                                by_cases c46 : (bAnd (xs x3.toNat) 127) = 44
                                                                                                · rw [if_pos c46] at h
                                                                                                  refine ev_tIn (off := 1229) (tgt := 1262) dL_law_33 (by omega) (by omega) (by rw [c46]; rfl) (by decide) ?_
                                                                                                  exact SL_law_1262 hL hxs ih x3 _ h
                                                                                                · rw [if_neg c46] at h
                                                                                                  by_cases c47 : (bAnd (xs x3.toNat) 127) = 45
                                                                                                  · rw [if_pos c47] at h
                                                                                                    refine ev_tIn (off := 1252) (tgt := 1285) dL_law_33 (by omega) (by omega) (by rw [c47]; rfl) (by decide) ?_
                                                                                                    exact SL_law_1285 hL hxs ih x3 _ h
                                                                                                  · rw [if_neg c47] at h
                                                                                                    by_cases c48 : (bAnd (xs x3.toNat) 127) = 46
                                                                                                    · rw [if_pos c48] at h
                                                                                                      refine ev_tIn (off := 1265) (tgt := 1298) dL_law_33 (by omega) (by omega) (by rw [c48]; rfl) (by decide) ?_
                                                                                                      exact SL_law_1298 hL hxs ih x3 _ h
                                                                                                    · rw [if_neg c48] at h
                                                                                                      by_cases c49 : (bAnd (xs x3.toNat) 127) = 47
                                                                                                      · rw [if_pos c49] at h
                                                                                                        refine ev_tIn (off := 1288) (tgt := 1321) dL_law_33 (by omega) (by omega) (by rw [c49]; rfl) (by decide) ?_
                                                                                                        exact SL_law_1321 hL hxs ih x3 _ h
                                                                                                      · rw [if_neg c49] at h
                                                                                                        by_cases c50 : (bAnd (xs x3.toNat) 127) = 48
                                                                                                        · rw [if_pos c50] at h
                                                                                                          refine ev_tIn (off := 1311) (tgt := 1344) dL_law_33 (by omega) (by omega) (by rw [c50]; rfl) (by decide) ?_
                                                                                                          exact SL_law_1344 hL hxs ih x3 _ h
                                                                                                        · rw [if_neg c50] at h
                                                                                                          by_cases c51 : (bAnd (xs x3.toNat) 127) = 49
                                                                                                          · rw [if_pos c51] at h
                                                                                                            refine ev_tIn (off := 1334) (tgt := 1367) dL_law_33 (by omega) (by omega) (by rw [c51]; rfl) (by decide) ?_
                                                                                                            exact SL_law_1367 hL hxs ih x3 _ h
                                                                                                          · rw [if_neg c51] at h
                                                                                                            by_cases c52 : (bAnd (xs x3.toNat) 127) = 50
                                                                                                            · rw [if_pos c52] at h
                                                                                                              refine ev_tIn (off := 1357) (tgt := 1390) dL_law_33 (by omega) (by omega) (by rw [c52]; rfl) (by decide) ?_
                                                                                                              exact SL_law_1390 hL hxs ih x3 _ h
                                                                                                            · rw [if_neg c52] at h
                                                                                                              by_cases c53 : (bAnd (xs x3.toNat) 127) = 51
                                                                                                              · rw [if_pos c53] at h
                                                                                                                refine ev_tIn (off := 1380) (tgt := 1413) dL_law_33 (by omega) (by omega) (by rw [c53]; rfl) (by decide) ?_
                                                                                                                exact SL_law_1413 hL hxs ih x3 _ h
                                                                                                              · rw [if_neg c53] at h
                                                                                                                by_cases c54 : (bAnd (xs x3.toNat) 127) = 52
                                                                                                                · rw [if_pos c54] at h
                                                                                                                  refine ev_tIn (off := 1403) (tgt := 1436) dL_law_33 (by omega) (by omega) (by rw [c54]; rfl) (by decide) ?_
                                                                                                                  exact SL_law_1436 hL hxs ih x3 _ h
                                                                                                                · rw [if_neg c54] at h
                                                                                                                  by_cases c55 : (bAnd (xs x3.toNat) 127) = 53
                                                                                                                  · rw [if_pos c55] at h
                                                                                                                    refine ev_tIn (off := 1426) (tgt := 1459) dL_law_33 (by omega) (by omega) (by rw [c55]; rfl) (by decide) ?_
                                                                                                                    exact SL_law_1459 hL hxs ih x3 _ h
                                                                                                                  · rw [if_neg c55] at h
                                                                                                                    by_cases c56 : (bAnd (xs x3.toNat) 127) = 54
                                                                                                                    · rw [if_pos c56] at h
                                                                                                                      refine ev_tIn (off := 1449) (tgt := 1482) dL_law_33 (by omega) (by omega) (by rw [c56]; rfl) (by decide) ?_
                                                                                                                      exact SL_law_1482 hL hxs ih x3 _ h
                                                                                                                    · rw [if_neg c56] at h
                                                                                                                      by_cases c57 : (bAnd (xs x3.toNat) 127) = 55
                                                                                                                      · rw [if_pos c57] at h
                                                                                                                        refine ev_tIn (off := 1472) (tgt := 1505) dL_law_33 (by omega) (by omega) (by rw [c57]; rfl) (by decide) ?_
                                                                                                                        exact SL_law_1505 hL hxs ih x3 _ h
                                                                                                                      · rw [if_neg c57] at h
                                                                                                                        by_cases c58 : (bAnd (xs x3.toNat) 127) = 56
                                                                                                                        · rw [if_pos c58] at h
                                                                                                                          refine ev_tIn (off := 1525) (tgt := 1558) dL_law_33 (by omega) (by omega) (by rw [c58]; rfl) (by decide) ?_
                                                                                                                          exact SL_law_1558 hL hxs ih x3 _ h
                                                                                                                        · rw [if_neg c58] at h
                                                                                                                          by_cases c59 : (bAnd (xs x3.toNat) 127) = 57
                                                                                                                          · rw [if_pos c59] at h
                                                                                                                            refine ev_tIn (off := 1548) (tgt := 1581) dL_law_33 (by omega) (by omega) (by rw [c59]; rfl) (by decide) ?_
                                                                                                                            exact SL_law_1581 hL hxs ih x3 _ h
                                                                                                                          · rw [if_neg c59] at h
                                                                                                                            by_cases c60 : (bAnd (xs x3.toNat) 127) = 58
                                                                                                                            · rw [if_pos c60] at h
                                                                                                                              refine ev_tIn (off := 1571) (tgt := 1604) dL_law_33 (by omega) (by omega) (by rw [c60]; rfl) (by decide) ?_
                                                                                                                              exact SL_law_1604 hL hxs ih x3 _ h
                                                                                                                            · rw [if_neg c60] at h
                                                                                                                              by_cases c61 : (bAnd (xs x3.toNat) 127) = 59
                                                                                                                              · rw [if_pos c61] at h
                                                                                                                                refine ev_tIn (off := 1615) (tgt := 1648) dL_law_33 (by omega) (by omega) (by rw [c61]; rfl) (by decide) ?_
                                                                                                                                exact SL_law_1648 hL hxs ih x3 _ h
                                                                                                                              · rw [if_neg c61] at h
                                                                                                                                by_cases c62 : (bAnd (xs x3.toNat) 127) = 60
                                                                                                                                · rw [if_pos c62] at h
                                                                                                                                  refine ev_tIn (off := 1638) (tgt := 1671) dL_law_33 (by omega) (by omega) (by rw [c62]; rfl) (by decide) ?_
                                                                                                                                  exact SL_law_1671 hL hxs ih x3 _ h
                                                                                                                                · rw [if_neg c62] at h
                                                                                                                                  by_cases c63 : (bAnd (xs x3.toNat) 127) = 61
                                                                                                                                  · rw [if_pos c63] at h
                                                                                                                                    refine ev_tIn (off := 1671) (tgt := 1704) dL_law_33 (by omega) (by omega) (by rw [c63]; rfl) (by decide) ?_
                                                                                                                                    exact SL_law_1704 hL hxs ih x3 _ h
                                                                                                                                  · rw [if_neg c63] at h
                                                                                                                                    by_cases c64 : (bAnd (xs x3.toNat) 127) = 62
                                                                                                                                    · rw [if_pos c64] at h
                                                                                                                                      refine ev_tIn (off := 1714) (tgt := 1747) dL_law_33 (by omega) (by omega) (by rw [c64]; rfl) (by decide) ?_
                                                                                                                                      exact SL_law_1747 hL hxs ih x3 _ h
                                                                                                                                    · rw [if_neg c64] at h
                                                                                                                                      by_cases c65 : (bAnd (xs x3.toNat) 127) = 63
                                                                                                                                      · rw [if_pos c65] at h
                                                                                                                                        refine ev_tIn (off := 1747) (tgt := 1780) dL_law_33 (by omega) (by omega) (by rw [c65]; rfl) (by decide) ?_
                                                                                                                                        exact SL_law_1780 hL hxs ih x3 _ h
                                                                                                                                      · rw [if_neg c65] at h
                                                                                                                                        by_cases c66 : (bAnd (xs x3.toNat) 127) = 64
                                                                                                                                        · rw [if_pos c66] at h
                                                                                                                                          refine ev_tIn (off := 1760) (tgt := 1793) dL_law_33 (by omega) (by omega) (by rw [c66]; rfl) (by decide) ?_
                                                                                                                                          exact SL_law_1793 hL hxs ih x3 _ h
                                                                                                                                        · rw [if_neg c66] at h
                                                                                                                                          by_cases c67 : (bAnd (xs x3.toNat) 127) = 65
                                                                                                                                          · rw [if_pos c67] at h
                                                                                                                                            refine ev_tIn (off := 1773) (tgt := 1806) dL_law_33 (by omega) (by omega) (by rw [c67]; rfl) (by decide) ?_
                                                                                                                                            exact SL_law_1806 hL hxs ih x3 _ h
                                                                                                                                          · rw [if_neg c67] at h
                                                                                                                                            by_cases c68 : (bAnd (xs x3.toNat) 127) = 66
                                                                                                                                            · rw [if_pos c68] at h
                                                                                                                                              refine ev_tIn (off := 1796) (tgt := 1829) dL_law_33 (by omega) (by omega) (by rw [c68]; rfl) (by decide) ?_
                                                                                                                                              exact SL_law_1829 hL hxs ih x3 _ h
                                                                                                                                            · rw [if_neg c68] at h
                                                                                                                                              by_cases c69 : (bAnd (xs x3.toNat) 127) = 67
                                                                                                                                              · rw [if_pos c69] at h
                                                                                                                                                refine ev_tIn (off := 1829) (tgt := 1862) dL_law_33 (by omega) (by omega) (by rw [c69]; rfl) (by decide) ?_
                                                                                                                                                exact SL_law_1862 hL hxs ih x3 _ h
                                                                                                                                              · rw [if_neg c69] at h
                                                                                                                                                by_cases c70 : (bAnd (xs x3.toNat) 127) = 68
                                                                                                                                                · rw [if_pos c70] at h
                                                                                                                                                  refine ev_tIn (off := 1852) (tgt := 1885) dL_law_33 (by omega) (by omega) (by rw [c70]; rfl) (by decide) ?_
                                                                                                                                                  exact SL_law_1885 hL hxs ih x3 _ h
                                                                                                                                                · rw [if_neg c70] at h
                                                                                                                                                  by_cases c71 : (bAnd (xs x3.toNat) 127) = 69
                                                                                                                                                  · rw [if_pos c71] at h
                                                                                                                                                    refine ev_tIn (off := 1875) (tgt := 1908) dL_law_33 (by omega) (by omega) (by rw [c71]; rfl) (by decide) ?_
                                                                                                                                                    exact SL_law_1908 hL hxs ih x3 _ h
                                                                                                                                                  · rw [if_neg c71] at h
                                                                                                                                                    by_cases c72 : (bAnd (xs x3.toNat) 127) = 70
                                                                                                                                                    · rw [if_pos c72] at h
                                                                                                                                                      refine ev_tIn (off := 1898) (tgt := 1931) dL_law_33 (by omega) (by omega) (by rw [c72]; rfl) (by decide) ?_
                                                                                                                                                      exact SL_law_1931 hL hxs ih x3 _ h
                                                                                                                                                    · rw [if_neg c72] at h
                                                                                                                                                      by_cases c73 : (bAnd (xs x3.toNat) 127) = 71
                                                                                                                                                      · rw [if_pos c73] at h
                                                                                                                                                        refine ev_tIn (off := 1941) (tgt := 1974) dL_law_33 (by omega) (by omega) (by rw [c73]; rfl) (by decide) ?_
                                                                                                                                                        exact SL_law_1974 hL hxs ih x3 _ h
                                                                                                                                                      · rw [if_neg c73] at h
                                                                                                                                                        by_cases c74 : (bAnd (xs x3.toNat) 127) = 72
                                                                                                                                                        · rw [if_pos c74] at h
                                                                                                                                                          refine ev_tIn (off := 2014) (tgt := 2047) dL_law_33 (by omega) (by omega) (by rw [c74]; rfl) (by decide) ?_
                                                                                                                                                          exact SL_law_2047 hL hxs ih x3 _ h
                                                                                                                                                        · rw [if_neg c74] at h
                                                                                                                                                          refine ev_tOut (tgt := 2110) dL_law_33 (by omega) (by decide) ?_
                                                                                                                                                          exact SL_law_2110 hL hxs ih x3 _ h
      · rw [if_neg g1] at h; exact (PLn h).elim
def FL_law_16 (Ln : Nat) (xs : Nat → Int)   (f : Mm) : Option (Int × Mm) := FL_law_18 Ln xs fu 0 f
set_option maxHeartbeats 8000000 in
set_option maxRecDepth 100000 in
theorem SL_law_16 {G : GT} {l : Launch} {Ln : Nat} {xs : Nat → Int} (hL : gL G = Ln) (hxs : ∀ j, (gX G j).toInt = xs j)   (f : Mm) (h : PL (FL_law_16 Ln xs   f)) : Ev G l ML_law room_1 (ZL G) 178 4676 16 [some (vR 100000), some (vR 0), some (vR 150), none] [] (SH, RF, f) := by
  unfold FL_law_16 at h
  refine ev_iconst dL_law_16 (r32c rfl) ?_
  refine ev_istore_n (i := 3) (L' := [some (vR 100000), some (vR 0), some (vR 150), some (vI 0)]) dL_law_17 rfl (by decide) rfl ?_
  exact SL_law_18 hL hxs  fu 0 _ h
