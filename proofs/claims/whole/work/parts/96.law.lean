/-! the law: every call -/
theorem L_340 {Ln : Nat} {xs : Nat → Int} {k18 : Int → Mm → Option (Int × Mm)} {x3 : Int} {f : Mm} (hr : ∀ j, r32 (xs j)) (h1 : 0 ≤ w32 (x3 + 1) ∧ w32 (x3 + 1) < (Ln : Int)) (h2 : 0 ≤ w32 (x3 + 2) ∧ w32 (x3 + 2) < (Ln : Int)) (h3 : 0 ≤ w32 (x3 + 3) ∧ w32 (x3 + 3) < (Ln : Int)) (h4 : 0 ≤ w32 (x3 + 4) ∧ w32 (x3 + 4) < (Ln : Int)) (h5 : 0 ≤ w32 (x3 + 5) ∧ w32 (x3 + 5) < (Ln : Int)) (hI : Inv f) : ∃ h, Inv h ∧ FL_law_340 Ln xs k18 x3 f = FL_law_2110 Ln xs k18 x3 h := by
  obtain ⟨v, g, h, e1, e2, h3i⟩ := o_feed (xs (w32 (x3 + 1)).toNat) (xs (w32 (x3 + 2)).toNat) (xs (w32 (x3 + 3)).toNat) (xs (w32 (x3 + 4)).toNat) (xs (w32 (x3 + 5)).toNat) f hI
  refine ⟨h, h3i, ?_⟩
  unfold FL_law_340
  rw [if_pos h1, if_pos h2, if_pos h3, if_pos h4, if_pos h5, e1, b2_some, if_pos h1, if_pos h2, if_pos h3, if_pos h4, if_pos h5, e2, b2_some, if_pos rfl]
theorem L_403 {Ln : Nat} {xs : Nat → Int} {k18 : Int → Mm → Option (Int × Mm)} {x3 : Int} {f : Mm} (hr : ∀ j, r32 (xs j)) (h1 : 0 ≤ w32 (x3 + 1) ∧ w32 (x3 + 1) < (Ln : Int)) (h2 : 0 ≤ w32 (x3 + 2) ∧ w32 (x3 + 2) < (Ln : Int)) (h3 : 0 ≤ w32 (x3 + 3) ∧ w32 (x3 + 3) < (Ln : Int)) (h4 : 0 ≤ w32 (x3 + 4) ∧ w32 (x3 + 4) < (Ln : Int)) (h5 : 0 ≤ w32 (x3 + 5) ∧ w32 (x3 + 5) < (Ln : Int)) (hI : Inv f) : ∃ h, Inv h ∧ FL_law_403 Ln xs k18 x3 f = FL_law_2110 Ln xs k18 x3 h := by
  obtain ⟨v, g, h, e1, e2, h3i⟩ := o_end (xs (w32 (x3 + 1)).toNat) f hI
  refine ⟨h, h3i, ?_⟩
  unfold FL_law_403
  rw [if_pos h1, e1, b2_some, if_pos h1, e2, b2_some, if_pos rfl]
theorem L_426 {Ln : Nat} {xs : Nat → Int} {k18 : Int → Mm → Option (Int × Mm)} {x3 : Int} {f : Mm} (hr : ∀ j, r32 (xs j)) (h1 : 0 ≤ w32 (x3 + 1) ∧ w32 (x3 + 1) < (Ln : Int)) (h2 : 0 ≤ w32 (x3 + 2) ∧ w32 (x3 + 2) < (Ln : Int)) (h3 : 0 ≤ w32 (x3 + 3) ∧ w32 (x3 + 3) < (Ln : Int)) (h4 : 0 ≤ w32 (x3 + 4) ∧ w32 (x3 + 4) < (Ln : Int)) (h5 : 0 ≤ w32 (x3 + 5) ∧ w32 (x3 + 5) < (Ln : Int)) (hI : Inv f) : ∃ h, Inv h ∧ FL_law_426 Ln xs k18 x3 f = FL_law_2110 Ln xs k18 x3 h := by
  obtain ⟨v, g, h, e1, e2, h3i⟩ := o_bridge  f hI
  refine ⟨h, h3i, ?_⟩
  unfold FL_law_426
  rw [e1, b2_some, e2, b2_some, if_pos rfl]
theorem L_439 {Ln : Nat} {xs : Nat → Int} {k18 : Int → Mm → Option (Int × Mm)} {x3 : Int} {f : Mm} (hr : ∀ j, r32 (xs j)) (h1 : 0 ≤ w32 (x3 + 1) ∧ w32 (x3 + 1) < (Ln : Int)) (h2 : 0 ≤ w32 (x3 + 2) ∧ w32 (x3 + 2) < (Ln : Int)) (h3 : 0 ≤ w32 (x3 + 3) ∧ w32 (x3 + 3) < (Ln : Int)) (h4 : 0 ≤ w32 (x3 + 4) ∧ w32 (x3 + 4) < (Ln : Int)) (h5 : 0 ≤ w32 (x3 + 5) ∧ w32 (x3 + 5) < (Ln : Int)) (hI : Inv f) : ∃ h, Inv h ∧ FL_law_439 Ln xs k18 x3 f = FL_law_2110 Ln xs k18 x3 h := by
  obtain ⟨v, g, h, e1, e2, h3i⟩ := o_fault (xs (w32 (x3 + 1)).toNat) f hI
  refine ⟨h, h3i, ?_⟩
  unfold FL_law_439
  rw [if_pos h1, e1, b2_some, if_pos h1, e2, b2_some, if_pos rfl]
theorem L_462 {Ln : Nat} {xs : Nat → Int} {k18 : Int → Mm → Option (Int × Mm)} {x3 : Int} {f : Mm} (hr : ∀ j, r32 (xs j)) (h1 : 0 ≤ w32 (x3 + 1) ∧ w32 (x3 + 1) < (Ln : Int)) (h2 : 0 ≤ w32 (x3 + 2) ∧ w32 (x3 + 2) < (Ln : Int)) (h3 : 0 ≤ w32 (x3 + 3) ∧ w32 (x3 + 3) < (Ln : Int)) (h4 : 0 ≤ w32 (x3 + 4) ∧ w32 (x3 + 4) < (Ln : Int)) (h5 : 0 ≤ w32 (x3 + 5) ∧ w32 (x3 + 5) < (Ln : Int)) (hI : Inv f) : ∃ h, Inv h ∧ FL_law_462 Ln xs k18 x3 f = FL_law_2110 Ln xs k18 x3 h := by
  obtain ⟨v, g, h, e1, e2, h3i⟩ := o_deed (xs (w32 (x3 + 1)).toNat) (xs (w32 (x3 + 2)).toNat) f hI
  refine ⟨h, h3i, ?_⟩
  unfold FL_law_462
  rw [if_pos h1, if_pos h2, e1, b2_some, if_pos h1, if_pos h2, e2, b2_some, if_pos rfl]
theorem L_495 {Ln : Nat} {xs : Nat → Int} {k18 : Int → Mm → Option (Int × Mm)} {x3 : Int} {f : Mm} (hr : ∀ j, r32 (xs j)) (h1 : 0 ≤ w32 (x3 + 1) ∧ w32 (x3 + 1) < (Ln : Int)) (h2 : 0 ≤ w32 (x3 + 2) ∧ w32 (x3 + 2) < (Ln : Int)) (h3 : 0 ≤ w32 (x3 + 3) ∧ w32 (x3 + 3) < (Ln : Int)) (h4 : 0 ≤ w32 (x3 + 4) ∧ w32 (x3 + 4) < (Ln : Int)) (h5 : 0 ≤ w32 (x3 + 5) ∧ w32 (x3 + 5) < (Ln : Int)) (hI : Inv f) : ∃ h, Inv h ∧ FL_law_495 Ln xs k18 x3 f = FL_law_2110 Ln xs k18 x3 h := by
  obtain ⟨v, g, h, e1, e2, h3i⟩ := o_cart (xs (w32 (x3 + 1)).toNat) (xs (w32 (x3 + 2)).toNat) f hI
  refine ⟨h, h3i, ?_⟩
  unfold FL_law_495
  rw [if_pos h1, if_pos h2, e1, b2_some, if_pos h1, if_pos h2, e2, b2_some, if_pos rfl]
theorem L_528 {Ln : Nat} {xs : Nat → Int} {k18 : Int → Mm → Option (Int × Mm)} {x3 : Int} {f : Mm} (hr : ∀ j, r32 (xs j)) (h1 : 0 ≤ w32 (x3 + 1) ∧ w32 (x3 + 1) < (Ln : Int)) (h2 : 0 ≤ w32 (x3 + 2) ∧ w32 (x3 + 2) < (Ln : Int)) (h3 : 0 ≤ w32 (x3 + 3) ∧ w32 (x3 + 3) < (Ln : Int)) (h4 : 0 ≤ w32 (x3 + 4) ∧ w32 (x3 + 4) < (Ln : Int)) (h5 : 0 ≤ w32 (x3 + 5) ∧ w32 (x3 + 5) < (Ln : Int)) (hI : Inv f) : ∃ h, Inv h ∧ FL_law_528 Ln xs k18 x3 f = FL_law_2110 Ln xs k18 x3 h := by
  obtain ⟨v, g, h, e1, e2, h3i⟩ := o_feels (xs (w32 (x3 + 1)).toNat) (xs (w32 (x3 + 2)).toNat) f hI
  refine ⟨h, h3i, ?_⟩
  unfold FL_law_528
  rw [if_pos h1, if_pos h2, e1, b2_some, if_pos h1, if_pos h2, e2, b2_some, if_pos rfl]
theorem L_561 {Ln : Nat} {xs : Nat → Int} {k18 : Int → Mm → Option (Int × Mm)} {x3 : Int} {f : Mm} (hr : ∀ j, r32 (xs j)) (h1 : 0 ≤ w32 (x3 + 1) ∧ w32 (x3 + 1) < (Ln : Int)) (h2 : 0 ≤ w32 (x3 + 2) ∧ w32 (x3 + 2) < (Ln : Int)) (h3 : 0 ≤ w32 (x3 + 3) ∧ w32 (x3 + 3) < (Ln : Int)) (h4 : 0 ≤ w32 (x3 + 4) ∧ w32 (x3 + 4) < (Ln : Int)) (h5 : 0 ≤ w32 (x3 + 5) ∧ w32 (x3 + 5) < (Ln : Int)) (hI : Inv f) : ∃ h, Inv h ∧ FL_law_561 Ln xs k18 x3 f = FL_law_2110 Ln xs k18 x3 h := by
  obtain ⟨v, g, h, e1, e2, h3i⟩ := o_width (xs (w32 (x3 + 1)).toNat) f hI
  refine ⟨h, h3i, ?_⟩
  unfold FL_law_561
  rw [if_pos h1, e1, b2_some, if_pos h1, e2, b2_some, if_pos rfl]
theorem L_584 {Ln : Nat} {xs : Nat → Int} {k18 : Int → Mm → Option (Int × Mm)} {x3 : Int} {f : Mm} (hr : ∀ j, r32 (xs j)) (h1 : 0 ≤ w32 (x3 + 1) ∧ w32 (x3 + 1) < (Ln : Int)) (h2 : 0 ≤ w32 (x3 + 2) ∧ w32 (x3 + 2) < (Ln : Int)) (h3 : 0 ≤ w32 (x3 + 3) ∧ w32 (x3 + 3) < (Ln : Int)) (h4 : 0 ≤ w32 (x3 + 4) ∧ w32 (x3 + 4) < (Ln : Int)) (h5 : 0 ≤ w32 (x3 + 5) ∧ w32 (x3 + 5) < (Ln : Int)) (hI : Inv f) : ∃ h, Inv h ∧ FL_law_584 Ln xs k18 x3 f = FL_law_2110 Ln xs k18 x3 h := by
  obtain ⟨v, g, h, e1, e2, h3i⟩ := o_narrow  f hI
  refine ⟨h, h3i, ?_⟩
  unfold FL_law_584
  rw [e1, b2_some, e2, b2_some, if_pos rfl]
theorem L_597 {Ln : Nat} {xs : Nat → Int} {k18 : Int → Mm → Option (Int × Mm)} {x3 : Int} {f : Mm} (hr : ∀ j, r32 (xs j)) (h1 : 0 ≤ w32 (x3 + 1) ∧ w32 (x3 + 1) < (Ln : Int)) (h2 : 0 ≤ w32 (x3 + 2) ∧ w32 (x3 + 2) < (Ln : Int)) (h3 : 0 ≤ w32 (x3 + 3) ∧ w32 (x3 + 3) < (Ln : Int)) (h4 : 0 ≤ w32 (x3 + 4) ∧ w32 (x3 + 4) < (Ln : Int)) (h5 : 0 ≤ w32 (x3 + 5) ∧ w32 (x3 + 5) < (Ln : Int)) (hI : Inv f) : ∃ h, Inv h ∧ FL_law_597 Ln xs k18 x3 f = FL_law_2110 Ln xs k18 x3 h := by
  obtain ⟨v, g, h, e1, e2, h3i⟩ := o_shut  f hI
  refine ⟨h, h3i, ?_⟩
  unfold FL_law_597
  rw [e1, b2_some, e2, b2_some, if_pos rfl]
theorem L_610 {Ln : Nat} {xs : Nat → Int} {k18 : Int → Mm → Option (Int × Mm)} {x3 : Int} {f : Mm} (hr : ∀ j, r32 (xs j)) (h1 : 0 ≤ w32 (x3 + 1) ∧ w32 (x3 + 1) < (Ln : Int)) (h2 : 0 ≤ w32 (x3 + 2) ∧ w32 (x3 + 2) < (Ln : Int)) (h3 : 0 ≤ w32 (x3 + 3) ∧ w32 (x3 + 3) < (Ln : Int)) (h4 : 0 ≤ w32 (x3 + 4) ∧ w32 (x3 + 4) < (Ln : Int)) (h5 : 0 ≤ w32 (x3 + 5) ∧ w32 (x3 + 5) < (Ln : Int)) (hI : Inv f) : ∃ h, Inv h ∧ FL_law_610 Ln xs k18 x3 f = FL_law_2110 Ln xs k18 x3 h := by
  obtain ⟨v, g, h, e1, e2, h3i⟩ := o_passes (xs (w32 (x3 + 1)).toNat) f hI
  refine ⟨h, h3i, ?_⟩
  unfold FL_law_610
  rw [if_pos h1, e1, b2_some, if_pos h1, e2, b2_some, if_pos rfl]
theorem L_633 {Ln : Nat} {xs : Nat → Int} {k18 : Int → Mm → Option (Int × Mm)} {x3 : Int} {f : Mm} (hr : ∀ j, r32 (xs j)) (h1 : 0 ≤ w32 (x3 + 1) ∧ w32 (x3 + 1) < (Ln : Int)) (h2 : 0 ≤ w32 (x3 + 2) ∧ w32 (x3 + 2) < (Ln : Int)) (h3 : 0 ≤ w32 (x3 + 3) ∧ w32 (x3 + 3) < (Ln : Int)) (h4 : 0 ≤ w32 (x3 + 4) ∧ w32 (x3 + 4) < (Ln : Int)) (h5 : 0 ≤ w32 (x3 + 5) ∧ w32 (x3 + 5) < (Ln : Int)) (hI : Inv f) : ∃ h, Inv h ∧ FL_law_633 Ln xs k18 x3 f = FL_law_2110 Ln xs k18 x3 h := by
  obtain ⟨v, g, h, e1, e2, h3i⟩ := o_over (xs (w32 (x3 + 1)).toNat) f hI
  refine ⟨h, h3i, ?_⟩
  unfold FL_law_633
  rw [if_pos h1, e1, b2_some, if_pos h1, e2, b2_some, if_pos rfl]
theorem L_656 {Ln : Nat} {xs : Nat → Int} {k18 : Int → Mm → Option (Int × Mm)} {x3 : Int} {f : Mm} (hr : ∀ j, r32 (xs j)) (h1 : 0 ≤ w32 (x3 + 1) ∧ w32 (x3 + 1) < (Ln : Int)) (h2 : 0 ≤ w32 (x3 + 2) ∧ w32 (x3 + 2) < (Ln : Int)) (h3 : 0 ≤ w32 (x3 + 3) ∧ w32 (x3 + 3) < (Ln : Int)) (h4 : 0 ≤ w32 (x3 + 4) ∧ w32 (x3 + 4) < (Ln : Int)) (h5 : 0 ≤ w32 (x3 + 5) ∧ w32 (x3 + 5) < (Ln : Int)) (hI : Inv f) : ∃ h, Inv h ∧ FL_law_656 Ln xs k18 x3 f = FL_law_2110 Ln xs k18 x3 h := by
  obtain ⟨v, g, h, e1, e2, h3i⟩ := o_waits (xs (w32 (x3 + 1)).toNat) f hI
  refine ⟨h, h3i, ?_⟩
  unfold FL_law_656
  rw [if_pos h1, e1, b2_some, if_pos h1, e2, b2_some, if_pos rfl]
theorem L_679 {Ln : Nat} {xs : Nat → Int} {k18 : Int → Mm → Option (Int × Mm)} {x3 : Int} {f : Mm} (hr : ∀ j, r32 (xs j)) (h1 : 0 ≤ w32 (x3 + 1) ∧ w32 (x3 + 1) < (Ln : Int)) (h2 : 0 ≤ w32 (x3 + 2) ∧ w32 (x3 + 2) < (Ln : Int)) (h3 : 0 ≤ w32 (x3 + 3) ∧ w32 (x3 + 3) < (Ln : Int)) (h4 : 0 ≤ w32 (x3 + 4) ∧ w32 (x3 + 4) < (Ln : Int)) (h5 : 0 ≤ w32 (x3 + 5) ∧ w32 (x3 + 5) < (Ln : Int)) (hI : Inv f) : ∃ h, Inv h ∧ FL_law_679 Ln xs k18 x3 f = FL_law_2110 Ln xs k18 x3 h := by
  obtain ⟨v, g, h, e1, e2, h3i⟩ := o_room (xs (w32 (x3 + 1)).toNat) f hI
  refine ⟨h, h3i, ?_⟩
  unfold FL_law_679
  rw [if_pos h1, e1, b2_some, if_pos h1, e2, b2_some, if_pos rfl]
theorem L_702 {Ln : Nat} {xs : Nat → Int} {k18 : Int → Mm → Option (Int × Mm)} {x3 : Int} {f : Mm} (hr : ∀ j, r32 (xs j)) (h1 : 0 ≤ w32 (x3 + 1) ∧ w32 (x3 + 1) < (Ln : Int)) (h2 : 0 ≤ w32 (x3 + 2) ∧ w32 (x3 + 2) < (Ln : Int)) (h3 : 0 ≤ w32 (x3 + 3) ∧ w32 (x3 + 3) < (Ln : Int)) (h4 : 0 ≤ w32 (x3 + 4) ∧ w32 (x3 + 4) < (Ln : Int)) (h5 : 0 ≤ w32 (x3 + 5) ∧ w32 (x3 + 5) < (Ln : Int)) (hI : Inv f) : ∃ h, Inv h ∧ FL_law_702 Ln xs k18 x3 f = FL_law_2110 Ln xs k18 x3 h := by
  obtain ⟨v, g, h, e1, e2, h3i⟩ := o_stuck  f hI
  refine ⟨h, h3i, ?_⟩
  unfold FL_law_702
  rw [e1, b2_some, e2, b2_some, if_pos rfl]
theorem L_715 {Ln : Nat} {xs : Nat → Int} {k18 : Int → Mm → Option (Int × Mm)} {x3 : Int} {f : Mm} (hr : ∀ j, r32 (xs j)) (h1 : 0 ≤ w32 (x3 + 1) ∧ w32 (x3 + 1) < (Ln : Int)) (h2 : 0 ≤ w32 (x3 + 2) ∧ w32 (x3 + 2) < (Ln : Int)) (h3 : 0 ≤ w32 (x3 + 3) ∧ w32 (x3 + 3) < (Ln : Int)) (h4 : 0 ≤ w32 (x3 + 4) ∧ w32 (x3 + 4) < (Ln : Int)) (h5 : 0 ≤ w32 (x3 + 5) ∧ w32 (x3 + 5) < (Ln : Int)) (hI : Inv f) : ∃ h, Inv h ∧ FL_law_715 Ln xs k18 x3 f = FL_law_2110 Ln xs k18 x3 h := by
  obtain ⟨v, g, h, e1, e2, h3i⟩ := o_lost  f hI
  refine ⟨h, h3i, ?_⟩
  unfold FL_law_715
  rw [e1, b2_some, e2, b2_some, if_pos rfl]
theorem L_728 {Ln : Nat} {xs : Nat → Int} {k18 : Int → Mm → Option (Int × Mm)} {x3 : Int} {f : Mm} (hr : ∀ j, r32 (xs j)) (h1 : 0 ≤ w32 (x3 + 1) ∧ w32 (x3 + 1) < (Ln : Int)) (h2 : 0 ≤ w32 (x3 + 2) ∧ w32 (x3 + 2) < (Ln : Int)) (h3 : 0 ≤ w32 (x3 + 3) ∧ w32 (x3 + 3) < (Ln : Int)) (h4 : 0 ≤ w32 (x3 + 4) ∧ w32 (x3 + 4) < (Ln : Int)) (h5 : 0 ≤ w32 (x3 + 5) ∧ w32 (x3 + 5) < (Ln : Int)) (hI : Inv f) : ∃ h, Inv h ∧ FL_law_728 Ln xs k18 x3 f = FL_law_2110 Ln xs k18 x3 h := by
  obtain ⟨v, g, h, e1, e2, h3i⟩ := o_kept  f hI
  refine ⟨h, h3i, ?_⟩
  unfold FL_law_728
  rw [e1, b2_some, e2, b2_some, if_pos rfl]
theorem L_741 {Ln : Nat} {xs : Nat → Int} {k18 : Int → Mm → Option (Int × Mm)} {x3 : Int} {f : Mm} (hr : ∀ j, r32 (xs j)) (h1 : 0 ≤ w32 (x3 + 1) ∧ w32 (x3 + 1) < (Ln : Int)) (h2 : 0 ≤ w32 (x3 + 2) ∧ w32 (x3 + 2) < (Ln : Int)) (h3 : 0 ≤ w32 (x3 + 3) ∧ w32 (x3 + 3) < (Ln : Int)) (h4 : 0 ≤ w32 (x3 + 4) ∧ w32 (x3 + 4) < (Ln : Int)) (h5 : 0 ≤ w32 (x3 + 5) ∧ w32 (x3 + 5) < (Ln : Int)) (hI : Inv f) : ∃ h, Inv h ∧ FL_law_741 Ln xs k18 x3 f = FL_law_2110 Ln xs k18 x3 h := by
  obtain ⟨v, g, h, e1, e2, h3i⟩ := o_pays  f hI
  refine ⟨h, h3i, ?_⟩
  unfold FL_law_741
  rw [e1, b2_some, e2, b2_some, if_pos rfl]
theorem L_754 {Ln : Nat} {xs : Nat → Int} {k18 : Int → Mm → Option (Int × Mm)} {x3 : Int} {f : Mm} (hr : ∀ j, r32 (xs j)) (h1 : 0 ≤ w32 (x3 + 1) ∧ w32 (x3 + 1) < (Ln : Int)) (h2 : 0 ≤ w32 (x3 + 2) ∧ w32 (x3 + 2) < (Ln : Int)) (h3 : 0 ≤ w32 (x3 + 3) ∧ w32 (x3 + 3) < (Ln : Int)) (h4 : 0 ≤ w32 (x3 + 4) ∧ w32 (x3 + 4) < (Ln : Int)) (h5 : 0 ≤ w32 (x3 + 5) ∧ w32 (x3 + 5) < (Ln : Int)) (hI : Inv f) : ∃ h, Inv h ∧ FL_law_754 Ln xs k18 x3 f = FL_law_2110 Ln xs k18 x3 h := by
  obtain ⟨v, g, h, e1, e2, h3i⟩ := o_costs  f hI
  refine ⟨h, h3i, ?_⟩
  unfold FL_law_754
  rw [e1, b2_some, e2, b2_some, if_pos rfl]
theorem L_767 {Ln : Nat} {xs : Nat → Int} {k18 : Int → Mm → Option (Int × Mm)} {x3 : Int} {f : Mm} (hr : ∀ j, r32 (xs j)) (h1 : 0 ≤ w32 (x3 + 1) ∧ w32 (x3 + 1) < (Ln : Int)) (h2 : 0 ≤ w32 (x3 + 2) ∧ w32 (x3 + 2) < (Ln : Int)) (h3 : 0 ≤ w32 (x3 + 3) ∧ w32 (x3 + 3) < (Ln : Int)) (h4 : 0 ≤ w32 (x3 + 4) ∧ w32 (x3 + 4) < (Ln : Int)) (h5 : 0 ≤ w32 (x3 + 5) ∧ w32 (x3 + 5) < (Ln : Int)) (hI : Inv f) : ∃ h, Inv h ∧ FL_law_767 Ln xs k18 x3 f = FL_law_2110 Ln xs k18 x3 h := by
  obtain ⟨v, g, h, e1, e2, h3i⟩ := o_best  f hI
  refine ⟨h, h3i, ?_⟩
  unfold FL_law_767
  rw [e1, b2_some, e2, b2_some, if_pos rfl]
theorem L_780 {Ln : Nat} {xs : Nat → Int} {k18 : Int → Mm → Option (Int × Mm)} {x3 : Int} {f : Mm} (hr : ∀ j, r32 (xs j)) (h1 : 0 ≤ w32 (x3 + 1) ∧ w32 (x3 + 1) < (Ln : Int)) (h2 : 0 ≤ w32 (x3 + 2) ∧ w32 (x3 + 2) < (Ln : Int)) (h3 : 0 ≤ w32 (x3 + 3) ∧ w32 (x3 + 3) < (Ln : Int)) (h4 : 0 ≤ w32 (x3 + 4) ∧ w32 (x3 + 4) < (Ln : Int)) (h5 : 0 ≤ w32 (x3 + 5) ∧ w32 (x3 + 5) < (Ln : Int)) (hI : Inv f) : ∃ h, Inv h ∧ FL_law_780 Ln xs k18 x3 f = FL_law_2110 Ln xs k18 x3 h := by
  obtain ⟨v, g, h, e1, e2, h3i⟩ := o_plan (xs (w32 (x3 + 1)).toNat) f hI
  refine ⟨h, h3i, ?_⟩
  unfold FL_law_780
  rw [if_pos h1, e1, b2_some, if_pos h1, e2, b2_some, if_pos rfl]
theorem L_803 {Ln : Nat} {xs : Nat → Int} {k18 : Int → Mm → Option (Int × Mm)} {x3 : Int} {f : Mm} (hr : ∀ j, r32 (xs j)) (h1 : 0 ≤ w32 (x3 + 1) ∧ w32 (x3 + 1) < (Ln : Int)) (h2 : 0 ≤ w32 (x3 + 2) ∧ w32 (x3 + 2) < (Ln : Int)) (h3 : 0 ≤ w32 (x3 + 3) ∧ w32 (x3 + 3) < (Ln : Int)) (h4 : 0 ≤ w32 (x3 + 4) ∧ w32 (x3 + 4) < (Ln : Int)) (h5 : 0 ≤ w32 (x3 + 5) ∧ w32 (x3 + 5) < (Ln : Int)) (hI : Inv f) : ∃ h, Inv h ∧ FL_law_803 Ln xs k18 x3 f = FL_law_2110 Ln xs k18 x3 h := by
  obtain ⟨v, g, h, e1, e2, h3i⟩ := o_ways  f hI
  refine ⟨h, h3i, ?_⟩
  unfold FL_law_803
  rw [e1, b2_some, e2, b2_some, if_pos rfl]
theorem L_816 {Ln : Nat} {xs : Nat → Int} {k18 : Int → Mm → Option (Int × Mm)} {x3 : Int} {f : Mm} (hr : ∀ j, r32 (xs j)) (h1 : 0 ≤ w32 (x3 + 1) ∧ w32 (x3 + 1) < (Ln : Int)) (h2 : 0 ≤ w32 (x3 + 2) ∧ w32 (x3 + 2) < (Ln : Int)) (h3 : 0 ≤ w32 (x3 + 3) ∧ w32 (x3 + 3) < (Ln : Int)) (h4 : 0 ≤ w32 (x3 + 4) ∧ w32 (x3 + 4) < (Ln : Int)) (h5 : 0 ≤ w32 (x3 + 5) ∧ w32 (x3 + 5) < (Ln : Int)) (hI : Inv f) : ∃ h, Inv h ∧ FL_law_816 Ln xs k18 x3 f = FL_law_2110 Ln xs k18 x3 h := by
  obtain ⟨v, g, h, e1, e2, h3i⟩ := o_peak  f hI
  refine ⟨h, h3i, ?_⟩
  unfold FL_law_816
  rw [e1, b2_some, e2, b2_some, if_pos rfl]
theorem L_829 {Ln : Nat} {xs : Nat → Int} {k18 : Int → Mm → Option (Int × Mm)} {x3 : Int} {f : Mm} (hr : ∀ j, r32 (xs j)) (h1 : 0 ≤ w32 (x3 + 1) ∧ w32 (x3 + 1) < (Ln : Int)) (h2 : 0 ≤ w32 (x3 + 2) ∧ w32 (x3 + 2) < (Ln : Int)) (h3 : 0 ≤ w32 (x3 + 3) ∧ w32 (x3 + 3) < (Ln : Int)) (h4 : 0 ≤ w32 (x3 + 4) ∧ w32 (x3 + 4) < (Ln : Int)) (h5 : 0 ≤ w32 (x3 + 5) ∧ w32 (x3 + 5) < (Ln : Int)) (hI : Inv f) : ∃ h, Inv h ∧ FL_law_829 Ln xs k18 x3 f = FL_law_2110 Ln xs k18 x3 h := by
  obtain ⟨v, g, h, e1, e2, h3i⟩ := o_lacks (xs (w32 (x3 + 1)).toNat) f hI
  refine ⟨h, h3i, ?_⟩
  unfold FL_law_829
  rw [if_pos h1, e1, b2_some, if_pos h1, e2, b2_some, if_pos rfl]
theorem L_852 {Ln : Nat} {xs : Nat → Int} {k18 : Int → Mm → Option (Int × Mm)} {x3 : Int} {f : Mm} (hr : ∀ j, r32 (xs j)) (h1 : 0 ≤ w32 (x3 + 1) ∧ w32 (x3 + 1) < (Ln : Int)) (h2 : 0 ≤ w32 (x3 + 2) ∧ w32 (x3 + 2) < (Ln : Int)) (h3 : 0 ≤ w32 (x3 + 3) ∧ w32 (x3 + 3) < (Ln : Int)) (h4 : 0 ≤ w32 (x3 + 4) ∧ w32 (x3 + 4) < (Ln : Int)) (h5 : 0 ≤ w32 (x3 + 5) ∧ w32 (x3 + 5) < (Ln : Int)) (hI : Inv f) : ∃ h, Inv h ∧ FL_law_852 Ln xs k18 x3 f = FL_law_2110 Ln xs k18 x3 h := by
  obtain ⟨v, g, h, e1, e2, h3i⟩ := o_crowd  f hI
  refine ⟨h, h3i, ?_⟩
  unfold FL_law_852
  rw [e1, b2_some, e2, b2_some, if_pos rfl]
theorem L_865 {Ln : Nat} {xs : Nat → Int} {k18 : Int → Mm → Option (Int × Mm)} {x3 : Int} {f : Mm} (hr : ∀ j, r32 (xs j)) (h1 : 0 ≤ w32 (x3 + 1) ∧ w32 (x3 + 1) < (Ln : Int)) (h2 : 0 ≤ w32 (x3 + 2) ∧ w32 (x3 + 2) < (Ln : Int)) (h3 : 0 ≤ w32 (x3 + 3) ∧ w32 (x3 + 3) < (Ln : Int)) (h4 : 0 ≤ w32 (x3 + 4) ∧ w32 (x3 + 4) < (Ln : Int)) (h5 : 0 ≤ w32 (x3 + 5) ∧ w32 (x3 + 5) < (Ln : Int)) (hI : Inv f) : ∃ h, Inv h ∧ FL_law_865 Ln xs k18 x3 f = FL_law_2110 Ln xs k18 x3 h := by
  obtain ⟨v, g, h, e1, e2, h3i⟩ := o_late  f hI
  refine ⟨h, h3i, ?_⟩
  unfold FL_law_865
  rw [e1, b2_some, e2, b2_some, if_pos rfl]
theorem L_878 {Ln : Nat} {xs : Nat → Int} {k18 : Int → Mm → Option (Int × Mm)} {x3 : Int} {f : Mm} (hr : ∀ j, r32 (xs j)) (h1 : 0 ≤ w32 (x3 + 1) ∧ w32 (x3 + 1) < (Ln : Int)) (h2 : 0 ≤ w32 (x3 + 2) ∧ w32 (x3 + 2) < (Ln : Int)) (h3 : 0 ≤ w32 (x3 + 3) ∧ w32 (x3 + 3) < (Ln : Int)) (h4 : 0 ≤ w32 (x3 + 4) ∧ w32 (x3 + 4) < (Ln : Int)) (h5 : 0 ≤ w32 (x3 + 5) ∧ w32 (x3 + 5) < (Ln : Int)) (hI : Inv f) : ∃ h, Inv h ∧ FL_law_878 Ln xs k18 x3 f = FL_law_2110 Ln xs k18 x3 h := by
  obtain ⟨v, g, h, e1, e2, h3i⟩ := o_delay  f hI
  refine ⟨h, h3i, ?_⟩
  unfold FL_law_878
  rw [e1, b2_some, e2, b2_some, if_pos rfl]
theorem L_891 {Ln : Nat} {xs : Nat → Int} {k18 : Int → Mm → Option (Int × Mm)} {x3 : Int} {f : Mm} (hr : ∀ j, r32 (xs j)) (h1 : 0 ≤ w32 (x3 + 1) ∧ w32 (x3 + 1) < (Ln : Int)) (h2 : 0 ≤ w32 (x3 + 2) ∧ w32 (x3 + 2) < (Ln : Int)) (h3 : 0 ≤ w32 (x3 + 3) ∧ w32 (x3 + 3) < (Ln : Int)) (h4 : 0 ≤ w32 (x3 + 4) ∧ w32 (x3 + 4) < (Ln : Int)) (h5 : 0 ≤ w32 (x3 + 5) ∧ w32 (x3 + 5) < (Ln : Int)) (hI : Inv f) : ∃ h, Inv h ∧ FL_law_891 Ln xs k18 x3 f = FL_law_2110 Ln xs k18 x3 h := by
  obtain ⟨v, g, h, e1, e2, h3i⟩ := o_toll (xs (w32 (x3 + 1)).toNat) f hI
  refine ⟨h, h3i, ?_⟩
  unfold FL_law_891
  rw [if_pos h1, e1, b2_some, if_pos h1, e2, b2_some, if_pos rfl]
theorem L_914 {Ln : Nat} {xs : Nat → Int} {k18 : Int → Mm → Option (Int × Mm)} {x3 : Int} {f : Mm} (hr : ∀ j, r32 (xs j)) (h1 : 0 ≤ w32 (x3 + 1) ∧ w32 (x3 + 1) < (Ln : Int)) (h2 : 0 ≤ w32 (x3 + 2) ∧ w32 (x3 + 2) < (Ln : Int)) (h3 : 0 ≤ w32 (x3 + 3) ∧ w32 (x3 + 3) < (Ln : Int)) (h4 : 0 ≤ w32 (x3 + 4) ∧ w32 (x3 + 4) < (Ln : Int)) (h5 : 0 ≤ w32 (x3 + 5) ∧ w32 (x3 + 5) < (Ln : Int)) (hI : Inv f) : ∃ h, Inv h ∧ FL_law_914 Ln xs k18 x3 f = FL_law_2110 Ln xs k18 x3 h := by
  obtain ⟨v, g, h, e1, e2, h3i⟩ := o_gap (xs (w32 (x3 + 1)).toNat) f hI
  refine ⟨h, h3i, ?_⟩
  unfold FL_law_914
  rw [if_pos h1, e1, b2_some, if_pos h1, e2, b2_some, if_pos rfl]
theorem L_937 {Ln : Nat} {xs : Nat → Int} {k18 : Int → Mm → Option (Int × Mm)} {x3 : Int} {f : Mm} (hr : ∀ j, r32 (xs j)) (h1 : 0 ≤ w32 (x3 + 1) ∧ w32 (x3 + 1) < (Ln : Int)) (h2 : 0 ≤ w32 (x3 + 2) ∧ w32 (x3 + 2) < (Ln : Int)) (h3 : 0 ≤ w32 (x3 + 3) ∧ w32 (x3 + 3) < (Ln : Int)) (h4 : 0 ≤ w32 (x3 + 4) ∧ w32 (x3 + 4) < (Ln : Int)) (h5 : 0 ≤ w32 (x3 + 5) ∧ w32 (x3 + 5) < (Ln : Int)) (hI : Inv f) : ∃ h, Inv h ∧ FL_law_937 Ln xs k18 x3 f = FL_law_2110 Ln xs k18 x3 h := by
  obtain ⟨v, g, h, e1, e2, h3i⟩ := o_kind (xs (w32 (x3 + 1)).toNat) f hI
  refine ⟨h, h3i, ?_⟩
  unfold FL_law_937
  rw [if_pos h1, e1, b2_some, if_pos h1, e2, b2_some, if_pos rfl]
theorem L_960 {Ln : Nat} {xs : Nat → Int} {k18 : Int → Mm → Option (Int × Mm)} {x3 : Int} {f : Mm} (hr : ∀ j, r32 (xs j)) (h1 : 0 ≤ w32 (x3 + 1) ∧ w32 (x3 + 1) < (Ln : Int)) (h2 : 0 ≤ w32 (x3 + 2) ∧ w32 (x3 + 2) < (Ln : Int)) (h3 : 0 ≤ w32 (x3 + 3) ∧ w32 (x3 + 3) < (Ln : Int)) (h4 : 0 ≤ w32 (x3 + 4) ∧ w32 (x3 + 4) < (Ln : Int)) (h5 : 0 ≤ w32 (x3 + 5) ∧ w32 (x3 + 5) < (Ln : Int)) (hI : Inv f) : ∃ h, Inv h ∧ FL_law_960 Ln xs k18 x3 f = FL_law_2110 Ln xs k18 x3 h := by
  obtain ⟨v, g, h, e1, e2, h3i⟩ := o_alone (xs (w32 (x3 + 1)).toNat) f hI
  refine ⟨h, h3i, ?_⟩
  unfold FL_law_960
  rw [if_pos h1, e1, b2_some, if_pos h1, e2, b2_some, if_pos rfl]
theorem L_983 {Ln : Nat} {xs : Nat → Int} {k18 : Int → Mm → Option (Int × Mm)} {x3 : Int} {f : Mm} (hr : ∀ j, r32 (xs j)) (h1 : 0 ≤ w32 (x3 + 1) ∧ w32 (x3 + 1) < (Ln : Int)) (h2 : 0 ≤ w32 (x3 + 2) ∧ w32 (x3 + 2) < (Ln : Int)) (h3 : 0 ≤ w32 (x3 + 3) ∧ w32 (x3 + 3) < (Ln : Int)) (h4 : 0 ≤ w32 (x3 + 4) ∧ w32 (x3 + 4) < (Ln : Int)) (h5 : 0 ≤ w32 (x3 + 5) ∧ w32 (x3 + 5) < (Ln : Int)) (hI : Inv f) : ∃ h, Inv h ∧ FL_law_983 Ln xs k18 x3 f = FL_law_2110 Ln xs k18 x3 h := by
  obtain ⟨v, g, h, e1, e2, h3i⟩ := o_value (xs (w32 (x3 + 1)).toNat) f hI
  refine ⟨h, h3i, ?_⟩
  unfold FL_law_983
  rw [if_pos h1, e1, b2_some, if_pos h1, e2, b2_some, if_pos rfl]
theorem L_1006 {Ln : Nat} {xs : Nat → Int} {k18 : Int → Mm → Option (Int × Mm)} {x3 : Int} {f : Mm} (hr : ∀ j, r32 (xs j)) (h1 : 0 ≤ w32 (x3 + 1) ∧ w32 (x3 + 1) < (Ln : Int)) (h2 : 0 ≤ w32 (x3 + 2) ∧ w32 (x3 + 2) < (Ln : Int)) (h3 : 0 ≤ w32 (x3 + 3) ∧ w32 (x3 + 3) < (Ln : Int)) (h4 : 0 ≤ w32 (x3 + 4) ∧ w32 (x3 + 4) < (Ln : Int)) (h5 : 0 ≤ w32 (x3 + 5) ∧ w32 (x3 + 5) < (Ln : Int)) (hI : Inv f) : ∃ h, Inv h ∧ FL_law_1006 Ln xs k18 x3 f = FL_law_2110 Ln xs k18 x3 h := by
  obtain ⟨v, g, h, e1, e2, h3i⟩ := o_sets  f hI
  refine ⟨h, h3i, ?_⟩
  unfold FL_law_1006
  rw [e1, b2_some, e2, b2_some, if_pos rfl]
theorem L_1019 {Ln : Nat} {xs : Nat → Int} {k18 : Int → Mm → Option (Int × Mm)} {x3 : Int} {f : Mm} (hr : ∀ j, r32 (xs j)) (h1 : 0 ≤ w32 (x3 + 1) ∧ w32 (x3 + 1) < (Ln : Int)) (h2 : 0 ≤ w32 (x3 + 2) ∧ w32 (x3 + 2) < (Ln : Int)) (h3 : 0 ≤ w32 (x3 + 3) ∧ w32 (x3 + 3) < (Ln : Int)) (h4 : 0 ≤ w32 (x3 + 4) ∧ w32 (x3 + 4) < (Ln : Int)) (h5 : 0 ≤ w32 (x3 + 5) ∧ w32 (x3 + 5) < (Ln : Int)) (hI : Inv f) : ∃ h, Inv h ∧ FL_law_1019 Ln xs k18 x3 f = FL_law_2110 Ln xs k18 x3 h := by
  obtain ⟨v, g, h, e1, e2, h3i⟩ := o_often (xs (w32 (x3 + 1)).toNat) f hI
  refine ⟨h, h3i, ?_⟩
  unfold FL_law_1019
  rw [if_pos h1, e1, b2_some, if_pos h1, e2, b2_some, if_pos rfl]
theorem L_1042 {Ln : Nat} {xs : Nat → Int} {k18 : Int → Mm → Option (Int × Mm)} {x3 : Int} {f : Mm} (hr : ∀ j, r32 (xs j)) (h1 : 0 ≤ w32 (x3 + 1) ∧ w32 (x3 + 1) < (Ln : Int)) (h2 : 0 ≤ w32 (x3 + 2) ∧ w32 (x3 + 2) < (Ln : Int)) (h3 : 0 ≤ w32 (x3 + 3) ∧ w32 (x3 + 3) < (Ln : Int)) (h4 : 0 ≤ w32 (x3 + 4) ∧ w32 (x3 + 4) < (Ln : Int)) (h5 : 0 ≤ w32 (x3 + 5) ∧ w32 (x3 + 5) < (Ln : Int)) (hI : Inv f) : ∃ h, Inv h ∧ FL_law_1042 Ln xs k18 x3 f = FL_law_2110 Ln xs k18 x3 h := by
  obtain ⟨v, g, h, e1, e2, h3i⟩ := o_cheap (xs (w32 (x3 + 1)).toNat) f hI
  refine ⟨h, h3i, ?_⟩
  unfold FL_law_1042
  rw [if_pos h1, e1, b2_some, if_pos h1, e2, b2_some, if_pos rfl]
theorem L_1065 {Ln : Nat} {xs : Nat → Int} {k18 : Int → Mm → Option (Int × Mm)} {x3 : Int} {f : Mm} (hr : ∀ j, r32 (xs j)) (h1 : 0 ≤ w32 (x3 + 1) ∧ w32 (x3 + 1) < (Ln : Int)) (h2 : 0 ≤ w32 (x3 + 2) ∧ w32 (x3 + 2) < (Ln : Int)) (h3 : 0 ≤ w32 (x3 + 3) ∧ w32 (x3 + 3) < (Ln : Int)) (h4 : 0 ≤ w32 (x3 + 4) ∧ w32 (x3 + 4) < (Ln : Int)) (h5 : 0 ≤ w32 (x3 + 5) ∧ w32 (x3 + 5) < (Ln : Int)) (hI : Inv f) : ∃ h, Inv h ∧ FL_law_1065 Ln xs k18 x3 f = FL_law_2110 Ln xs k18 x3 h := by
  obtain ⟨v, g, h, e1, e2, h3i⟩ := o_cheaply (xs (w32 (x3 + 1)).toNat) (xs (w32 (x3 + 2)).toNat) f hI
  refine ⟨h, h3i, ?_⟩
  unfold FL_law_1065
  rw [if_pos h1, if_pos h2, e1, b2_some, if_pos h1, if_pos h2, e2, b2_some, if_pos rfl]
theorem L_1098 {Ln : Nat} {xs : Nat → Int} {k18 : Int → Mm → Option (Int × Mm)} {x3 : Int} {f : Mm} (hr : ∀ j, r32 (xs j)) (h1 : 0 ≤ w32 (x3 + 1) ∧ w32 (x3 + 1) < (Ln : Int)) (h2 : 0 ≤ w32 (x3 + 2) ∧ w32 (x3 + 2) < (Ln : Int)) (h3 : 0 ≤ w32 (x3 + 3) ∧ w32 (x3 + 3) < (Ln : Int)) (h4 : 0 ≤ w32 (x3 + 4) ∧ w32 (x3 + 4) < (Ln : Int)) (h5 : 0 ≤ w32 (x3 + 5) ∧ w32 (x3 + 5) < (Ln : Int)) (hI : Inv f) : ∃ h, Inv h ∧ FL_law_1098 Ln xs k18 x3 f = FL_law_2110 Ln xs k18 x3 h := by
  obtain ⟨v, g, h, e1, e2, h3i⟩ := o_soonest (xs (w32 (x3 + 1)).toNat) f hI
  refine ⟨h, h3i, ?_⟩
  unfold FL_law_1098
  rw [if_pos h1, e1, b2_some, if_pos h1, e2, b2_some, if_pos rfl]
theorem L_1121 {Ln : Nat} {xs : Nat → Int} {k18 : Int → Mm → Option (Int × Mm)} {x3 : Int} {f : Mm} (hr : ∀ j, r32 (xs j)) (h1 : 0 ≤ w32 (x3 + 1) ∧ w32 (x3 + 1) < (Ln : Int)) (h2 : 0 ≤ w32 (x3 + 2) ∧ w32 (x3 + 2) < (Ln : Int)) (h3 : 0 ≤ w32 (x3 + 3) ∧ w32 (x3 + 3) < (Ln : Int)) (h4 : 0 ≤ w32 (x3 + 4) ∧ w32 (x3 + 4) < (Ln : Int)) (h5 : 0 ≤ w32 (x3 + 5) ∧ w32 (x3 + 5) < (Ln : Int)) (hI : Inv f) : ∃ h, Inv h ∧ FL_law_1121 Ln xs k18 x3 f = FL_law_2110 Ln xs k18 x3 h := by
  obtain ⟨v, g, h, e1, e2, h3i⟩ := o_hold (xs (w32 (x3 + 1)).toNat) f hI
  refine ⟨h, h3i, ?_⟩
  unfold FL_law_1121
  rw [if_pos h1, e1, b2_some, if_pos h1, e2, b2_some, if_pos rfl]
theorem L_1144 {Ln : Nat} {xs : Nat → Int} {k18 : Int → Mm → Option (Int × Mm)} {x3 : Int} {f : Mm} (hr : ∀ j, r32 (xs j)) (h1 : 0 ≤ w32 (x3 + 1) ∧ w32 (x3 + 1) < (Ln : Int)) (h2 : 0 ≤ w32 (x3 + 2) ∧ w32 (x3 + 2) < (Ln : Int)) (h3 : 0 ≤ w32 (x3 + 3) ∧ w32 (x3 + 3) < (Ln : Int)) (h4 : 0 ≤ w32 (x3 + 4) ∧ w32 (x3 + 4) < (Ln : Int)) (h5 : 0 ≤ w32 (x3 + 5) ∧ w32 (x3 + 5) < (Ln : Int)) (hI : Inv f) : ∃ h, Inv h ∧ FL_law_1144 Ln xs k18 x3 f = FL_law_2110 Ln xs k18 x3 h := by
  obtain ⟨v, g, h, e1, e2, h3i⟩ := o_widest  f hI
  refine ⟨h, h3i, ?_⟩
  unfold FL_law_1144
  rw [e1, b2_some, e2, b2_some, if_pos rfl]
theorem L_1157 {Ln : Nat} {xs : Nat → Int} {k18 : Int → Mm → Option (Int × Mm)} {x3 : Int} {f : Mm} (hr : ∀ j, r32 (xs j)) (h1 : 0 ≤ w32 (x3 + 1) ∧ w32 (x3 + 1) < (Ln : Int)) (h2 : 0 ≤ w32 (x3 + 2) ∧ w32 (x3 + 2) < (Ln : Int)) (h3 : 0 ≤ w32 (x3 + 3) ∧ w32 (x3 + 3) < (Ln : Int)) (h4 : 0 ≤ w32 (x3 + 4) ∧ w32 (x3 + 4) < (Ln : Int)) (h5 : 0 ≤ w32 (x3 + 5) ∧ w32 (x3 + 5) < (Ln : Int)) (hI : Inv f) : ∃ h, Inv h ∧ FL_law_1157 Ln xs k18 x3 f = FL_law_2110 Ln xs k18 x3 h := by
  obtain ⟨v, g, h, e1, e2, h3i⟩ := o_most (xs (w32 (x3 + 1)).toNat) f hI
  refine ⟨h, h3i, ?_⟩
  unfold FL_law_1157
  rw [if_pos h1, e1, b2_some, if_pos h1, e2, b2_some, if_pos rfl]
theorem L_1180 {Ln : Nat} {xs : Nat → Int} {k18 : Int → Mm → Option (Int × Mm)} {x3 : Int} {f : Mm} (hr : ∀ j, r32 (xs j)) (h1 : 0 ≤ w32 (x3 + 1) ∧ w32 (x3 + 1) < (Ln : Int)) (h2 : 0 ≤ w32 (x3 + 2) ∧ w32 (x3 + 2) < (Ln : Int)) (h3 : 0 ≤ w32 (x3 + 3) ∧ w32 (x3 + 3) < (Ln : Int)) (h4 : 0 ≤ w32 (x3 + 4) ∧ w32 (x3 + 4) < (Ln : Int)) (h5 : 0 ≤ w32 (x3 + 5) ∧ w32 (x3 + 5) < (Ln : Int)) (hI : Inv f) : ∃ h, Inv h ∧ FL_law_1180 Ln xs k18 x3 f = FL_law_2110 Ln xs k18 x3 h := by
  obtain ⟨v, g, h, e1, e2, h3i⟩ := o_abreast (xs (w32 (x3 + 1)).toNat) f hI
  refine ⟨h, h3i, ?_⟩
  unfold FL_law_1180
  rw [if_pos h1, e1, b2_some, if_pos h1, e2, b2_some, if_pos rfl]
theorem L_1203 {Ln : Nat} {xs : Nat → Int} {k18 : Int → Mm → Option (Int × Mm)} {x3 : Int} {f : Mm} (hr : ∀ j, r32 (xs j)) (h1 : 0 ≤ w32 (x3 + 1) ∧ w32 (x3 + 1) < (Ln : Int)) (h2 : 0 ≤ w32 (x3 + 2) ∧ w32 (x3 + 2) < (Ln : Int)) (h3 : 0 ≤ w32 (x3 + 3) ∧ w32 (x3 + 3) < (Ln : Int)) (h4 : 0 ≤ w32 (x3 + 4) ∧ w32 (x3 + 4) < (Ln : Int)) (h5 : 0 ≤ w32 (x3 + 5) ∧ w32 (x3 + 5) < (Ln : Int)) (hI : Inv f) : ∃ h, Inv h ∧ FL_law_1203 Ln xs k18 x3 f = FL_law_2110 Ln xs k18 x3 h := by
  obtain ⟨v, g, h, e1, e2, h3i⟩ := o_load (xs (w32 (x3 + 1)).toNat) f hI
  refine ⟨h, h3i, ?_⟩
  unfold FL_law_1203
  rw [if_pos h1, e1, b2_some, if_pos h1, e2, b2_some, if_pos rfl]
theorem L_1226 {Ln : Nat} {xs : Nat → Int} {k18 : Int → Mm → Option (Int × Mm)} {x3 : Int} {f : Mm} (hr : ∀ j, r32 (xs j)) (h1 : 0 ≤ w32 (x3 + 1) ∧ w32 (x3 + 1) < (Ln : Int)) (h2 : 0 ≤ w32 (x3 + 2) ∧ w32 (x3 + 2) < (Ln : Int)) (h3 : 0 ≤ w32 (x3 + 3) ∧ w32 (x3 + 3) < (Ln : Int)) (h4 : 0 ≤ w32 (x3 + 4) ∧ w32 (x3 + 4) < (Ln : Int)) (h5 : 0 ≤ w32 (x3 + 5) ∧ w32 (x3 + 5) < (Ln : Int)) (hI : Inv f) : ∃ h, Inv h ∧ FL_law_1226 Ln xs k18 x3 f = FL_law_2110 Ln xs k18 x3 h := by
  obtain ⟨v, g, h, e1, e2, h3i⟩ := o_loads (xs (w32 (x3 + 1)).toNat) f hI
  refine ⟨h, h3i, ?_⟩
  unfold FL_law_1226
  rw [if_pos h1, e1, b2_some, if_pos h1, e2, b2_some, if_pos rfl]
theorem L_1249 {Ln : Nat} {xs : Nat → Int} {k18 : Int → Mm → Option (Int × Mm)} {x3 : Int} {f : Mm} (hr : ∀ j, r32 (xs j)) (h1 : 0 ≤ w32 (x3 + 1) ∧ w32 (x3 + 1) < (Ln : Int)) (h2 : 0 ≤ w32 (x3 + 2) ∧ w32 (x3 + 2) < (Ln : Int)) (h3 : 0 ≤ w32 (x3 + 3) ∧ w32 (x3 + 3) < (Ln : Int)) (h4 : 0 ≤ w32 (x3 + 4) ∧ w32 (x3 + 4) < (Ln : Int)) (h5 : 0 ≤ w32 (x3 + 5) ∧ w32 (x3 + 5) < (Ln : Int)) (hI : Inv f) : ∃ h, Inv h ∧ FL_law_1249 Ln xs k18 x3 f = FL_law_2110 Ln xs k18 x3 h := by
  obtain ⟨v, g, h, e1, e2, h3i⟩ := o_queue  f hI
  refine ⟨h, h3i, ?_⟩
  unfold FL_law_1249
  rw [e1, b2_some, e2, b2_some, if_pos rfl]
theorem L_1262 {Ln : Nat} {xs : Nat → Int} {k18 : Int → Mm → Option (Int × Mm)} {x3 : Int} {f : Mm} (hr : ∀ j, r32 (xs j)) (h1 : 0 ≤ w32 (x3 + 1) ∧ w32 (x3 + 1) < (Ln : Int)) (h2 : 0 ≤ w32 (x3 + 2) ∧ w32 (x3 + 2) < (Ln : Int)) (h3 : 0 ≤ w32 (x3 + 3) ∧ w32 (x3 + 3) < (Ln : Int)) (h4 : 0 ≤ w32 (x3 + 4) ∧ w32 (x3 + 4) < (Ln : Int)) (h5 : 0 ≤ w32 (x3 + 5) ∧ w32 (x3 + 5) < (Ln : Int)) (hI : Inv f) : ∃ h, Inv h ∧ FL_law_1262 Ln xs k18 x3 f = FL_law_2110 Ln xs k18 x3 h := by
  obtain ⟨v, g, h, e1, e2, h3i⟩ := o_queues (xs (w32 (x3 + 1)).toNat) f hI
  refine ⟨h, h3i, ?_⟩
  unfold FL_law_1262
  rw [if_pos h1, e1, b2_some, if_pos h1, e2, b2_some, if_pos rfl]
theorem L_1285 {Ln : Nat} {xs : Nat → Int} {k18 : Int → Mm → Option (Int × Mm)} {x3 : Int} {f : Mm} (hr : ∀ j, r32 (xs j)) (h1 : 0 ≤ w32 (x3 + 1) ∧ w32 (x3 + 1) < (Ln : Int)) (h2 : 0 ≤ w32 (x3 + 2) ∧ w32 (x3 + 2) < (Ln : Int)) (h3 : 0 ≤ w32 (x3 + 3) ∧ w32 (x3 + 3) < (Ln : Int)) (h4 : 0 ≤ w32 (x3 + 4) ∧ w32 (x3 + 4) < (Ln : Int)) (h5 : 0 ≤ w32 (x3 + 5) ∧ w32 (x3 + 5) < (Ln : Int)) (hI : Inv f) : ∃ h, Inv h ∧ FL_law_1285 Ln xs k18 x3 f = FL_law_2110 Ln xs k18 x3 h := by
  obtain ⟨v, g, h, e1, e2, h3i⟩ := o_line  f hI
  refine ⟨h, h3i, ?_⟩
  unfold FL_law_1285
  rw [e1, b2_some, e2, b2_some, if_pos rfl]
theorem L_1298 {Ln : Nat} {xs : Nat → Int} {k18 : Int → Mm → Option (Int × Mm)} {x3 : Int} {f : Mm} (hr : ∀ j, r32 (xs j)) (h1 : 0 ≤ w32 (x3 + 1) ∧ w32 (x3 + 1) < (Ln : Int)) (h2 : 0 ≤ w32 (x3 + 2) ∧ w32 (x3 + 2) < (Ln : Int)) (h3 : 0 ≤ w32 (x3 + 3) ∧ w32 (x3 + 3) < (Ln : Int)) (h4 : 0 ≤ w32 (x3 + 4) ∧ w32 (x3 + 4) < (Ln : Int)) (h5 : 0 ≤ w32 (x3 + 5) ∧ w32 (x3 + 5) < (Ln : Int)) (hI : Inv f) : ∃ h, Inv h ∧ FL_law_1298 Ln xs k18 x3 f = FL_law_2110 Ln xs k18 x3 h := by
  obtain ⟨v, g, h, e1, e2, h3i⟩ := o_fits (xs (w32 (x3 + 1)).toNat) f hI
  refine ⟨h, h3i, ?_⟩
  unfold FL_law_1298
  rw [if_pos h1, e1, b2_some, if_pos h1, e2, b2_some, if_pos rfl]
theorem L_1321 {Ln : Nat} {xs : Nat → Int} {k18 : Int → Mm → Option (Int × Mm)} {x3 : Int} {f : Mm} (hr : ∀ j, r32 (xs j)) (h1 : 0 ≤ w32 (x3 + 1) ∧ w32 (x3 + 1) < (Ln : Int)) (h2 : 0 ≤ w32 (x3 + 2) ∧ w32 (x3 + 2) < (Ln : Int)) (h3 : 0 ≤ w32 (x3 + 3) ∧ w32 (x3 + 3) < (Ln : Int)) (h4 : 0 ≤ w32 (x3 + 4) ∧ w32 (x3 + 4) < (Ln : Int)) (h5 : 0 ≤ w32 (x3 + 5) ∧ w32 (x3 + 5) < (Ln : Int)) (hI : Inv f) : ∃ h, Inv h ∧ FL_law_1321 Ln xs k18 x3 f = FL_law_2110 Ln xs k18 x3 h := by
  obtain ⟨v, g, h, e1, e2, h3i⟩ := o_slights (xs (w32 (x3 + 1)).toNat) f hI
  refine ⟨h, h3i, ?_⟩
  unfold FL_law_1321
  rw [if_pos h1, e1, b2_some, if_pos h1, e2, b2_some, if_pos rfl]
theorem L_1344 {Ln : Nat} {xs : Nat → Int} {k18 : Int → Mm → Option (Int × Mm)} {x3 : Int} {f : Mm} (hr : ∀ j, r32 (xs j)) (h1 : 0 ≤ w32 (x3 + 1) ∧ w32 (x3 + 1) < (Ln : Int)) (h2 : 0 ≤ w32 (x3 + 2) ∧ w32 (x3 + 2) < (Ln : Int)) (h3 : 0 ≤ w32 (x3 + 3) ∧ w32 (x3 + 3) < (Ln : Int)) (h4 : 0 ≤ w32 (x3 + 4) ∧ w32 (x3 + 4) < (Ln : Int)) (h5 : 0 ≤ w32 (x3 + 5) ∧ w32 (x3 + 5) < (Ln : Int)) (hI : Inv f) : ∃ h, Inv h ∧ FL_law_1344 Ln xs k18 x3 f = FL_law_2110 Ln xs k18 x3 h := by
  obtain ⟨v, g, h, e1, e2, h3i⟩ := o_slight (xs (w32 (x3 + 1)).toNat) f hI
  refine ⟨h, h3i, ?_⟩
  unfold FL_law_1344
  rw [if_pos h1, e1, b2_some, if_pos h1, e2, b2_some, if_pos rfl]
theorem L_1367 {Ln : Nat} {xs : Nat → Int} {k18 : Int → Mm → Option (Int × Mm)} {x3 : Int} {f : Mm} (hr : ∀ j, r32 (xs j)) (h1 : 0 ≤ w32 (x3 + 1) ∧ w32 (x3 + 1) < (Ln : Int)) (h2 : 0 ≤ w32 (x3 + 2) ∧ w32 (x3 + 2) < (Ln : Int)) (h3 : 0 ≤ w32 (x3 + 3) ∧ w32 (x3 + 3) < (Ln : Int)) (h4 : 0 ≤ w32 (x3 + 4) ∧ w32 (x3 + 4) < (Ln : Int)) (h5 : 0 ≤ w32 (x3 + 5) ∧ w32 (x3 + 5) < (Ln : Int)) (hI : Inv f) : ∃ h, Inv h ∧ FL_law_1367 Ln xs k18 x3 f = FL_law_2110 Ln xs k18 x3 h := by
  obtain ⟨v, g, h, e1, e2, h3i⟩ := o_ask (xs (w32 (x3 + 1)).toNat) f hI
  refine ⟨h, h3i, ?_⟩
  unfold FL_law_1367
  rw [if_pos h1, e1, b2_some, if_pos h1, e2, b2_some, if_pos rfl]
theorem L_1390 {Ln : Nat} {xs : Nat → Int} {k18 : Int → Mm → Option (Int × Mm)} {x3 : Int} {f : Mm} (hr : ∀ j, r32 (xs j)) (h1 : 0 ≤ w32 (x3 + 1) ∧ w32 (x3 + 1) < (Ln : Int)) (h2 : 0 ≤ w32 (x3 + 2) ∧ w32 (x3 + 2) < (Ln : Int)) (h3 : 0 ≤ w32 (x3 + 3) ∧ w32 (x3 + 3) < (Ln : Int)) (h4 : 0 ≤ w32 (x3 + 4) ∧ w32 (x3 + 4) < (Ln : Int)) (h5 : 0 ≤ w32 (x3 + 5) ∧ w32 (x3 + 5) < (Ln : Int)) (hI : Inv f) : ∃ h, Inv h ∧ FL_law_1390 Ln xs k18 x3 f = FL_law_2110 Ln xs k18 x3 h := by
  obtain ⟨v, g, h, e1, e2, h3i⟩ := o_leaves (xs (w32 (x3 + 1)).toNat) f hI
  refine ⟨h, h3i, ?_⟩
  unfold FL_law_1390
  rw [if_pos h1, e1, b2_some, if_pos h1, e2, b2_some, if_pos rfl]
theorem L_1413 {Ln : Nat} {xs : Nat → Int} {k18 : Int → Mm → Option (Int × Mm)} {x3 : Int} {f : Mm} (hr : ∀ j, r32 (xs j)) (h1 : 0 ≤ w32 (x3 + 1) ∧ w32 (x3 + 1) < (Ln : Int)) (h2 : 0 ≤ w32 (x3 + 2) ∧ w32 (x3 + 2) < (Ln : Int)) (h3 : 0 ≤ w32 (x3 + 3) ∧ w32 (x3 + 3) < (Ln : Int)) (h4 : 0 ≤ w32 (x3 + 4) ∧ w32 (x3 + 4) < (Ln : Int)) (h5 : 0 ≤ w32 (x3 + 5) ∧ w32 (x3 + 5) < (Ln : Int)) (hI : Inv f) : ∃ h, Inv h ∧ FL_law_1413 Ln xs k18 x3 f = FL_law_2110 Ln xs k18 x3 h := by
  obtain ⟨v, g, h, e1, e2, h3i⟩ := o_cools (xs (w32 (x3 + 1)).toNat) f hI
  refine ⟨h, h3i, ?_⟩
  unfold FL_law_1413
  rw [if_pos h1, e1, b2_some, if_pos h1, e2, b2_some, if_pos rfl]
theorem L_1436 {Ln : Nat} {xs : Nat → Int} {k18 : Int → Mm → Option (Int × Mm)} {x3 : Int} {f : Mm} (hr : ∀ j, r32 (xs j)) (h1 : 0 ≤ w32 (x3 + 1) ∧ w32 (x3 + 1) < (Ln : Int)) (h2 : 0 ≤ w32 (x3 + 2) ∧ w32 (x3 + 2) < (Ln : Int)) (h3 : 0 ≤ w32 (x3 + 3) ∧ w32 (x3 + 3) < (Ln : Int)) (h4 : 0 ≤ w32 (x3 + 4) ∧ w32 (x3 + 4) < (Ln : Int)) (h5 : 0 ≤ w32 (x3 + 5) ∧ w32 (x3 + 5) < (Ln : Int)) (hI : Inv f) : ∃ h, Inv h ∧ FL_law_1436 Ln xs k18 x3 f = FL_law_2110 Ln xs k18 x3 h := by
  obtain ⟨v, g, h, e1, e2, h3i⟩ := o_cool (xs (w32 (x3 + 1)).toNat) f hI
  refine ⟨h, h3i, ?_⟩
  unfold FL_law_1436
  rw [if_pos h1, e1, b2_some, if_pos h1, e2, b2_some, if_pos rfl]
theorem L_1459 {Ln : Nat} {xs : Nat → Int} {k18 : Int → Mm → Option (Int × Mm)} {x3 : Int} {f : Mm} (hr : ∀ j, r32 (xs j)) (h1 : 0 ≤ w32 (x3 + 1) ∧ w32 (x3 + 1) < (Ln : Int)) (h2 : 0 ≤ w32 (x3 + 2) ∧ w32 (x3 + 2) < (Ln : Int)) (h3 : 0 ≤ w32 (x3 + 3) ∧ w32 (x3 + 3) < (Ln : Int)) (h4 : 0 ≤ w32 (x3 + 4) ∧ w32 (x3 + 4) < (Ln : Int)) (h5 : 0 ≤ w32 (x3 + 5) ∧ w32 (x3 + 5) < (Ln : Int)) (hI : Inv f) : ∃ h, Inv h ∧ FL_law_1459 Ln xs k18 x3 f = FL_law_2110 Ln xs k18 x3 h := by
  obtain ⟨v, g, h, e1, e2, h3i⟩ := o_rests (xs (w32 (x3 + 1)).toNat) f hI
  refine ⟨h, h3i, ?_⟩
  unfold FL_law_1459
  rw [if_pos h1, e1, b2_some, if_pos h1, e2, b2_some, if_pos rfl]
theorem L_1482 {Ln : Nat} {xs : Nat → Int} {k18 : Int → Mm → Option (Int × Mm)} {x3 : Int} {f : Mm} (hr : ∀ j, r32 (xs j)) (h1 : 0 ≤ w32 (x3 + 1) ∧ w32 (x3 + 1) < (Ln : Int)) (h2 : 0 ≤ w32 (x3 + 2) ∧ w32 (x3 + 2) < (Ln : Int)) (h3 : 0 ≤ w32 (x3 + 3) ∧ w32 (x3 + 3) < (Ln : Int)) (h4 : 0 ≤ w32 (x3 + 4) ∧ w32 (x3 + 4) < (Ln : Int)) (h5 : 0 ≤ w32 (x3 + 5) ∧ w32 (x3 + 5) < (Ln : Int)) (hI : Inv f) : ∃ h, Inv h ∧ FL_law_1482 Ln xs k18 x3 f = FL_law_2110 Ln xs k18 x3 h := by
  obtain ⟨v, g, h, e1, e2, h3i⟩ := o_rest (xs (w32 (x3 + 1)).toNat) f hI
  refine ⟨h, h3i, ?_⟩
  unfold FL_law_1482
  rw [if_pos h1, e1, b2_some, if_pos h1, e2, b2_some, if_pos rfl]
theorem L_1505 {Ln : Nat} {xs : Nat → Int} {k18 : Int → Mm → Option (Int × Mm)} {x3 : Int} {f : Mm} (hr : ∀ j, r32 (xs j)) (h1 : 0 ≤ w32 (x3 + 1) ∧ w32 (x3 + 1) < (Ln : Int)) (h2 : 0 ≤ w32 (x3 + 2) ∧ w32 (x3 + 2) < (Ln : Int)) (h3 : 0 ≤ w32 (x3 + 3) ∧ w32 (x3 + 3) < (Ln : Int)) (h4 : 0 ≤ w32 (x3 + 4) ∧ w32 (x3 + 4) < (Ln : Int)) (h5 : 0 ≤ w32 (x3 + 5) ∧ w32 (x3 + 5) < (Ln : Int)) (hI : Inv f) : ∃ h, Inv h ∧ FL_law_1505 Ln xs k18 x3 f = FL_law_2110 Ln xs k18 x3 h := by
  obtain ⟨v, g, h, e1, e2, h3i⟩ := o_has (xs (w32 (x3 + 1)).toNat) (xs (w32 (x3 + 2)).toNat) (xs (w32 (x3 + 3)).toNat) (xs (w32 (x3 + 4)).toNat) f hI
  refine ⟨h, h3i, ?_⟩
  unfold FL_law_1505
  rw [if_pos h1, if_pos h2, if_pos h3, if_pos h4, e1, b2_some, if_pos h1, if_pos h2, if_pos h3, if_pos h4, e2, b2_some, if_pos rfl]
theorem L_1558 {Ln : Nat} {xs : Nat → Int} {k18 : Int → Mm → Option (Int × Mm)} {x3 : Int} {f : Mm} (hr : ∀ j, r32 (xs j)) (h1 : 0 ≤ w32 (x3 + 1) ∧ w32 (x3 + 1) < (Ln : Int)) (h2 : 0 ≤ w32 (x3 + 2) ∧ w32 (x3 + 2) < (Ln : Int)) (h3 : 0 ≤ w32 (x3 + 3) ∧ w32 (x3 + 3) < (Ln : Int)) (h4 : 0 ≤ w32 (x3 + 4) ∧ w32 (x3 + 4) < (Ln : Int)) (h5 : 0 ≤ w32 (x3 + 5) ∧ w32 (x3 + 5) < (Ln : Int)) (hI : Inv f) : ∃ h, Inv h ∧ FL_law_1558 Ln xs k18 x3 f = FL_law_2110 Ln xs k18 x3 h := by
  obtain ⟨v, g, h, e1, e2, h3i⟩ := o_fair (xs (w32 (x3 + 1)).toNat) f hI
  refine ⟨h, h3i, ?_⟩
  unfold FL_law_1558
  rw [if_pos h1, e1, b2_some, if_pos h1, e2, b2_some, if_pos rfl]
theorem L_1581 {Ln : Nat} {xs : Nat → Int} {k18 : Int → Mm → Option (Int × Mm)} {x3 : Int} {f : Mm} (hr : ∀ j, r32 (xs j)) (h1 : 0 ≤ w32 (x3 + 1) ∧ w32 (x3 + 1) < (Ln : Int)) (h2 : 0 ≤ w32 (x3 + 2) ∧ w32 (x3 + 2) < (Ln : Int)) (h3 : 0 ≤ w32 (x3 + 3) ∧ w32 (x3 + 3) < (Ln : Int)) (h4 : 0 ≤ w32 (x3 + 4) ∧ w32 (x3 + 4) < (Ln : Int)) (h5 : 0 ≤ w32 (x3 + 5) ∧ w32 (x3 + 5) < (Ln : Int)) (hI : Inv f) : ∃ h, Inv h ∧ FL_law_1581 Ln xs k18 x3 f = FL_law_2110 Ln xs k18 x3 h := by
  obtain ⟨v, g, h, e1, e2, h3i⟩ := o_leave (xs (w32 (x3 + 1)).toNat) f hI
  refine ⟨h, h3i, ?_⟩
  unfold FL_law_1581
  rw [if_pos h1, e1, b2_some, if_pos h1, e2, b2_some, if_pos rfl]
theorem L_1604 {Ln : Nat} {xs : Nat → Int} {k18 : Int → Mm → Option (Int × Mm)} {x3 : Int} {f : Mm} (hr : ∀ j, r32 (xs j)) (h1 : 0 ≤ w32 (x3 + 1) ∧ w32 (x3 + 1) < (Ln : Int)) (h2 : 0 ≤ w32 (x3 + 2) ∧ w32 (x3 + 2) < (Ln : Int)) (h3 : 0 ≤ w32 (x3 + 3) ∧ w32 (x3 + 3) < (Ln : Int)) (h4 : 0 ≤ w32 (x3 + 4) ∧ w32 (x3 + 4) < (Ln : Int)) (h5 : 0 ≤ w32 (x3 + 5) ∧ w32 (x3 + 5) < (Ln : Int)) (hI : Inv f) : ∃ h, Inv h ∧ FL_law_1604 Ln xs k18 x3 f = FL_law_2110 Ln xs k18 x3 h := by
  obtain ⟨v, g, h, e1, e2, h3i⟩ := o_chance (xs (w32 (x3 + 1)).toNat) (xs (w32 (x3 + 2)).toNat) (xs (w32 (x3 + 3)).toNat) f hI
  refine ⟨h, h3i, ?_⟩
  unfold FL_law_1604
  rw [if_pos h1, if_pos h2, if_pos h3, e1, b2_some, if_pos h1, if_pos h2, if_pos h3, e2, b2_some, if_pos (show cmp3 v v = 0 by unfold cmp3; rw [if_neg (Int.lt_irrefl v), if_pos rfl])]
theorem L_1648 {Ln : Nat} {xs : Nat → Int} {k18 : Int → Mm → Option (Int × Mm)} {x3 : Int} {f : Mm} (hr : ∀ j, r32 (xs j)) (h1 : 0 ≤ w32 (x3 + 1) ∧ w32 (x3 + 1) < (Ln : Int)) (h2 : 0 ≤ w32 (x3 + 2) ∧ w32 (x3 + 2) < (Ln : Int)) (h3 : 0 ≤ w32 (x3 + 3) ∧ w32 (x3 + 3) < (Ln : Int)) (h4 : 0 ≤ w32 (x3 + 4) ∧ w32 (x3 + 4) < (Ln : Int)) (h5 : 0 ≤ w32 (x3 + 5) ∧ w32 (x3 + 5) < (Ln : Int)) (hI : Inv f) : ∃ h, Inv h ∧ FL_law_1648 Ln xs k18 x3 f = FL_law_2110 Ln xs k18 x3 h := by
  obtain ⟨v, g, h, e1, e2, h3i⟩ := o_when (xs (w32 (x3 + 1)).toNat) f hI
  refine ⟨h, h3i, ?_⟩
  unfold FL_law_1648
  rw [if_pos h1, e1, b2_some, if_pos h1, e2, b2_some, if_pos rfl]
theorem L_1671 {Ln : Nat} {xs : Nat → Int} {k18 : Int → Mm → Option (Int × Mm)} {x3 : Int} {f : Mm} (hr : ∀ j, r32 (xs j)) (h1 : 0 ≤ w32 (x3 + 1) ∧ w32 (x3 + 1) < (Ln : Int)) (h2 : 0 ≤ w32 (x3 + 2) ∧ w32 (x3 + 2) < (Ln : Int)) (h3 : 0 ≤ w32 (x3 + 3) ∧ w32 (x3 + 3) < (Ln : Int)) (h4 : 0 ≤ w32 (x3 + 4) ∧ w32 (x3 + 4) < (Ln : Int)) (h5 : 0 ≤ w32 (x3 + 5) ∧ w32 (x3 + 5) < (Ln : Int)) (hI : Inv f) : ∃ h, Inv h ∧ FL_law_1671 Ln xs k18 x3 f = FL_law_2110 Ln xs k18 x3 h := by
  obtain ⟨v, g, h, e1, e2, h3i⟩ := o_drawn (xs (w32 (x3 + 1)).toNat) (xs (w32 (x3 + 2)).toNat) f hI
  refine ⟨h, h3i, ?_⟩
  unfold FL_law_1671
  rw [if_pos h1, if_pos h2, e1, b2_some, if_pos h1, if_pos h2, e2, b2_some, if_pos rfl]
theorem L_1704 {Ln : Nat} {xs : Nat → Int} {k18 : Int → Mm → Option (Int × Mm)} {x3 : Int} {f : Mm} (hr : ∀ j, r32 (xs j)) (h1 : 0 ≤ w32 (x3 + 1) ∧ w32 (x3 + 1) < (Ln : Int)) (h2 : 0 ≤ w32 (x3 + 2) ∧ w32 (x3 + 2) < (Ln : Int)) (h3 : 0 ≤ w32 (x3 + 3) ∧ w32 (x3 + 3) < (Ln : Int)) (h4 : 0 ≤ w32 (x3 + 4) ∧ w32 (x3 + 4) < (Ln : Int)) (h5 : 0 ≤ w32 (x3 + 5) ∧ w32 (x3 + 5) < (Ln : Int)) (hI : Inv f) : ∃ h, Inv h ∧ FL_law_1704 Ln xs k18 x3 f = FL_law_2110 Ln xs k18 x3 h := by
  obtain ⟨v, g, h, e1, e2, h3i⟩ := o_luck (xs (w32 (x3 + 1)).toNat) (xs (w32 (x3 + 2)).toNat) (xs (w32 (x3 + 3)).toNat) f hI
  refine ⟨h, h3i, ?_⟩
  unfold FL_law_1704
  rw [if_pos h1, if_pos h2, if_pos h3, e1, b2_some, if_pos h1, if_pos h2, if_pos h3, e2, b2_some, if_pos rfl]
theorem L_1747 {Ln : Nat} {xs : Nat → Int} {k18 : Int → Mm → Option (Int × Mm)} {x3 : Int} {f : Mm} (hr : ∀ j, r32 (xs j)) (h1 : 0 ≤ w32 (x3 + 1) ∧ w32 (x3 + 1) < (Ln : Int)) (h2 : 0 ≤ w32 (x3 + 2) ∧ w32 (x3 + 2) < (Ln : Int)) (h3 : 0 ≤ w32 (x3 + 3) ∧ w32 (x3 + 3) < (Ln : Int)) (h4 : 0 ≤ w32 (x3 + 4) ∧ w32 (x3 + 4) < (Ln : Int)) (h5 : 0 ≤ w32 (x3 + 5) ∧ w32 (x3 + 5) < (Ln : Int)) (hI : Inv f) : ∃ h, Inv h ∧ FL_law_1747 Ln xs k18 x3 f = FL_law_2110 Ln xs k18 x3 h := by
  obtain ⟨v, g, h, e1, e2, h3i⟩ := o_does (xs (w32 (x3 + 1)).toNat) (xs (w32 (x3 + 2)).toNat) f hI
  refine ⟨h, h3i, ?_⟩
  unfold FL_law_1747
  rw [if_pos h1, if_pos h2, e1, b2_some, if_pos h1, if_pos h2, e2, b2_some, if_pos rfl]
theorem L_1780 {Ln : Nat} {xs : Nat → Int} {k18 : Int → Mm → Option (Int × Mm)} {x3 : Int} {f : Mm} (hr : ∀ j, r32 (xs j)) (h1 : 0 ≤ w32 (x3 + 1) ∧ w32 (x3 + 1) < (Ln : Int)) (h2 : 0 ≤ w32 (x3 + 2) ∧ w32 (x3 + 2) < (Ln : Int)) (h3 : 0 ≤ w32 (x3 + 3) ∧ w32 (x3 + 3) < (Ln : Int)) (h4 : 0 ≤ w32 (x3 + 4) ∧ w32 (x3 + 4) < (Ln : Int)) (h5 : 0 ≤ w32 (x3 + 5) ∧ w32 (x3 + 5) < (Ln : Int)) (hI : Inv f) : ∃ h, Inv h ∧ FL_law_1780 Ln xs k18 x3 f = FL_law_2110 Ln xs k18 x3 h := by
  obtain ⟨v, g, h, e1, e2, h3i⟩ := o_undo  f hI
  refine ⟨h, h3i, ?_⟩
  unfold FL_law_1780
  rw [e1, b2_some, e2, b2_some, if_pos rfl]
theorem L_1793 {Ln : Nat} {xs : Nat → Int} {k18 : Int → Mm → Option (Int × Mm)} {x3 : Int} {f : Mm} (hr : ∀ j, r32 (xs j)) (h1 : 0 ≤ w32 (x3 + 1) ∧ w32 (x3 + 1) < (Ln : Int)) (h2 : 0 ≤ w32 (x3 + 2) ∧ w32 (x3 + 2) < (Ln : Int)) (h3 : 0 ≤ w32 (x3 + 3) ∧ w32 (x3 + 3) < (Ln : Int)) (h4 : 0 ≤ w32 (x3 + 4) ∧ w32 (x3 + 4) < (Ln : Int)) (h5 : 0 ≤ w32 (x3 + 5) ∧ w32 (x3 + 5) < (Ln : Int)) (hI : Inv f) : ∃ h, Inv h ∧ FL_law_1793 Ln xs k18 x3 f = FL_law_2110 Ln xs k18 x3 h := by
  obtain ⟨v, g, h, e1, e2, h3i⟩ := o_anew  f hI
  refine ⟨h, h3i, ?_⟩
  unfold FL_law_1793
  rw [e1, b2_some, e2, b2_some, if_pos rfl]
theorem L_1806 {Ln : Nat} {xs : Nat → Int} {k18 : Int → Mm → Option (Int × Mm)} {x3 : Int} {f : Mm} (hr : ∀ j, r32 (xs j)) (h1 : 0 ≤ w32 (x3 + 1) ∧ w32 (x3 + 1) < (Ln : Int)) (h2 : 0 ≤ w32 (x3 + 2) ∧ w32 (x3 + 2) < (Ln : Int)) (h3 : 0 ≤ w32 (x3 + 3) ∧ w32 (x3 + 3) < (Ln : Int)) (h4 : 0 ≤ w32 (x3 + 4) ∧ w32 (x3 + 4) < (Ln : Int)) (h5 : 0 ≤ w32 (x3 + 5) ∧ w32 (x3 + 5) < (Ln : Int)) (hI : Inv f) : ∃ h, Inv h ∧ FL_law_1806 Ln xs k18 x3 f = FL_law_2110 Ln xs k18 x3 h := by
  obtain ⟨v, g, h, e1, e2, h3i⟩ := o_done (xs (w32 (x3 + 1)).toNat) f hI
  refine ⟨h, h3i, ?_⟩
  unfold FL_law_1806
  rw [if_pos h1, e1, b2_some, if_pos h1, e2, b2_some, if_pos rfl]
theorem L_1829 {Ln : Nat} {xs : Nat → Int} {k18 : Int → Mm → Option (Int × Mm)} {x3 : Int} {f : Mm} (hr : ∀ j, r32 (xs j)) (h1 : 0 ≤ w32 (x3 + 1) ∧ w32 (x3 + 1) < (Ln : Int)) (h2 : 0 ≤ w32 (x3 + 2) ∧ w32 (x3 + 2) < (Ln : Int)) (h3 : 0 ≤ w32 (x3 + 3) ∧ w32 (x3 + 3) < (Ln : Int)) (h4 : 0 ≤ w32 (x3 + 4) ∧ w32 (x3 + 4) < (Ln : Int)) (h5 : 0 ≤ w32 (x3 + 5) ∧ w32 (x3 + 5) < (Ln : Int)) (hI : Inv f) : ∃ h, Inv h ∧ FL_law_1829 Ln xs k18 x3 f = FL_law_2110 Ln xs k18 x3 h := by
  obtain ⟨v, g, h, e1, e2, h3i⟩ := o_rate (xs (w32 (x3 + 1)).toNat) (xs (w32 (x3 + 2)).toNat) f hI
  refine ⟨h, h3i, ?_⟩
  unfold FL_law_1829
  rw [if_pos h1, if_pos h2, e1, b2_some, if_pos h1, if_pos h2, e2, b2_some, if_pos rfl]
theorem L_1862 {Ln : Nat} {xs : Nat → Int} {k18 : Int → Mm → Option (Int × Mm)} {x3 : Int} {f : Mm} (hr : ∀ j, r32 (xs j)) (h1 : 0 ≤ w32 (x3 + 1) ∧ w32 (x3 + 1) < (Ln : Int)) (h2 : 0 ≤ w32 (x3 + 2) ∧ w32 (x3 + 2) < (Ln : Int)) (h3 : 0 ≤ w32 (x3 + 3) ∧ w32 (x3 + 3) < (Ln : Int)) (h4 : 0 ≤ w32 (x3 + 4) ∧ w32 (x3 + 4) < (Ln : Int)) (h5 : 0 ≤ w32 (x3 + 5) ∧ w32 (x3 + 5) < (Ln : Int)) (hI : Inv f) : ∃ h, Inv h ∧ FL_law_1862 Ln xs k18 x3 f = FL_law_2110 Ln xs k18 x3 h := by
  obtain ⟨v, g, h, e1, e2, h3i⟩ := o_count (xs (w32 (x3 + 1)).toNat) f hI
  refine ⟨h, h3i, ?_⟩
  unfold FL_law_1862
  rw [if_pos h1, e1, b2_some, if_pos h1, e2, b2_some, if_pos rfl]
theorem L_1885 {Ln : Nat} {xs : Nat → Int} {k18 : Int → Mm → Option (Int × Mm)} {x3 : Int} {f : Mm} (hr : ∀ j, r32 (xs j)) (h1 : 0 ≤ w32 (x3 + 1) ∧ w32 (x3 + 1) < (Ln : Int)) (h2 : 0 ≤ w32 (x3 + 2) ∧ w32 (x3 + 2) < (Ln : Int)) (h3 : 0 ≤ w32 (x3 + 3) ∧ w32 (x3 + 3) < (Ln : Int)) (h4 : 0 ≤ w32 (x3 + 4) ∧ w32 (x3 + 4) < (Ln : Int)) (h5 : 0 ≤ w32 (x3 + 5) ∧ w32 (x3 + 5) < (Ln : Int)) (hI : Inv f) : ∃ h, Inv h ∧ FL_law_1885 Ln xs k18 x3 f = FL_law_2110 Ln xs k18 x3 h := by
  obtain ⟨v, g, h, e1, e2, h3i⟩ := o_image (xs (w32 (x3 + 1)).toNat) f hI
  refine ⟨h, h3i, ?_⟩
  unfold FL_law_1885
  rw [if_pos h1, e1, b2_some, if_pos h1, e2, b2_some, if_pos rfl]
theorem L_1908 {Ln : Nat} {xs : Nat → Int} {k18 : Int → Mm → Option (Int × Mm)} {x3 : Int} {f : Mm} (hr : ∀ j, r32 (xs j)) (h1 : 0 ≤ w32 (x3 + 1) ∧ w32 (x3 + 1) < (Ln : Int)) (h2 : 0 ≤ w32 (x3 + 2) ∧ w32 (x3 + 2) < (Ln : Int)) (h3 : 0 ≤ w32 (x3 + 3) ∧ w32 (x3 + 3) < (Ln : Int)) (h4 : 0 ≤ w32 (x3 + 4) ∧ w32 (x3 + 4) < (Ln : Int)) (h5 : 0 ≤ w32 (x3 + 5) ∧ w32 (x3 + 5) < (Ln : Int)) (hI : Inv f) : ∃ h, Inv h ∧ FL_law_1908 Ln xs k18 x3 f = FL_law_2110 Ln xs k18 x3 h := by
  obtain ⟨v, g, h, e1, e2, h3i⟩ := o_back (xs (w32 (x3 + 1)).toNat) f hI
  refine ⟨h, h3i, ?_⟩
  unfold FL_law_1908
  rw [if_pos h1, e1, b2_some, if_pos h1, e2, b2_some, if_pos rfl]
theorem L_1931 {Ln : Nat} {xs : Nat → Int} {k18 : Int → Mm → Option (Int × Mm)} {x3 : Int} {f : Mm} (hr : ∀ j, r32 (xs j)) (h1 : 0 ≤ w32 (x3 + 1) ∧ w32 (x3 + 1) < (Ln : Int)) (h2 : 0 ≤ w32 (x3 + 2) ∧ w32 (x3 + 2) < (Ln : Int)) (h3 : 0 ≤ w32 (x3 + 3) ∧ w32 (x3 + 3) < (Ln : Int)) (h4 : 0 ≤ w32 (x3 + 4) ∧ w32 (x3 + 4) < (Ln : Int)) (h5 : 0 ≤ w32 (x3 + 5) ∧ w32 (x3 + 5) < (Ln : Int)) (hI : Inv f) : ∃ h, Inv h ∧ FL_law_1931 Ln xs k18 x3 f = FL_law_2110 Ln xs k18 x3 h := by
  obtain ⟨v, g, h, e1, e2, h3i⟩ := o_row (xs (w32 (x3 + 1)).toNat) (xs (w32 (x3 + 2)).toNat) (xs (w32 (x3 + 3)).toNat) f hI
  refine ⟨h, h3i, ?_⟩
  unfold FL_law_1931
  rw [if_pos h1, if_pos h2, if_pos h3, e1, b2_some, if_pos h1, if_pos h2, if_pos h3, e2, b2_some, if_pos rfl]
theorem L_1974 {Ln : Nat} {xs : Nat → Int} {k18 : Int → Mm → Option (Int × Mm)} {x3 : Int} {f : Mm} (hr : ∀ j, r32 (xs j)) (h1 : 0 ≤ w32 (x3 + 1) ∧ w32 (x3 + 1) < (Ln : Int)) (h2 : 0 ≤ w32 (x3 + 2) ∧ w32 (x3 + 2) < (Ln : Int)) (h3 : 0 ≤ w32 (x3 + 3) ∧ w32 (x3 + 3) < (Ln : Int)) (h4 : 0 ≤ w32 (x3 + 4) ∧ w32 (x3 + 4) < (Ln : Int)) (h5 : 0 ≤ w32 (x3 + 5) ∧ w32 (x3 + 5) < (Ln : Int)) (hI : Inv f) : ∃ h, Inv h ∧ FL_law_1974 Ln xs k18 x3 f = FL_law_2110 Ln xs k18 x3 h := by
  obtain ⟨v, g, h, e1, e2, h3i⟩ := o_write (xs (w32 (x3 + 1)).toNat) (xs (w32 (x3 + 2)).toNat) (lOr (lShl (xs (w32 (x3 + 3)).toNat) 32) (lAnd (xs (w32 (x3 + 4)).toNat) 4294967295)) f hI
  refine ⟨h, h3i, ?_⟩
  unfold FL_law_1974
  rw [if_pos h1, if_pos h2, if_pos h3, if_pos h4, e1, b2_some, if_pos h1, if_pos h2, if_pos h3, if_pos h4, e2, b2_some, if_pos rfl]
theorem L_2047 {Ln : Nat} {xs : Nat → Int} {k18 : Int → Mm → Option (Int × Mm)} {x3 : Int} {f : Mm} (hr : ∀ j, r32 (xs j)) (h1 : 0 ≤ w32 (x3 + 1) ∧ w32 (x3 + 1) < (Ln : Int)) (h2 : 0 ≤ w32 (x3 + 2) ∧ w32 (x3 + 2) < (Ln : Int)) (h3 : 0 ≤ w32 (x3 + 3) ∧ w32 (x3 + 3) < (Ln : Int)) (h4 : 0 ≤ w32 (x3 + 4) ∧ w32 (x3 + 4) < (Ln : Int)) (h5 : 0 ≤ w32 (x3 + 5) ∧ w32 (x3 + 5) < (Ln : Int)) (hI : Inv f) : ∃ h, Inv h ∧ FL_law_2047 Ln xs k18 x3 f = FL_law_2110 Ln xs k18 x3 h := by
  obtain ⟨v, g, h, e1, e2, h3i⟩ := o_paste (xs (w32 (x3 + 1)).toNat) (xs (w32 (x3 + 2)).toNat) (xs (w32 (x3 + 3)).toNat) (xs (w32 (x3 + 4)).toNat) (xs (w32 (x3 + 5)).toNat) (hr _) (hr _) (hr _) f hI
  refine ⟨h, h3i, ?_⟩
  unfold FL_law_2047
  rw [if_pos h1, if_pos h2, if_pos h3, if_pos h4, if_pos h5, e1, b2_some, if_pos h1, if_pos h2, if_pos h3, if_pos h4, if_pos h5, e2, b2_some, if_pos rfl]
theorem law_s {Ln : Nat} {xs : Nat → Int} {x3 : Int} {f : Mm} {n : Nat} (hr : ∀ j, r32 (xs j)) (h0 : 0 ≤ x3 ∧ x3 < (Ln : Int)) (hn : ¬ w32 ((Ln : Int) - 6) < x3) (h1 : 0 ≤ w32 (x3 + 1) ∧ w32 (x3 + 1) < (Ln : Int)) (h2 : 0 ≤ w32 (x3 + 2) ∧ w32 (x3 + 2) < (Ln : Int)) (h3 : 0 ≤ w32 (x3 + 3) ∧ w32 (x3 + 3) < (Ln : Int)) (h4 : 0 ≤ w32 (x3 + 4) ∧ w32 (x3 + 4) < (Ln : Int)) (h5 : 0 ≤ w32 (x3 + 5) ∧ w32 (x3 + 5) < (Ln : Int)) (hI : Inv f) : ∃ h, Inv h ∧ FL_law_18 Ln xs (n + 1) x3 f = FL_law_2110 Ln xs (FL_law_18 Ln xs n) x3 h := by
  rw [FL_law_18, if_neg hn, if_pos h0]
  generalize bAnd (xs x3.toNat) 127 = t
  by_cases c0 : t = 0
  · rw [if_pos c0]; exact L_340 hr h1 h2 h3 h4 h5 hI
  rw [if_neg c0]
  by_cases c1 : t = 1
  · rw [if_pos c1]; exact L_403 hr h1 h2 h3 h4 h5 hI
  rw [if_neg c1]
  by_cases c2 : t = 2
  · rw [if_pos c2]; exact L_426 hr h1 h2 h3 h4 h5 hI
  rw [if_neg c2]
  by_cases c3 : t = 3
  · rw [if_pos c3]; exact L_439 hr h1 h2 h3 h4 h5 hI
  rw [if_neg c3]
  by_cases c4 : t = 4
  · rw [if_pos c4]; exact L_462 hr h1 h2 h3 h4 h5 hI
  rw [if_neg c4]
  by_cases c5 : t = 5
  · rw [if_pos c5]; exact L_495 hr h1 h2 h3 h4 h5 hI
  rw [if_neg c5]
  by_cases c6 : t = 6
  · rw [if_pos c6]; exact L_528 hr h1 h2 h3 h4 h5 hI
  rw [if_neg c6]
  by_cases c7 : t = 7
  · rw [if_pos c7]; exact L_561 hr h1 h2 h3 h4 h5 hI
  rw [if_neg c7]
  by_cases c8 : t = 8
  · rw [if_pos c8]; exact L_584 hr h1 h2 h3 h4 h5 hI
  rw [if_neg c8]
  by_cases c9 : t = 9
  · rw [if_pos c9]; exact L_597 hr h1 h2 h3 h4 h5 hI
  rw [if_neg c9]
  by_cases c10 : t = 10
  · rw [if_pos c10]; exact L_610 hr h1 h2 h3 h4 h5 hI
  rw [if_neg c10]
  by_cases c11 : t = 11
  · rw [if_pos c11]; exact L_633 hr h1 h2 h3 h4 h5 hI
  rw [if_neg c11]
  by_cases c12 : t = 12
  · rw [if_pos c12]; exact L_656 hr h1 h2 h3 h4 h5 hI
  rw [if_neg c12]
  by_cases c13 : t = 13
  · rw [if_pos c13]; exact L_679 hr h1 h2 h3 h4 h5 hI
  rw [if_neg c13]
  by_cases c14 : t = 14
  · rw [if_pos c14]; exact L_702 hr h1 h2 h3 h4 h5 hI
  rw [if_neg c14]
  by_cases c15 : t = 15
  · rw [if_pos c15]; exact L_715 hr h1 h2 h3 h4 h5 hI
  rw [if_neg c15]
  by_cases c16 : t = 16
  · rw [if_pos c16]; exact L_728 hr h1 h2 h3 h4 h5 hI
  rw [if_neg c16]
  by_cases c17 : t = 17
  · rw [if_pos c17]; exact L_741 hr h1 h2 h3 h4 h5 hI
  rw [if_neg c17]
  by_cases c18 : t = 18
  · rw [if_pos c18]; exact L_754 hr h1 h2 h3 h4 h5 hI
  rw [if_neg c18]
  by_cases c19 : t = 19
  · rw [if_pos c19]; exact L_767 hr h1 h2 h3 h4 h5 hI
  rw [if_neg c19]
  by_cases c20 : t = 20
  · rw [if_pos c20]; exact L_780 hr h1 h2 h3 h4 h5 hI
  rw [if_neg c20]
  by_cases c21 : t = 21
  · rw [if_pos c21]; exact L_803 hr h1 h2 h3 h4 h5 hI
  rw [if_neg c21]
  by_cases c22 : t = 22
  · rw [if_pos c22]; exact L_816 hr h1 h2 h3 h4 h5 hI
  rw [if_neg c22]
  by_cases c23 : t = 23
  · rw [if_pos c23]; exact L_829 hr h1 h2 h3 h4 h5 hI
  rw [if_neg c23]
  by_cases c24 : t = 24
  · rw [if_pos c24]; exact L_852 hr h1 h2 h3 h4 h5 hI
  rw [if_neg c24]
  by_cases c25 : t = 25
  · rw [if_pos c25]; exact L_865 hr h1 h2 h3 h4 h5 hI
  rw [if_neg c25]
  by_cases c26 : t = 26
  · rw [if_pos c26]; exact L_878 hr h1 h2 h3 h4 h5 hI
  rw [if_neg c26]
  by_cases c27 : t = 27
  · rw [if_pos c27]; exact L_891 hr h1 h2 h3 h4 h5 hI
  rw [if_neg c27]
  by_cases c28 : t = 28
  · rw [if_pos c28]; exact L_914 hr h1 h2 h3 h4 h5 hI
  rw [if_neg c28]
  by_cases c29 : t = 29
  · rw [if_pos c29]; exact L_937 hr h1 h2 h3 h4 h5 hI
  rw [if_neg c29]
  by_cases c30 : t = 30
  · rw [if_pos c30]; exact L_960 hr h1 h2 h3 h4 h5 hI
  rw [if_neg c30]
  by_cases c31 : t = 31
  · rw [if_pos c31]; exact L_983 hr h1 h2 h3 h4 h5 hI
  rw [if_neg c31]
  by_cases c32 : t = 32
  · rw [if_pos c32]; exact L_1006 hr h1 h2 h3 h4 h5 hI
  rw [if_neg c32]
  by_cases c33 : t = 33
  · rw [if_pos c33]; exact L_1019 hr h1 h2 h3 h4 h5 hI
  rw [if_neg c33]
  by_cases c34 : t = 34
  · rw [if_pos c34]; exact L_1042 hr h1 h2 h3 h4 h5 hI
  rw [if_neg c34]
  by_cases c35 : t = 35
  · rw [if_pos c35]; exact L_1065 hr h1 h2 h3 h4 h5 hI
  rw [if_neg c35]
  by_cases c36 : t = 36
  · rw [if_pos c36]; exact L_1098 hr h1 h2 h3 h4 h5 hI
  rw [if_neg c36]
  by_cases c37 : t = 37
  · rw [if_pos c37]; exact L_1121 hr h1 h2 h3 h4 h5 hI
  rw [if_neg c37]
  by_cases c38 : t = 38
  · rw [if_pos c38]; exact L_1144 hr h1 h2 h3 h4 h5 hI
  rw [if_neg c38]
  by_cases c39 : t = 39
  · rw [if_pos c39]; exact L_1157 hr h1 h2 h3 h4 h5 hI
  rw [if_neg c39]
  by_cases c40 : t = 40
  · rw [if_pos c40]; exact L_1180 hr h1 h2 h3 h4 h5 hI
  rw [if_neg c40]
  by_cases c41 : t = 41
  · rw [if_pos c41]; exact L_1203 hr h1 h2 h3 h4 h5 hI
  rw [if_neg c41]
  by_cases c42 : t = 42
  · rw [if_pos c42]; exact L_1226 hr h1 h2 h3 h4 h5 hI
  rw [if_neg c42]
  by_cases c43 : t = 43
  · rw [if_pos c43]; exact L_1249 hr h1 h2 h3 h4 h5 hI
  rw [if_neg c43]
  by_cases c44 : t = 44
  · rw [if_pos c44]; exact L_1262 hr h1 h2 h3 h4 h5 hI
  rw [if_neg c44]
  by_cases c45 : t = 45
  · rw [if_pos c45]; exact L_1285 hr h1 h2 h3 h4 h5 hI
  rw [if_neg c45]
  by_cases c46 : t = 46
  · rw [if_pos c46]; exact L_1298 hr h1 h2 h3 h4 h5 hI
  rw [if_neg c46]
  by_cases c47 : t = 47
  · rw [if_pos c47]; exact L_1321 hr h1 h2 h3 h4 h5 hI
  rw [if_neg c47]
  by_cases c48 : t = 48
  · rw [if_pos c48]; exact L_1344 hr h1 h2 h3 h4 h5 hI
  rw [if_neg c48]
  by_cases c49 : t = 49
  · rw [if_pos c49]; exact L_1367 hr h1 h2 h3 h4 h5 hI
  rw [if_neg c49]
  by_cases c50 : t = 50
  · rw [if_pos c50]; exact L_1390 hr h1 h2 h3 h4 h5 hI
  rw [if_neg c50]
  by_cases c51 : t = 51
  · rw [if_pos c51]; exact L_1413 hr h1 h2 h3 h4 h5 hI
  rw [if_neg c51]
  by_cases c52 : t = 52
  · rw [if_pos c52]; exact L_1436 hr h1 h2 h3 h4 h5 hI
  rw [if_neg c52]
  by_cases c53 : t = 53
  · rw [if_pos c53]; exact L_1459 hr h1 h2 h3 h4 h5 hI
  rw [if_neg c53]
  by_cases c54 : t = 54
  · rw [if_pos c54]; exact L_1482 hr h1 h2 h3 h4 h5 hI
  rw [if_neg c54]
  by_cases c55 : t = 55
  · rw [if_pos c55]; exact L_1505 hr h1 h2 h3 h4 h5 hI
  rw [if_neg c55]
  by_cases c56 : t = 56
  · rw [if_pos c56]; exact L_1558 hr h1 h2 h3 h4 h5 hI
  rw [if_neg c56]
  by_cases c57 : t = 57
  · rw [if_pos c57]; exact L_1581 hr h1 h2 h3 h4 h5 hI
  rw [if_neg c57]
  by_cases c58 : t = 58
  · rw [if_pos c58]; exact L_1604 hr h1 h2 h3 h4 h5 hI
  rw [if_neg c58]
  by_cases c59 : t = 59
  · rw [if_pos c59]; exact L_1648 hr h1 h2 h3 h4 h5 hI
  rw [if_neg c59]
  by_cases c60 : t = 60
  · rw [if_pos c60]; exact L_1671 hr h1 h2 h3 h4 h5 hI
  rw [if_neg c60]
  by_cases c61 : t = 61
  · rw [if_pos c61]; exact L_1704 hr h1 h2 h3 h4 h5 hI
  rw [if_neg c61]
  by_cases c62 : t = 62
  · rw [if_pos c62]; exact L_1747 hr h1 h2 h3 h4 h5 hI
  rw [if_neg c62]
  by_cases c63 : t = 63
  · rw [if_pos c63]; exact L_1780 hr h1 h2 h3 h4 h5 hI
  rw [if_neg c63]
  by_cases c64 : t = 64
  · rw [if_pos c64]; exact L_1793 hr h1 h2 h3 h4 h5 hI
  rw [if_neg c64]
  by_cases c65 : t = 65
  · rw [if_pos c65]; exact L_1806 hr h1 h2 h3 h4 h5 hI
  rw [if_neg c65]
  by_cases c66 : t = 66
  · rw [if_pos c66]; exact L_1829 hr h1 h2 h3 h4 h5 hI
  rw [if_neg c66]
  by_cases c67 : t = 67
  · rw [if_pos c67]; exact L_1862 hr h1 h2 h3 h4 h5 hI
  rw [if_neg c67]
  by_cases c68 : t = 68
  · rw [if_pos c68]; exact L_1885 hr h1 h2 h3 h4 h5 hI
  rw [if_neg c68]
  by_cases c69 : t = 69
  · rw [if_pos c69]; exact L_1908 hr h1 h2 h3 h4 h5 hI
  rw [if_neg c69]
  by_cases c70 : t = 70
  · rw [if_pos c70]; exact L_1931 hr h1 h2 h3 h4 h5 hI
  rw [if_neg c70]
  by_cases c71 : t = 71
  · rw [if_pos c71]; exact L_1974 hr h1 h2 h3 h4 h5 hI
  rw [if_neg c71]
  by_cases c72 : t = 72
  · rw [if_pos c72]; exact L_2047 hr h1 h2 h3 h4 h5 hI
  rw [if_neg c72]
  exact ⟨f, hI, rfl⟩
theorem law_l {Ln : Nat} {xs : Nat → Int} (hL : Ln ≤ 3072) (hr : ∀ j, r32 (xs j)) : ∀ (n i : Nat) (f : Mm), Inv f → 6 * i ≤ Ln → Ln < 6 * i + 6 * n → PL (FL_law_18 Ln xs n ((6 * i : Nat) : Int) f)
  | 0, i, f, _, h1, h2 => by omega
  | n + 1, i, f, hI, h1, h2 => by
    have hw : w32 ((Ln : Int) - 6) = (Ln : Int) - 6 := w32s (by omega) (by omega)
    by_cases q : w32 ((Ln : Int) - 6) < ((6 * i : Nat) : Int)
    · rw [FL_law_18, if_pos q]
      exact ⟨f, rfl⟩
    · have e : ∀ j : Nat, j < 7 → w32 (((6 * i : Nat) : Int) + (j : Int)) = ((6 * i + j : Nat) : Int) := fun j hj => w32n (by omega) (by omega)
      have b : ∀ j : Nat, j < 6 → 0 ≤ w32 (((6 * i : Nat) : Int) + (j : Int)) ∧ w32 (((6 * i : Nat) : Int) + (j : Int)) < (Ln : Int) := fun j hj => by
        rw [e j (by omega)]; omega
      obtain ⟨h, hI', e2⟩ := law_s (n := n) hr (show 0 ≤ ((6 * i : Nat) : Int) ∧ ((6 * i : Nat) : Int) < (Ln : Int) by omega) q (b 1 (by omega)) (b 2 (by omega)) (b 3 (by omega)) (b 4 (by omega)) (b 5 (by omega)) hI
      rw [e2]
      unfold FL_law_2110
      rw [show w32 (((6 * i : Nat) : Int) + 6) = ((6 * (i + 1) : Nat) : Int) from (e 6 (by omega)).trans (by omega)]
      exact law_l hL hr n (i + 1) h hI' (by omega) (by omega)
theorem fZ_0 {a j : Nat} (h : ¬ ((a = 1 ∧ j = 1) ∨ (a = 46 ∧ j < 4) ∨ (a = 150 ∧ j = 15) ∨ (a = 151 ∧ j < 4))) : fZ a j = 0 := by
  unfold fZ fA
  rw [up_n (by omega), up_n (by omega), up_n (by omega), up_n (by omega), up_n (by omega), up_n (by omega), up_n (by omega), up_n (by omega), up_n (by omega), up_n (by omega)]
  rfl
theorem fZ_1 : fZ 1 1 = -1 := by unfold fZ fA; decide
theorem fZ_15 : fZ 150 15 = -1 := by unfold fZ fA; decide
theorem fZ_46 : ∀ s, s < 4 → fZ 46 s = -1 := by unfold fZ fA; decide
theorem fZ_151 : ∀ s, s < 4 → fZ 151 s = -1 := by unfold fZ fA; decide
def Z00 : Mm := fun _ i => if i = 100 then -1 else 0
theorem Z00_s (s : Nat) : Z00 s 100 = -1 := by unfold Z00; rw [if_pos rfl]
theorem Inv_0 : Inv fZ := by
  refine ⟨B0, Z00, fun _ => 0, 0, ⟨WF_0, Or.inr ⟨rfl, fun j hj => fZ_0 (by omega)⟩, ⟨⟨fZ_0 (by omega), fZ_0 (by omega), fZ_0 (by omega), fZ_0 (by omega), fZ_0 (by omega), fZ_0 (by omega), fZ_0 (by omega), fZ_0 (by omega), fZ_0 (by omega)⟩, fun d hd => absurd hd (Nat.not_lt_zero d), fun c hc => absurd hc (Nat.not_lt_zero c), fun k hk => absurd hk (Nat.not_lt_zero k)⟩⟩, ⟨fZ_0 (by omega), fZ_0 (by omega)⟩, fun k hk => Or.inl ⟨fZ_0 (by omega), fZ_0 (by omega)⟩, ⟨fun s _ => Or.inl (Z00_s s), fun s hs => ⟨by rw [Z00_s]; exact fZ_46 s hs, fun q => absurd (Z00_s s) q⟩, fun s hs => ⟨fun _ => fZ_151 s hs, fun q => absurd (Z00_s s) q⟩⟩, ⟨by omega, ⟨fZ_0 (by omega), fun j hj => absurd hj (Nat.not_lt_zero j)⟩, ⟨fZ_0 (by omega), fun j hj => absurd hj (Nat.not_lt_zero j)⟩⟩, ?_, ?_⟩
  · rw [fZ_0 (by omega), fZ_0 (by omega)]
  · rw [fZ_1, fZ_15]
theorem pure_law : PureLaw := fun Ln xs hL hr => by
  unfold FL_law_16
  exact law_l hL hr fu 0 fZ Inv_0 (by omega) (by have := fub; omega)
