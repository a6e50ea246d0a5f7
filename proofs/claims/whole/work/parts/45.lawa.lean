def FL_law_2110 (Ln : Nat) (xs : Nat → Int) (k18 : Int → Mm → Option (Int × Mm)) (x3 : Int) (f : Mm) : Option (Int × Mm) := k18 (w32 (x3 + 6)) f
set_option maxHeartbeats 8000000 in
set_option maxRecDepth 100000 in
theorem SL_law_2110 {G : GT} {l : Launch} {Ln : Nat} {xs : Nat → Int} (hL : gL G = Ln) (hxs : ∀ j, (gX G j).toInt = xs j) {k18 : Int → Mm → Option (Int × Mm)} (q18 : ∀ (x3 : Int) (f : Mm), PL (k18 x3 f) → Ev G l ML_law room_1 (ZL G) 178 4676 18 [some (vR 100000), some (vR 0), some (vR 150), some (vI x3)] [] (SH, RF, f)) (x3 : Int) (f : Mm) (h : PL (FL_law_2110 Ln xs k18 x3 f)) : Ev G l ML_law room_1 (ZL G) 178 4676 2110 [some (vR 100000), some (vR 0), some (vR 150), some (vI x3)] [] (SH, RF, f) := by
  unfold FL_law_2110 at h
  refine ev_iinc (L' := [some (vR 100000), some (vR 0), some (vR 150), some (vI (w32 (x3 + 6)))]) dL_law_2110 rfl (by decide) rfl ?_
  refine ev_goto (tgt := 18) dL_law_2113 (by decide) ?_
  exact q18 (w32 (x3 + 6)) _ h
def FL_law_340 (Ln : Nat) (xs : Nat → Int) (k18 : Int → Mm → Option (Int × Mm)) (x3 : Int) (f : Mm) : Option (Int × Mm) := (if 0 ≤ (w32 (x3 + 1)) ∧ (w32 (x3 + 1)) < ((Ln : Nat) : Int) then (if 0 ≤ (w32 (x3 + 2)) ∧ (w32 (x3 + 2)) < ((Ln : Nat) : Int) then (if 0 ≤ (w32 (x3 + 3)) ∧ (w32 (x3 + 3)) < ((Ln : Nat) : Int) then (if 0 ≤ (w32 (x3 + 4)) ∧ (w32 (x3 + 4)) < ((Ln : Nat) : Int) then (if 0 ≤ (w32 (x3 + 5)) ∧ (w32 (x3 + 5)) < ((Ln : Nat) : Int) then (b2 (FX10_feed (xs (w32 (x3 + 1)).toNat) (xs (w32 (x3 + 2)).toNat) (xs (w32 (x3 + 3)).toNat) (xs (w32 (x3 + 4)).toNat) (xs (w32 (x3 + 5)).toNat) f) fun y6 f6 => (if 0 ≤ (w32 (x3 + 1)) ∧ (w32 (x3 + 1)) < ((Ln : Nat) : Int) then (if 0 ≤ (w32 (x3 + 2)) ∧ (w32 (x3 + 2)) < ((Ln : Nat) : Int) then (if 0 ≤ (w32 (x3 + 3)) ∧ (w32 (x3 + 3)) < ((Ln : Nat) : Int) then (if 0 ≤ (w32 (x3 + 4)) ∧ (w32 (x3 + 4)) < ((Ln : Nat) : Int) then (if 0 ≤ (w32 (x3 + 5)) ∧ (w32 (x3 + 5)) < ((Ln : Nat) : Int) then (b2 (FX11_feed (xs (w32 (x3 + 1)).toNat) (xs (w32 (x3 + 2)).toNat) (xs (w32 (x3 + 3)).toNat) (xs (w32 (x3 + 4)).toNat) (xs (w32 (x3 + 5)).toNat) f6) fun y12 f12 => (if y6 = y12 then FL_law_2110 Ln xs k18 x3 f12 else some (0, f12))) else none) else none) else none) else none) else none)) else none) else none) else none) else none) else none)
set_option maxHeartbeats 8000000 in
set_option maxRecDepth 100000 in
theorem SL_law_340 {G : GT} {l : Launch} {Ln : Nat} {xs : Nat → Int} (hL : gL G = Ln) (hxs : ∀ j, (gX G j).toInt = xs j) {k18 : Int → Mm → Option (Int × Mm)} (q18 : ∀ (x3 : Int) (f : Mm), PL (k18 x3 f) → Ev G l ML_law room_1 (ZL G) 178 4676 18 [some (vR 100000), some (vR 0), some (vR 150), some (vI x3)] [] (SH, RF, f)) (x3 : Int) (f : Mm) (h : PL (FL_law_340 Ln xs k18 x3 f)) : Ev G l ML_law room_1 (ZL G) 178 4676 340 [some (vR 100000), some (vR 0), some (vR 150), some (vI x3)] [] (SH, RF, f) := by
  unfold FL_law_340 at h
  refine ev_aload_n (i := 1) dL_law_340 rfl rfl ?_
  refine ev_aload_n (i := 0) dL_law_341 rfl rfl ?_
  refine ev_iload_n (i := 3) dL_law_342 rfl rfl ?_
  refine ev_iconst dL_law_343 (r32c rfl) ?_
  refine ev_iadd dL_law_344 ?_
  by_cases g1 : 0 ≤ (w32 (x3 + 1)) ∧ (w32 (x3 + 1)) < ((Ln : Nat) : Int)
  · rw [if_pos g1] at h
    refine ex_sld hL hxs dL_law_345 g1.1 g1.2 ?_
    refine ev_aload_n (i := 0) dL_law_346 rfl rfl ?_
    refine ev_iload_n (i := 3) dL_law_347 rfl rfl ?_
    refine ev_iconst dL_law_348 (r32c rfl) ?_
    refine ev_iadd dL_law_349 ?_
    by_cases g2 : 0 ≤ (w32 (x3 + 2)) ∧ (w32 (x3 + 2)) < ((Ln : Nat) : Int)
    · rw [if_pos g2] at h
      refine ex_sld hL hxs dL_law_350 g2.1 g2.2 ?_
      refine ev_aload_n (i := 0) dL_law_351 rfl rfl ?_
      refine ev_iload_n (i := 3) dL_law_352 rfl rfl ?_
      refine ev_iconst dL_law_353 (r32c rfl) ?_
      refine ev_iadd dL_law_354 ?_
      by_cases g3 : 0 ≤ (w32 (x3 + 3)) ∧ (w32 (x3 + 3)) < ((Ln : Nat) : Int)
      · rw [if_pos g3] at h
        refine ex_sld hL hxs dL_law_355 g3.1 g3.2 ?_
        refine ev_aload_n (i := 0) dL_law_356 rfl rfl ?_
        refine ev_iload_n (i := 3) dL_law_357 rfl rfl ?_
        refine ev_iconst dL_law_358 (r32c rfl) ?_
        refine ev_iadd dL_law_359 ?_
        by_cases g4 : 0 ≤ (w32 (x3 + 4)) ∧ (w32 (x3 + 4)) < ((Ln : Nat) : Int)
        · rw [if_pos g4] at h
          refine ex_sld hL hxs dL_law_360 g4.1 g4.2 ?_
          refine ev_aload_n (i := 0) dL_law_361 rfl rfl ?_
          refine ev_iload_n (i := 3) dL_law_362 rfl rfl ?_
          refine ev_iconst dL_law_363 (r32c rfl) ?_
          refine ev_iadd dL_law_364 ?_
          by_cases g5 : 0 ≤ (w32 (x3 + 5)) ∧ (w32 (x3 + 5)) < ((Ln : Nat) : Int)
          · rw [if_pos g5] at h
            refine ex_sld hL hxs dL_law_365 g5.1 g5.2 ?_
            refine ev_cVI (b := 0) (av := [vI (xs (w32 (x3 + 1)).toNat), vI (xs (w32 (x3 + 2)).toNat), vI (xs (w32 (x3 + 3)).toNat), vI (xs (w32 (x3 + 4)).toNat), vI (xs (w32 (x3 + 5)).toNat)]) (S := []) PLn h dL_law_366 (fun Q' q => TX10_feed (xs (w32 (x3 + 1)).toNat) (xs (w32 (x3 + 2)).toNat) (xs (w32 (x3 + 3)).toNat) (xs (w32 (x3 + 4)).toNat) (xs (w32 (x3 + 5)).toNat) _ q) kvX10_feed ml_L_13 sh_0 rfl (RRL (by decide) (by decide)) (Nat.le_of_ble_eq_true rfl) ⟨Nat.le_of_ble_eq_true rfl, Nat.le_of_ble_eq_true rfl⟩ (fun y6 f6 h => ?_)
            refine ev_aload_n (i := 2) dL_law_369 rfl rfl ?_
            refine ev_aload_n (i := 0) dL_law_370 rfl rfl ?_
            refine ev_iload_n (i := 3) dL_law_371 rfl rfl ?_
            refine ev_iconst dL_law_372 (r32c rfl) ?_
            refine ev_iadd dL_law_373 ?_
            by_cases g7 : 0 ≤ (w32 (x3 + 1)) ∧ (w32 (x3 + 1)) < ((Ln : Nat) : Int)
            · rw [if_pos g7] at h
              refine ex_sld hL hxs dL_law_374 g7.1 g7.2 ?_
              refine ev_aload_n (i := 0) dL_law_375 rfl rfl ?_
              refine ev_iload_n (i := 3) dL_law_376 rfl rfl ?_
              refine ev_iconst dL_law_377 (r32c rfl) ?_
              refine ev_iadd dL_law_378 ?_
              by_cases g8 : 0 ≤ (w32 (x3 + 2)) ∧ (w32 (x3 + 2)) < ((Ln : Nat) : Int)
              · rw [if_pos g8] at h
                refine ex_sld hL hxs dL_law_379 g8.1 g8.2 ?_
                refine ev_aload_n (i := 0) dL_law_380 rfl rfl ?_
                refine ev_iload_n (i := 3) dL_law_381 rfl rfl ?_
                refine ev_iconst dL_law_382 (r32c rfl) ?_
                refine ev_iadd dL_law_383 ?_
                by_cases g9 : 0 ≤ (w32 (x3 + 3)) ∧ (w32 (x3 + 3)) < ((Ln : Nat) : Int)
                · rw [if_pos g9] at h
                  refine ex_sld hL hxs dL_law_384 g9.1 g9.2 ?_
                  refine ev_aload_n (i := 0) dL_law_385 rfl rfl ?_
                  refine ev_iload_n (i := 3) dL_law_386 rfl rfl ?_
                  refine ev_iconst dL_law_387 (r32c rfl) ?_
                  refine ev_iadd dL_law_388 ?_
                  by_cases g10 : 0 ≤ (w32 (x3 + 4)) ∧ (w32 (x3 + 4)) < ((Ln : Nat) : Int)
                  · rw [if_pos g10] at h
                    refine ex_sld hL hxs dL_law_389 g10.1 g10.2 ?_
                    refine ev_aload_n (i := 0) dL_law_390 rfl rfl ?_
                    refine ev_iload_n (i := 3) dL_law_391 rfl rfl ?_
                    refine ev_iconst dL_law_392 (r32c rfl) ?_
                    refine ev_iadd dL_law_393 ?_
                    by_cases g11 : 0 ≤ (w32 (x3 + 5)) ∧ (w32 (x3 + 5)) < ((Ln : Nat) : Int)
                    · rw [if_pos g11] at h
                      refine ex_sld hL hxs dL_law_394 g11.1 g11.2 ?_
                      refine ev_cVI (b := 150) (av := [vI (xs (w32 (x3 + 1)).toNat), vI (xs (w32 (x3 + 2)).toNat), vI (xs (w32 (x3 + 3)).toNat), vI (xs (w32 (x3 + 4)).toNat), vI (xs (w32 (x3 + 5)).toNat)]) (S := [vI y6]) PLn h dL_law_395 (fun Q' q => TX11_feed (xs (w32 (x3 + 1)).toNat) (xs (w32 (x3 + 2)).toNat) (xs (w32 (x3 + 3)).toNat) (xs (w32 (x3 + 4)).toNat) (xs (w32 (x3 + 5)).toNat) _ q) kvX11_feed ml_L_17 sh_150 rfl (RRL (by decide) (by decide)) (Nat.le_of_ble_eq_true rfl) ⟨Nat.le_of_ble_eq_true rfl, Nat.le_of_ble_eq_true rfl⟩ (fun y12 f12 h => ?_)
                      refine ev_icmp_eq (tgt := 2110) dL_law_398 (by decide) (fun c13 => ?_) (fun c13 => ?_)
                      · rw [if_pos c13] at h
                        exact SL_law_2110 hL hxs q18 x3 _ h
                      · rw [if_neg c13] at h
                        refine ev_iconst dL_law_401 (r32c rfl) ?_
                        obtain ⟨g, hg⟩ := h
                        cases hg
                    · rw [if_neg g11] at h; exact (PLn h).elim
                  · rw [if_neg g10] at h; exact (PLn h).elim
                · rw [if_neg g9] at h; exact (PLn h).elim
              · rw [if_neg g8] at h; exact (PLn h).elim
            · rw [if_neg g7] at h; exact (PLn h).elim
          · rw [if_neg g5] at h; exact (PLn h).elim
        · rw [if_neg g4] at h; exact (PLn h).elim
      · rw [if_neg g3] at h; exact (PLn h).elim
    · rw [if_neg g2] at h; exact (PLn h).elim
  · rw [if_neg g1] at h; exact (PLn h).elim
def FL_law_403 (Ln : Nat) (xs : Nat → Int) (k18 : Int → Mm → Option (Int × Mm)) (x3 : Int) (f : Mm) : Option (Int × Mm) := (if 0 ≤ (w32 (x3 + 1)) ∧ (w32 (x3 + 1)) < ((Ln : Nat) : Int) then (b2 (FX10_end (xs (w32 (x3 + 1)).toNat) f) fun y2 f2 => (if 0 ≤ (w32 (x3 + 1)) ∧ (w32 (x3 + 1)) < ((Ln : Nat) : Int) then (b2 (FX11_end (xs (w32 (x3 + 1)).toNat) f2) fun y4 f4 => (if y2 = y4 then FL_law_2110 Ln xs k18 x3 f4 else some (0, f4))) else none)) else none)
set_option maxHeartbeats 8000000 in
set_option maxRecDepth 100000 in
theorem SL_law_403 {G : GT} {l : Launch} {Ln : Nat} {xs : Nat → Int} (hL : gL G = Ln) (hxs : ∀ j, (gX G j).toInt = xs j) {k18 : Int → Mm → Option (Int × Mm)} (q18 : ∀ (x3 : Int) (f : Mm), PL (k18 x3 f) → Ev G l ML_law room_1 (ZL G) 178 4676 18 [some (vR 100000), some (vR 0), some (vR 150), some (vI x3)] [] (SH, RF, f)) (x3 : Int) (f : Mm) (h : PL (FL_law_403 Ln xs k18 x3 f)) : Ev G l ML_law room_1 (ZL G) 178 4676 403 [some (vR 100000), some (vR 0), some (vR 150), some (vI x3)] [] (SH, RF, f) := by
  unfold FL_law_403 at h
  refine ev_aload_n (i := 1) dL_law_403 rfl rfl ?_
  refine ev_aload_n (i := 0) dL_law_404 rfl rfl ?_
  refine ev_iload_n (i := 3) dL_law_405 rfl rfl ?_
  refine ev_iconst dL_law_406 (r32c rfl) ?_
  refine ev_iadd dL_law_407 ?_
  by_cases g1 : 0 ≤ (w32 (x3 + 1)) ∧ (w32 (x3 + 1)) < ((Ln : Nat) : Int)
  · rw [if_pos g1] at h
    refine ex_sld hL hxs dL_law_408 g1.1 g1.2 ?_
    refine ev_cVI (b := 0) (av := [vI (xs (w32 (x3 + 1)).toNat)]) (S := []) PLn h dL_law_409 (fun Q' q => TX10_end (xs (w32 (x3 + 1)).toNat) _ q) kvX10_end ml_L_18 sh_0 rfl (RRL (by decide) (by decide)) (Nat.le_of_ble_eq_true rfl) ⟨Nat.le_of_ble_eq_true rfl, Nat.le_of_ble_eq_true rfl⟩ (fun y2 f2 h => ?_)
    refine ev_aload_n (i := 2) dL_law_412 rfl rfl ?_
    refine ev_aload_n (i := 0) dL_law_413 rfl rfl ?_
    refine ev_iload_n (i := 3) dL_law_414 rfl rfl ?_
    refine ev_iconst dL_law_415 (r32c rfl) ?_
    refine ev_iadd dL_law_416 ?_
    by_cases g3 : 0 ≤ (w32 (x3 + 1)) ∧ (w32 (x3 + 1)) < ((Ln : Nat) : Int)
    · rw [if_pos g3] at h
      refine ex_sld hL hxs dL_law_417 g3.1 g3.2 ?_
      refine ev_cVI (b := 150) (av := [vI (xs (w32 (x3 + 1)).toNat)]) (S := [vI y2]) PLn h dL_law_418 (fun Q' q => TX11_end (xs (w32 (x3 + 1)).toNat) _ q) kvX11_end ml_L_22 sh_150 rfl (RRL (by decide) (by decide)) (Nat.le_of_ble_eq_true rfl) ⟨Nat.le_of_ble_eq_true rfl, Nat.le_of_ble_eq_true rfl⟩ (fun y4 f4 h => ?_)
      refine ev_icmp_eq (tgt := 2110) dL_law_421 (by decide) (fun c5 => ?_) (fun c5 => ?_)
      · rw [if_pos c5] at h
        exact SL_law_2110 hL hxs q18 x3 _ h
      · rw [if_neg c5] at h
        refine ev_iconst dL_law_424 (r32c rfl) ?_
        obtain ⟨g, hg⟩ := h
        cases hg
    · rw [if_neg g3] at h; exact (PLn h).elim
  · rw [if_neg g1] at h; exact (PLn h).elim
def FL_law_426 (Ln : Nat) (xs : Nat → Int) (k18 : Int → Mm → Option (Int × Mm)) (x3 : Int) (f : Mm) : Option (Int × Mm) := (b2 (FX10_bridge f) fun y1 f1 => (b2 (FX11_bridge f1) fun y2 f2 => (if y1 = y2 then FL_law_2110 Ln xs k18 x3 f2 else some (0, f2))))
set_option maxHeartbeats 8000000 in
set_option maxRecDepth 100000 in
theorem SL_law_426 {G : GT} {l : Launch} {Ln : Nat} {xs : Nat → Int} (hL : gL G = Ln) (hxs : ∀ j, (gX G j).toInt = xs j) {k18 : Int → Mm → Option (Int × Mm)} (q18 : ∀ (x3 : Int) (f : Mm), PL (k18 x3 f) → Ev G l ML_law room_1 (ZL G) 178 4676 18 [some (vR 100000), some (vR 0), some (vR 150), some (vI x3)] [] (SH, RF, f)) (x3 : Int) (f : Mm) (h : PL (FL_law_426 Ln xs k18 x3 f)) : Ev G l ML_law room_1 (ZL G) 178 4676 426 [some (vR 100000), some (vR 0), some (vR 150), some (vI x3)] [] (SH, RF, f) := by
  unfold FL_law_426 at h
  refine ev_aload_n (i := 1) dL_law_426 rfl rfl ?_
  refine ev_cVI (b := 0) (av := []) (S := []) PLn h dL_law_427 (fun Q' q => TX10_bridge _ q) kvX10_bridge ml_L_23 sh_0 rfl (RRL (by decide) (by decide)) (Nat.le_of_ble_eq_true rfl) ⟨Nat.le_of_ble_eq_true rfl, Nat.le_of_ble_eq_true rfl⟩ (fun y1 f1 h => ?_)
  refine ev_aload_n (i := 2) dL_law_430 rfl rfl ?_
  refine ev_cVI (b := 150) (av := []) (S := [vI y1]) PLn h dL_law_431 (fun Q' q => TX11_bridge _ q) kvX11_bridge ml_L_27 sh_150 rfl (RRL (by decide) (by decide)) (Nat.le_of_ble_eq_true rfl) ⟨Nat.le_of_ble_eq_true rfl, Nat.le_of_ble_eq_true rfl⟩ (fun y2 f2 h => ?_)
  refine ev_icmp_eq (tgt := 2110) dL_law_434 (by decide) (fun c3 => ?_) (fun c3 => ?_)
  · rw [if_pos c3] at h
    exact SL_law_2110 hL hxs q18 x3 _ h
  · rw [if_neg c3] at h
    refine ev_iconst dL_law_437 (r32c rfl) ?_
    obtain ⟨g, hg⟩ := h
    cases hg
def FL_law_439 (Ln : Nat) (xs : Nat → Int) (k18 : Int → Mm → Option (Int × Mm)) (x3 : Int) (f : Mm) : Option (Int × Mm) := (if 0 ≤ (w32 (x3 + 1)) ∧ (w32 (x3 + 1)) < ((Ln : Nat) : Int) then (b2 (FX10_fault (xs (w32 (x3 + 1)).toNat) f) fun y2 f2 => (if 0 ≤ (w32 (x3 + 1)) ∧ (w32 (x3 + 1)) < ((Ln : Nat) : Int) then (b2 (FX11_fault (xs (w32 (x3 + 1)).toNat) f2) fun y4 f4 => (if y2 = y4 then FL_law_2110 Ln xs k18 x3 f4 else some (0, f4))) else none)) else none)
set_option maxHeartbeats 8000000 in
set_option maxRecDepth 100000 in
theorem SL_law_439 {G : GT} {l : Launch} {Ln : Nat} {xs : Nat → Int} (hL : gL G = Ln) (hxs : ∀ j, (gX G j).toInt = xs j) {k18 : Int → Mm → Option (Int × Mm)} (q18 : ∀ (x3 : Int) (f : Mm), PL (k18 x3 f) → Ev G l ML_law room_1 (ZL G) 178 4676 18 [some (vR 100000), some (vR 0), some (vR 150), some (vI x3)] [] (SH, RF, f)) (x3 : Int) (f : Mm) (h : PL (FL_law_439 Ln xs k18 x3 f)) : Ev G l ML_law room_1 (ZL G) 178 4676 439 [some (vR 100000), some (vR 0), some (vR 150), some (vI x3)] [] (SH, RF, f) := by
  unfold FL_law_439 at h
  refine ev_aload_n (i := 1) dL_law_439 rfl rfl ?_
  refine ev_aload_n (i := 0) dL_law_440 rfl rfl ?_
  refine ev_iload_n (i := 3) dL_law_441 rfl rfl ?_
  refine ev_iconst dL_law_442 (r32c rfl) ?_
  refine ev_iadd dL_law_443 ?_
  by_cases g1 : 0 ≤ (w32 (x3 + 1)) ∧ (w32 (x3 + 1)) < ((Ln : Nat) : Int)
  · rw [if_pos g1] at h
    refine ex_sld hL hxs dL_law_444 g1.1 g1.2 ?_
    refine ev_cVI (b := 0) (av := [vI (xs (w32 (x3 + 1)).toNat)]) (S := []) PLn h dL_law_445 (fun Q' q => TX10_fault (xs (w32 (x3 + 1)).toNat) _ q) kvX10_fault ml_L_28 sh_0 rfl (RRL (by decide) (by decide)) (Nat.le_of_ble_eq_true rfl) ⟨Nat.le_of_ble_eq_true rfl, Nat.le_of_ble_eq_true rfl⟩ (fun y2 f2 h => ?_)
    refine ev_aload_n (i := 2) dL_law_448 rfl rfl ?_
    refine ev_aload_n (i := 0) dL_law_449 rfl rfl ?_
    refine ev_iload_n (i := 3) dL_law_450 rfl rfl ?_
    refine ev_iconst dL_law_451 (r32c rfl) ?_
    refine ev_iadd dL_law_452 ?_
    by_cases g3 : 0 ≤ (w32 (x3 + 1)) ∧ (w32 (x3 + 1)) < ((Ln : Nat) : Int)
    · rw [if_pos g3] at h
      refine ex_sld hL hxs dL_law_453 g3.1 g3.2 ?_
      refine ev_cVI (b := 150) (av := [vI (xs (w32 (x3 + 1)).toNat)]) (S := [vI y2]) PLn h dL_law_454 (fun Q' q => TX11_fault (xs (w32 (x3 + 1)).toNat) _ q) kvX11_fault ml_L_31 sh_150 rfl (RRL (by decide) (by decide)) (Nat.le_of_ble_eq_true rfl) ⟨Nat.le_of_ble_eq_true rfl, Nat.le_of_ble_eq_true rfl⟩ (fun y4 f4 h => ?_)
      refine ev_icmp_eq (tgt := 2110) dL_law_457 (by decide) (fun c5 => ?_) (fun c5 => ?_)
      · rw [if_pos c5] at h
        exact SL_law_2110 hL hxs q18 x3 _ h
      · rw [if_neg c5] at h
        refine ev_iconst dL_law_460 (r32c rfl) ?_
        obtain ⟨g, hg⟩ := h
        cases hg
    · rw [if_neg g3] at h; exact (PLn h).elim
  · rw [if_neg g1] at h; exact (PLn h).elim
def FL_law_462 (Ln : Nat) (xs : Nat → Int) (k18 : Int → Mm → Option (Int × Mm)) (x3 : Int) (f : Mm) : Option (Int × Mm) := (if 0 ≤ (w32 (x3 + 1)) ∧ (w32 (x3 + 1)) < ((Ln : Nat) : Int) then (if 0 ≤ (w32 (x3 + 2)) ∧ (w32 (x3 + 2)) < ((Ln : Nat) : Int) then (b2 (FX10_deed (xs (w32 (x3 + 1)).toNat) (xs (w32 (x3 + 2)).toNat) f) fun y3 f3 => (if 0 ≤ (w32 (x3 + 1)) ∧ (w32 (x3 + 1)) < ((Ln : Nat) : Int) then (if 0 ≤ (w32 (x3 + 2)) ∧ (w32 (x3 + 2)) < ((Ln : Nat) : Int) then (b2 (FX11_deed (xs (w32 (x3 + 1)).toNat) (xs (w32 (x3 + 2)).toNat) f3) fun y6 f6 => (if y3 = y6 then FL_law_2110 Ln xs k18 x3 f6 else some (0, f6))) else none) else none)) else none) else none)
set_option maxHeartbeats 8000000 in
set_option maxRecDepth 100000 in
theorem SL_law_462 {G : GT} {l : Launch} {Ln : Nat} {xs : Nat → Int} (hL : gL G = Ln) (hxs : ∀ j, (gX G j).toInt = xs j) {k18 : Int → Mm → Option (Int × Mm)} (q18 : ∀ (x3 : Int) (f : Mm), PL (k18 x3 f) → Ev G l ML_law room_1 (ZL G) 178 4676 18 [some (vR 100000), some (vR 0), some (vR 150), some (vI x3)] [] (SH, RF, f)) (x3 : Int) (f : Mm) (h : PL (FL_law_462 Ln xs k18 x3 f)) : Ev G l ML_law room_1 (ZL G) 178 4676 462 [some (vR 100000), some (vR 0), some (vR 150), some (vI x3)] [] (SH, RF, f) := by
  unfold FL_law_462 at h
  refine ev_aload_n (i := 1) dL_law_462 rfl rfl ?_
  refine ev_aload_n (i := 0) dL_law_463 rfl rfl ?_
  refine ev_iload_n (i := 3) dL_law_464 rfl rfl ?_
  refine ev_iconst dL_law_465 (r32c rfl) ?_
  refine ev_iadd dL_law_466 ?_
  by_cases g1 : 0 ≤ (w32 (x3 + 1)) ∧ (w32 (x3 + 1)) < ((Ln : Nat) : Int)
  · rw [if_pos g1] at h
    refine ex_sld hL hxs dL_law_467 g1.1 g1.2 ?_
    refine ev_aload_n (i := 0) dL_law_468 rfl rfl ?_
    refine ev_iload_n (i := 3) dL_law_469 rfl rfl ?_
    refine ev_iconst dL_law_470 (r32c rfl) ?_
    refine ev_iadd dL_law_471 ?_
    by_cases g2 : 0 ≤ (w32 (x3 + 2)) ∧ (w32 (x3 + 2)) < ((Ln : Nat) : Int)
    · rw [if_pos g2] at h
      refine ex_sld hL hxs dL_law_472 g2.1 g2.2 ?_
      refine ev_cVI (b := 0) (av := [vI (xs (w32 (x3 + 1)).toNat), vI (xs (w32 (x3 + 2)).toNat)]) (S := []) PLn h dL_law_473 (fun Q' q => TX10_deed (xs (w32 (x3 + 1)).toNat) (xs (w32 (x3 + 2)).toNat) _ q) kvX10_deed ml_L_32 sh_0 rfl (RRL (by decide) (by decide)) (Nat.le_of_ble_eq_true rfl) ⟨Nat.le_of_ble_eq_true rfl, Nat.le_of_ble_eq_true rfl⟩ (fun y3 f3 h => ?_)
      refine ev_aload_n (i := 2) dL_law_476 rfl rfl ?_
      refine ev_aload_n (i := 0) dL_law_477 rfl rfl ?_
      refine ev_iload_n (i := 3) dL_law_478 rfl rfl ?_
      refine ev_iconst dL_law_479 (r32c rfl) ?_
      refine ev_iadd dL_law_480 ?_
      by_cases g4 : 0 ≤ (w32 (x3 + 1)) ∧ (w32 (x3 + 1)) < ((Ln : Nat) : Int)
      · rw [if_pos g4] at h
        refine ex_sld hL hxs dL_law_481 g4.1 g4.2 ?_
        refine ev_aload_n (i := 0) dL_law_482 rfl rfl ?_
        refine ev_iload_n (i := 3) dL_law_483 rfl rfl ?_
        refine ev_iconst dL_law_484 (r32c rfl) ?_
        refine ev_iadd dL_law_485 ?_
        by_cases g5 : 0 ≤ (w32 (x3 + 2)) ∧ (w32 (x3 + 2)) < ((Ln : Nat) : Int)
        · rw [if_pos g5] at h
          refine ex_sld hL hxs dL_law_486 g5.1 g5.2 ?_
          refine ev_cVI (b := 150) (av := [vI (xs (w32 (x3 + 1)).toNat), vI (xs (w32 (x3 + 2)).toNat)]) (S := [vI y3]) PLn h dL_law_487 (fun Q' q => TX11_deed (xs (w32 (x3 + 1)).toNat) (xs (w32 (x3 + 2)).toNat) _ q) kvX11_deed ml_L_36 sh_150 rfl (RRL (by decide) (by decide)) (Nat.le_of_ble_eq_true rfl) ⟨Nat.le_of_ble_eq_true rfl, Nat.le_of_ble_eq_true rfl⟩ (fun y6 f6 h => ?_)
          refine ev_icmp_eq (tgt := 2110) dL_law_490 (by decide) (fun c7 => ?_) (fun c7 => ?_)
          · rw [if_pos c7] at h
            exact SL_law_2110 hL hxs q18 x3 _ h
          · rw [if_neg c7] at h
            refine ev_iconst dL_law_493 (r32c rfl) ?_
            obtain ⟨g, hg⟩ := h
            cases hg
        · rw [if_neg g5] at h; exact (PLn h).elim
      · rw [if_neg g4] at h; exact (PLn h).elim
    · rw [if_neg g2] at h; exact (PLn h).elim
  · rw [if_neg g1] at h; exact (PLn h).elim
def FL_law_495 (Ln : Nat) (xs : Nat → Int) (k18 : Int → Mm → Option (Int × Mm)) (x3 : Int) (f : Mm) : Option (Int × Mm) := (if 0 ≤ (w32 (x3 + 1)) ∧ (w32 (x3 + 1)) < ((Ln : Nat) : Int) then (if 0 ≤ (w32 (x3 + 2)) ∧ (w32 (x3 + 2)) < ((Ln : Nat) : Int) then (b2 (FX10_cart (xs (w32 (x3 + 1)).toNat) (xs (w32 (x3 + 2)).toNat) f) fun y3 f3 => (if 0 ≤ (w32 (x3 + 1)) ∧ (w32 (x3 + 1)) < ((Ln : Nat) : Int) then (if 0 ≤ (w32 (x3 + 2)) ∧ (w32 (x3 + 2)) < ((Ln : Nat) : Int) then (b2 (FX11_cart (xs (w32 (x3 + 1)).toNat) (xs (w32 (x3 + 2)).toNat) f3) fun y6 f6 => (if y3 = y6 then FL_law_2110 Ln xs k18 x3 f6 else some (0, f6))) else none) else none)) else none) else none)
set_option maxHeartbeats 8000000 in
set_option maxRecDepth 100000 in
theorem SL_law_495 {G : GT} {l : Launch} {Ln : Nat} {xs : Nat → Int} (hL : gL G = Ln) (hxs : ∀ j, (gX G j).toInt = xs j) {k18 : Int → Mm → Option (Int × Mm)} (q18 : ∀ (x3 : Int) (f : Mm), PL (k18 x3 f) → Ev G l ML_law room_1 (ZL G) 178 4676 18 [some (vR 100000), some (vR 0), some (vR 150), some (vI x3)] [] (SH, RF, f)) (x3 : Int) (f : Mm) (h : PL (FL_law_495 Ln xs k18 x3 f)) : Ev G l ML_law room_1 (ZL G) 178 4676 495 [some (vR 100000), some (vR 0), some (vR 150), some (vI x3)] [] (SH, RF, f) := by
  unfold FL_law_495 at h
  refine ev_aload_n (i := 1) dL_law_495 rfl rfl ?_
  refine ev_aload_n (i := 0) dL_law_496 rfl rfl ?_
  refine ev_iload_n (i := 3) dL_law_497 rfl rfl ?_
  refine ev_iconst dL_law_498 (r32c rfl) ?_
  refine ev_iadd dL_law_499 ?_
  by_cases g1 : 0 ≤ (w32 (x3 + 1)) ∧ (w32 (x3 + 1)) < ((Ln : Nat) : Int)
  · rw [if_pos g1] at h
    refine ex_sld hL hxs dL_law_500 g1.1 g1.2 ?_
    refine ev_aload_n (i := 0) dL_law_501 rfl rfl ?_
    refine ev_iload_n (i := 3) dL_law_502 rfl rfl ?_
    refine ev_iconst dL_law_503 (r32c rfl) ?_
    refine ev_iadd dL_law_504 ?_
    by_cases g2 : 0 ≤ (w32 (x3 + 2)) ∧ (w32 (x3 + 2)) < ((Ln : Nat) : Int)
    · rw [if_pos g2] at h
      refine ex_sld hL hxs dL_law_505 g2.1 g2.2 ?_
      refine ev_cVI (b := 0) (av := [vI (xs (w32 (x3 + 1)).toNat), vI (xs (w32 (x3 + 2)).toNat)]) (S := []) PLn h dL_law_506 (fun Q' q => TX10_cart (xs (w32 (x3 + 1)).toNat) (xs (w32 (x3 + 2)).toNat) _ q) kvX10_cart ml_L_37 sh_0 rfl (RRL (by decide) (by decide)) (Nat.le_of_ble_eq_true rfl) ⟨Nat.le_of_ble_eq_true rfl, Nat.le_of_ble_eq_true rfl⟩ (fun y3 f3 h => ?_)
      refine ev_aload_n (i := 2) dL_law_509 rfl rfl ?_
      refine ev_aload_n (i := 0) dL_law_510 rfl rfl ?_
      refine ev_iload_n (i := 3) dL_law_511 rfl rfl ?_
      refine ev_iconst dL_law_512 (r32c rfl) ?_
      refine ev_iadd dL_law_513 ?_
      by_cases g4 : 0 ≤ (w32 (x3 + 1)) ∧ (w32 (x3 + 1)) < ((Ln : Nat) : Int)
      · rw [if_pos g4] at h
        refine ex_sld hL hxs dL_law_514 g4.1 g4.2 ?_
        refine ev_aload_n (i := 0) dL_law_515 rfl rfl ?_
        refine ev_iload_n (i := 3) dL_law_516 rfl rfl ?_
        refine ev_iconst dL_law_517 (r32c rfl) ?_
        refine ev_iadd dL_law_518 ?_
        by_cases g5 : 0 ≤ (w32 (x3 + 2)) ∧ (w32 (x3 + 2)) < ((Ln : Nat) : Int)
        · rw [if_pos g5] at h
          refine ex_sld hL hxs dL_law_519 g5.1 g5.2 ?_
          refine ev_cVI (b := 150) (av := [vI (xs (w32 (x3 + 1)).toNat), vI (xs (w32 (x3 + 2)).toNat)]) (S := [vI y3]) PLn h dL_law_520 (fun Q' q => TX11_cart (xs (w32 (x3 + 1)).toNat) (xs (w32 (x3 + 2)).toNat) _ q) kvX11_cart ml_L_40 sh_150 rfl (RRL (by decide) (by decide)) (Nat.le_of_ble_eq_true rfl) ⟨Nat.le_of_ble_eq_true rfl, Nat.le_of_ble_eq_true rfl⟩ (fun y6 f6 h => ?_)
          refine ev_icmp_eq (tgt := 2110) dL_law_523 (by decide) (fun c7 => ?_) (fun c7 => ?_)
          · rw [if_pos c7] at h
            exact SL_law_2110 hL hxs q18 x3 _ h
          · rw [if_neg c7] at h
            refine ev_iconst dL_law_526 (r32c rfl) ?_
            obtain ⟨g, hg⟩ := h
            cases hg
        · rw [if_neg g5] at h; exact (PLn h).elim
      · rw [if_neg g4] at h; exact (PLn h).elim
    · rw [if_neg g2] at h; exact (PLn h).elim
  · rw [if_neg g1] at h; exact (PLn h).elim
def FL_law_528 (Ln : Nat) (xs : Nat → Int) (k18 : Int → Mm → Option (Int × Mm)) (x3 : Int) (f : Mm) : Option (Int × Mm) := (if 0 ≤ (w32 (x3 + 1)) ∧ (w32 (x3 + 1)) < ((Ln : Nat) : Int) then (if 0 ≤ (w32 (x3 + 2)) ∧ (w32 (x3 + 2)) < ((Ln : Nat) : Int) then (b2 (FX10_feels (xs (w32 (x3 + 1)).toNat) (xs (w32 (x3 + 2)).toNat) f) fun y3 f3 => (if 0 ≤ (w32 (x3 + 1)) ∧ (w32 (x3 + 1)) < ((Ln : Nat) : Int) then (if 0 ≤ (w32 (x3 + 2)) ∧ (w32 (x3 + 2)) < ((Ln : Nat) : Int) then (b2 (FX11_feels (xs (w32 (x3 + 1)).toNat) (xs (w32 (x3 + 2)).toNat) f3) fun y6 f6 => (if y3 = y6 then FL_law_2110 Ln xs k18 x3 f6 else some (0, f6))) else none) else none)) else none) else none)
set_option maxHeartbeats 8000000 in
set_option maxRecDepth 100000 in
theorem SL_law_528 {G : GT} {l : Launch} {Ln : Nat} {xs : Nat → Int} (hL : gL G = Ln) (hxs : ∀ j, (gX G j).toInt = xs j) {k18 : Int → Mm → Option (Int × Mm)} (q18 : ∀ (x3 : Int) (f : Mm), PL (k18 x3 f) → Ev G l ML_law room_1 (ZL G) 178 4676 18 [some (vR 100000), some (vR 0), some (vR 150), some (vI x3)] [] (SH, RF, f)) (x3 : Int) (f : Mm) (h : PL (FL_law_528 Ln xs k18 x3 f)) : Ev G l ML_law room_1 (ZL G) 178 4676 528 [some (vR 100000), some (vR 0), some (vR 150), some (vI x3)] [] (SH, RF, f) := by
  unfold FL_law_528 at h
  refine ev_aload_n (i := 1) dL_law_528 rfl rfl ?_
  refine ev_aload_n (i := 0) dL_law_529 rfl rfl ?_
  refine ev_iload_n (i := 3) dL_law_530 rfl rfl ?_
  refine ev_iconst dL_law_531 (r32c rfl) ?_
  refine ev_iadd dL_law_532 ?_
  by_cases g1 : 0 ≤ (w32 (x3 + 1)) ∧ (w32 (x3 + 1)) < ((Ln : Nat) : Int)
  · rw [if_pos g1] at h
    refine ex_sld hL hxs dL_law_533 g1.1 g1.2 ?_
    refine ev_aload_n (i := 0) dL_law_534 rfl rfl ?_
    refine ev_iload_n (i := 3) dL_law_535 rfl rfl ?_
    refine ev_iconst dL_law_536 (r32c rfl) ?_
    refine ev_iadd dL_law_537 ?_
    by_cases g2 : 0 ≤ (w32 (x3 + 2)) ∧ (w32 (x3 + 2)) < ((Ln : Nat) : Int)
    · rw [if_pos g2] at h
      refine ex_sld hL hxs dL_law_538 g2.1 g2.2 ?_
      refine ev_cVI (b := 0) (av := [vI (xs (w32 (x3 + 1)).toNat), vI (xs (w32 (x3 + 2)).toNat)]) (S := []) PLn h dL_law_539 (fun Q' q => TX10_feels (xs (w32 (x3 + 1)).toNat) (xs (w32 (x3 + 2)).toNat) _ q) kvX10_feels ml_L_41 sh_0 rfl (RRL (by decide) (by decide)) (Nat.le_of_ble_eq_true rfl) ⟨Nat.le_of_ble_eq_true rfl, Nat.le_of_ble_eq_true rfl⟩ (fun y3 f3 h => ?_)
      refine ev_aload_n (i := 2) dL_law_542 rfl rfl ?_
      refine ev_aload_n (i := 0) dL_law_543 rfl rfl ?_
      refine ev_iload_n (i := 3) dL_law_544 rfl rfl ?_
      refine ev_iconst dL_law_545 (r32c rfl) ?_
      refine ev_iadd dL_law_546 ?_
      by_cases g4 : 0 ≤ (w32 (x3 + 1)) ∧ (w32 (x3 + 1)) < ((Ln : Nat) : Int)
      · rw [if_pos g4] at h
        refine ex_sld hL hxs dL_law_547 g4.1 g4.2 ?_
        refine ev_aload_n (i := 0) dL_law_548 rfl rfl ?_
        refine ev_iload_n (i := 3) dL_law_549 rfl rfl ?_
        refine ev_iconst dL_law_550 (r32c rfl) ?_
        refine ev_iadd dL_law_551 ?_
        by_cases g5 : 0 ≤ (w32 (x3 + 2)) ∧ (w32 (x3 + 2)) < ((Ln : Nat) : Int)
        · rw [if_pos g5] at h
          refine ex_sld hL hxs dL_law_552 g5.1 g5.2 ?_
          refine ev_cVI (b := 150) (av := [vI (xs (w32 (x3 + 1)).toNat), vI (xs (w32 (x3 + 2)).toNat)]) (S := [vI y3]) PLn h dL_law_553 (fun Q' q => TX11_feels (xs (w32 (x3 + 1)).toNat) (xs (w32 (x3 + 2)).toNat) _ q) kvX11_feels ml_L_44 sh_150 rfl (RRL (by decide) (by decide)) (Nat.le_of_ble_eq_true rfl) ⟨Nat.le_of_ble_eq_true rfl, Nat.le_of_ble_eq_true rfl⟩ (fun y6 f6 h => ?_)
          refine ev_icmp_eq (tgt := 2110) dL_law_556 (by decide) (fun c7 => ?_) (fun c7 => ?_)
          · rw [if_pos c7] at h
            exact SL_law_2110 hL hxs q18 x3 _ h
          · rw [if_neg c7] at h
            refine ev_iconst dL_law_559 (r32c rfl) ?_
            obtain ⟨g, hg⟩ := h
            cases hg
        · rw [if_neg g5] at h; exact (PLn h).elim
      · rw [if_neg g4] at h; exact (PLn h).elim
    · rw [if_neg g2] at h; exact (PLn h).elim
  · rw [if_neg g1] at h; exact (PLn h).elim
def FL_law_561 (Ln : Nat) (xs : Nat → Int) (k18 : Int → Mm → Option (Int × Mm)) (x3 : Int) (f : Mm) : Option (Int × Mm) := (if 0 ≤ (w32 (x3 + 1)) ∧ (w32 (x3 + 1)) < ((Ln : Nat) : Int) then (b2 (FX10_width (xs (w32 (x3 + 1)).toNat) f) fun y2 f2 => (if 0 ≤ (w32 (x3 + 1)) ∧ (w32 (x3 + 1)) < ((Ln : Nat) : Int) then (b2 (FX11_width (xs (w32 (x3 + 1)).toNat) f2) fun y4 f4 => (if y2 = y4 then FL_law_2110 Ln xs k18 x3 f4 else some (0, f4))) else none)) else none)
set_option maxHeartbeats 8000000 in
set_option maxRecDepth 100000 in
theorem SL_law_561 {G : GT} {l : Launch} {Ln : Nat} {xs : Nat → Int} (hL : gL G = Ln) (hxs : ∀ j, (gX G j).toInt = xs j) {k18 : Int → Mm → Option (Int × Mm)} (q18 : ∀ (x3 : Int) (f : Mm), PL (k18 x3 f) → Ev G l ML_law room_1 (ZL G) 178 4676 18 [some (vR 100000), some (vR 0), some (vR 150), some (vI x3)] [] (SH, RF, f)) (x3 : Int) (f : Mm) (h : PL (FL_law_561 Ln xs k18 x3 f)) : Ev G l ML_law room_1 (ZL G) 178 4676 561 [some (vR 100000), some (vR 0), some (vR 150), some (vI x3)] [] (SH, RF, f) := by
  unfold FL_law_561 at h
  refine ev_aload_n (i := 1) dL_law_561 rfl rfl ?_
  refine ev_aload_n (i := 0) dL_law_562 rfl rfl ?_
  refine ev_iload_n (i := 3) dL_law_563 rfl rfl ?_
  refine ev_iconst dL_law_564 (r32c rfl) ?_
  refine ev_iadd dL_law_565 ?_
  by_cases g1 : 0 ≤ (w32 (x3 + 1)) ∧ (w32 (x3 + 1)) < ((Ln : Nat) : Int)
  · rw [if_pos g1] at h
    refine ex_sld hL hxs dL_law_566 g1.1 g1.2 ?_
    refine ev_cVI (b := 0) (av := [vI (xs (w32 (x3 + 1)).toNat)]) (S := []) PLn h dL_law_567 (fun Q' q => TX10_width (xs (w32 (x3 + 1)).toNat) _ q) kvX10_width ml_L_45 sh_0 rfl (RRL (by decide) (by decide)) (Nat.le_of_ble_eq_true rfl) ⟨Nat.le_of_ble_eq_true rfl, Nat.le_of_ble_eq_true rfl⟩ (fun y2 f2 h => ?_)
    refine ev_aload_n (i := 2) dL_law_570 rfl rfl ?_
    refine ev_aload_n (i := 0) dL_law_571 rfl rfl ?_
    refine ev_iload_n (i := 3) dL_law_572 rfl rfl ?_
    refine ev_iconst dL_law_573 (r32c rfl) ?_
    refine ev_iadd dL_law_574 ?_
    by_cases g3 : 0 ≤ (w32 (x3 + 1)) ∧ (w32 (x3 + 1)) < ((Ln : Nat) : Int)
    · rw [if_pos g3] at h
      refine ex_sld hL hxs dL_law_575 g3.1 g3.2 ?_
      refine ev_cVI (b := 150) (av := [vI (xs (w32 (x3 + 1)).toNat)]) (S := [vI y2]) PLn h dL_law_576 (fun Q' q => TX11_width (xs (w32 (x3 + 1)).toNat) _ q) kvX11_width ml_L_48 sh_150 rfl (RRL (by decide) (by decide)) (Nat.le_of_ble_eq_true rfl) ⟨Nat.le_of_ble_eq_true rfl, Nat.le_of_ble_eq_true rfl⟩ (fun y4 f4 h => ?_)
      refine ev_icmp_eq (tgt := 2110) dL_law_579 (by decide) (fun c5 => ?_) (fun c5 => ?_)
      · rw [if_pos c5] at h
        exact SL_law_2110 hL hxs q18 x3 _ h
      · rw [if_neg c5] at h
        refine ev_iconst dL_law_582 (r32c rfl) ?_
        obtain ⟨g, hg⟩ := h
        cases hg
    · rw [if_neg g3] at h; exact (PLn h).elim
  · rw [if_neg g1] at h; exact (PLn h).elim
def FL_law_584 (Ln : Nat) (xs : Nat → Int) (k18 : Int → Mm → Option (Int × Mm)) (x3 : Int) (f : Mm) : Option (Int × Mm) := (b2 (FX10_narrow f) fun y1 f1 => (b2 (FX11_narrow f1) fun y2 f2 => (if y1 = y2 then FL_law_2110 Ln xs k18 x3 f2 else some (0, f2))))
set_option maxHeartbeats 8000000 in
set_option maxRecDepth 100000 in
theorem SL_law_584 {G : GT} {l : Launch} {Ln : Nat} {xs : Nat → Int} (hL : gL G = Ln) (hxs : ∀ j, (gX G j).toInt = xs j) {k18 : Int → Mm → Option (Int × Mm)} (q18 : ∀ (x3 : Int) (f : Mm), PL (k18 x3 f) → Ev G l ML_law room_1 (ZL G) 178 4676 18 [some (vR 100000), some (vR 0), some (vR 150), some (vI x3)] [] (SH, RF, f)) (x3 : Int) (f : Mm) (h : PL (FL_law_584 Ln xs k18 x3 f)) : Ev G l ML_law room_1 (ZL G) 178 4676 584 [some (vR 100000), some (vR 0), some (vR 150), some (vI x3)] [] (SH, RF, f) := by
  unfold FL_law_584 at h
  refine ev_aload_n (i := 1) dL_law_584 rfl rfl ?_
  refine ev_cVI (b := 0) (av := []) (S := []) PLn h dL_law_585 (fun Q' q => TX10_narrow _ q) kvX10_narrow ml_L_49 sh_0 rfl (RRL (by decide) (by decide)) (Nat.le_of_ble_eq_true rfl) ⟨Nat.le_of_ble_eq_true rfl, Nat.le_of_ble_eq_true rfl⟩ (fun y1 f1 h => ?_)
  refine ev_aload_n (i := 2) dL_law_588 rfl rfl ?_
  refine ev_cVI (b := 150) (av := []) (S := [vI y1]) PLn h dL_law_589 (fun Q' q => TX11_narrow _ q) kvX11_narrow ml_L_52 sh_150 rfl (RRL (by decide) (by decide)) (Nat.le_of_ble_eq_true rfl) ⟨Nat.le_of_ble_eq_true rfl, Nat.le_of_ble_eq_true rfl⟩ (fun y2 f2 h => ?_)
  refine ev_icmp_eq (tgt := 2110) dL_law_592 (by decide) (fun c3 => ?_) (fun c3 => ?_)
  · rw [if_pos c3] at h
    exact SL_law_2110 hL hxs q18 x3 _ h
  · rw [if_neg c3] at h
    refine ev_iconst dL_law_595 (r32c rfl) ?_
    obtain ⟨g, hg⟩ := h
    cases hg
def FL_law_597 (Ln : Nat) (xs : Nat → Int) (k18 : Int → Mm → Option (Int × Mm)) (x3 : Int) (f : Mm) : Option (Int × Mm) := (b2 (FX10_shut f) fun y1 f1 => (b2 (FX11_shut f1) fun y2 f2 => (if y1 = y2 then FL_law_2110 Ln xs k18 x3 f2 else some (0, f2))))
set_option maxHeartbeats 8000000 in
set_option maxRecDepth 100000 in
theorem SL_law_597 {G : GT} {l : Launch} {Ln : Nat} {xs : Nat → Int} (hL : gL G = Ln) (hxs : ∀ j, (gX G j).toInt = xs j) {k18 : Int → Mm → Option (Int × Mm)} (q18 : ∀ (x3 : Int) (f : Mm), PL (k18 x3 f) → Ev G l ML_law room_1 (ZL G) 178 4676 18 [some (vR 100000), some (vR 0), some (vR 150), some (vI x3)] [] (SH, RF, f)) (x3 : Int) (f : Mm) (h : PL (FL_law_597 Ln xs k18 x3 f)) : Ev G l ML_law room_1 (ZL G) 178 4676 597 [some (vR 100000), some (vR 0), some (vR 150), some (vI x3)] [] (SH, RF, f) := by
  unfold FL_law_597 at h
  refine ev_aload_n (i := 1) dL_law_597 rfl rfl ?_
  refine ev_cVI (b := 0) (av := []) (S := []) PLn h dL_law_598 (fun Q' q => TX10_shut _ q) kvX10_shut ml_L_53 sh_0 rfl (RRL (by decide) (by decide)) (Nat.le_of_ble_eq_true rfl) ⟨Nat.le_of_ble_eq_true rfl, Nat.le_of_ble_eq_true rfl⟩ (fun y1 f1 h => ?_)
  refine ev_aload_n (i := 2) dL_law_601 rfl rfl ?_
  refine ev_cVI (b := 150) (av := []) (S := [vI y1]) PLn h dL_law_602 (fun Q' q => TX11_shut _ q) kvX11_shut ml_L_56 sh_150 rfl (RRL (by decide) (by decide)) (Nat.le_of_ble_eq_true rfl) ⟨Nat.le_of_ble_eq_true rfl, Nat.le_of_ble_eq_true rfl⟩ (fun y2 f2 h => ?_)
  refine ev_icmp_eq (tgt := 2110) dL_law_605 (by decide) (fun c3 => ?_) (fun c3 => ?_)
  · rw [if_pos c3] at h
    exact SL_law_2110 hL hxs q18 x3 _ h
  · rw [if_neg c3] at h
    refine ev_iconst dL_law_608 (r32c rfl) ?_
    obtain ⟨g, hg⟩ := h
    cases hg
def FL_law_610 (Ln : Nat) (xs : Nat → Int) (k18 : Int → Mm → Option (Int × Mm)) (x3 : Int) (f : Mm) : Option (Int × Mm) := (if 0 ≤ (w32 (x3 + 1)) ∧ (w32 (x3 + 1)) < ((Ln : Nat) : Int) then (b2 (FX10_passes (xs (w32 (x3 + 1)).toNat) f) fun y2 f2 => (if 0 ≤ (w32 (x3 + 1)) ∧ (w32 (x3 + 1)) < ((Ln : Nat) : Int) then (b2 (FX11_passes_ (xs (w32 (x3 + 1)).toNat) f2) fun y4 f4 => (if y2 = y4 then FL_law_2110 Ln xs k18 x3 f4 else some (0, f4))) else none)) else none)
set_option maxHeartbeats 8000000 in
set_option maxRecDepth 100000 in
theorem SL_law_610 {G : GT} {l : Launch} {Ln : Nat} {xs : Nat → Int} (hL : gL G = Ln) (hxs : ∀ j, (gX G j).toInt = xs j) {k18 : Int → Mm → Option (Int × Mm)} (q18 : ∀ (x3 : Int) (f : Mm), PL (k18 x3 f) → Ev G l ML_law room_1 (ZL G) 178 4676 18 [some (vR 100000), some (vR 0), some (vR 150), some (vI x3)] [] (SH, RF, f)) (x3 : Int) (f : Mm) (h : PL (FL_law_610 Ln xs k18 x3 f)) : Ev G l ML_law room_1 (ZL G) 178 4676 610 [some (vR 100000), some (vR 0), some (vR 150), some (vI x3)] [] (SH, RF, f) := by
  unfold FL_law_610 at h
  refine ev_aload_n (i := 1) dL_law_610 rfl rfl ?_
  refine ev_aload_n (i := 0) dL_law_611 rfl rfl ?_
  refine ev_iload_n (i := 3) dL_law_612 rfl rfl ?_
  refine ev_iconst dL_law_613 (r32c rfl) ?_
  refine ev_iadd dL_law_614 ?_
  by_cases g1 : 0 ≤ (w32 (x3 + 1)) ∧ (w32 (x3 + 1)) < ((Ln : Nat) : Int)
  · rw [if_pos g1] at h
    refine ex_sld hL hxs dL_law_615 g1.1 g1.2 ?_
    refine ev_cVI (b := 0) (av := [vI (xs (w32 (x3 + 1)).toNat)]) (S := []) PLn h dL_law_616 (fun Q' q => TX10_passes (xs (w32 (x3 + 1)).toNat) _ q) kvX10_passes ml_L_57 sh_0 rfl (RRL (by decide) (by decide)) (Nat.le_of_ble_eq_true rfl) ⟨Nat.le_of_ble_eq_true rfl, Nat.le_of_ble_eq_true rfl⟩ (fun y2 f2 h => ?_)
    refine ev_aload_n (i := 2) dL_law_619 rfl rfl ?_
    refine ev_aload_n (i := 0) dL_law_620 rfl rfl ?_
    refine ev_iload_n (i := 3) dL_law_621 rfl rfl ?_
    refine ev_iconst dL_law_622 (r32c rfl) ?_
    refine ev_iadd dL_law_623 ?_
    by_cases g3 : 0 ≤ (w32 (x3 + 1)) ∧ (w32 (x3 + 1)) < ((Ln : Nat) : Int)
    · rw [if_pos g3] at h
      refine ex_sld hL hxs dL_law_624 g3.1 g3.2 ?_
      refine ev_cVI (b := 150) (av := [vI (xs (w32 (x3 + 1)).toNat)]) (S := [vI y2]) PLn h dL_law_625 (fun Q' q => TX11_passes_ (xs (w32 (x3 + 1)).toNat) _ q) kvX11_passes_ ml_L_60 sh_150 rfl (RRL (by decide) (by decide)) (Nat.le_of_ble_eq_true rfl) ⟨Nat.le_of_ble_eq_true rfl, Nat.le_of_ble_eq_true rfl⟩ (fun y4 f4 h => ?_)
      refine ev_icmp_eq (tgt := 2110) dL_law_628 (by decide) (fun c5 => ?_) (fun c5 => ?_)
      · rw [if_pos c5] at h
        exact SL_law_2110 hL hxs q18 x3 _ h
      · rw [if_neg c5] at h
        refine ev_iconst dL_law_631 (r32c rfl) ?_
        obtain ⟨g, hg⟩ := h
        cases hg
    · rw [if_neg g3] at h; exact (PLn h).elim
  · rw [if_neg g1] at h; exact (PLn h).elim
def FL_law_633 (Ln : Nat) (xs : Nat → Int) (k18 : Int → Mm → Option (Int × Mm)) (x3 : Int) (f : Mm) : Option (Int × Mm) := (if 0 ≤ (w32 (x3 + 1)) ∧ (w32 (x3 + 1)) < ((Ln : Nat) : Int) then (b2 (FX10_over (xs (w32 (x3 + 1)).toNat) f) fun y2 f2 => (if 0 ≤ (w32 (x3 + 1)) ∧ (w32 (x3 + 1)) < ((Ln : Nat) : Int) then (b2 (FX11_over (xs (w32 (x3 + 1)).toNat) f2) fun y4 f4 => (if y2 = y4 then FL_law_2110 Ln xs k18 x3 f4 else some (0, f4))) else none)) else none)
set_option maxHeartbeats 8000000 in
set_option maxRecDepth 100000 in
theorem SL_law_633 {G : GT} {l : Launch} {Ln : Nat} {xs : Nat → Int} (hL : gL G = Ln) (hxs : ∀ j, (gX G j).toInt = xs j) {k18 : Int → Mm → Option (Int × Mm)} (q18 : ∀ (x3 : Int) (f : Mm), PL (k18 x3 f) → Ev G l ML_law room_1 (ZL G) 178 4676 18 [some (vR 100000), some (vR 0), some (vR 150), some (vI x3)] [] (SH, RF, f)) (x3 : Int) (f : Mm) (h : PL (FL_law_633 Ln xs k18 x3 f)) : Ev G l ML_law room_1 (ZL G) 178 4676 633 [some (vR 100000), some (vR 0), some (vR 150), some (vI x3)] [] (SH, RF, f) := by
  unfold FL_law_633 at h
  refine ev_aload_n (i := 1) dL_law_633 rfl rfl ?_
  refine ev_aload_n (i := 0) dL_law_634 rfl rfl ?_
  refine ev_iload_n (i := 3) dL_law_635 rfl rfl ?_
  refine ev_iconst dL_law_636 (r32c rfl) ?_
  refine ev_iadd dL_law_637 ?_
  by_cases g1 : 0 ≤ (w32 (x3 + 1)) ∧ (w32 (x3 + 1)) < ((Ln : Nat) : Int)
  · rw [if_pos g1] at h
    refine ex_sld hL hxs dL_law_638 g1.1 g1.2 ?_
    refine ev_cVI (b := 0) (av := [vI (xs (w32 (x3 + 1)).toNat)]) (S := []) PLn h dL_law_639 (fun Q' q => TX10_over (xs (w32 (x3 + 1)).toNat) _ q) kvX10_over ml_L_61 sh_0 rfl (RRL (by decide) (by decide)) (Nat.le_of_ble_eq_true rfl) ⟨Nat.le_of_ble_eq_true rfl, Nat.le_of_ble_eq_true rfl⟩ (fun y2 f2 h => ?_)
    refine ev_aload_n (i := 2) dL_law_642 rfl rfl ?_
    refine ev_aload_n (i := 0) dL_law_643 rfl rfl ?_
    refine ev_iload_n (i := 3) dL_law_644 rfl rfl ?_
    refine ev_iconst dL_law_645 (r32c rfl) ?_
    refine ev_iadd dL_law_646 ?_
    by_cases g3 : 0 ≤ (w32 (x3 + 1)) ∧ (w32 (x3 + 1)) < ((Ln : Nat) : Int)
    · rw [if_pos g3] at h
      refine ex_sld hL hxs dL_law_647 g3.1 g3.2 ?_
      refine ev_cVI (b := 150) (av := [vI (xs (w32 (x3 + 1)).toNat)]) (S := [vI y2]) PLn h dL_law_648 (fun Q' q => TX11_over (xs (w32 (x3 + 1)).toNat) _ q) kvX11_over ml_L_64 sh_150 rfl (RRL (by decide) (by decide)) (Nat.le_of_ble_eq_true rfl) ⟨Nat.le_of_ble_eq_true rfl, Nat.le_of_ble_eq_true rfl⟩ (fun y4 f4 h => ?_)
      refine ev_icmp_eq (tgt := 2110) dL_law_651 (by decide) (fun c5 => ?_) (fun c5 => ?_)
      · rw [if_pos c5] at h
        exact SL_law_2110 hL hxs q18 x3 _ h
      · rw [if_neg c5] at h
        refine ev_iconst dL_law_654 (r32c rfl) ?_
        obtain ⟨g, hg⟩ := h
        cases hg
    · rw [if_neg g3] at h; exact (PLn h).elim
  · rw [if_neg g1] at h; exact (PLn h).elim
def FL_law_656 (Ln : Nat) (xs : Nat → Int) (k18 : Int → Mm → Option (Int × Mm)) (x3 : Int) (f : Mm) : Option (Int × Mm) := (if 0 ≤ (w32 (x3 + 1)) ∧ (w32 (x3 + 1)) < ((Ln : Nat) : Int) then (b2 (FX10_waits (xs (w32 (x3 + 1)).toNat) f) fun y2 f2 => (if 0 ≤ (w32 (x3 + 1)) ∧ (w32 (x3 + 1)) < ((Ln : Nat) : Int) then (b2 (FX11_waits (xs (w32 (x3 + 1)).toNat) f2) fun y4 f4 => (if y2 = y4 then FL_law_2110 Ln xs k18 x3 f4 else some (0, f4))) else none)) else none)
set_option maxHeartbeats 8000000 in
set_option maxRecDepth 100000 in
theorem SL_law_656 {G : GT} {l : Launch} {Ln : Nat} {xs : Nat → Int} (hL : gL G = Ln) (hxs : ∀ j, (gX G j).toInt = xs j) {k18 : Int → Mm → Option (Int × Mm)} (q18 : ∀ (x3 : Int) (f : Mm), PL (k18 x3 f) → Ev G l ML_law room_1 (ZL G) 178 4676 18 [some (vR 100000), some (vR 0), some (vR 150), some (vI x3)] [] (SH, RF, f)) (x3 : Int) (f : Mm) (h : PL (FL_law_656 Ln xs k18 x3 f)) : Ev G l ML_law room_1 (ZL G) 178 4676 656 [some (vR 100000), some (vR 0), some (vR 150), some (vI x3)] [] (SH, RF, f) := by
  unfold FL_law_656 at h
  refine ev_aload_n (i := 1) dL_law_656 rfl rfl ?_
  refine ev_aload_n (i := 0) dL_law_657 rfl rfl ?_
  refine ev_iload_n (i := 3) dL_law_658 rfl rfl ?_
  refine ev_iconst dL_law_659 (r32c rfl) ?_
  refine ev_iadd dL_law_660 ?_
  by_cases g1 : 0 ≤ (w32 (x3 + 1)) ∧ (w32 (x3 + 1)) < ((Ln : Nat) : Int)
  · rw [if_pos g1] at h
    refine ex_sld hL hxs dL_law_661 g1.1 g1.2 ?_
    refine ev_cVI (b := 0) (av := [vI (xs (w32 (x3 + 1)).toNat)]) (S := []) PLn h dL_law_662 (fun Q' q => TX10_waits (xs (w32 (x3 + 1)).toNat) _ q) kvX10_waits ml_L_65 sh_0 rfl (RRL (by decide) (by decide)) (Nat.le_of_ble_eq_true rfl) ⟨Nat.le_of_ble_eq_true rfl, Nat.le_of_ble_eq_true rfl⟩ (fun y2 f2 h => ?_)
    refine ev_aload_n (i := 2) dL_law_665 rfl rfl ?_
    refine ev_aload_n (i := 0) dL_law_666 rfl rfl ?_
    refine ev_iload_n (i := 3) dL_law_667 rfl rfl ?_
    refine ev_iconst dL_law_668 (r32c rfl) ?_
    refine ev_iadd dL_law_669 ?_
    by_cases g3 : 0 ≤ (w32 (x3 + 1)) ∧ (w32 (x3 + 1)) < ((Ln : Nat) : Int)
    · rw [if_pos g3] at h
      refine ex_sld hL hxs dL_law_670 g3.1 g3.2 ?_
      refine ev_cVI (b := 150) (av := [vI (xs (w32 (x3 + 1)).toNat)]) (S := [vI y2]) PLn h dL_law_671 (fun Q' q => TX11_waits (xs (w32 (x3 + 1)).toNat) _ q) kvX11_waits ml_L_68 sh_150 rfl (RRL (by decide) (by decide)) (Nat.le_of_ble_eq_true rfl) ⟨Nat.le_of_ble_eq_true rfl, Nat.le_of_ble_eq_true rfl⟩ (fun y4 f4 h => ?_)
      refine ev_icmp_eq (tgt := 2110) dL_law_674 (by decide) (fun c5 => ?_) (fun c5 => ?_)
      · rw [if_pos c5] at h
        exact SL_law_2110 hL hxs q18 x3 _ h
      · rw [if_neg c5] at h
        refine ev_iconst dL_law_677 (r32c rfl) ?_
        obtain ⟨g, hg⟩ := h
        cases hg
    · rw [if_neg g3] at h; exact (PLn h).elim
  · rw [if_neg g1] at h; exact (PLn h).elim
def FL_law_679 (Ln : Nat) (xs : Nat → Int) (k18 : Int → Mm → Option (Int × Mm)) (x3 : Int) (f : Mm) : Option (Int × Mm) := (if 0 ≤ (w32 (x3 + 1)) ∧ (w32 (x3 + 1)) < ((Ln : Nat) : Int) then (b2 (FX10_room (xs (w32 (x3 + 1)).toNat) f) fun y2 f2 => (if 0 ≤ (w32 (x3 + 1)) ∧ (w32 (x3 + 1)) < ((Ln : Nat) : Int) then (b2 (FX11_room (xs (w32 (x3 + 1)).toNat) f2) fun y4 f4 => (if y2 = y4 then FL_law_2110 Ln xs k18 x3 f4 else some (0, f4))) else none)) else none)
set_option maxHeartbeats 8000000 in
set_option maxRecDepth 100000 in
theorem SL_law_679 {G : GT} {l : Launch} {Ln : Nat} {xs : Nat → Int} (hL : gL G = Ln) (hxs : ∀ j, (gX G j).toInt = xs j) {k18 : Int → Mm → Option (Int × Mm)} (q18 : ∀ (x3 : Int) (f : Mm), PL (k18 x3 f) → Ev G l ML_law room_1 (ZL G) 178 4676 18 [some (vR 100000), some (vR 0), some (vR 150), some (vI x3)] [] (SH, RF, f)) (x3 : Int) (f : Mm) (h : PL (FL_law_679 Ln xs k18 x3 f)) : Ev G l ML_law room_1 (ZL G) 178 4676 679 [some (vR 100000), some (vR 0), some (vR 150), some (vI x3)] [] (SH, RF, f) := by
  unfold FL_law_679 at h
  refine ev_aload_n (i := 1) dL_law_679 rfl rfl ?_
  refine ev_aload_n (i := 0) dL_law_680 rfl rfl ?_
  refine ev_iload_n (i := 3) dL_law_681 rfl rfl ?_
  refine ev_iconst dL_law_682 (r32c rfl) ?_
  refine ev_iadd dL_law_683 ?_
  by_cases g1 : 0 ≤ (w32 (x3 + 1)) ∧ (w32 (x3 + 1)) < ((Ln : Nat) : Int)
  · rw [if_pos g1] at h
    refine ex_sld hL hxs dL_law_684 g1.1 g1.2 ?_
    refine ev_cVI (b := 0) (av := [vI (xs (w32 (x3 + 1)).toNat)]) (S := []) PLn h dL_law_685 (fun Q' q => TX10_room (xs (w32 (x3 + 1)).toNat) _ q) kvX10_room ml_L_69 sh_0 rfl (RRL (by decide) (by decide)) (Nat.le_of_ble_eq_true rfl) ⟨Nat.le_of_ble_eq_true rfl, Nat.le_of_ble_eq_true rfl⟩ (fun y2 f2 h => ?_)
    refine ev_aload_n (i := 2) dL_law_688 rfl rfl ?_
    refine ev_aload_n (i := 0) dL_law_689 rfl rfl ?_
    refine ev_iload_n (i := 3) dL_law_690 rfl rfl ?_
    refine ev_iconst dL_law_691 (r32c rfl) ?_
    refine ev_iadd dL_law_692 ?_
    by_cases g3 : 0 ≤ (w32 (x3 + 1)) ∧ (w32 (x3 + 1)) < ((Ln : Nat) : Int)
    · rw [if_pos g3] at h
      refine ex_sld hL hxs dL_law_693 g3.1 g3.2 ?_
      refine ev_cVI (b := 150) (av := [vI (xs (w32 (x3 + 1)).toNat)]) (S := [vI y2]) PLn h dL_law_694 (fun Q' q => TX11_room (xs (w32 (x3 + 1)).toNat) _ q) kvX11_room ml_L_72 sh_150 rfl (RRL (by decide) (by decide)) (Nat.le_of_ble_eq_true rfl) ⟨Nat.le_of_ble_eq_true rfl, Nat.le_of_ble_eq_true rfl⟩ (fun y4 f4 h => ?_)
      refine ev_icmp_eq (tgt := 2110) dL_law_697 (by decide) (fun c5 => ?_) (fun c5 => ?_)
      · rw [if_pos c5] at h
        exact SL_law_2110 hL hxs q18 x3 _ h
      · rw [if_neg c5] at h
        refine ev_iconst dL_law_700 (r32c rfl) ?_
        obtain ⟨g, hg⟩ := h
        cases hg
    · rw [if_neg g3] at h; exact (PLn h).elim
  · rw [if_neg g1] at h; exact (PLn h).elim
def FL_law_702 (Ln : Nat) (xs : Nat → Int) (k18 : Int → Mm → Option (Int × Mm)) (x3 : Int) (f : Mm) : Option (Int × Mm) := (b2 (FX10_stuck f) fun y1 f1 => (b2 (FX11_stuck f1) fun y2 f2 => (if y1 = y2 then FL_law_2110 Ln xs k18 x3 f2 else some (0, f2))))
set_option maxHeartbeats 8000000 in
set_option maxRecDepth 100000 in
theorem SL_law_702 {G : GT} {l : Launch} {Ln : Nat} {xs : Nat → Int} (hL : gL G = Ln) (hxs : ∀ j, (gX G j).toInt = xs j) {k18 : Int → Mm → Option (Int × Mm)} (q18 : ∀ (x3 : Int) (f : Mm), PL (k18 x3 f) → Ev G l ML_law room_1 (ZL G) 178 4676 18 [some (vR 100000), some (vR 0), some (vR 150), some (vI x3)] [] (SH, RF, f)) (x3 : Int) (f : Mm) (h : PL (FL_law_702 Ln xs k18 x3 f)) : Ev G l ML_law room_1 (ZL G) 178 4676 702 [some (vR 100000), some (vR 0), some (vR 150), some (vI x3)] [] (SH, RF, f) := by
  unfold FL_law_702 at h
  refine ev_aload_n (i := 1) dL_law_702 rfl rfl ?_
  refine ev_cVI (b := 0) (av := []) (S := []) PLn h dL_law_703 (fun Q' q => TX10_stuck _ q) kvX10_stuck ml_L_73 sh_0 rfl (RRL (by decide) (by decide)) (Nat.le_of_ble_eq_true rfl) ⟨Nat.le_of_ble_eq_true rfl, Nat.le_of_ble_eq_true rfl⟩ (fun y1 f1 h => ?_)
  refine ev_aload_n (i := 2) dL_law_706 rfl rfl ?_
  refine ev_cVI (b := 150) (av := []) (S := [vI y1]) PLn h dL_law_707 (fun Q' q => TX11_stuck _ q) kvX11_stuck ml_L_76 sh_150 rfl (RRL (by decide) (by decide)) (Nat.le_of_ble_eq_true rfl) ⟨Nat.le_of_ble_eq_true rfl, Nat.le_of_ble_eq_true rfl⟩ (fun y2 f2 h => ?_)
  refine ev_icmp_eq (tgt := 2110) dL_law_710 (by decide) (fun c3 => ?_) (fun c3 => ?_)
  · rw [if_pos c3] at h
    exact SL_law_2110 hL hxs q18 x3 _ h
  · rw [if_neg c3] at h
    refine ev_iconst dL_law_713 (r32c rfl) ?_
    obtain ⟨g, hg⟩ := h
    cases hg
def FL_law_715 (Ln : Nat) (xs : Nat → Int) (k18 : Int → Mm → Option (Int × Mm)) (x3 : Int) (f : Mm) : Option (Int × Mm) := (b2 (FX10_lost f) fun y1 f1 => (b2 (FX11_lost f1) fun y2 f2 => (if y1 = y2 then FL_law_2110 Ln xs k18 x3 f2 else some (0, f2))))
set_option maxHeartbeats 8000000 in
set_option maxRecDepth 100000 in
theorem SL_law_715 {G : GT} {l : Launch} {Ln : Nat} {xs : Nat → Int} (hL : gL G = Ln) (hxs : ∀ j, (gX G j).toInt = xs j) {k18 : Int → Mm → Option (Int × Mm)} (q18 : ∀ (x3 : Int) (f : Mm), PL (k18 x3 f) → Ev G l ML_law room_1 (ZL G) 178 4676 18 [some (vR 100000), some (vR 0), some (vR 150), some (vI x3)] [] (SH, RF, f)) (x3 : Int) (f : Mm) (h : PL (FL_law_715 Ln xs k18 x3 f)) : Ev G l ML_law room_1 (ZL G) 178 4676 715 [some (vR 100000), some (vR 0), some (vR 150), some (vI x3)] [] (SH, RF, f) := by
  unfold FL_law_715 at h
  refine ev_aload_n (i := 1) dL_law_715 rfl rfl ?_
  refine ev_cVI (b := 0) (av := []) (S := []) PLn h dL_law_716 (fun Q' q => TX10_lost _ q) kvX10_lost ml_L_77 sh_0 rfl (RRL (by decide) (by decide)) (Nat.le_of_ble_eq_true rfl) ⟨Nat.le_of_ble_eq_true rfl, Nat.le_of_ble_eq_true rfl⟩ (fun y1 f1 h => ?_)
  refine ev_aload_n (i := 2) dL_law_719 rfl rfl ?_
  refine ev_cVI (b := 150) (av := []) (S := [vI y1]) PLn h dL_law_720 (fun Q' q => TX11_lost _ q) kvX11_lost ml_L_80 sh_150 rfl (RRL (by decide) (by decide)) (Nat.le_of_ble_eq_true rfl) ⟨Nat.le_of_ble_eq_true rfl, Nat.le_of_ble_eq_true rfl⟩ (fun y2 f2 h => ?_)
  refine ev_icmp_eq (tgt := 2110) dL_law_723 (by decide) (fun c3 => ?_) (fun c3 => ?_)
  · rw [if_pos c3] at h
    exact SL_law_2110 hL hxs q18 x3 _ h
  · rw [if_neg c3] at h
    refine ev_iconst dL_law_726 (r32c rfl) ?_
    obtain ⟨g, hg⟩ := h
    cases hg
def FL_law_728 (Ln : Nat) (xs : Nat → Int) (k18 : Int → Mm → Option (Int × Mm)) (x3 : Int) (f : Mm) : Option (Int × Mm) := (b2 (FX10_kept f) fun y1 f1 => (b2 (FX11_kept f1) fun y2 f2 => (if y1 = y2 then FL_law_2110 Ln xs k18 x3 f2 else some (0, f2))))
set_option maxHeartbeats 8000000 in
set_option maxRecDepth 100000 in
theorem SL_law_728 {G : GT} {l : Launch} {Ln : Nat} {xs : Nat → Int} (hL : gL G = Ln) (hxs : ∀ j, (gX G j).toInt = xs j) {k18 : Int → Mm → Option (Int × Mm)} (q18 : ∀ (x3 : Int) (f : Mm), PL (k18 x3 f) → Ev G l ML_law room_1 (ZL G) 178 4676 18 [some (vR 100000), some (vR 0), some (vR 150), some (vI x3)] [] (SH, RF, f)) (x3 : Int) (f : Mm) (h : PL (FL_law_728 Ln xs k18 x3 f)) : Ev G l ML_law room_1 (ZL G) 178 4676 728 [some (vR 100000), some (vR 0), some (vR 150), some (vI x3)] [] (SH, RF, f) := by
  unfold FL_law_728 at h
  refine ev_aload_n (i := 1) dL_law_728 rfl rfl ?_
  refine ev_cVI (b := 0) (av := []) (S := []) PLn h dL_law_729 (fun Q' q => TX10_kept _ q) kvX10_kept ml_L_81 sh_0 rfl (RRL (by decide) (by decide)) (Nat.le_of_ble_eq_true rfl) ⟨Nat.le_of_ble_eq_true rfl, Nat.le_of_ble_eq_true rfl⟩ (fun y1 f1 h => ?_)
  refine ev_aload_n (i := 2) dL_law_732 rfl rfl ?_
  refine ev_cVI (b := 150) (av := []) (S := [vI y1]) PLn h dL_law_733 (fun Q' q => TX11_kept _ q) kvX11_kept ml_L_84 sh_150 rfl (RRL (by decide) (by decide)) (Nat.le_of_ble_eq_true rfl) ⟨Nat.le_of_ble_eq_true rfl, Nat.le_of_ble_eq_true rfl⟩ (fun y2 f2 h => ?_)
  refine ev_icmp_eq (tgt := 2110) dL_law_736 (by decide) (fun c3 => ?_) (fun c3 => ?_)
  · rw [if_pos c3] at h
    exact SL_law_2110 hL hxs q18 x3 _ h
  · rw [if_neg c3] at h
    refine ev_iconst dL_law_739 (r32c rfl) ?_
    obtain ⟨g, hg⟩ := h
    cases hg
def FL_law_741 (Ln : Nat) (xs : Nat → Int) (k18 : Int → Mm → Option (Int × Mm)) (x3 : Int) (f : Mm) : Option (Int × Mm) := (b2 (FX10_pays f) fun y1 f1 => (b2 (FX11_pays f1) fun y2 f2 => (if y1 = y2 then FL_law_2110 Ln xs k18 x3 f2 else some (0, f2))))
set_option maxHeartbeats 8000000 in
set_option maxRecDepth 100000 in
theorem SL_law_741 {G : GT} {l : Launch} {Ln : Nat} {xs : Nat → Int} (hL : gL G = Ln) (hxs : ∀ j, (gX G j).toInt = xs j) {k18 : Int → Mm → Option (Int × Mm)} (q18 : ∀ (x3 : Int) (f : Mm), PL (k18 x3 f) → Ev G l ML_law room_1 (ZL G) 178 4676 18 [some (vR 100000), some (vR 0), some (vR 150), some (vI x3)] [] (SH, RF, f)) (x3 : Int) (f : Mm) (h : PL (FL_law_741 Ln xs k18 x3 f)) : Ev G l ML_law room_1 (ZL G) 178 4676 741 [some (vR 100000), some (vR 0), some (vR 150), some (vI x3)] [] (SH, RF, f) := by
  unfold FL_law_741 at h
  refine ev_aload_n (i := 1) dL_law_741 rfl rfl ?_
  refine ev_cVI (b := 0) (av := []) (S := []) PLn h dL_law_742 (fun Q' q => TX10_pays _ q) kvX10_pays ml_L_85 sh_0 rfl (RRL (by decide) (by decide)) (Nat.le_of_ble_eq_true rfl) ⟨Nat.le_of_ble_eq_true rfl, Nat.le_of_ble_eq_true rfl⟩ (fun y1 f1 h => ?_)
  refine ev_aload_n (i := 2) dL_law_745 rfl rfl ?_
  refine ev_cVI (b := 150) (av := []) (S := [vI y1]) PLn h dL_law_746 (fun Q' q => TX11_pays _ q) kvX11_pays ml_L_88 sh_150 rfl (RRL (by decide) (by decide)) (Nat.le_of_ble_eq_true rfl) ⟨Nat.le_of_ble_eq_true rfl, Nat.le_of_ble_eq_true rfl⟩ (fun y2 f2 h => ?_)
  refine ev_icmp_eq (tgt := 2110) dL_law_749 (by decide) (fun c3 => ?_) (fun c3 => ?_)
  · rw [if_pos c3] at h
    exact SL_law_2110 hL hxs q18 x3 _ h
  · rw [if_neg c3] at h
    refine ev_iconst dL_law_752 (r32c rfl) ?_
    obtain ⟨g, hg⟩ := h
    cases hg
def FL_law_754 (Ln : Nat) (xs : Nat → Int) (k18 : Int → Mm → Option (Int × Mm)) (x3 : Int) (f : Mm) : Option (Int × Mm) := (b2 (FX10_costs f) fun y1 f1 => (b2 (FX11_costs f1) fun y2 f2 => (if y1 = y2 then FL_law_2110 Ln xs k18 x3 f2 else some (0, f2))))
set_option maxHeartbeats 8000000 in
set_option maxRecDepth 100000 in
theorem SL_law_754 {G : GT} {l : Launch} {Ln : Nat} {xs : Nat → Int} (hL : gL G = Ln) (hxs : ∀ j, (gX G j).toInt = xs j) {k18 : Int → Mm → Option (Int × Mm)} (q18 : ∀ (x3 : Int) (f : Mm), PL (k18 x3 f) → Ev G l ML_law room_1 (ZL G) 178 4676 18 [some (vR 100000), some (vR 0), some (vR 150), some (vI x3)] [] (SH, RF, f)) (x3 : Int) (f : Mm) (h : PL (FL_law_754 Ln xs k18 x3 f)) : Ev G l ML_law room_1 (ZL G) 178 4676 754 [some (vR 100000), some (vR 0), some (vR 150), some (vI x3)] [] (SH, RF, f) := by
  unfold FL_law_754 at h
  refine ev_aload_n (i := 1) dL_law_754 rfl rfl ?_
  refine ev_cVI (b := 0) (av := []) (S := []) PLn h dL_law_755 (fun Q' q => TX10_costs _ q) kvX10_costs ml_L_89 sh_0 rfl (RRL (by decide) (by decide)) (Nat.le_of_ble_eq_true rfl) ⟨Nat.le_of_ble_eq_true rfl, Nat.le_of_ble_eq_true rfl⟩ (fun y1 f1 h => ?_)
  refine ev_aload_n (i := 2) dL_law_758 rfl rfl ?_
  refine ev_cVI (b := 150) (av := []) (S := [vI y1]) PLn h dL_law_759 (fun Q' q => TX11_costs _ q) kvX11_costs ml_L_92 sh_150 rfl (RRL (by decide) (by decide)) (Nat.le_of_ble_eq_true rfl) ⟨Nat.le_of_ble_eq_true rfl, Nat.le_of_ble_eq_true rfl⟩ (fun y2 f2 h => ?_)
  refine ev_icmp_eq (tgt := 2110) dL_law_762 (by decide) (fun c3 => ?_) (fun c3 => ?_)
  · rw [if_pos c3] at h
    exact SL_law_2110 hL hxs q18 x3 _ h
  · rw [if_neg c3] at h
    refine ev_iconst dL_law_765 (r32c rfl) ?_
    obtain ⟨g, hg⟩ := h
    cases hg
def FL_law_767 (Ln : Nat) (xs : Nat → Int) (k18 : Int → Mm → Option (Int × Mm)) (x3 : Int) (f : Mm) : Option (Int × Mm) := (b2 (FX10_best f) fun y1 f1 => (b2 (FX11_best f1) fun y2 f2 => (if y1 = y2 then FL_law_2110 Ln xs k18 x3 f2 else some (0, f2))))
set_option maxHeartbeats 8000000 in
set_option maxRecDepth 100000 in
theorem SL_law_767 {G : GT} {l : Launch} {Ln : Nat} {xs : Nat → Int} (hL : gL G = Ln) (hxs : ∀ j, (gX G j).toInt = xs j) {k18 : Int → Mm → Option (Int × Mm)} (q18 : ∀ (x3 : Int) (f : Mm), PL (k18 x3 f) → Ev G l ML_law room_1 (ZL G) 178 4676 18 [some (vR 100000), some (vR 0), some (vR 150), some (vI x3)] [] (SH, RF, f)) (x3 : Int) (f : Mm) (h : PL (FL_law_767 Ln xs k18 x3 f)) : Ev G l ML_law room_1 (ZL G) 178 4676 767 [some (vR 100000), some (vR 0), some (vR 150), some (vI x3)] [] (SH, RF, f) := by
  unfold FL_law_767 at h
  refine ev_aload_n (i := 1) dL_law_767 rfl rfl ?_
  refine ev_cVI (b := 0) (av := []) (S := []) PLn h dL_law_768 (fun Q' q => TX10_best _ q) kvX10_best ml_L_93 sh_0 rfl (RRL (by decide) (by decide)) (Nat.le_of_ble_eq_true rfl) ⟨Nat.le_of_ble_eq_true rfl, Nat.le_of_ble_eq_true rfl⟩ (fun y1 f1 h => ?_)
  refine ev_aload_n (i := 2) dL_law_771 rfl rfl ?_
  refine ev_cVI (b := 150) (av := []) (S := [vI y1]) PLn h dL_law_772 (fun Q' q => TX11_best _ q) kvX11_best ml_L_96 sh_150 rfl (RRL (by decide) (by decide)) (Nat.le_of_ble_eq_true rfl) ⟨Nat.le_of_ble_eq_true rfl, Nat.le_of_ble_eq_true rfl⟩ (fun y2 f2 h => ?_)
  refine ev_icmp_eq (tgt := 2110) dL_law_775 (by decide) (fun c3 => ?_) (fun c3 => ?_)
  · rw [if_pos c3] at h
    exact SL_law_2110 hL hxs q18 x3 _ h
  · rw [if_neg c3] at h
    refine ev_iconst dL_law_778 (r32c rfl) ?_
    obtain ⟨g, hg⟩ := h
    cases hg
def FL_law_780 (Ln : Nat) (xs : Nat → Int) (k18 : Int → Mm → Option (Int × Mm)) (x3 : Int) (f : Mm) : Option (Int × Mm) := (if 0 ≤ (w32 (x3 + 1)) ∧ (w32 (x3 + 1)) < ((Ln : Nat) : Int) then (b2 (FX10_plan (xs (w32 (x3 + 1)).toNat) f) fun y2 f2 => (if 0 ≤ (w32 (x3 + 1)) ∧ (w32 (x3 + 1)) < ((Ln : Nat) : Int) then (b2 (FX11_plan (xs (w32 (x3 + 1)).toNat) f2) fun y4 f4 => (if y2 = y4 then FL_law_2110 Ln xs k18 x3 f4 else some (0, f4))) else none)) else none)
set_option maxHeartbeats 8000000 in
set_option maxRecDepth 100000 in
theorem SL_law_780 {G : GT} {l : Launch} {Ln : Nat} {xs : Nat → Int} (hL : gL G = Ln) (hxs : ∀ j, (gX G j).toInt = xs j) {k18 : Int → Mm → Option (Int × Mm)} (q18 : ∀ (x3 : Int) (f : Mm), PL (k18 x3 f) → Ev G l ML_law room_1 (ZL G) 178 4676 18 [some (vR 100000), some (vR 0), some (vR 150), some (vI x3)] [] (SH, RF, f)) (x3 : Int) (f : Mm) (h : PL (FL_law_780 Ln xs k18 x3 f)) : Ev G l ML_law room_1 (ZL G) 178 4676 780 [some (vR 100000), some (vR 0), some (vR 150), some (vI x3)] [] (SH, RF, f) := by
  unfold FL_law_780 at h
  refine ev_aload_n (i := 1) dL_law_780 rfl rfl ?_
  refine ev_aload_n (i := 0) dL_law_781 rfl rfl ?_
  refine ev_iload_n (i := 3) dL_law_782 rfl rfl ?_
  refine ev_iconst dL_law_783 (r32c rfl) ?_
  refine ev_iadd dL_law_784 ?_
  by_cases g1 : 0 ≤ (w32 (x3 + 1)) ∧ (w32 (x3 + 1)) < ((Ln : Nat) : Int)
  · rw [if_pos g1] at h
    refine ex_sld hL hxs dL_law_785 g1.1 g1.2 ?_
    refine ev_cVI (b := 0) (av := [vI (xs (w32 (x3 + 1)).toNat)]) (S := []) PLn h dL_law_786 (fun Q' q => TX10_plan (xs (w32 (x3 + 1)).toNat) _ q) kvX10_plan ml_L_97 sh_0 rfl (RRL (by decide) (by decide)) (Nat.le_of_ble_eq_true rfl) ⟨Nat.le_of_ble_eq_true rfl, Nat.le_of_ble_eq_true rfl⟩ (fun y2 f2 h => ?_)
    refine ev_aload_n (i := 2) dL_law_789 rfl rfl ?_
    refine ev_aload_n (i := 0) dL_law_790 rfl rfl ?_
    refine ev_iload_n (i := 3) dL_law_791 rfl rfl ?_
    refine ev_iconst dL_law_792 (r32c rfl) ?_
    refine ev_iadd dL_law_793 ?_
    by_cases g3 : 0 ≤ (w32 (x3 + 1)) ∧ (w32 (x3 + 1)) < ((Ln : Nat) : Int)
    · rw [if_pos g3] at h
      refine ex_sld hL hxs dL_law_794 g3.1 g3.2 ?_
      refine ev_cVI (b := 150) (av := [vI (xs (w32 (x3 + 1)).toNat)]) (S := [vI y2]) PLn h dL_law_795 (fun Q' q => TX11_plan (xs (w32 (x3 + 1)).toNat) _ q) kvX11_plan ml_L_100 sh_150 rfl (RRL (by decide) (by decide)) (Nat.le_of_ble_eq_true rfl) ⟨Nat.le_of_ble_eq_true rfl, Nat.le_of_ble_eq_true rfl⟩ (fun y4 f4 h => ?_)
      refine ev_icmp_eq (tgt := 2110) dL_law_798 (by decide) (fun c5 => ?_) (fun c5 => ?_)
      · rw [if_pos c5] at h
        exact SL_law_2110 hL hxs q18 x3 _ h
      · rw [if_neg c5] at h
        refine ev_iconst dL_law_801 (r32c rfl) ?_
        obtain ⟨g, hg⟩ := h
        cases hg
    · rw [if_neg g3] at h; exact (PLn h).elim
  · rw [if_neg g1] at h; exact (PLn h).elim
def FL_law_803 (Ln : Nat) (xs : Nat → Int) (k18 : Int → Mm → Option (Int × Mm)) (x3 : Int) (f : Mm) : Option (Int × Mm) := (b2 (FX10_ways f) fun y1 f1 => (b2 (FX11_ways f1) fun y2 f2 => (if y1 = y2 then FL_law_2110 Ln xs k18 x3 f2 else some (0, f2))))
set_option maxHeartbeats 8000000 in
set_option maxRecDepth 100000 in
theorem SL_law_803 {G : GT} {l : Launch} {Ln : Nat} {xs : Nat → Int} (hL : gL G = Ln) (hxs : ∀ j, (gX G j).toInt = xs j) {k18 : Int → Mm → Option (Int × Mm)} (q18 : ∀ (x3 : Int) (f : Mm), PL (k18 x3 f) → Ev G l ML_law room_1 (ZL G) 178 4676 18 [some (vR 100000), some (vR 0), some (vR 150), some (vI x3)] [] (SH, RF, f)) (x3 : Int) (f : Mm) (h : PL (FL_law_803 Ln xs k18 x3 f)) : Ev G l ML_law room_1 (ZL G) 178 4676 803 [some (vR 100000), some (vR 0), some (vR 150), some (vI x3)] [] (SH, RF, f) := by
  unfold FL_law_803 at h
  refine ev_aload_n (i := 1) dL_law_803 rfl rfl ?_
  refine ev_cVI (b := 0) (av := []) (S := []) PLn h dL_law_804 (fun Q' q => TX10_ways _ q) kvX10_ways ml_L_101 sh_0 rfl (RRL (by decide) (by decide)) (Nat.le_of_ble_eq_true rfl) ⟨Nat.le_of_ble_eq_true rfl, Nat.le_of_ble_eq_true rfl⟩ (fun y1 f1 h => ?_)
  refine ev_aload_n (i := 2) dL_law_807 rfl rfl ?_
  refine ev_cVI (b := 150) (av := []) (S := [vI y1]) PLn h dL_law_808 (fun Q' q => TX11_ways _ q) kvX11_ways ml_L_104 sh_150 rfl (RRL (by decide) (by decide)) (Nat.le_of_ble_eq_true rfl) ⟨Nat.le_of_ble_eq_true rfl, Nat.le_of_ble_eq_true rfl⟩ (fun y2 f2 h => ?_)
  refine ev_icmp_eq (tgt := 2110) dL_law_811 (by decide) (fun c3 => ?_) (fun c3 => ?_)
  · rw [if_pos c3] at h
    exact SL_law_2110 hL hxs q18 x3 _ h
  · rw [if_neg c3] at h
    refine ev_iconst dL_law_814 (r32c rfl) ?_
    obtain ⟨g, hg⟩ := h
    cases hg
def FL_law_816 (Ln : Nat) (xs : Nat → Int) (k18 : Int → Mm → Option (Int × Mm)) (x3 : Int) (f : Mm) : Option (Int × Mm) := (b2 (FX10_peak f) fun y1 f1 => (b2 (FX11_peak f1) fun y2 f2 => (if y1 = y2 then FL_law_2110 Ln xs k18 x3 f2 else some (0, f2))))
set_option maxHeartbeats 8000000 in
set_option maxRecDepth 100000 in
theorem SL_law_816 {G : GT} {l : Launch} {Ln : Nat} {xs : Nat → Int} (hL : gL G = Ln) (hxs : ∀ j, (gX G j).toInt = xs j) {k18 : Int → Mm → Option (Int × Mm)} (q18 : ∀ (x3 : Int) (f : Mm), PL (k18 x3 f) → Ev G l ML_law room_1 (ZL G) 178 4676 18 [some (vR 100000), some (vR 0), some (vR 150), some (vI x3)] [] (SH, RF, f)) (x3 : Int) (f : Mm) (h : PL (FL_law_816 Ln xs k18 x3 f)) : Ev G l ML_law room_1 (ZL G) 178 4676 816 [some (vR 100000), some (vR 0), some (vR 150), some (vI x3)] [] (SH, RF, f) := by
  unfold FL_law_816 at h
  refine ev_aload_n (i := 1) dL_law_816 rfl rfl ?_
  refine ev_cVI (b := 0) (av := []) (S := []) PLn h dL_law_817 (fun Q' q => TX10_peak _ q) kvX10_peak ml_L_105 sh_0 rfl (RRL (by decide) (by decide)) (Nat.le_of_ble_eq_true rfl) ⟨Nat.le_of_ble_eq_true rfl, Nat.le_of_ble_eq_true rfl⟩ (fun y1 f1 h => ?_)
  refine ev_aload_n (i := 2) dL_law_820 rfl rfl ?_
  refine ev_cVI (b := 150) (av := []) (S := [vI y1]) PLn h dL_law_821 (fun Q' q => TX11_peak _ q) kvX11_peak ml_L_108 sh_150 rfl (RRL (by decide) (by decide)) (Nat.le_of_ble_eq_true rfl) ⟨Nat.le_of_ble_eq_true rfl, Nat.le_of_ble_eq_true rfl⟩ (fun y2 f2 h => ?_)
  refine ev_icmp_eq (tgt := 2110) dL_law_824 (by decide) (fun c3 => ?_) (fun c3 => ?_)
  · rw [if_pos c3] at h
    exact SL_law_2110 hL hxs q18 x3 _ h
  · rw [if_neg c3] at h
    refine ev_iconst dL_law_827 (r32c rfl) ?_
    obtain ⟨g, hg⟩ := h
    cases hg
def FL_law_829 (Ln : Nat) (xs : Nat → Int) (k18 : Int → Mm → Option (Int × Mm)) (x3 : Int) (f : Mm) : Option (Int × Mm) := (if 0 ≤ (w32 (x3 + 1)) ∧ (w32 (x3 + 1)) < ((Ln : Nat) : Int) then (b2 (FX10_lacks (xs (w32 (x3 + 1)).toNat) f) fun y2 f2 => (if 0 ≤ (w32 (x3 + 1)) ∧ (w32 (x3 + 1)) < ((Ln : Nat) : Int) then (b2 (FX11_lacks (xs (w32 (x3 + 1)).toNat) f2) fun y4 f4 => (if y2 = y4 then FL_law_2110 Ln xs k18 x3 f4 else some (0, f4))) else none)) else none)
set_option maxHeartbeats 8000000 in
set_option maxRecDepth 100000 in
theorem SL_law_829 {G : GT} {l : Launch} {Ln : Nat} {xs : Nat → Int} (hL : gL G = Ln) (hxs : ∀ j, (gX G j).toInt = xs j) {k18 : Int → Mm → Option (Int × Mm)} (q18 : ∀ (x3 : Int) (f : Mm), PL (k18 x3 f) → Ev G l ML_law room_1 (ZL G) 178 4676 18 [some (vR 100000), some (vR 0), some (vR 150), some (vI x3)] [] (SH, RF, f)) (x3 : Int) (f : Mm) (h : PL (FL_law_829 Ln xs k18 x3 f)) : Ev G l ML_law room_1 (ZL G) 178 4676 829 [some (vR 100000), some (vR 0), some (vR 150), some (vI x3)] [] (SH, RF, f) := by
  unfold FL_law_829 at h
  refine ev_aload_n (i := 1) dL_law_829 rfl rfl ?_
  refine ev_aload_n (i := 0) dL_law_830 rfl rfl ?_
  refine ev_iload_n (i := 3) dL_law_831 rfl rfl ?_
  refine ev_iconst dL_law_832 (r32c rfl) ?_
  refine ev_iadd dL_law_833 ?_
  by_cases g1 : 0 ≤ (w32 (x3 + 1)) ∧ (w32 (x3 + 1)) < ((Ln : Nat) : Int)
  · rw [if_pos g1] at h
    refine ex_sld hL hxs dL_law_834 g1.1 g1.2 ?_
    refine ev_cVI (b := 0) (av := [vI (xs (w32 (x3 + 1)).toNat)]) (S := []) PLn h dL_law_835 (fun Q' q => TX10_lacks (xs (w32 (x3 + 1)).toNat) _ q) kvX10_lacks ml_L_109 sh_0 rfl (RRL (by decide) (by decide)) (Nat.le_of_ble_eq_true rfl) ⟨Nat.le_of_ble_eq_true rfl, Nat.le_of_ble_eq_true rfl⟩ (fun y2 f2 h => ?_)
    refine ev_aload_n (i := 2) dL_law_838 rfl rfl ?_
    refine ev_aload_n (i := 0) dL_law_839 rfl rfl ?_
    refine ev_iload_n (i := 3) dL_law_840 rfl rfl ?_
    refine ev_iconst dL_law_841 (r32c rfl) ?_
    refine ev_iadd dL_law_842 ?_
    by_cases g3 : 0 ≤ (w32 (x3 + 1)) ∧ (w32 (x3 + 1)) < ((Ln : Nat) : Int)
    · rw [if_pos g3] at h
      refine ex_sld hL hxs dL_law_843 g3.1 g3.2 ?_
      refine ev_cVI (b := 150) (av := [vI (xs (w32 (x3 + 1)).toNat)]) (S := [vI y2]) PLn h dL_law_844 (fun Q' q => TX11_lacks (xs (w32 (x3 + 1)).toNat) _ q) kvX11_lacks ml_L_112 sh_150 rfl (RRL (by decide) (by decide)) (Nat.le_of_ble_eq_true rfl) ⟨Nat.le_of_ble_eq_true rfl, Nat.le_of_ble_eq_true rfl⟩ (fun y4 f4 h => ?_)
      refine ev_icmp_eq (tgt := 2110) dL_law_847 (by decide) (fun c5 => ?_) (fun c5 => ?_)
      · rw [if_pos c5] at h
        exact SL_law_2110 hL hxs q18 x3 _ h
      · rw [if_neg c5] at h
        refine ev_iconst dL_law_850 (r32c rfl) ?_
        obtain ⟨g, hg⟩ := h
        cases hg
    · rw [if_neg g3] at h; exact (PLn h).elim
  · rw [if_neg g1] at h; exact (PLn h).elim
def FL_law_852 (Ln : Nat) (xs : Nat → Int) (k18 : Int → Mm → Option (Int × Mm)) (x3 : Int) (f : Mm) : Option (Int × Mm) := (b2 (FX10_crowd f) fun y1 f1 => (b2 (FX11_crowd f1) fun y2 f2 => (if y1 = y2 then FL_law_2110 Ln xs k18 x3 f2 else some (0, f2))))
set_option maxHeartbeats 8000000 in
set_option maxRecDepth 100000 in
theorem SL_law_852 {G : GT} {l : Launch} {Ln : Nat} {xs : Nat → Int} (hL : gL G = Ln) (hxs : ∀ j, (gX G j).toInt = xs j) {k18 : Int → Mm → Option (Int × Mm)} (q18 : ∀ (x3 : Int) (f : Mm), PL (k18 x3 f) → Ev G l ML_law room_1 (ZL G) 178 4676 18 [some (vR 100000), some (vR 0), some (vR 150), some (vI x3)] [] (SH, RF, f)) (x3 : Int) (f : Mm) (h : PL (FL_law_852 Ln xs k18 x3 f)) : Ev G l ML_law room_1 (ZL G) 178 4676 852 [some (vR 100000), some (vR 0), some (vR 150), some (vI x3)] [] (SH, RF, f) := by
  unfold FL_law_852 at h
  refine ev_aload_n (i := 1) dL_law_852 rfl rfl ?_
  refine ev_cVI (b := 0) (av := []) (S := []) PLn h dL_law_853 (fun Q' q => TX10_crowd _ q) kvX10_crowd ml_L_113 sh_0 rfl (RRL (by decide) (by decide)) (Nat.le_of_ble_eq_true rfl) ⟨Nat.le_of_ble_eq_true rfl, Nat.le_of_ble_eq_true rfl⟩ (fun y1 f1 h => ?_)
  refine ev_aload_n (i := 2) dL_law_856 rfl rfl ?_
  refine ev_cVI (b := 150) (av := []) (S := [vI y1]) PLn h dL_law_857 (fun Q' q => TX11_crowd _ q) kvX11_crowd ml_L_116 sh_150 rfl (RRL (by decide) (by decide)) (Nat.le_of_ble_eq_true rfl) ⟨Nat.le_of_ble_eq_true rfl, Nat.le_of_ble_eq_true rfl⟩ (fun y2 f2 h => ?_)
  refine ev_icmp_eq (tgt := 2110) dL_law_860 (by decide) (fun c3 => ?_) (fun c3 => ?_)
  · rw [if_pos c3] at h
    exact SL_law_2110 hL hxs q18 x3 _ h
  · rw [if_neg c3] at h
    refine ev_iconst dL_law_863 (r32c rfl) ?_
    obtain ⟨g, hg⟩ := h
    cases hg
def FL_law_865 (Ln : Nat) (xs : Nat → Int) (k18 : Int → Mm → Option (Int × Mm)) (x3 : Int) (f : Mm) : Option (Int × Mm) := (b2 (FX10_late f) fun y1 f1 => (b2 (FX11_late f1) fun y2 f2 => (if y1 = y2 then FL_law_2110 Ln xs k18 x3 f2 else some (0, f2))))
set_option maxHeartbeats 8000000 in
set_option maxRecDepth 100000 in
theorem SL_law_865 {G : GT} {l : Launch} {Ln : Nat} {xs : Nat → Int} (hL : gL G = Ln) (hxs : ∀ j, (gX G j).toInt = xs j) {k18 : Int → Mm → Option (Int × Mm)} (q18 : ∀ (x3 : Int) (f : Mm), PL (k18 x3 f) → Ev G l ML_law room_1 (ZL G) 178 4676 18 [some (vR 100000), some (vR 0), some (vR 150), some (vI x3)] [] (SH, RF, f)) (x3 : Int) (f : Mm) (h : PL (FL_law_865 Ln xs k18 x3 f)) : Ev G l ML_law room_1 (ZL G) 178 4676 865 [some (vR 100000), some (vR 0), some (vR 150), some (vI x3)] [] (SH, RF, f) := by
  unfold FL_law_865 at h
  refine ev_aload_n (i := 1) dL_law_865 rfl rfl ?_
  refine ev_cVI (b := 0) (av := []) (S := []) PLn h dL_law_866 (fun Q' q => TX10_late _ q) kvX10_late ml_L_117 sh_0 rfl (RRL (by decide) (by decide)) (Nat.le_of_ble_eq_true rfl) ⟨Nat.le_of_ble_eq_true rfl, Nat.le_of_ble_eq_true rfl⟩ (fun y1 f1 h => ?_)
  refine ev_aload_n (i := 2) dL_law_869 rfl rfl ?_
  refine ev_cVI (b := 150) (av := []) (S := [vI y1]) PLn h dL_law_870 (fun Q' q => TX11_late _ q) kvX11_late ml_L_120 sh_150 rfl (RRL (by decide) (by decide)) (Nat.le_of_ble_eq_true rfl) ⟨Nat.le_of_ble_eq_true rfl, Nat.le_of_ble_eq_true rfl⟩ (fun y2 f2 h => ?_)
  refine ev_icmp_eq (tgt := 2110) dL_law_873 (by decide) (fun c3 => ?_) (fun c3 => ?_)
  · rw [if_pos c3] at h
    exact SL_law_2110 hL hxs q18 x3 _ h
  · rw [if_neg c3] at h
    refine ev_iconst dL_law_876 (r32c rfl) ?_
    obtain ⟨g, hg⟩ := h
    cases hg
def FL_law_878 (Ln : Nat) (xs : Nat → Int) (k18 : Int → Mm → Option (Int × Mm)) (x3 : Int) (f : Mm) : Option (Int × Mm) := (b2 (FX10_delay f) fun y1 f1 => (b2 (FX11_delay f1) fun y2 f2 => (if y1 = y2 then FL_law_2110 Ln xs k18 x3 f2 else some (0, f2))))
set_option maxHeartbeats 8000000 in
set_option maxRecDepth 100000 in
theorem SL_law_878 {G : GT} {l : Launch} {Ln : Nat} {xs : Nat → Int} (hL : gL G = Ln) (hxs : ∀ j, (gX G j).toInt = xs j) {k18 : Int → Mm → Option (Int × Mm)} (q18 : ∀ (x3 : Int) (f : Mm), PL (k18 x3 f) → Ev G l ML_law room_1 (ZL G) 178 4676 18 [some (vR 100000), some (vR 0), some (vR 150), some (vI x3)] [] (SH, RF, f)) (x3 : Int) (f : Mm) (h : PL (FL_law_878 Ln xs k18 x3 f)) : Ev G l ML_law room_1 (ZL G) 178 4676 878 [some (vR 100000), some (vR 0), some (vR 150), some (vI x3)] [] (SH, RF, f) := by
  unfold FL_law_878 at h
  refine ev_aload_n (i := 1) dL_law_878 rfl rfl ?_
  refine ev_cVI (b := 0) (av := []) (S := []) PLn h dL_law_879 (fun Q' q => TX10_delay _ q) kvX10_delay ml_L_121 sh_0 rfl (RRL (by decide) (by decide)) (Nat.le_of_ble_eq_true rfl) ⟨Nat.le_of_ble_eq_true rfl, Nat.le_of_ble_eq_true rfl⟩ (fun y1 f1 h => ?_)
  refine ev_aload_n (i := 2) dL_law_882 rfl rfl ?_
  refine ev_cVI (b := 150) (av := []) (S := [vI y1]) PLn h dL_law_883 (fun Q' q => TX11_delay _ q) kvX11_delay ml_L_124 sh_150 rfl (RRL (by decide) (by decide)) (Nat.le_of_ble_eq_true rfl) ⟨Nat.le_of_ble_eq_true rfl, Nat.le_of_ble_eq_true rfl⟩ (fun y2 f2 h => ?_)
  refine ev_icmp_eq (tgt := 2110) dL_law_886 (by decide) (fun c3 => ?_) (fun c3 => ?_)
  · rw [if_pos c3] at h
    exact SL_law_2110 hL hxs q18 x3 _ h
  · rw [if_neg c3] at h
    refine ev_iconst dL_law_889 (r32c rfl) ?_
    obtain ⟨g, hg⟩ := h
    cases hg
def FL_law_891 (Ln : Nat) (xs : Nat → Int) (k18 : Int → Mm → Option (Int × Mm)) (x3 : Int) (f : Mm) : Option (Int × Mm) := (if 0 ≤ (w32 (x3 + 1)) ∧ (w32 (x3 + 1)) < ((Ln : Nat) : Int) then (b2 (FX10_toll (xs (w32 (x3 + 1)).toNat) f) fun y2 f2 => (if 0 ≤ (w32 (x3 + 1)) ∧ (w32 (x3 + 1)) < ((Ln : Nat) : Int) then (b2 (FX11_toll (xs (w32 (x3 + 1)).toNat) f2) fun y4 f4 => (if y2 = y4 then FL_law_2110 Ln xs k18 x3 f4 else some (0, f4))) else none)) else none)
set_option maxHeartbeats 8000000 in
set_option maxRecDepth 100000 in
theorem SL_law_891 {G : GT} {l : Launch} {Ln : Nat} {xs : Nat → Int} (hL : gL G = Ln) (hxs : ∀ j, (gX G j).toInt = xs j) {k18 : Int → Mm → Option (Int × Mm)} (q18 : ∀ (x3 : Int) (f : Mm), PL (k18 x3 f) → Ev G l ML_law room_1 (ZL G) 178 4676 18 [some (vR 100000), some (vR 0), some (vR 150), some (vI x3)] [] (SH, RF, f)) (x3 : Int) (f : Mm) (h : PL (FL_law_891 Ln xs k18 x3 f)) : Ev G l ML_law room_1 (ZL G) 178 4676 891 [some (vR 100000), some (vR 0), some (vR 150), some (vI x3)] [] (SH, RF, f) := by
  unfold FL_law_891 at h
  refine ev_aload_n (i := 1) dL_law_891 rfl rfl ?_
  refine ev_aload_n (i := 0) dL_law_892 rfl rfl ?_
  refine ev_iload_n (i := 3) dL_law_893 rfl rfl ?_
  refine ev_iconst dL_law_894 (r32c rfl) ?_
  refine ev_iadd dL_law_895 ?_
  by_cases g1 : 0 ≤ (w32 (x3 + 1)) ∧ (w32 (x3 + 1)) < ((Ln : Nat) : Int)
  · rw [if_pos g1] at h
    refine ex_sld hL hxs dL_law_896 g1.1 g1.2 ?_
    refine ev_cVI (b := 0) (av := [vI (xs (w32 (x3 + 1)).toNat)]) (S := []) PLn h dL_law_897 (fun Q' q => TX10_toll (xs (w32 (x3 + 1)).toNat) _ q) kvX10_toll ml_L_125 sh_0 rfl (RRL (by decide) (by decide)) (Nat.le_of_ble_eq_true rfl) ⟨Nat.le_of_ble_eq_true rfl, Nat.le_of_ble_eq_true rfl⟩ (fun y2 f2 h => ?_)
    refine ev_aload_n (i := 2) dL_law_900 rfl rfl ?_
    refine ev_aload_n (i := 0) dL_law_901 rfl rfl ?_
    refine ev_iload_n (i := 3) dL_law_902 rfl rfl ?_
    refine ev_iconst dL_law_903 (r32c rfl) ?_
    refine ev_iadd dL_law_904 ?_
    by_cases g3 : 0 ≤ (w32 (x3 + 1)) ∧ (w32 (x3 + 1)) < ((Ln : Nat) : Int)
    · rw [if_pos g3] at h
      refine ex_sld hL hxs dL_law_905 g3.1 g3.2 ?_
      refine ev_cVI (b := 150) (av := [vI (xs (w32 (x3 + 1)).toNat)]) (S := [vI y2]) PLn h dL_law_906 (fun Q' q => TX11_toll (xs (w32 (x3 + 1)).toNat) _ q) kvX11_toll ml_L_128 sh_150 rfl (RRL (by decide) (by decide)) (Nat.le_of_ble_eq_true rfl) ⟨Nat.le_of_ble_eq_true rfl, Nat.le_of_ble_eq_true rfl⟩ (fun y4 f4 h => ?_)
      refine ev_icmp_eq (tgt := 2110) dL_law_909 (by decide) (fun c5 => ?_) (fun c5 => ?_)
      · rw [if_pos c5] at h
        exact SL_law_2110 hL hxs q18 x3 _ h
      · rw [if_neg c5] at h
        refine ev_iconst dL_law_912 (r32c rfl) ?_
        obtain ⟨g, hg⟩ := h
        cases hg
    · rw [if_neg g3] at h; exact (PLn h).elim
  · rw [if_neg g1] at h; exact (PLn h).elim
def FL_law_914 (Ln : Nat) (xs : Nat → Int) (k18 : Int → Mm → Option (Int × Mm)) (x3 : Int) (f : Mm) : Option (Int × Mm) := (if 0 ≤ (w32 (x3 + 1)) ∧ (w32 (x3 + 1)) < ((Ln : Nat) : Int) then (b2 (FX10_gap (xs (w32 (x3 + 1)).toNat) f) fun y2 f2 => (if 0 ≤ (w32 (x3 + 1)) ∧ (w32 (x3 + 1)) < ((Ln : Nat) : Int) then (b2 (FX11_gap (xs (w32 (x3 + 1)).toNat) f2) fun y4 f4 => (if y2 = y4 then FL_law_2110 Ln xs k18 x3 f4 else some (0, f4))) else none)) else none)
set_option maxHeartbeats 8000000 in
set_option maxRecDepth 100000 in
theorem SL_law_914 {G : GT} {l : Launch} {Ln : Nat} {xs : Nat → Int} (hL : gL G = Ln) (hxs : ∀ j, (gX G j).toInt = xs j) {k18 : Int → Mm → Option (Int × Mm)} (q18 : ∀ (x3 : Int) (f : Mm), PL (k18 x3 f) → Ev G l ML_law room_1 (ZL G) 178 4676 18 [some (vR 100000), some (vR 0), some (vR 150), some (vI x3)] [] (SH, RF, f)) (x3 : Int) (f : Mm) (h : PL (FL_law_914 Ln xs k18 x3 f)) : Ev G l ML_law room_1 (ZL G) 178 4676 914 [some (vR 100000), some (vR 0), some (vR 150), some (vI x3)] [] (SH, RF, f) := by
  unfold FL_law_914 at h
  refine ev_aload_n (i := 1) dL_law_914 rfl rfl ?_
  refine ev_aload_n (i := 0) dL_law_915 rfl rfl ?_
  refine ev_iload_n (i := 3) dL_law_916 rfl rfl ?_
  refine ev_iconst dL_law_917 (r32c rfl) ?_
  refine ev_iadd dL_law_918 ?_
  by_cases g1 : 0 ≤ (w32 (x3 + 1)) ∧ (w32 (x3 + 1)) < ((Ln : Nat) : Int)
  · rw [if_pos g1] at h
    refine ex_sld hL hxs dL_law_919 g1.1 g1.2 ?_
    refine ev_cVI (b := 0) (av := [vI (xs (w32 (x3 + 1)).toNat)]) (S := []) PLn h dL_law_920 (fun Q' q => TX10_gap (xs (w32 (x3 + 1)).toNat) _ q) kvX10_gap ml_L_129 sh_0 rfl (RRL (by decide) (by decide)) (Nat.le_of_ble_eq_true rfl) ⟨Nat.le_of_ble_eq_true rfl, Nat.le_of_ble_eq_true rfl⟩ (fun y2 f2 h => ?_)
    refine ev_aload_n (i := 2) dL_law_923 rfl rfl ?_
    refine ev_aload_n (i := 0) dL_law_924 rfl rfl ?_
    refine ev_iload_n (i := 3) dL_law_925 rfl rfl ?_
    refine ev_iconst dL_law_926 (r32c rfl) ?_
    refine ev_iadd dL_law_927 ?_
    by_cases g3 : 0 ≤ (w32 (x3 + 1)) ∧ (w32 (x3 + 1)) < ((Ln : Nat) : Int)
    · rw [if_pos g3] at h
      refine ex_sld hL hxs dL_law_928 g3.1 g3.2 ?_
      refine ev_cVI (b := 150) (av := [vI (xs (w32 (x3 + 1)).toNat)]) (S := [vI y2]) PLn h dL_law_929 (fun Q' q => TX11_gap (xs (w32 (x3 + 1)).toNat) _ q) kvX11_gap ml_L_132 sh_150 rfl (RRL (by decide) (by decide)) (Nat.le_of_ble_eq_true rfl) ⟨Nat.le_of_ble_eq_true rfl, Nat.le_of_ble_eq_true rfl⟩ (fun y4 f4 h => ?_)
      refine ev_icmp_eq (tgt := 2110) dL_law_932 (by decide) (fun c5 => ?_) (fun c5 => ?_)
      · rw [if_pos c5] at h
        exact SL_law_2110 hL hxs q18 x3 _ h
      · rw [if_neg c5] at h
        refine ev_iconst dL_law_935 (r32c rfl) ?_
        obtain ⟨g, hg⟩ := h
        cases hg
    · rw [if_neg g3] at h; exact (PLn h).elim
  · rw [if_neg g1] at h; exact (PLn h).elim
def FL_law_937 (Ln : Nat) (xs : Nat → Int) (k18 : Int → Mm → Option (Int × Mm)) (x3 : Int) (f : Mm) : Option (Int × Mm) := (if 0 ≤ (w32 (x3 + 1)) ∧ (w32 (x3 + 1)) < ((Ln : Nat) : Int) then (b2 (FX10_kind (xs (w32 (x3 + 1)).toNat) f) fun y2 f2 => (if 0 ≤ (w32 (x3 + 1)) ∧ (w32 (x3 + 1)) < ((Ln : Nat) : Int) then (b2 (FX11_kind (xs (w32 (x3 + 1)).toNat) f2) fun y4 f4 => (if y2 = y4 then FL_law_2110 Ln xs k18 x3 f4 else some (0, f4))) else none)) else none)
set_option maxHeartbeats 8000000 in
set_option maxRecDepth 100000 in
theorem SL_law_937 {G : GT} {l : Launch} {Ln : Nat} {xs : Nat → Int} (hL : gL G = Ln) (hxs : ∀ j, (gX G j).toInt = xs j) {k18 : Int → Mm → Option (Int × Mm)} (q18 : ∀ (x3 : Int) (f : Mm), PL (k18 x3 f) → Ev G l ML_law room_1 (ZL G) 178 4676 18 [some (vR 100000), some (vR 0), some (vR 150), some (vI x3)] [] (SH, RF, f)) (x3 : Int) (f : Mm) (h : PL (FL_law_937 Ln xs k18 x3 f)) : Ev G l ML_law room_1 (ZL G) 178 4676 937 [some (vR 100000), some (vR 0), some (vR 150), some (vI x3)] [] (SH, RF, f) := by
  unfold FL_law_937 at h
  refine ev_aload_n (i := 1) dL_law_937 rfl rfl ?_
  refine ev_aload_n (i := 0) dL_law_938 rfl rfl ?_
  refine ev_iload_n (i := 3) dL_law_939 rfl rfl ?_
  refine ev_iconst dL_law_940 (r32c rfl) ?_
  refine ev_iadd dL_law_941 ?_
  by_cases g1 : 0 ≤ (w32 (x3 + 1)) ∧ (w32 (x3 + 1)) < ((Ln : Nat) : Int)
  · rw [if_pos g1] at h
    refine ex_sld hL hxs dL_law_942 g1.1 g1.2 ?_
    refine ev_cVI (b := 0) (av := [vI (xs (w32 (x3 + 1)).toNat)]) (S := []) PLn h dL_law_943 (fun Q' q => TX10_kind (xs (w32 (x3 + 1)).toNat) _ q) kvX10_kind ml_L_133 sh_0 rfl (RRL (by decide) (by decide)) (Nat.le_of_ble_eq_true rfl) ⟨Nat.le_of_ble_eq_true rfl, Nat.le_of_ble_eq_true rfl⟩ (fun y2 f2 h => ?_)
    refine ev_aload_n (i := 2) dL_law_946 rfl rfl ?_
    refine ev_aload_n (i := 0) dL_law_947 rfl rfl ?_
    refine ev_iload_n (i := 3) dL_law_948 rfl rfl ?_
    refine ev_iconst dL_law_949 (r32c rfl) ?_
    refine ev_iadd dL_law_950 ?_
    by_cases g3 : 0 ≤ (w32 (x3 + 1)) ∧ (w32 (x3 + 1)) < ((Ln : Nat) : Int)
    · rw [if_pos g3] at h
      refine ex_sld hL hxs dL_law_951 g3.1 g3.2 ?_
      refine ev_cVI (b := 150) (av := [vI (xs (w32 (x3 + 1)).toNat)]) (S := [vI y2]) PLn h dL_law_952 (fun Q' q => TX11_kind (xs (w32 (x3 + 1)).toNat) _ q) kvX11_kind ml_L_136 sh_150 rfl (RRL (by decide) (by decide)) (Nat.le_of_ble_eq_true rfl) ⟨Nat.le_of_ble_eq_true rfl, Nat.le_of_ble_eq_true rfl⟩ (fun y4 f4 h => ?_)
      refine ev_icmp_eq (tgt := 2110) dL_law_955 (by decide) (fun c5 => ?_) (fun c5 => ?_)
      · rw [if_pos c5] at h
        exact SL_law_2110 hL hxs q18 x3 _ h
      · rw [if_neg c5] at h
        refine ev_iconst dL_law_958 (r32c rfl) ?_
        obtain ⟨g, hg⟩ := h
        cases hg
    · rw [if_neg g3] at h; exact (PLn h).elim
  · rw [if_neg g1] at h; exact (PLn h).elim
def FL_law_960 (Ln : Nat) (xs : Nat → Int) (k18 : Int → Mm → Option (Int × Mm)) (x3 : Int) (f : Mm) : Option (Int × Mm) := (if 0 ≤ (w32 (x3 + 1)) ∧ (w32 (x3 + 1)) < ((Ln : Nat) : Int) then (b2 (FX10_alone (xs (w32 (x3 + 1)).toNat) f) fun y2 f2 => (if 0 ≤ (w32 (x3 + 1)) ∧ (w32 (x3 + 1)) < ((Ln : Nat) : Int) then (b2 (FX11_alone (xs (w32 (x3 + 1)).toNat) f2) fun y4 f4 => (if y2 = y4 then FL_law_2110 Ln xs k18 x3 f4 else some (0, f4))) else none)) else none)
set_option maxHeartbeats 8000000 in
set_option maxRecDepth 100000 in
theorem SL_law_960 {G : GT} {l : Launch} {Ln : Nat} {xs : Nat → Int} (hL : gL G = Ln) (hxs : ∀ j, (gX G j).toInt = xs j) {k18 : Int → Mm → Option (Int × Mm)} (q18 : ∀ (x3 : Int) (f : Mm), PL (k18 x3 f) → Ev G l ML_law room_1 (ZL G) 178 4676 18 [some (vR 100000), some (vR 0), some (vR 150), some (vI x3)] [] (SH, RF, f)) (x3 : Int) (f : Mm) (h : PL (FL_law_960 Ln xs k18 x3 f)) : Ev G l ML_law room_1 (ZL G) 178 4676 960 [some (vR 100000), some (vR 0), some (vR 150), some (vI x3)] [] (SH, RF, f) := by
  unfold FL_law_960 at h
  refine ev_aload_n (i := 1) dL_law_960 rfl rfl ?_
  refine ev_aload_n (i := 0) dL_law_961 rfl rfl ?_
  refine ev_iload_n (i := 3) dL_law_962 rfl rfl ?_
  refine ev_iconst dL_law_963 (r32c rfl) ?_
  refine ev_iadd dL_law_964 ?_
  by_cases g1 : 0 ≤ (w32 (x3 + 1)) ∧ (w32 (x3 + 1)) < ((Ln : Nat) : Int)
  · rw [if_pos g1] at h
    refine ex_sld hL hxs dL_law_965 g1.1 g1.2 ?_
    refine ev_cVI (b := 0) (av := [vI (xs (w32 (x3 + 1)).toNat)]) (S := []) PLn h dL_law_966 (fun Q' q => TX10_alone (xs (w32 (x3 + 1)).toNat) _ q) kvX10_alone ml_L_137 sh_0 rfl (RRL (by decide) (by decide)) (Nat.le_of_ble_eq_true rfl) ⟨Nat.le_of_ble_eq_true rfl, Nat.le_of_ble_eq_true rfl⟩ (fun y2 f2 h => ?_)
    refine ev_aload_n (i := 2) dL_law_969 rfl rfl ?_
    refine ev_aload_n (i := 0) dL_law_970 rfl rfl ?_
    refine ev_iload_n (i := 3) dL_law_971 rfl rfl ?_
    refine ev_iconst dL_law_972 (r32c rfl) ?_
    refine ev_iadd dL_law_973 ?_
    by_cases g3 : 0 ≤ (w32 (x3 + 1)) ∧ (w32 (x3 + 1)) < ((Ln : Nat) : Int)
    · rw [if_pos g3] at h
      refine ex_sld hL hxs dL_law_974 g3.1 g3.2 ?_
      refine ev_cVI (b := 150) (av := [vI (xs (w32 (x3 + 1)).toNat)]) (S := [vI y2]) PLn h dL_law_975 (fun Q' q => TX11_alone (xs (w32 (x3 + 1)).toNat) _ q) kvX11_alone ml_L_140 sh_150 rfl (RRL (by decide) (by decide)) (Nat.le_of_ble_eq_true rfl) ⟨Nat.le_of_ble_eq_true rfl, Nat.le_of_ble_eq_true rfl⟩ (fun y4 f4 h => ?_)
      refine ev_icmp_eq (tgt := 2110) dL_law_978 (by decide) (fun c5 => ?_) (fun c5 => ?_)
      · rw [if_pos c5] at h
        exact SL_law_2110 hL hxs q18 x3 _ h
      · rw [if_neg c5] at h
        refine ev_iconst dL_law_981 (r32c rfl) ?_
        obtain ⟨g, hg⟩ := h
        cases hg
    · rw [if_neg g3] at h; exact (PLn h).elim
  · rw [if_neg g1] at h; exact (PLn h).elim
def FL_law_983 (Ln : Nat) (xs : Nat → Int) (k18 : Int → Mm → Option (Int × Mm)) (x3 : Int) (f : Mm) : Option (Int × Mm) := (if 0 ≤ (w32 (x3 + 1)) ∧ (w32 (x3 + 1)) < ((Ln : Nat) : Int) then (b2 (FX10_value (xs (w32 (x3 + 1)).toNat) f) fun y2 f2 => (if 0 ≤ (w32 (x3 + 1)) ∧ (w32 (x3 + 1)) < ((Ln : Nat) : Int) then (b2 (FX11_value (xs (w32 (x3 + 1)).toNat) f2) fun y4 f4 => (if y2 = y4 then FL_law_2110 Ln xs k18 x3 f4 else some (0, f4))) else none)) else none)
set_option maxHeartbeats 8000000 in
set_option maxRecDepth 100000 in
theorem SL_law_983 {G : GT} {l : Launch} {Ln : Nat} {xs : Nat → Int} (hL : gL G = Ln) (hxs : ∀ j, (gX G j).toInt = xs j) {k18 : Int → Mm → Option (Int × Mm)} (q18 : ∀ (x3 : Int) (f : Mm), PL (k18 x3 f) → Ev G l ML_law room_1 (ZL G) 178 4676 18 [some (vR 100000), some (vR 0), some (vR 150), some (vI x3)] [] (SH, RF, f)) (x3 : Int) (f : Mm) (h : PL (FL_law_983 Ln xs k18 x3 f)) : Ev G l ML_law room_1 (ZL G) 178 4676 983 [some (vR 100000), some (vR 0), some (vR 150), some (vI x3)] [] (SH, RF, f) := by
  unfold FL_law_983 at h
  refine ev_aload_n (i := 1) dL_law_983 rfl rfl ?_
  refine ev_aload_n (i := 0) dL_law_984 rfl rfl ?_
  refine ev_iload_n (i := 3) dL_law_985 rfl rfl ?_
  refine ev_iconst dL_law_986 (r32c rfl) ?_
  refine ev_iadd dL_law_987 ?_
  by_cases g1 : 0 ≤ (w32 (x3 + 1)) ∧ (w32 (x3 + 1)) < ((Ln : Nat) : Int)
  · rw [if_pos g1] at h
    refine ex_sld hL hxs dL_law_988 g1.1 g1.2 ?_
    refine ev_cVI (b := 0) (av := [vI (xs (w32 (x3 + 1)).toNat)]) (S := []) PLn h dL_law_989 (fun Q' q => TX10_value (xs (w32 (x3 + 1)).toNat) _ q) kvX10_value ml_L_141 sh_0 rfl (RRL (by decide) (by decide)) (Nat.le_of_ble_eq_true rfl) ⟨Nat.le_of_ble_eq_true rfl, Nat.le_of_ble_eq_true rfl⟩ (fun y2 f2 h => ?_)
    refine ev_aload_n (i := 2) dL_law_992 rfl rfl ?_
    refine ev_aload_n (i := 0) dL_law_993 rfl rfl ?_
    refine ev_iload_n (i := 3) dL_law_994 rfl rfl ?_
    refine ev_iconst dL_law_995 (r32c rfl) ?_
    refine ev_iadd dL_law_996 ?_
    by_cases g3 : 0 ≤ (w32 (x3 + 1)) ∧ (w32 (x3 + 1)) < ((Ln : Nat) : Int)
    · rw [if_pos g3] at h
      refine ex_sld hL hxs dL_law_997 g3.1 g3.2 ?_
      refine ev_cVI (b := 150) (av := [vI (xs (w32 (x3 + 1)).toNat)]) (S := [vI y2]) PLn h dL_law_998 (fun Q' q => TX11_value (xs (w32 (x3 + 1)).toNat) _ q) kvX11_value ml_L_144 sh_150 rfl (RRL (by decide) (by decide)) (Nat.le_of_ble_eq_true rfl) ⟨Nat.le_of_ble_eq_true rfl, Nat.le_of_ble_eq_true rfl⟩ (fun y4 f4 h => ?_)
      refine ev_icmp_eq (tgt := 2110) dL_law_1001 (by decide) (fun c5 => ?_) (fun c5 => ?_)
      · rw [if_pos c5] at h
        exact SL_law_2110 hL hxs q18 x3 _ h
      · rw [if_neg c5] at h
        refine ev_iconst dL_law_1004 (r32c rfl) ?_
        obtain ⟨g, hg⟩ := h
        cases hg
    · rw [if_neg g3] at h; exact (PLn h).elim
  · rw [if_neg g1] at h; exact (PLn h).elim
def FL_law_1006 (Ln : Nat) (xs : Nat → Int) (k18 : Int → Mm → Option (Int × Mm)) (x3 : Int) (f : Mm) : Option (Int × Mm) := (b2 (FX10_sets f) fun y1 f1 => (b2 (FX11_sets f1) fun y2 f2 => (if y1 = y2 then FL_law_2110 Ln xs k18 x3 f2 else some (0, f2))))
set_option maxHeartbeats 8000000 in
set_option maxRecDepth 100000 in
theorem SL_law_1006 {G : GT} {l : Launch} {Ln : Nat} {xs : Nat → Int} (hL : gL G = Ln) (hxs : ∀ j, (gX G j).toInt = xs j) {k18 : Int → Mm → Option (Int × Mm)} (q18 : ∀ (x3 : Int) (f : Mm), PL (k18 x3 f) → Ev G l ML_law room_1 (ZL G) 178 4676 18 [some (vR 100000), some (vR 0), some (vR 150), some (vI x3)] [] (SH, RF, f)) (x3 : Int) (f : Mm) (h : PL (FL_law_1006 Ln xs k18 x3 f)) : Ev G l ML_law room_1 (ZL G) 178 4676 1006 [some (vR 100000), some (vR 0), some (vR 150), some (vI x3)] [] (SH, RF, f) := by
  unfold FL_law_1006 at h
  refine ev_aload_n (i := 1) dL_law_1006 rfl rfl ?_
  refine ev_cVI (b := 0) (av := []) (S := []) PLn h dL_law_1007 (fun Q' q => TX10_sets _ q) kvX10_sets ml_L_145 sh_0 rfl (RRL (by decide) (by decide)) (Nat.le_of_ble_eq_true rfl) ⟨Nat.le_of_ble_eq_true rfl, Nat.le_of_ble_eq_true rfl⟩ (fun y1 f1 h => ?_)
  refine ev_aload_n (i := 2) dL_law_1010 rfl rfl ?_
  refine ev_cVI (b := 150) (av := []) (S := [vI y1]) PLn h dL_law_1011 (fun Q' q => TX11_sets _ q) kvX11_sets ml_L_148 sh_150 rfl (RRL (by decide) (by decide)) (Nat.le_of_ble_eq_true rfl) ⟨Nat.le_of_ble_eq_true rfl, Nat.le_of_ble_eq_true rfl⟩ (fun y2 f2 h => ?_)
  refine ev_icmp_eq (tgt := 2110) dL_law_1014 (by decide) (fun c3 => ?_) (fun c3 => ?_)
  · rw [if_pos c3] at h
    exact SL_law_2110 hL hxs q18 x3 _ h
  · rw [if_neg c3] at h
    refine ev_iconst dL_law_1017 (r32c rfl) ?_
    obtain ⟨g, hg⟩ := h
    cases hg
def FL_law_1019 (Ln : Nat) (xs : Nat → Int) (k18 : Int → Mm → Option (Int × Mm)) (x3 : Int) (f : Mm) : Option (Int × Mm) := (if 0 ≤ (w32 (x3 + 1)) ∧ (w32 (x3 + 1)) < ((Ln : Nat) : Int) then (b2 (FX10_often (xs (w32 (x3 + 1)).toNat) f) fun y2 f2 => (if 0 ≤ (w32 (x3 + 1)) ∧ (w32 (x3 + 1)) < ((Ln : Nat) : Int) then (b2 (FX11_often (xs (w32 (x3 + 1)).toNat) f2) fun y4 f4 => (if y2 = y4 then FL_law_2110 Ln xs k18 x3 f4 else some (0, f4))) else none)) else none)
set_option maxHeartbeats 8000000 in
set_option maxRecDepth 100000 in
theorem SL_law_1019 {G : GT} {l : Launch} {Ln : Nat} {xs : Nat → Int} (hL : gL G = Ln) (hxs : ∀ j, (gX G j).toInt = xs j) {k18 : Int → Mm → Option (Int × Mm)} (q18 : ∀ (x3 : Int) (f : Mm), PL (k18 x3 f) → Ev G l ML_law room_1 (ZL G) 178 4676 18 [some (vR 100000), some (vR 0), some (vR 150), some (vI x3)] [] (SH, RF, f)) (x3 : Int) (f : Mm) (h : PL (FL_law_1019 Ln xs k18 x3 f)) : Ev G l ML_law room_1 (ZL G) 178 4676 1019 [some (vR 100000), some (vR 0), some (vR 150), some (vI x3)] [] (SH, RF, f) := by
  unfold FL_law_1019 at h
  refine ev_aload_n (i := 1) dL_law_1019 rfl rfl ?_
  refine ev_aload_n (i := 0) dL_law_1020 rfl rfl ?_
  refine ev_iload_n (i := 3) dL_law_1021 rfl rfl ?_
  refine ev_iconst dL_law_1022 (r32c rfl) ?_
  refine ev_iadd dL_law_1023 ?_
  by_cases g1 : 0 ≤ (w32 (x3 + 1)) ∧ (w32 (x3 + 1)) < ((Ln : Nat) : Int)
  · rw [if_pos g1] at h
    refine ex_sld hL hxs dL_law_1024 g1.1 g1.2 ?_
    refine ev_cVI (b := 0) (av := [vI (xs (w32 (x3 + 1)).toNat)]) (S := []) PLn h dL_law_1025 (fun Q' q => TX10_often (xs (w32 (x3 + 1)).toNat) _ q) kvX10_often ml_L_149 sh_0 rfl (RRL (by decide) (by decide)) (Nat.le_of_ble_eq_true rfl) ⟨Nat.le_of_ble_eq_true rfl, Nat.le_of_ble_eq_true rfl⟩ (fun y2 f2 h => ?_)
    refine ev_aload_n (i := 2) dL_law_1028 rfl rfl ?_
    refine ev_aload_n (i := 0) dL_law_1029 rfl rfl ?_
    refine ev_iload_n (i := 3) dL_law_1030 rfl rfl ?_
    refine ev_iconst dL_law_1031 (r32c rfl) ?_
    refine ev_iadd dL_law_1032 ?_
    by_cases g3 : 0 ≤ (w32 (x3 + 1)) ∧ (w32 (x3 + 1)) < ((Ln : Nat) : Int)
    · rw [if_pos g3] at h
      refine ex_sld hL hxs dL_law_1033 g3.1 g3.2 ?_
      refine ev_cVI (b := 150) (av := [vI (xs (w32 (x3 + 1)).toNat)]) (S := [vI y2]) PLn h dL_law_1034 (fun Q' q => TX11_often (xs (w32 (x3 + 1)).toNat) _ q) kvX11_often ml_L_152 sh_150 rfl (RRL (by decide) (by decide)) (Nat.le_of_ble_eq_true rfl) ⟨Nat.le_of_ble_eq_true rfl, Nat.le_of_ble_eq_true rfl⟩ (fun y4 f4 h => ?_)
      refine ev_icmp_eq (tgt := 2110) dL_law_1037 (by decide) (fun c5 => ?_) (fun c5 => ?_)
      · rw [if_pos c5] at h
        exact SL_law_2110 hL hxs q18 x3 _ h
      · rw [if_neg c5] at h
        refine ev_iconst dL_law_1040 (r32c rfl) ?_
        obtain ⟨g, hg⟩ := h
        cases hg
    · rw [if_neg g3] at h; exact (PLn h).elim
  · rw [if_neg g1] at h; exact (PLn h).elim
def FL_law_1042 (Ln : Nat) (xs : Nat → Int) (k18 : Int → Mm → Option (Int × Mm)) (x3 : Int) (f : Mm) : Option (Int × Mm) := (if 0 ≤ (w32 (x3 + 1)) ∧ (w32 (x3 + 1)) < ((Ln : Nat) : Int) then (b2 (FX10_cheap (xs (w32 (x3 + 1)).toNat) f) fun y2 f2 => (if 0 ≤ (w32 (x3 + 1)) ∧ (w32 (x3 + 1)) < ((Ln : Nat) : Int) then (b2 (FX11_cheap (xs (w32 (x3 + 1)).toNat) f2) fun y4 f4 => (if y2 = y4 then FL_law_2110 Ln xs k18 x3 f4 else some (0, f4))) else none)) else none)
set_option maxHeartbeats 8000000 in
set_option maxRecDepth 100000 in
theorem SL_law_1042 {G : GT} {l : Launch} {Ln : Nat} {xs : Nat → Int} (hL : gL G = Ln) (hxs : ∀ j, (gX G j).toInt = xs j) {k18 : Int → Mm → Option (Int × Mm)} (q18 : ∀ (x3 : Int) (f : Mm), PL (k18 x3 f) → Ev G l ML_law room_1 (ZL G) 178 4676 18 [some (vR 100000), some (vR 0), some (vR 150), some (vI x3)] [] (SH, RF, f)) (x3 : Int) (f : Mm) (h : PL (FL_law_1042 Ln xs k18 x3 f)) : Ev G l ML_law room_1 (ZL G) 178 4676 1042 [some (vR 100000), some (vR 0), some (vR 150), some (vI x3)] [] (SH, RF, f) := by
  unfold FL_law_1042 at h
  refine ev_aload_n (i := 1) dL_law_1042 rfl rfl ?_
  refine ev_aload_n (i := 0) dL_law_1043 rfl rfl ?_
  refine ev_iload_n (i := 3) dL_law_1044 rfl rfl ?_
  refine ev_iconst dL_law_1045 (r32c rfl) ?_
  refine ev_iadd dL_law_1046 ?_
  by_cases g1 : 0 ≤ (w32 (x3 + 1)) ∧ (w32 (x3 + 1)) < ((Ln : Nat) : Int)
  · rw [if_pos g1] at h
    refine ex_sld hL hxs dL_law_1047 g1.1 g1.2 ?_
    refine ev_cVI (b := 0) (av := [vI (xs (w32 (x3 + 1)).toNat)]) (S := []) PLn h dL_law_1048 (fun Q' q => TX10_cheap (xs (w32 (x3 + 1)).toNat) _ q) kvX10_cheap ml_L_153 sh_0 rfl (RRL (by decide) (by decide)) (Nat.le_of_ble_eq_true rfl) ⟨Nat.le_of_ble_eq_true rfl, Nat.le_of_ble_eq_true rfl⟩ (fun y2 f2 h => ?_)
    refine ev_aload_n (i := 2) dL_law_1051 rfl rfl ?_
    refine ev_aload_n (i := 0) dL_law_1052 rfl rfl ?_
    refine ev_iload_n (i := 3) dL_law_1053 rfl rfl ?_
    refine ev_iconst dL_law_1054 (r32c rfl) ?_
    refine ev_iadd dL_law_1055 ?_
    by_cases g3 : 0 ≤ (w32 (x3 + 1)) ∧ (w32 (x3 + 1)) < ((Ln : Nat) : Int)
    · rw [if_pos g3] at h
      refine ex_sld hL hxs dL_law_1056 g3.1 g3.2 ?_
      refine ev_cVI (b := 150) (av := [vI (xs (w32 (x3 + 1)).toNat)]) (S := [vI y2]) PLn h dL_law_1057 (fun Q' q => TX11_cheap (xs (w32 (x3 + 1)).toNat) _ q) kvX11_cheap ml_L_156 sh_150 rfl (RRL (by decide) (by decide)) (Nat.le_of_ble_eq_true rfl) ⟨Nat.le_of_ble_eq_true rfl, Nat.le_of_ble_eq_true rfl⟩ (fun y4 f4 h => ?_)
      refine ev_icmp_eq (tgt := 2110) dL_law_1060 (by decide) (fun c5 => ?_) (fun c5 => ?_)
      · rw [if_pos c5] at h
        exact SL_law_2110 hL hxs q18 x3 _ h
      · rw [if_neg c5] at h
        refine ev_iconst dL_law_1063 (r32c rfl) ?_
        obtain ⟨g, hg⟩ := h
        cases hg
    · rw [if_neg g3] at h; exact (PLn h).elim
  · rw [if_neg g1] at h; exact (PLn h).elim
def FL_law_1065 (Ln : Nat) (xs : Nat → Int) (k18 : Int → Mm → Option (Int × Mm)) (x3 : Int) (f : Mm) : Option (Int × Mm) := (if 0 ≤ (w32 (x3 + 1)) ∧ (w32 (x3 + 1)) < ((Ln : Nat) : Int) then (if 0 ≤ (w32 (x3 + 2)) ∧ (w32 (x3 + 2)) < ((Ln : Nat) : Int) then (b2 (FX10_cheaply (xs (w32 (x3 + 1)).toNat) (xs (w32 (x3 + 2)).toNat) f) fun y3 f3 => (if 0 ≤ (w32 (x3 + 1)) ∧ (w32 (x3 + 1)) < ((Ln : Nat) : Int) then (if 0 ≤ (w32 (x3 + 2)) ∧ (w32 (x3 + 2)) < ((Ln : Nat) : Int) then (b2 (FX11_cheaply (xs (w32 (x3 + 1)).toNat) (xs (w32 (x3 + 2)).toNat) f3) fun y6 f6 => (if y3 = y6 then FL_law_2110 Ln xs k18 x3 f6 else some (0, f6))) else none) else none)) else none) else none)
set_option maxHeartbeats 8000000 in
set_option maxRecDepth 100000 in
theorem SL_law_1065 {G : GT} {l : Launch} {Ln : Nat} {xs : Nat → Int} (hL : gL G = Ln) (hxs : ∀ j, (gX G j).toInt = xs j) {k18 : Int → Mm → Option (Int × Mm)} (q18 : ∀ (x3 : Int) (f : Mm), PL (k18 x3 f) → Ev G l ML_law room_1 (ZL G) 178 4676 18 [some (vR 100000), some (vR 0), some (vR 150), some (vI x3)] [] (SH, RF, f)) (x3 : Int) (f : Mm) (h : PL (FL_law_1065 Ln xs k18 x3 f)) : Ev G l ML_law room_1 (ZL G) 178 4676 1065 [some (vR 100000), some (vR 0), some (vR 150), some (vI x3)] [] (SH, RF, f) := by
  unfold FL_law_1065 at h
  refine ev_aload_n (i := 1) dL_law_1065 rfl rfl ?_
  refine ev_aload_n (i := 0) dL_law_1066 rfl rfl ?_
  refine ev_iload_n (i := 3) dL_law_1067 rfl rfl ?_
  refine ev_iconst dL_law_1068 (r32c rfl) ?_
  refine ev_iadd dL_law_1069 ?_
  by_cases g1 : 0 ≤ (w32 (x3 + 1)) ∧ (w32 (x3 + 1)) < ((Ln : Nat) : Int)
  · rw [if_pos g1] at h
    refine ex_sld hL hxs dL_law_1070 g1.1 g1.2 ?_
    refine ev_aload_n (i := 0) dL_law_1071 rfl rfl ?_
    refine ev_iload_n (i := 3) dL_law_1072 rfl rfl ?_
    refine ev_iconst dL_law_1073 (r32c rfl) ?_
    refine ev_iadd dL_law_1074 ?_
    by_cases g2 : 0 ≤ (w32 (x3 + 2)) ∧ (w32 (x3 + 2)) < ((Ln : Nat) : Int)
    · rw [if_pos g2] at h
      refine ex_sld hL hxs dL_law_1075 g2.1 g2.2 ?_
      refine ev_cVI (b := 0) (av := [vI (xs (w32 (x3 + 1)).toNat), vI (xs (w32 (x3 + 2)).toNat)]) (S := []) PLn h dL_law_1076 (fun Q' q => TX10_cheaply (xs (w32 (x3 + 1)).toNat) (xs (w32 (x3 + 2)).toNat) _ q) kvX10_cheaply ml_L_157 sh_0 rfl (RRL (by decide) (by decide)) (Nat.le_of_ble_eq_true rfl) ⟨Nat.le_of_ble_eq_true rfl, Nat.le_of_ble_eq_true rfl⟩ (fun y3 f3 h => ?_)
      refine ev_aload_n (i := 2) dL_law_1079 rfl rfl ?_
      refine ev_aload_n (i := 0) dL_law_1080 rfl rfl ?_
      refine ev_iload_n (i := 3) dL_law_1081 rfl rfl ?_
      refine ev_iconst dL_law_1082 (r32c rfl) ?_
      refine ev_iadd dL_law_1083 ?_
      by_cases g4 : 0 ≤ (w32 (x3 + 1)) ∧ (w32 (x3 + 1)) < ((Ln : Nat) : Int)
      · rw [if_pos g4] at h
        refine ex_sld hL hxs dL_law_1084 g4.1 g4.2 ?_
        refine ev_aload_n (i := 0) dL_law_1085 rfl rfl ?_
        refine ev_iload_n (i := 3) dL_law_1086 rfl rfl ?_
        refine ev_iconst dL_law_1087 (r32c rfl) ?_
        refine ev_iadd dL_law_1088 ?_
        by_cases g5 : 0 ≤ (w32 (x3 + 2)) ∧ (w32 (x3 + 2)) < ((Ln : Nat) : Int)
        · rw [if_pos g5] at h
          refine ex_sld hL hxs dL_law_1089 g5.1 g5.2 ?_
          refine ev_cVI (b := 150) (av := [vI (xs (w32 (x3 + 1)).toNat), vI (xs (w32 (x3 + 2)).toNat)]) (S := [vI y3]) PLn h dL_law_1090 (fun Q' q => TX11_cheaply (xs (w32 (x3 + 1)).toNat) (xs (w32 (x3 + 2)).toNat) _ q) kvX11_cheaply ml_L_160 sh_150 rfl (RRL (by decide) (by decide)) (Nat.le_of_ble_eq_true rfl) ⟨Nat.le_of_ble_eq_true rfl, Nat.le_of_ble_eq_true rfl⟩ (fun y6 f6 h => ?_)
          refine ev_icmp_eq (tgt := 2110) dL_law_1093 (by decide) (fun c7 => ?_) (fun c7 => ?_)
          · rw [if_pos c7] at h
            exact SL_law_2110 hL hxs q18 x3 _ h
          · rw [if_neg c7] at h
            refine ev_iconst dL_law_1096 (r32c rfl) ?_
            obtain ⟨g, hg⟩ := h
            cases hg
        · rw [if_neg g5] at h; exact (PLn h).elim
      · rw [if_neg g4] at h; exact (PLn h).elim
    · rw [if_neg g2] at h; exact (PLn h).elim
  · rw [if_neg g1] at h; exact (PLn h).elim
def FL_law_1098 (Ln : Nat) (xs : Nat → Int) (k18 : Int → Mm → Option (Int × Mm)) (x3 : Int) (f : Mm) : Option (Int × Mm) := (if 0 ≤ (w32 (x3 + 1)) ∧ (w32 (x3 + 1)) < ((Ln : Nat) : Int) then (b2 (FX10_soonest (xs (w32 (x3 + 1)).toNat) f) fun y2 f2 => (if 0 ≤ (w32 (x3 + 1)) ∧ (w32 (x3 + 1)) < ((Ln : Nat) : Int) then (b2 (FX11_soonest (xs (w32 (x3 + 1)).toNat) f2) fun y4 f4 => (if y2 = y4 then FL_law_2110 Ln xs k18 x3 f4 else some (0, f4))) else none)) else none)
set_option maxHeartbeats 8000000 in
set_option maxRecDepth 100000 in
theorem SL_law_1098 {G : GT} {l : Launch} {Ln : Nat} {xs : Nat → Int} (hL : gL G = Ln) (hxs : ∀ j, (gX G j).toInt = xs j) {k18 : Int → Mm → Option (Int × Mm)} (q18 : ∀ (x3 : Int) (f : Mm), PL (k18 x3 f) → Ev G l ML_law room_1 (ZL G) 178 4676 18 [some (vR 100000), some (vR 0), some (vR 150), some (vI x3)] [] (SH, RF, f)) (x3 : Int) (f : Mm) (h : PL (FL_law_1098 Ln xs k18 x3 f)) : Ev G l ML_law room_1 (ZL G) 178 4676 1098 [some (vR 100000), some (vR 0), some (vR 150), some (vI x3)] [] (SH, RF, f) := by
  unfold FL_law_1098 at h
  refine ev_aload_n (i := 1) dL_law_1098 rfl rfl ?_
  refine ev_aload_n (i := 0) dL_law_1099 rfl rfl ?_
  refine ev_iload_n (i := 3) dL_law_1100 rfl rfl ?_
  refine ev_iconst dL_law_1101 (r32c rfl) ?_
  refine ev_iadd dL_law_1102 ?_
  by_cases g1 : 0 ≤ (w32 (x3 + 1)) ∧ (w32 (x3 + 1)) < ((Ln : Nat) : Int)
  · rw [if_pos g1] at h
    refine ex_sld hL hxs dL_law_1103 g1.1 g1.2 ?_
    refine ev_cVI (b := 0) (av := [vI (xs (w32 (x3 + 1)).toNat)]) (S := []) PLn h dL_law_1104 (fun Q' q => TX10_soonest (xs (w32 (x3 + 1)).toNat) _ q) kvX10_soonest ml_L_161 sh_0 rfl (RRL (by decide) (by decide)) (Nat.le_of_ble_eq_true rfl) ⟨Nat.le_of_ble_eq_true rfl, Nat.le_of_ble_eq_true rfl⟩ (fun y2 f2 h => ?_)
    refine ev_aload_n (i := 2) dL_law_1107 rfl rfl ?_
    refine ev_aload_n (i := 0) dL_law_1108 rfl rfl ?_
    refine ev_iload_n (i := 3) dL_law_1109 rfl rfl ?_
    refine ev_iconst dL_law_1110 (r32c rfl) ?_
    refine ev_iadd dL_law_1111 ?_
    by_cases g3 : 0 ≤ (w32 (x3 + 1)) ∧ (w32 (x3 + 1)) < ((Ln : Nat) : Int)
    · rw [if_pos g3] at h
      refine ex_sld hL hxs dL_law_1112 g3.1 g3.2 ?_
      refine ev_cVI (b := 150) (av := [vI (xs (w32 (x3 + 1)).toNat)]) (S := [vI y2]) PLn h dL_law_1113 (fun Q' q => TX11_soonest (xs (w32 (x3 + 1)).toNat) _ q) kvX11_soonest ml_L_164 sh_150 rfl (RRL (by decide) (by decide)) (Nat.le_of_ble_eq_true rfl) ⟨Nat.le_of_ble_eq_true rfl, Nat.le_of_ble_eq_true rfl⟩ (fun y4 f4 h => ?_)
      refine ev_icmp_eq (tgt := 2110) dL_law_1116 (by decide) (fun c5 => ?_) (fun c5 => ?_)
      · rw [if_pos c5] at h
        exact SL_law_2110 hL hxs q18 x3 _ h
      · rw [if_neg c5] at h
        refine ev_iconst dL_law_1119 (r32c rfl) ?_
        obtain ⟨g, hg⟩ := h
        cases hg
    · rw [if_neg g3] at h; exact (PLn h).elim
  · rw [if_neg g1] at h; exact (PLn h).elim
def FL_law_1121 (Ln : Nat) (xs : Nat → Int) (k18 : Int → Mm → Option (Int × Mm)) (x3 : Int) (f : Mm) : Option (Int × Mm) := (if 0 ≤ (w32 (x3 + 1)) ∧ (w32 (x3 + 1)) < ((Ln : Nat) : Int) then (b2 (FX10_hold (xs (w32 (x3 + 1)).toNat) f) fun y2 f2 => (if 0 ≤ (w32 (x3 + 1)) ∧ (w32 (x3 + 1)) < ((Ln : Nat) : Int) then (b2 (FX11_hold (xs (w32 (x3 + 1)).toNat) f2) fun y4 f4 => (if y2 = y4 then FL_law_2110 Ln xs k18 x3 f4 else some (0, f4))) else none)) else none)
set_option maxHeartbeats 8000000 in
set_option maxRecDepth 100000 in
theorem SL_law_1121 {G : GT} {l : Launch} {Ln : Nat} {xs : Nat → Int} (hL : gL G = Ln) (hxs : ∀ j, (gX G j).toInt = xs j) {k18 : Int → Mm → Option (Int × Mm)} (q18 : ∀ (x3 : Int) (f : Mm), PL (k18 x3 f) → Ev G l ML_law room_1 (ZL G) 178 4676 18 [some (vR 100000), some (vR 0), some (vR 150), some (vI x3)] [] (SH, RF, f)) (x3 : Int) (f : Mm) (h : PL (FL_law_1121 Ln xs k18 x3 f)) : Ev G l ML_law room_1 (ZL G) 178 4676 1121 [some (vR 100000), some (vR 0), some (vR 150), some (vI x3)] [] (SH, RF, f) := by
  unfold FL_law_1121 at h
  refine ev_aload_n (i := 1) dL_law_1121 rfl rfl ?_
  refine ev_aload_n (i := 0) dL_law_1122 rfl rfl ?_
  refine ev_iload_n (i := 3) dL_law_1123 rfl rfl ?_
  refine ev_iconst dL_law_1124 (r32c rfl) ?_
  refine ev_iadd dL_law_1125 ?_
  by_cases g1 : 0 ≤ (w32 (x3 + 1)) ∧ (w32 (x3 + 1)) < ((Ln : Nat) : Int)
  · rw [if_pos g1] at h
    refine ex_sld hL hxs dL_law_1126 g1.1 g1.2 ?_
    refine ev_cVI (b := 0) (av := [vI (xs (w32 (x3 + 1)).toNat)]) (S := []) PLn h dL_law_1127 (fun Q' q => TX10_hold (xs (w32 (x3 + 1)).toNat) _ q) kvX10_hold ml_L_165 sh_0 rfl (RRL (by decide) (by decide)) (Nat.le_of_ble_eq_true rfl) ⟨Nat.le_of_ble_eq_true rfl, Nat.le_of_ble_eq_true rfl⟩ (fun y2 f2 h => ?_)
    refine ev_aload_n (i := 2) dL_law_1130 rfl rfl ?_
    refine ev_aload_n (i := 0) dL_law_1131 rfl rfl ?_
    refine ev_iload_n (i := 3) dL_law_1132 rfl rfl ?_
    refine ev_iconst dL_law_1133 (r32c rfl) ?_
    refine ev_iadd dL_law_1134 ?_
    by_cases g3 : 0 ≤ (w32 (x3 + 1)) ∧ (w32 (x3 + 1)) < ((Ln : Nat) : Int)
    · rw [if_pos g3] at h
      refine ex_sld hL hxs dL_law_1135 g3.1 g3.2 ?_
      refine ev_cVI (b := 150) (av := [vI (xs (w32 (x3 + 1)).toNat)]) (S := [vI y2]) PLn h dL_law_1136 (fun Q' q => TX11_hold (xs (w32 (x3 + 1)).toNat) _ q) kvX11_hold ml_L_168 sh_150 rfl (RRL (by decide) (by decide)) (Nat.le_of_ble_eq_true rfl) ⟨Nat.le_of_ble_eq_true rfl, Nat.le_of_ble_eq_true rfl⟩ (fun y4 f4 h => ?_)
      refine ev_icmp_eq (tgt := 2110) dL_law_1139 (by decide) (fun c5 => ?_) (fun c5 => ?_)
      · rw [if_pos c5] at h
        exact SL_law_2110 hL hxs q18 x3 _ h
      · rw [if_neg c5] at h
        refine ev_iconst dL_law_1142 (r32c rfl) ?_
        obtain ⟨g, hg⟩ := h
        cases hg
    · rw [if_neg g3] at h; exact (PLn h).elim
  · rw [if_neg g1] at h; exact (PLn h).elim
def FL_law_1144 (Ln : Nat) (xs : Nat → Int) (k18 : Int → Mm → Option (Int × Mm)) (x3 : Int) (f : Mm) : Option (Int × Mm) := (b2 (FX10_widest f) fun y1 f1 => (b2 (FX11_widest f1) fun y2 f2 => (if y1 = y2 then FL_law_2110 Ln xs k18 x3 f2 else some (0, f2))))
set_option maxHeartbeats 8000000 in
set_option maxRecDepth 100000 in
theorem SL_law_1144 {G : GT} {l : Launch} {Ln : Nat} {xs : Nat → Int} (hL : gL G = Ln) (hxs : ∀ j, (gX G j).toInt = xs j) {k18 : Int → Mm → Option (Int × Mm)} (q18 : ∀ (x3 : Int) (f : Mm), PL (k18 x3 f) → Ev G l ML_law room_1 (ZL G) 178 4676 18 [some (vR 100000), some (vR 0), some (vR 150), some (vI x3)] [] (SH, RF, f)) (x3 : Int) (f : Mm) (h : PL (FL_law_1144 Ln xs k18 x3 f)) : Ev G l ML_law room_1 (ZL G) 178 4676 1144 [some (vR 100000), some (vR 0), some (vR 150), some (vI x3)] [] (SH, RF, f) := by
  unfold FL_law_1144 at h
  refine ev_aload_n (i := 1) dL_law_1144 rfl rfl ?_
  refine ev_cVI (b := 0) (av := []) (S := []) PLn h dL_law_1145 (fun Q' q => TX10_widest _ q) kvX10_widest ml_L_169 sh_0 rfl (RRL (by decide) (by decide)) (Nat.le_of_ble_eq_true rfl) ⟨Nat.le_of_ble_eq_true rfl, Nat.le_of_ble_eq_true rfl⟩ (fun y1 f1 h => ?_)
  refine ev_aload_n (i := 2) dL_law_1148 rfl rfl ?_
  refine ev_cVI (b := 150) (av := []) (S := [vI y1]) PLn h dL_law_1149 (fun Q' q => TX11_widest _ q) kvX11_widest ml_L_172 sh_150 rfl (RRL (by decide) (by decide)) (Nat.le_of_ble_eq_true rfl) ⟨Nat.le_of_ble_eq_true rfl, Nat.le_of_ble_eq_true rfl⟩ (fun y2 f2 h => ?_)
  refine ev_icmp_eq (tgt := 2110) dL_law_1152 (by decide) (fun c3 => ?_) (fun c3 => ?_)
  · rw [if_pos c3] at h
    exact SL_law_2110 hL hxs q18 x3 _ h
  · rw [if_neg c3] at h
    refine ev_iconst dL_law_1155 (r32c rfl) ?_
    obtain ⟨g, hg⟩ := h
    cases hg
def FL_law_1157 (Ln : Nat) (xs : Nat → Int) (k18 : Int → Mm → Option (Int × Mm)) (x3 : Int) (f : Mm) : Option (Int × Mm) := (if 0 ≤ (w32 (x3 + 1)) ∧ (w32 (x3 + 1)) < ((Ln : Nat) : Int) then (b2 (FX10_most (xs (w32 (x3 + 1)).toNat) f) fun y2 f2 => (if 0 ≤ (w32 (x3 + 1)) ∧ (w32 (x3 + 1)) < ((Ln : Nat) : Int) then (b2 (FX11_most (xs (w32 (x3 + 1)).toNat) f2) fun y4 f4 => (if y2 = y4 then FL_law_2110 Ln xs k18 x3 f4 else some (0, f4))) else none)) else none)
set_option maxHeartbeats 8000000 in
set_option maxRecDepth 100000 in
theorem SL_law_1157 {G : GT} {l : Launch} {Ln : Nat} {xs : Nat → Int} (hL : gL G = Ln) (hxs : ∀ j, (gX G j).toInt = xs j) {k18 : Int → Mm → Option (Int × Mm)} (q18 : ∀ (x3 : Int) (f : Mm), PL (k18 x3 f) → Ev G l ML_law room_1 (ZL G) 178 4676 18 [some (vR 100000), some (vR 0), some (vR 150), some (vI x3)] [] (SH, RF, f)) (x3 : Int) (f : Mm) (h : PL (FL_law_1157 Ln xs k18 x3 f)) : Ev G l ML_law room_1 (ZL G) 178 4676 1157 [some (vR 100000), some (vR 0), some (vR 150), some (vI x3)] [] (SH, RF, f) := by
  unfold FL_law_1157 at h
  refine ev_aload_n (i := 1) dL_law_1157 rfl rfl ?_
  refine ev_aload_n (i := 0) dL_law_1158 rfl rfl ?_
  refine ev_iload_n (i := 3) dL_law_1159 rfl rfl ?_
  refine ev_iconst dL_law_1160 (r32c rfl) ?_
  refine ev_iadd dL_law_1161 ?_
  by_cases g1 : 0 ≤ (w32 (x3 + 1)) ∧ (w32 (x3 + 1)) < ((Ln : Nat) : Int)
  · rw [if_pos g1] at h
    refine ex_sld hL hxs dL_law_1162 g1.1 g1.2 ?_
    refine ev_cVI (b := 0) (av := [vI (xs (w32 (x3 + 1)).toNat)]) (S := []) PLn h dL_law_1163 (fun Q' q => TX10_most (xs (w32 (x3 + 1)).toNat) _ q) kvX10_most ml_L_173 sh_0 rfl (RRL (by decide) (by decide)) (Nat.le_of_ble_eq_true rfl) ⟨Nat.le_of_ble_eq_true rfl, Nat.le_of_ble_eq_true rfl⟩ (fun y2 f2 h => ?_)
    refine ev_aload_n (i := 2) dL_law_1166 rfl rfl ?_
    refine ev_aload_n (i := 0) dL_law_1167 rfl rfl ?_
    refine ev_iload_n (i := 3) dL_law_1168 rfl rfl ?_
    refine ev_iconst dL_law_1169 (r32c rfl) ?_
    refine ev_iadd dL_law_1170 ?_
    by_cases g3 : 0 ≤ (w32 (x3 + 1)) ∧ (w32 (x3 + 1)) < ((Ln : Nat) : Int)
    · rw [if_pos g3] at h
      refine ex_sld hL hxs dL_law_1171 g3.1 g3.2 ?_
      refine ev_cVI (b := 150) (av := [vI (xs (w32 (x3 + 1)).toNat)]) (S := [vI y2]) PLn h dL_law_1172 (fun Q' q => TX11_most (xs (w32 (x3 + 1)).toNat) _ q) kvX11_most ml_L_176 sh_150 rfl (RRL (by decide) (by decide)) (Nat.le_of_ble_eq_true rfl) ⟨Nat.le_of_ble_eq_true rfl, Nat.le_of_ble_eq_true rfl⟩ (fun y4 f4 h => ?_)
      refine ev_icmp_eq (tgt := 2110) dL_law_1175 (by decide) (fun c5 => ?_) (fun c5 => ?_)
      · rw [if_pos c5] at h
        exact SL_law_2110 hL hxs q18 x3 _ h
      · rw [if_neg c5] at h
        refine ev_iconst dL_law_1178 (r32c rfl) ?_
        obtain ⟨g, hg⟩ := h
        cases hg
    · rw [if_neg g3] at h; exact (PLn h).elim
  · rw [if_neg g1] at h; exact (PLn h).elim
def FL_law_1180 (Ln : Nat) (xs : Nat → Int) (k18 : Int → Mm → Option (Int × Mm)) (x3 : Int) (f : Mm) : Option (Int × Mm) := (if 0 ≤ (w32 (x3 + 1)) ∧ (w32 (x3 + 1)) < ((Ln : Nat) : Int) then (b2 (FX10_abreast (xs (w32 (x3 + 1)).toNat) f) fun y2 f2 => (if 0 ≤ (w32 (x3 + 1)) ∧ (w32 (x3 + 1)) < ((Ln : Nat) : Int) then (b2 (FX11_abreast (xs (w32 (x3 + 1)).toNat) f2) fun y4 f4 => (if y2 = y4 then FL_law_2110 Ln xs k18 x3 f4 else some (0, f4))) else none)) else none)
set_option maxHeartbeats 8000000 in
set_option maxRecDepth 100000 in
theorem SL_law_1180 {G : GT} {l : Launch} {Ln : Nat} {xs : Nat → Int} (hL : gL G = Ln) (hxs : ∀ j, (gX G j).toInt = xs j) {k18 : Int → Mm → Option (Int × Mm)} (q18 : ∀ (x3 : Int) (f : Mm), PL (k18 x3 f) → Ev G l ML_law room_1 (ZL G) 178 4676 18 [some (vR 100000), some (vR 0), some (vR 150), some (vI x3)] [] (SH, RF, f)) (x3 : Int) (f : Mm) (h : PL (FL_law_1180 Ln xs k18 x3 f)) : Ev G l ML_law room_1 (ZL G) 178 4676 1180 [some (vR 100000), some (vR 0), some (vR 150), some (vI x3)] [] (SH, RF, f) := by
  unfold FL_law_1180 at h
  refine ev_aload_n (i := 1) dL_law_1180 rfl rfl ?_
  refine ev_aload_n (i := 0) dL_law_1181 rfl rfl ?_
  refine ev_iload_n (i := 3) dL_law_1182 rfl rfl ?_
  refine ev_iconst dL_law_1183 (r32c rfl) ?_
  refine ev_iadd dL_law_1184 ?_
  by_cases g1 : 0 ≤ (w32 (x3 + 1)) ∧ (w32 (x3 + 1)) < ((Ln : Nat) : Int)
  · rw [if_pos g1] at h
    refine ex_sld hL hxs dL_law_1185 g1.1 g1.2 ?_
    refine ev_cVI (b := 0) (av := [vI (xs (w32 (x3 + 1)).toNat)]) (S := []) PLn h dL_law_1186 (fun Q' q => TX10_abreast (xs (w32 (x3 + 1)).toNat) _ q) kvX10_abreast ml_L_177 sh_0 rfl (RRL (by decide) (by decide)) (Nat.le_of_ble_eq_true rfl) ⟨Nat.le_of_ble_eq_true rfl, Nat.le_of_ble_eq_true rfl⟩ (fun y2 f2 h => ?_)
    refine ev_aload_n (i := 2) dL_law_1189 rfl rfl ?_
    refine ev_aload_n (i := 0) dL_law_1190 rfl rfl ?_
    refine ev_iload_n (i := 3) dL_law_1191 rfl rfl ?_
    refine ev_iconst dL_law_1192 (r32c rfl) ?_
    refine ev_iadd dL_law_1193 ?_
    by_cases g3 : 0 ≤ (w32 (x3 + 1)) ∧ (w32 (x3 + 1)) < ((Ln : Nat) : Int)
    · rw [if_pos g3] at h
      refine ex_sld hL hxs dL_law_1194 g3.1 g3.2 ?_
      refine ev_cVI (b := 150) (av := [vI (xs (w32 (x3 + 1)).toNat)]) (S := [vI y2]) PLn h dL_law_1195 (fun Q' q => TX11_abreast (xs (w32 (x3 + 1)).toNat) _ q) kvX11_abreast ml_L_180 sh_150 rfl (RRL (by decide) (by decide)) (Nat.le_of_ble_eq_true rfl) ⟨Nat.le_of_ble_eq_true rfl, Nat.le_of_ble_eq_true rfl⟩ (fun y4 f4 h => ?_)
      refine ev_icmp_eq (tgt := 2110) dL_law_1198 (by decide) (fun c5 => ?_) (fun c5 => ?_)
      · rw [if_pos c5] at h
        exact SL_law_2110 hL hxs q18 x3 _ h
      · rw [if_neg c5] at h
        refine ev_iconst dL_law_1201 (r32c rfl) ?_
        obtain ⟨g, hg⟩ := h
        cases hg
    · rw [if_neg g3] at h; exact (PLn h).elim
  · rw [if_neg g1] at h; exact (PLn h).elim
def FL_law_1203 (Ln : Nat) (xs : Nat → Int) (k18 : Int → Mm → Option (Int × Mm)) (x3 : Int) (f : Mm) : Option (Int × Mm) := (if 0 ≤ (w32 (x3 + 1)) ∧ (w32 (x3 + 1)) < ((Ln : Nat) : Int) then (b2 (FX10_load (xs (w32 (x3 + 1)).toNat) f) fun y2 f2 => (if 0 ≤ (w32 (x3 + 1)) ∧ (w32 (x3 + 1)) < ((Ln : Nat) : Int) then (b2 (FX11_load (xs (w32 (x3 + 1)).toNat) f2) fun y4 f4 => (if y2 = y4 then FL_law_2110 Ln xs k18 x3 f4 else some (0, f4))) else none)) else none)
set_option maxHeartbeats 8000000 in
set_option maxRecDepth 100000 in
theorem SL_law_1203 {G : GT} {l : Launch} {Ln : Nat} {xs : Nat → Int} (hL : gL G = Ln) (hxs : ∀ j, (gX G j).toInt = xs j) {k18 : Int → Mm → Option (Int × Mm)} (q18 : ∀ (x3 : Int) (f : Mm), PL (k18 x3 f) → Ev G l ML_law room_1 (ZL G) 178 4676 18 [some (vR 100000), some (vR 0), some (vR 150), some (vI x3)] [] (SH, RF, f)) (x3 : Int) (f : Mm) (h : PL (FL_law_1203 Ln xs k18 x3 f)) : Ev G l ML_law room_1 (ZL G) 178 4676 1203 [some (vR 100000), some (vR 0), some (vR 150), some (vI x3)] [] (SH, RF, f) := by
  unfold FL_law_1203 at h
  refine ev_aload_n (i := 1) dL_law_1203 rfl rfl ?_
  refine ev_aload_n (i := 0) dL_law_1204 rfl rfl ?_
  refine ev_iload_n (i := 3) dL_law_1205 rfl rfl ?_
  refine ev_iconst dL_law_1206 (r32c rfl) ?_
  refine ev_iadd dL_law_1207 ?_
  by_cases g1 : 0 ≤ (w32 (x3 + 1)) ∧ (w32 (x3 + 1)) < ((Ln : Nat) : Int)
  · rw [if_pos g1] at h
    refine ex_sld hL hxs dL_law_1208 g1.1 g1.2 ?_
    refine ev_cVI (b := 0) (av := [vI (xs (w32 (x3 + 1)).toNat)]) (S := []) PLn h dL_law_1209 (fun Q' q => TX10_load (xs (w32 (x3 + 1)).toNat) _ q) kvX10_load ml_L_181 sh_0 rfl (RRL (by decide) (by decide)) (Nat.le_of_ble_eq_true rfl) ⟨Nat.le_of_ble_eq_true rfl, Nat.le_of_ble_eq_true rfl⟩ (fun y2 f2 h => ?_)
    refine ev_aload_n (i := 2) dL_law_1212 rfl rfl ?_
    refine ev_aload_n (i := 0) dL_law_1213 rfl rfl ?_
    refine ev_iload_n (i := 3) dL_law_1214 rfl rfl ?_
    refine ev_iconst dL_law_1215 (r32c rfl) ?_
    refine ev_iadd dL_law_1216 ?_
    by_cases g3 : 0 ≤ (w32 (x3 + 1)) ∧ (w32 (x3 + 1)) < ((Ln : Nat) : Int)
    · rw [if_pos g3] at h
      refine ex_sld hL hxs dL_law_1217 g3.1 g3.2 ?_
      refine ev_cVI (b := 150) (av := [vI (xs (w32 (x3 + 1)).toNat)]) (S := [vI y2]) PLn h dL_law_1218 (fun Q' q => TX11_load (xs (w32 (x3 + 1)).toNat) _ q) kvX11_load ml_L_184 sh_150 rfl (RRL (by decide) (by decide)) (Nat.le_of_ble_eq_true rfl) ⟨Nat.le_of_ble_eq_true rfl, Nat.le_of_ble_eq_true rfl⟩ (fun y4 f4 h => ?_)
      refine ev_icmp_eq (tgt := 2110) dL_law_1221 (by decide) (fun c5 => ?_) (fun c5 => ?_)
      · rw [if_pos c5] at h
        exact SL_law_2110 hL hxs q18 x3 _ h
      · rw [if_neg c5] at h
        refine ev_iconst dL_law_1224 (r32c rfl) ?_
        obtain ⟨g, hg⟩ := h
        cases hg
    · rw [if_neg g3] at h; exact (PLn h).elim
  · rw [if_neg g1] at h; exact (PLn h).elim
def FL_law_1226 (Ln : Nat) (xs : Nat → Int) (k18 : Int → Mm → Option (Int × Mm)) (x3 : Int) (f : Mm) : Option (Int × Mm) := (if 0 ≤ (w32 (x3 + 1)) ∧ (w32 (x3 + 1)) < ((Ln : Nat) : Int) then (b2 (FX10_loads (xs (w32 (x3 + 1)).toNat) f) fun y2 f2 => (if 0 ≤ (w32 (x3 + 1)) ∧ (w32 (x3 + 1)) < ((Ln : Nat) : Int) then (b2 (FX11_loads (xs (w32 (x3 + 1)).toNat) f2) fun y4 f4 => (if y2 = y4 then FL_law_2110 Ln xs k18 x3 f4 else some (0, f4))) else none)) else none)
set_option maxHeartbeats 8000000 in
set_option maxRecDepth 100000 in
theorem SL_law_1226 {G : GT} {l : Launch} {Ln : Nat} {xs : Nat → Int} (hL : gL G = Ln) (hxs : ∀ j, (gX G j).toInt = xs j) {k18 : Int → Mm → Option (Int × Mm)} (q18 : ∀ (x3 : Int) (f : Mm), PL (k18 x3 f) → Ev G l ML_law room_1 (ZL G) 178 4676 18 [some (vR 100000), some (vR 0), some (vR 150), some (vI x3)] [] (SH, RF, f)) (x3 : Int) (f : Mm) (h : PL (FL_law_1226 Ln xs k18 x3 f)) : Ev G l ML_law room_1 (ZL G) 178 4676 1226 [some (vR 100000), some (vR 0), some (vR 150), some (vI x3)] [] (SH, RF, f) := by
  unfold FL_law_1226 at h
  refine ev_aload_n (i := 1) dL_law_1226 rfl rfl ?_
  refine ev_aload_n (i := 0) dL_law_1227 rfl rfl ?_
  refine ev_iload_n (i := 3) dL_law_1228 rfl rfl ?_
  refine ev_iconst dL_law_1229 (r32c rfl) ?_
  refine ev_iadd dL_law_1230 ?_
  by_cases g1 : 0 ≤ (w32 (x3 + 1)) ∧ (w32 (x3 + 1)) < ((Ln : Nat) : Int)
  · rw [if_pos g1] at h
    refine ex_sld hL hxs dL_law_1231 g1.1 g1.2 ?_
    refine ev_cVI (b := 0) (av := [vI (xs (w32 (x3 + 1)).toNat)]) (S := []) PLn h dL_law_1232 (fun Q' q => TX10_loads (xs (w32 (x3 + 1)).toNat) _ q) kvX10_loads ml_L_185 sh_0 rfl (RRL (by decide) (by decide)) (Nat.le_of_ble_eq_true rfl) ⟨Nat.le_of_ble_eq_true rfl, Nat.le_of_ble_eq_true rfl⟩ (fun y2 f2 h => ?_)
    refine ev_aload_n (i := 2) dL_law_1235 rfl rfl ?_
    refine ev_aload_n (i := 0) dL_law_1236 rfl rfl ?_
    refine ev_iload_n (i := 3) dL_law_1237 rfl rfl ?_
    refine ev_iconst dL_law_1238 (r32c rfl) ?_
    refine ev_iadd dL_law_1239 ?_
    by_cases g3 : 0 ≤ (w32 (x3 + 1)) ∧ (w32 (x3 + 1)) < ((Ln : Nat) : Int)
    · rw [if_pos g3] at h
      refine ex_sld hL hxs dL_law_1240 g3.1 g3.2 ?_
      refine ev_cVI (b := 150) (av := [vI (xs (w32 (x3 + 1)).toNat)]) (S := [vI y2]) PLn h dL_law_1241 (fun Q' q => TX11_loads (xs (w32 (x3 + 1)).toNat) _ q) kvX11_loads ml_L_188 sh_150 rfl (RRL (by decide) (by decide)) (Nat.le_of_ble_eq_true rfl) ⟨Nat.le_of_ble_eq_true rfl, Nat.le_of_ble_eq_true rfl⟩ (fun y4 f4 h => ?_)
      refine ev_icmp_eq (tgt := 2110) dL_law_1244 (by decide) (fun c5 => ?_) (fun c5 => ?_)
      · rw [if_pos c5] at h
        exact SL_law_2110 hL hxs q18 x3 _ h
      · rw [if_neg c5] at h
        refine ev_iconst dL_law_1247 (r32c rfl) ?_
        obtain ⟨g, hg⟩ := h
        cases hg
    · rw [if_neg g3] at h; exact (PLn h).elim
  · rw [if_neg g1] at h; exact (PLn h).elim
def FL_law_1249 (Ln : Nat) (xs : Nat → Int) (k18 : Int → Mm → Option (Int × Mm)) (x3 : Int) (f : Mm) : Option (Int × Mm) := (b2 (FX10_queue f) fun y1 f1 => (b2 (FX11_queue f1) fun y2 f2 => (if y1 = y2 then FL_law_2110 Ln xs k18 x3 f2 else some (0, f2))))
set_option maxHeartbeats 8000000 in
set_option maxRecDepth 100000 in
theorem SL_law_1249 {G : GT} {l : Launch} {Ln : Nat} {xs : Nat → Int} (hL : gL G = Ln) (hxs : ∀ j, (gX G j).toInt = xs j) {k18 : Int → Mm → Option (Int × Mm)} (q18 : ∀ (x3 : Int) (f : Mm), PL (k18 x3 f) → Ev G l ML_law room_1 (ZL G) 178 4676 18 [some (vR 100000), some (vR 0), some (vR 150), some (vI x3)] [] (SH, RF, f)) (x3 : Int) (f : Mm) (h : PL (FL_law_1249 Ln xs k18 x3 f)) : Ev G l ML_law room_1 (ZL G) 178 4676 1249 [some (vR 100000), some (vR 0), some (vR 150), some (vI x3)] [] (SH, RF, f) := by
  unfold FL_law_1249 at h
  refine ev_aload_n (i := 1) dL_law_1249 rfl rfl ?_
  refine ev_cVI (b := 0) (av := []) (S := []) PLn h dL_law_1250 (fun Q' q => TX10_queue _ q) kvX10_queue ml_L_189 sh_0 rfl (RRL (by decide) (by decide)) (Nat.le_of_ble_eq_true rfl) ⟨Nat.le_of_ble_eq_true rfl, Nat.le_of_ble_eq_true rfl⟩ (fun y1 f1 h => ?_)
  refine ev_aload_n (i := 2) dL_law_1253 rfl rfl ?_
  refine ev_cVI (b := 150) (av := []) (S := [vI y1]) PLn h dL_law_1254 (fun Q' q => TX11_queue _ q) kvX11_queue ml_L_192 sh_150 rfl (RRL (by decide) (by decide)) (Nat.le_of_ble_eq_true rfl) ⟨Nat.le_of_ble_eq_true rfl, Nat.le_of_ble_eq_true rfl⟩ (fun y2 f2 h => ?_)
  refine ev_icmp_eq (tgt := 2110) dL_law_1257 (by decide) (fun c3 => ?_) (fun c3 => ?_)
  · rw [if_pos c3] at h
    exact SL_law_2110 hL hxs q18 x3 _ h
  · rw [if_neg c3] at h
    refine ev_iconst dL_law_1260 (r32c rfl) ?_
    obtain ⟨g, hg⟩ := h
    cases hg
def FL_law_1262 (Ln : Nat) (xs : Nat → Int) (k18 : Int → Mm → Option (Int × Mm)) (x3 : Int) (f : Mm) : Option (Int × Mm) := (if 0 ≤ (w32 (x3 + 1)) ∧ (w32 (x3 + 1)) < ((Ln : Nat) : Int) then (b2 (FX10_queues (xs (w32 (x3 + 1)).toNat) f) fun y2 f2 => (if 0 ≤ (w32 (x3 + 1)) ∧ (w32 (x3 + 1)) < ((Ln : Nat) : Int) then (b2 (FX11_queues (xs (w32 (x3 + 1)).toNat) f2) fun y4 f4 => (if y2 = y4 then FL_law_2110 Ln xs k18 x3 f4 else some (0, f4))) else none)) else none)
set_option maxHeartbeats 8000000 in
set_option maxRecDepth 100000 in
theorem SL_law_1262 {G : GT} {l : Launch} {Ln : Nat} {xs : Nat → Int} (hL : gL G = Ln) (hxs : ∀ j, (gX G j).toInt = xs j) {k18 : Int → Mm → Option (Int × Mm)} (q18 : ∀ (x3 : Int) (f : Mm), PL (k18 x3 f) → Ev G l ML_law room_1 (ZL G) 178 4676 18 [some (vR 100000), some (vR 0), some (vR 150), some (vI x3)] [] (SH, RF, f)) (x3 : Int) (f : Mm) (h : PL (FL_law_1262 Ln xs k18 x3 f)) : Ev G l ML_law room_1 (ZL G) 178 4676 1262 [some (vR 100000), some (vR 0), some (vR 150), some (vI x3)] [] (SH, RF, f) := by
  unfold FL_law_1262 at h
  refine ev_aload_n (i := 1) dL_law_1262 rfl rfl ?_
  refine ev_aload_n (i := 0) dL_law_1263 rfl rfl ?_
  refine ev_iload_n (i := 3) dL_law_1264 rfl rfl ?_
  refine ev_iconst dL_law_1265 (r32c rfl) ?_
  refine ev_iadd dL_law_1266 ?_
  by_cases g1 : 0 ≤ (w32 (x3 + 1)) ∧ (w32 (x3 + 1)) < ((Ln : Nat) : Int)
  · rw [if_pos g1] at h
    refine ex_sld hL hxs dL_law_1267 g1.1 g1.2 ?_
    refine ev_cVI (b := 0) (av := [vI (xs (w32 (x3 + 1)).toNat)]) (S := []) PLn h dL_law_1268 (fun Q' q => TX10_queues (xs (w32 (x3 + 1)).toNat) _ q) kvX10_queues ml_L_193 sh_0 rfl (RRL (by decide) (by decide)) (Nat.le_of_ble_eq_true rfl) ⟨Nat.le_of_ble_eq_true rfl, Nat.le_of_ble_eq_true rfl⟩ (fun y2 f2 h => ?_)
    refine ev_aload_n (i := 2) dL_law_1271 rfl rfl ?_
    refine ev_aload_n (i := 0) dL_law_1272 rfl rfl ?_
    refine ev_iload_n (i := 3) dL_law_1273 rfl rfl ?_
    refine ev_iconst dL_law_1274 (r32c rfl) ?_
    refine ev_iadd dL_law_1275 ?_
    by_cases g3 : 0 ≤ (w32 (x3 + 1)) ∧ (w32 (x3 + 1)) < ((Ln : Nat) : Int)
    · rw [if_pos g3] at h
      refine ex_sld hL hxs dL_law_1276 g3.1 g3.2 ?_
      refine ev_cVI (b := 150) (av := [vI (xs (w32 (x3 + 1)).toNat)]) (S := [vI y2]) PLn h dL_law_1277 (fun Q' q => TX11_queues (xs (w32 (x3 + 1)).toNat) _ q) kvX11_queues ml_L_196 sh_150 rfl (RRL (by decide) (by decide)) (Nat.le_of_ble_eq_true rfl) ⟨Nat.le_of_ble_eq_true rfl, Nat.le_of_ble_eq_true rfl⟩ (fun y4 f4 h => ?_)
      refine ev_icmp_eq (tgt := 2110) dL_law_1280 (by decide) (fun c5 => ?_) (fun c5 => ?_)
      · rw [if_pos c5] at h
        exact SL_law_2110 hL hxs q18 x3 _ h
      · rw [if_neg c5] at h
        refine ev_iconst dL_law_1283 (r32c rfl) ?_
        obtain ⟨g, hg⟩ := h
        cases hg
    · rw [if_neg g3] at h; exact (PLn h).elim
  · rw [if_neg g1] at h; exact (PLn h).elim
def FL_law_1285 (Ln : Nat) (xs : Nat → Int) (k18 : Int → Mm → Option (Int × Mm)) (x3 : Int) (f : Mm) : Option (Int × Mm) := (b2 (FX10_line f) fun y1 f1 => (b2 (FX11_line f1) fun y2 f2 => (if y1 = y2 then FL_law_2110 Ln xs k18 x3 f2 else some (0, f2))))
set_option maxHeartbeats 8000000 in
set_option maxRecDepth 100000 in
theorem SL_law_1285 {G : GT} {l : Launch} {Ln : Nat} {xs : Nat → Int} (hL : gL G = Ln) (hxs : ∀ j, (gX G j).toInt = xs j) {k18 : Int → Mm → Option (Int × Mm)} (q18 : ∀ (x3 : Int) (f : Mm), PL (k18 x3 f) → Ev G l ML_law room_1 (ZL G) 178 4676 18 [some (vR 100000), some (vR 0), some (vR 150), some (vI x3)] [] (SH, RF, f)) (x3 : Int) (f : Mm) (h : PL (FL_law_1285 Ln xs k18 x3 f)) : Ev G l ML_law room_1 (ZL G) 178 4676 1285 [some (vR 100000), some (vR 0), some (vR 150), some (vI x3)] [] (SH, RF, f) := by
  unfold FL_law_1285 at h
  refine ev_aload_n (i := 1) dL_law_1285 rfl rfl ?_
  refine ev_cVI (b := 0) (av := []) (S := []) PLn h dL_law_1286 (fun Q' q => TX10_line _ q) kvX10_line ml_L_197 sh_0 rfl (RRL (by decide) (by decide)) (Nat.le_of_ble_eq_true rfl) ⟨Nat.le_of_ble_eq_true rfl, Nat.le_of_ble_eq_true rfl⟩ (fun y1 f1 h => ?_)
  refine ev_aload_n (i := 2) dL_law_1289 rfl rfl ?_
  refine ev_cVI (b := 150) (av := []) (S := [vI y1]) PLn h dL_law_1290 (fun Q' q => TX11_line _ q) kvX11_line ml_L_200 sh_150 rfl (RRL (by decide) (by decide)) (Nat.le_of_ble_eq_true rfl) ⟨Nat.le_of_ble_eq_true rfl, Nat.le_of_ble_eq_true rfl⟩ (fun y2 f2 h => ?_)
  refine ev_icmp_eq (tgt := 2110) dL_law_1293 (by decide) (fun c3 => ?_) (fun c3 => ?_)
  · rw [if_pos c3] at h
    exact SL_law_2110 hL hxs q18 x3 _ h
  · rw [if_neg c3] at h
    refine ev_iconst dL_law_1296 (r32c rfl) ?_
    obtain ⟨g, hg⟩ := h
    cases hg
def FL_law_1298 (Ln : Nat) (xs : Nat → Int) (k18 : Int → Mm → Option (Int × Mm)) (x3 : Int) (f : Mm) : Option (Int × Mm) := (if 0 ≤ (w32 (x3 + 1)) ∧ (w32 (x3 + 1)) < ((Ln : Nat) : Int) then (b2 (FX10_fits (xs (w32 (x3 + 1)).toNat) f) fun y2 f2 => (if 0 ≤ (w32 (x3 + 1)) ∧ (w32 (x3 + 1)) < ((Ln : Nat) : Int) then (b2 (FX11_fits (xs (w32 (x3 + 1)).toNat) f2) fun y4 f4 => (if y2 = y4 then FL_law_2110 Ln xs k18 x3 f4 else some (0, f4))) else none)) else none)
set_option maxHeartbeats 8000000 in
set_option maxRecDepth 100000 in
theorem SL_law_1298 {G : GT} {l : Launch} {Ln : Nat} {xs : Nat → Int} (hL : gL G = Ln) (hxs : ∀ j, (gX G j).toInt = xs j) {k18 : Int → Mm → Option (Int × Mm)} (q18 : ∀ (x3 : Int) (f : Mm), PL (k18 x3 f) → Ev G l ML_law room_1 (ZL G) 178 4676 18 [some (vR 100000), some (vR 0), some (vR 150), some (vI x3)] [] (SH, RF, f)) (x3 : Int) (f : Mm) (h : PL (FL_law_1298 Ln xs k18 x3 f)) : Ev G l ML_law room_1 (ZL G) 178 4676 1298 [some (vR 100000), some (vR 0), some (vR 150), some (vI x3)] [] (SH, RF, f) := by
  unfold FL_law_1298 at h
  refine ev_aload_n (i := 1) dL_law_1298 rfl rfl ?_
  refine ev_aload_n (i := 0) dL_law_1299 rfl rfl ?_
  refine ev_iload_n (i := 3) dL_law_1300 rfl rfl ?_
  refine ev_iconst dL_law_1301 (r32c rfl) ?_
  refine ev_iadd dL_law_1302 ?_
  by_cases g1 : 0 ≤ (w32 (x3 + 1)) ∧ (w32 (x3 + 1)) < ((Ln : Nat) : Int)
  · rw [if_pos g1] at h
    refine ex_sld hL hxs dL_law_1303 g1.1 g1.2 ?_
    refine ev_cVI (b := 0) (av := [vI (xs (w32 (x3 + 1)).toNat)]) (S := []) PLn h dL_law_1304 (fun Q' q => TX10_fits (xs (w32 (x3 + 1)).toNat) _ q) kvX10_fits ml_L_201 sh_0 rfl (RRL (by decide) (by decide)) (Nat.le_of_ble_eq_true rfl) ⟨Nat.le_of_ble_eq_true rfl, Nat.le_of_ble_eq_true rfl⟩ (fun y2 f2 h => ?_)
    refine ev_aload_n (i := 2) dL_law_1307 rfl rfl ?_
    refine ev_aload_n (i := 0) dL_law_1308 rfl rfl ?_
    refine ev_iload_n (i := 3) dL_law_1309 rfl rfl ?_
    refine ev_iconst dL_law_1310 (r32c rfl) ?_
    refine ev_iadd dL_law_1311 ?_
    by_cases g3 : 0 ≤ (w32 (x3 + 1)) ∧ (w32 (x3 + 1)) < ((Ln : Nat) : Int)
    · rw [if_pos g3] at h
      refine ex_sld hL hxs dL_law_1312 g3.1 g3.2 ?_
      refine ev_cVI (b := 150) (av := [vI (xs (w32 (x3 + 1)).toNat)]) (S := [vI y2]) PLn h dL_law_1313 (fun Q' q => TX11_fits (xs (w32 (x3 + 1)).toNat) _ q) kvX11_fits ml_L_204 sh_150 rfl (RRL (by decide) (by decide)) (Nat.le_of_ble_eq_true rfl) ⟨Nat.le_of_ble_eq_true rfl, Nat.le_of_ble_eq_true rfl⟩ (fun y4 f4 h => ?_)
      refine ev_icmp_eq (tgt := 2110) dL_law_1316 (by decide) (fun c5 => ?_) (fun c5 => ?_)
      · rw [if_pos c5] at h
        exact SL_law_2110 hL hxs q18 x3 _ h
      · rw [if_neg c5] at h
        refine ev_iconst dL_law_1319 (r32c rfl) ?_
        obtain ⟨g, hg⟩ := h
        cases hg
    · rw [if_neg g3] at h; exact (PLn h).elim
  · rw [if_neg g1] at h; exact (PLn h).elim
def FL_law_1321 (Ln : Nat) (xs : Nat → Int) (k18 : Int → Mm → Option (Int × Mm)) (x3 : Int) (f : Mm) : Option (Int × Mm) := (if 0 ≤ (w32 (x3 + 1)) ∧ (w32 (x3 + 1)) < ((Ln : Nat) : Int) then (b2 (FX10_slights (xs (w32 (x3 + 1)).toNat) f) fun y2 f2 => (if 0 ≤ (w32 (x3 + 1)) ∧ (w32 (x3 + 1)) < ((Ln : Nat) : Int) then (b2 (FX11_slights (xs (w32 (x3 + 1)).toNat) f2) fun y4 f4 => (if y2 = y4 then FL_law_2110 Ln xs k18 x3 f4 else some (0, f4))) else none)) else none)
set_option maxHeartbeats 8000000 in
set_option maxRecDepth 100000 in
theorem SL_law_1321 {G : GT} {l : Launch} {Ln : Nat} {xs : Nat → Int} (hL : gL G = Ln) (hxs : ∀ j, (gX G j).toInt = xs j) {k18 : Int → Mm → Option (Int × Mm)} (q18 : ∀ (x3 : Int) (f : Mm), PL (k18 x3 f) → Ev G l ML_law room_1 (ZL G) 178 4676 18 [some (vR 100000), some (vR 0), some (vR 150), some (vI x3)] [] (SH, RF, f)) (x3 : Int) (f : Mm) (h : PL (FL_law_1321 Ln xs k18 x3 f)) : Ev G l ML_law room_1 (ZL G) 178 4676 1321 [some (vR 100000), some (vR 0), some (vR 150), some (vI x3)] [] (SH, RF, f) := by
  unfold FL_law_1321 at h
  refine ev_aload_n (i := 1) dL_law_1321 rfl rfl ?_
  refine ev_aload_n (i := 0) dL_law_1322 rfl rfl ?_
  refine ev_iload_n (i := 3) dL_law_1323 rfl rfl ?_
  refine ev_iconst dL_law_1324 (r32c rfl) ?_
  refine ev_iadd dL_law_1325 ?_
  by_cases g1 : 0 ≤ (w32 (x3 + 1)) ∧ (w32 (x3 + 1)) < ((Ln : Nat) : Int)
  · rw [if_pos g1] at h
    refine ex_sld hL hxs dL_law_1326 g1.1 g1.2 ?_
    refine ev_cVI (b := 0) (av := [vI (xs (w32 (x3 + 1)).toNat)]) (S := []) PLn h dL_law_1327 (fun Q' q => TX10_slights (xs (w32 (x3 + 1)).toNat) _ q) kvX10_slights ml_L_205 sh_0 rfl (RRL (by decide) (by decide)) (Nat.le_of_ble_eq_true rfl) ⟨Nat.le_of_ble_eq_true rfl, Nat.le_of_ble_eq_true rfl⟩ (fun y2 f2 h => ?_)
    refine ev_aload_n (i := 2) dL_law_1330 rfl rfl ?_
    refine ev_aload_n (i := 0) dL_law_1331 rfl rfl ?_
    refine ev_iload_n (i := 3) dL_law_1332 rfl rfl ?_
    refine ev_iconst dL_law_1333 (r32c rfl) ?_
    refine ev_iadd dL_law_1334 ?_
    by_cases g3 : 0 ≤ (w32 (x3 + 1)) ∧ (w32 (x3 + 1)) < ((Ln : Nat) : Int)
    · rw [if_pos g3] at h
      refine ex_sld hL hxs dL_law_1335 g3.1 g3.2 ?_
      refine ev_cVI (b := 150) (av := [vI (xs (w32 (x3 + 1)).toNat)]) (S := [vI y2]) PLn h dL_law_1336 (fun Q' q => TX11_slights (xs (w32 (x3 + 1)).toNat) _ q) kvX11_slights ml_L_208 sh_150 rfl (RRL (by decide) (by decide)) (Nat.le_of_ble_eq_true rfl) ⟨Nat.le_of_ble_eq_true rfl, Nat.le_of_ble_eq_true rfl⟩ (fun y4 f4 h => ?_)
      refine ev_icmp_eq (tgt := 2110) dL_law_1339 (by decide) (fun c5 => ?_) (fun c5 => ?_)
      · rw [if_pos c5] at h
        exact SL_law_2110 hL hxs q18 x3 _ h
      · rw [if_neg c5] at h
        refine ev_iconst dL_law_1342 (r32c rfl) ?_
        obtain ⟨g, hg⟩ := h
        cases hg
    · rw [if_neg g3] at h; exact (PLn h).elim
  · rw [if_neg g1] at h; exact (PLn h).elim
def FL_law_1344 (Ln : Nat) (xs : Nat → Int) (k18 : Int → Mm → Option (Int × Mm)) (x3 : Int) (f : Mm) : Option (Int × Mm) := (if 0 ≤ (w32 (x3 + 1)) ∧ (w32 (x3 + 1)) < ((Ln : Nat) : Int) then (b2 (FX10_slight (xs (w32 (x3 + 1)).toNat) f) fun y2 f2 => (if 0 ≤ (w32 (x3 + 1)) ∧ (w32 (x3 + 1)) < ((Ln : Nat) : Int) then (b2 (FX11_slight (xs (w32 (x3 + 1)).toNat) f2) fun y4 f4 => (if y2 = y4 then FL_law_2110 Ln xs k18 x3 f4 else some (0, f4))) else none)) else none)
set_option maxHeartbeats 8000000 in
set_option maxRecDepth 100000 in
theorem SL_law_1344 {G : GT} {l : Launch} {Ln : Nat} {xs : Nat → Int} (hL : gL G = Ln) (hxs : ∀ j, (gX G j).toInt = xs j) {k18 : Int → Mm → Option (Int × Mm)} (q18 : ∀ (x3 : Int) (f : Mm), PL (k18 x3 f) → Ev G l ML_law room_1 (ZL G) 178 4676 18 [some (vR 100000), some (vR 0), some (vR 150), some (vI x3)] [] (SH, RF, f)) (x3 : Int) (f : Mm) (h : PL (FL_law_1344 Ln xs k18 x3 f)) : Ev G l ML_law room_1 (ZL G) 178 4676 1344 [some (vR 100000), some (vR 0), some (vR 150), some (vI x3)] [] (SH, RF, f) := by
  unfold FL_law_1344 at h
  refine ev_aload_n (i := 1) dL_law_1344 rfl rfl ?_
  refine ev_aload_n (i := 0) dL_law_1345 rfl rfl ?_
  refine ev_iload_n (i := 3) dL_law_1346 rfl rfl ?_
  refine ev_iconst dL_law_1347 (r32c rfl) ?_
  refine ev_iadd dL_law_1348 ?_
  by_cases g1 : 0 ≤ (w32 (x3 + 1)) ∧ (w32 (x3 + 1)) < ((Ln : Nat) : Int)
  · rw [if_pos g1] at h
    refine ex_sld hL hxs dL_law_1349 g1.1 g1.2 ?_
    refine ev_cVI (b := 0) (av := [vI (xs (w32 (x3 + 1)).toNat)]) (S := []) PLn h dL_law_1350 (fun Q' q => TX10_slight (xs (w32 (x3 + 1)).toNat) _ q) kvX10_slight ml_L_209 sh_0 rfl (RRL (by decide) (by decide)) (Nat.le_of_ble_eq_true rfl) ⟨Nat.le_of_ble_eq_true rfl, Nat.le_of_ble_eq_true rfl⟩ (fun y2 f2 h => ?_)
    refine ev_aload_n (i := 2) dL_law_1353 rfl rfl ?_
    refine ev_aload_n (i := 0) dL_law_1354 rfl rfl ?_
    refine ev_iload_n (i := 3) dL_law_1355 rfl rfl ?_
    refine ev_iconst dL_law_1356 (r32c rfl) ?_
    refine ev_iadd dL_law_1357 ?_
    by_cases g3 : 0 ≤ (w32 (x3 + 1)) ∧ (w32 (x3 + 1)) < ((Ln : Nat) : Int)
    · rw [if_pos g3] at h
      refine ex_sld hL hxs dL_law_1358 g3.1 g3.2 ?_
      refine ev_cVI (b := 150) (av := [vI (xs (w32 (x3 + 1)).toNat)]) (S := [vI y2]) PLn h dL_law_1359 (fun Q' q => TX11_slight (xs (w32 (x3 + 1)).toNat) _ q) kvX11_slight ml_L_212 sh_150 rfl (RRL (by decide) (by decide)) (Nat.le_of_ble_eq_true rfl) ⟨Nat.le_of_ble_eq_true rfl, Nat.le_of_ble_eq_true rfl⟩ (fun y4 f4 h => ?_)
      refine ev_icmp_eq (tgt := 2110) dL_law_1362 (by decide) (fun c5 => ?_) (fun c5 => ?_)
      · rw [if_pos c5] at h
        exact SL_law_2110 hL hxs q18 x3 _ h
      · rw [if_neg c5] at h
        refine ev_iconst dL_law_1365 (r32c rfl) ?_
        obtain ⟨g, hg⟩ := h
        cases hg
    · rw [if_neg g3] at h; exact (PLn h).elim
  · rw [if_neg g1] at h; exact (PLn h).elim
def FL_law_1367 (Ln : Nat) (xs : Nat → Int) (k18 : Int → Mm → Option (Int × Mm)) (x3 : Int) (f : Mm) : Option (Int × Mm) := (if 0 ≤ (w32 (x3 + 1)) ∧ (w32 (x3 + 1)) < ((Ln : Nat) : Int) then (b2 (FX10_ask (xs (w32 (x3 + 1)).toNat) f) fun y2 f2 => (if 0 ≤ (w32 (x3 + 1)) ∧ (w32 (x3 + 1)) < ((Ln : Nat) : Int) then (b2 (FX11_ask (xs (w32 (x3 + 1)).toNat) f2) fun y4 f4 => (if y2 = y4 then FL_law_2110 Ln xs k18 x3 f4 else some (0, f4))) else none)) else none)
set_option maxHeartbeats 8000000 in
set_option maxRecDepth 100000 in
theorem SL_law_1367 {G : GT} {l : Launch} {Ln : Nat} {xs : Nat → Int} (hL : gL G = Ln) (hxs : ∀ j, (gX G j).toInt = xs j) {k18 : Int → Mm → Option (Int × Mm)} (q18 : ∀ (x3 : Int) (f : Mm), PL (k18 x3 f) → Ev G l ML_law room_1 (ZL G) 178 4676 18 [some (vR 100000), some (vR 0), some (vR 150), some (vI x3)] [] (SH, RF, f)) (x3 : Int) (f : Mm) (h : PL (FL_law_1367 Ln xs k18 x3 f)) : Ev G l ML_law room_1 (ZL G) 178 4676 1367 [some (vR 100000), some (vR 0), some (vR 150), some (vI x3)] [] (SH, RF, f) := by
  unfold FL_law_1367 at h
  refine ev_aload_n (i := 1) dL_law_1367 rfl rfl ?_
  refine ev_aload_n (i := 0) dL_law_1368 rfl rfl ?_
  refine ev_iload_n (i := 3) dL_law_1369 rfl rfl ?_
  refine ev_iconst dL_law_1370 (r32c rfl) ?_
  refine ev_iadd dL_law_1371 ?_
  by_cases g1 : 0 ≤ (w32 (x3 + 1)) ∧ (w32 (x3 + 1)) < ((Ln : Nat) : Int)
  · rw [if_pos g1] at h
    refine ex_sld hL hxs dL_law_1372 g1.1 g1.2 ?_
    refine ev_cVI (b := 0) (av := [vI (xs (w32 (x3 + 1)).toNat)]) (S := []) PLn h dL_law_1373 (fun Q' q => TX10_ask (xs (w32 (x3 + 1)).toNat) _ q) kvX10_ask ml_L_213 sh_0 rfl (RRL (by decide) (by decide)) (Nat.le_of_ble_eq_true rfl) ⟨Nat.le_of_ble_eq_true rfl, Nat.le_of_ble_eq_true rfl⟩ (fun y2 f2 h => ?_)
    refine ev_aload_n (i := 2) dL_law_1376 rfl rfl ?_
    refine ev_aload_n (i := 0) dL_law_1377 rfl rfl ?_
    refine ev_iload_n (i := 3) dL_law_1378 rfl rfl ?_
    refine ev_iconst dL_law_1379 (r32c rfl) ?_
    refine ev_iadd dL_law_1380 ?_
    by_cases g3 : 0 ≤ (w32 (x3 + 1)) ∧ (w32 (x3 + 1)) < ((Ln : Nat) : Int)
    · rw [if_pos g3] at h
      refine ex_sld hL hxs dL_law_1381 g3.1 g3.2 ?_
      refine ev_cVI (b := 150) (av := [vI (xs (w32 (x3 + 1)).toNat)]) (S := [vI y2]) PLn h dL_law_1382 (fun Q' q => TX11_ask (xs (w32 (x3 + 1)).toNat) _ q) kvX11_ask ml_L_216 sh_150 rfl (RRL (by decide) (by decide)) (Nat.le_of_ble_eq_true rfl) ⟨Nat.le_of_ble_eq_true rfl, Nat.le_of_ble_eq_true rfl⟩ (fun y4 f4 h => ?_)
      refine ev_icmp_eq (tgt := 2110) dL_law_1385 (by decide) (fun c5 => ?_) (fun c5 => ?_)
      · rw [if_pos c5] at h
        exact SL_law_2110 hL hxs q18 x3 _ h
      · rw [if_neg c5] at h
        refine ev_iconst dL_law_1388 (r32c rfl) ?_
        obtain ⟨g, hg⟩ := h
        cases hg
    · rw [if_neg g3] at h; exact (PLn h).elim
  · rw [if_neg g1] at h; exact (PLn h).elim
def FL_law_1390 (Ln : Nat) (xs : Nat → Int) (k18 : Int → Mm → Option (Int × Mm)) (x3 : Int) (f : Mm) : Option (Int × Mm) := (if 0 ≤ (w32 (x3 + 1)) ∧ (w32 (x3 + 1)) < ((Ln : Nat) : Int) then (b2 (FX10_leaves (xs (w32 (x3 + 1)).toNat) f) fun y2 f2 => (if 0 ≤ (w32 (x3 + 1)) ∧ (w32 (x3 + 1)) < ((Ln : Nat) : Int) then (b2 (FX11_leaves (xs (w32 (x3 + 1)).toNat) f2) fun y4 f4 => (if y2 = y4 then FL_law_2110 Ln xs k18 x3 f4 else some (0, f4))) else none)) else none)
set_option maxHeartbeats 8000000 in
set_option maxRecDepth 100000 in
theorem SL_law_1390 {G : GT} {l : Launch} {Ln : Nat} {xs : Nat → Int} (hL : gL G = Ln) (hxs : ∀ j, (gX G j).toInt = xs j) {k18 : Int → Mm → Option (Int × Mm)} (q18 : ∀ (x3 : Int) (f : Mm), PL (k18 x3 f) → Ev G l ML_law room_1 (ZL G) 178 4676 18 [some (vR 100000), some (vR 0), some (vR 150), some (vI x3)] [] (SH, RF, f)) (x3 : Int) (f : Mm) (h : PL (FL_law_1390 Ln xs k18 x3 f)) : Ev G l ML_law room_1 (ZL G) 178 4676 1390 [some (vR 100000), some (vR 0), some (vR 150), some (vI x3)] [] (SH, RF, f) := by
  unfold FL_law_1390 at h
  refine ev_aload_n (i := 1) dL_law_1390 rfl rfl ?_
  refine ev_aload_n (i := 0) dL_law_1391 rfl rfl ?_
  refine ev_iload_n (i := 3) dL_law_1392 rfl rfl ?_
  refine ev_iconst dL_law_1393 (r32c rfl) ?_
  refine ev_iadd dL_law_1394 ?_
  by_cases g1 : 0 ≤ (w32 (x3 + 1)) ∧ (w32 (x3 + 1)) < ((Ln : Nat) : Int)
  · rw [if_pos g1] at h
    refine ex_sld hL hxs dL_law_1395 g1.1 g1.2 ?_
    refine ev_cVI (b := 0) (av := [vI (xs (w32 (x3 + 1)).toNat)]) (S := []) PLn h dL_law_1396 (fun Q' q => TX10_leaves (xs (w32 (x3 + 1)).toNat) _ q) kvX10_leaves ml_L_217 sh_0 rfl (RRL (by decide) (by decide)) (Nat.le_of_ble_eq_true rfl) ⟨Nat.le_of_ble_eq_true rfl, Nat.le_of_ble_eq_true rfl⟩ (fun y2 f2 h => ?_)
    refine ev_aload_n (i := 2) dL_law_1399 rfl rfl ?_
    refine ev_aload_n (i := 0) dL_law_1400 rfl rfl ?_
    refine ev_iload_n (i := 3) dL_law_1401 rfl rfl ?_
    refine ev_iconst dL_law_1402 (r32c rfl) ?_
    refine ev_iadd dL_law_1403 ?_
    by_cases g3 : 0 ≤ (w32 (x3 + 1)) ∧ (w32 (x3 + 1)) < ((Ln : Nat) : Int)
    · rw [if_pos g3] at h
      refine ex_sld hL hxs dL_law_1404 g3.1 g3.2 ?_
      refine ev_cVI (b := 150) (av := [vI (xs (w32 (x3 + 1)).toNat)]) (S := [vI y2]) PLn h dL_law_1405 (fun Q' q => TX11_leaves (xs (w32 (x3 + 1)).toNat) _ q) kvX11_leaves ml_L_220 sh_150 rfl (RRL (by decide) (by decide)) (Nat.le_of_ble_eq_true rfl) ⟨Nat.le_of_ble_eq_true rfl, Nat.le_of_ble_eq_true rfl⟩ (fun y4 f4 h => ?_)
      refine ev_icmp_eq (tgt := 2110) dL_law_1408 (by decide) (fun c5 => ?_) (fun c5 => ?_)
      · rw [if_pos c5] at h
        exact SL_law_2110 hL hxs q18 x3 _ h
      · rw [if_neg c5] at h
        refine ev_iconst dL_law_1411 (r32c rfl) ?_
        obtain ⟨g, hg⟩ := h
        cases hg
    · rw [if_neg g3] at h; exact (PLn h).elim
  · rw [if_neg g1] at h; exact (PLn h).elim
def FL_law_1413 (Ln : Nat) (xs : Nat → Int) (k18 : Int → Mm → Option (Int × Mm)) (x3 : Int) (f : Mm) : Option (Int × Mm) := (if 0 ≤ (w32 (x3 + 1)) ∧ (w32 (x3 + 1)) < ((Ln : Nat) : Int) then (b2 (FX10_cools (xs (w32 (x3 + 1)).toNat) f) fun y2 f2 => (if 0 ≤ (w32 (x3 + 1)) ∧ (w32 (x3 + 1)) < ((Ln : Nat) : Int) then (b2 (FX11_cools (xs (w32 (x3 + 1)).toNat) f2) fun y4 f4 => (if y2 = y4 then FL_law_2110 Ln xs k18 x3 f4 else some (0, f4))) else none)) else none)
set_option maxHeartbeats 8000000 in
set_option maxRecDepth 100000 in
theorem SL_law_1413 {G : GT} {l : Launch} {Ln : Nat} {xs : Nat → Int} (hL : gL G = Ln) (hxs : ∀ j, (gX G j).toInt = xs j) {k18 : Int → Mm → Option (Int × Mm)} (q18 : ∀ (x3 : Int) (f : Mm), PL (k18 x3 f) → Ev G l ML_law room_1 (ZL G) 178 4676 18 [some (vR 100000), some (vR 0), some (vR 150), some (vI x3)] [] (SH, RF, f)) (x3 : Int) (f : Mm) (h : PL (FL_law_1413 Ln xs k18 x3 f)) : Ev G l ML_law room_1 (ZL G) 178 4676 1413 [some (vR 100000), some (vR 0), some (vR 150), some (vI x3)] [] (SH, RF, f) := by
  unfold FL_law_1413 at h
  refine ev_aload_n (i := 1) dL_law_1413 rfl rfl ?_
  refine ev_aload_n (i := 0) dL_law_1414 rfl rfl ?_
  refine ev_iload_n (i := 3) dL_law_1415 rfl rfl ?_
  refine ev_iconst dL_law_1416 (r32c rfl) ?_
  refine ev_iadd dL_law_1417 ?_
  by_cases g1 : 0 ≤ (w32 (x3 + 1)) ∧ (w32 (x3 + 1)) < ((Ln : Nat) : Int)
  · rw [if_pos g1] at h
    refine ex_sld hL hxs dL_law_1418 g1.1 g1.2 ?_
    refine ev_cVI (b := 0) (av := [vI (xs (w32 (x3 + 1)).toNat)]) (S := []) PLn h dL_law_1419 (fun Q' q => TX10_cools (xs (w32 (x3 + 1)).toNat) _ q) kvX10_cools ml_L_221 sh_0 rfl (RRL (by decide) (by decide)) (Nat.le_of_ble_eq_true rfl) ⟨Nat.le_of_ble_eq_true rfl, Nat.le_of_ble_eq_true rfl⟩ (fun y2 f2 h => ?_)
    refine ev_aload_n (i := 2) dL_law_1422 rfl rfl ?_
    refine ev_aload_n (i := 0) dL_law_1423 rfl rfl ?_
    refine ev_iload_n (i := 3) dL_law_1424 rfl rfl ?_
    refine ev_iconst dL_law_1425 (r32c rfl) ?_
    refine ev_iadd dL_law_1426 ?_
    by_cases g3 : 0 ≤ (w32 (x3 + 1)) ∧ (w32 (x3 + 1)) < ((Ln : Nat) : Int)
    · rw [if_pos g3] at h
      refine ex_sld hL hxs dL_law_1427 g3.1 g3.2 ?_
      refine ev_cVI (b := 150) (av := [vI (xs (w32 (x3 + 1)).toNat)]) (S := [vI y2]) PLn h dL_law_1428 (fun Q' q => TX11_cools (xs (w32 (x3 + 1)).toNat) _ q) kvX11_cools ml_L_224 sh_150 rfl (RRL (by decide) (by decide)) (Nat.le_of_ble_eq_true rfl) ⟨Nat.le_of_ble_eq_true rfl, Nat.le_of_ble_eq_true rfl⟩ (fun y4 f4 h => ?_)
      refine ev_icmp_eq (tgt := 2110) dL_law_1431 (by decide) (fun c5 => ?_) (fun c5 => ?_)
      · rw [if_pos c5] at h
        exact SL_law_2110 hL hxs q18 x3 _ h
      · rw [if_neg c5] at h
        refine ev_iconst dL_law_1434 (r32c rfl) ?_
        obtain ⟨g, hg⟩ := h
        cases hg
    · rw [if_neg g3] at h; exact (PLn h).elim
  · rw [if_neg g1] at h; exact (PLn h).elim
def FL_law_1436 (Ln : Nat) (xs : Nat → Int) (k18 : Int → Mm → Option (Int × Mm)) (x3 : Int) (f : Mm) : Option (Int × Mm) := (if 0 ≤ (w32 (x3 + 1)) ∧ (w32 (x3 + 1)) < ((Ln : Nat) : Int) then (b2 (FX10_cool (xs (w32 (x3 + 1)).toNat) f) fun y2 f2 => (if 0 ≤ (w32 (x3 + 1)) ∧ (w32 (x3 + 1)) < ((Ln : Nat) : Int) then (b2 (FX11_cool (xs (w32 (x3 + 1)).toNat) f2) fun y4 f4 => (if y2 = y4 then FL_law_2110 Ln xs k18 x3 f4 else some (0, f4))) else none)) else none)
set_option maxHeartbeats 8000000 in
set_option maxRecDepth 100000 in
theorem SL_law_1436 {G : GT} {l : Launch} {Ln : Nat} {xs : Nat → Int} (hL : gL G = Ln) (hxs : ∀ j, (gX G j).toInt = xs j) {k18 : Int → Mm → Option (Int × Mm)} (q18 : ∀ (x3 : Int) (f : Mm), PL (k18 x3 f) → Ev G l ML_law room_1 (ZL G) 178 4676 18 [some (vR 100000), some (vR 0), some (vR 150), some (vI x3)] [] (SH, RF, f)) (x3 : Int) (f : Mm) (h : PL (FL_law_1436 Ln xs k18 x3 f)) : Ev G l ML_law room_1 (ZL G) 178 4676 1436 [some (vR 100000), some (vR 0), some (vR 150), some (vI x3)] [] (SH, RF, f) := by
  unfold FL_law_1436 at h
  refine ev_aload_n (i := 1) dL_law_1436 rfl rfl ?_
  refine ev_aload_n (i := 0) dL_law_1437 rfl rfl ?_
  refine ev_iload_n (i := 3) dL_law_1438 rfl rfl ?_
  refine ev_iconst dL_law_1439 (r32c rfl) ?_
  refine ev_iadd dL_law_1440 ?_
  by_cases g1 : 0 ≤ (w32 (x3 + 1)) ∧ (w32 (x3 + 1)) < ((Ln : Nat) : Int)
  · rw [if_pos g1] at h
    refine ex_sld hL hxs dL_law_1441 g1.1 g1.2 ?_
    refine ev_cVI (b := 0) (av := [vI (xs (w32 (x3 + 1)).toNat)]) (S := []) PLn h dL_law_1442 (fun Q' q => TX10_cool (xs (w32 (x3 + 1)).toNat) _ q) kvX10_cool ml_L_225 sh_0 rfl (RRL (by decide) (by decide)) (Nat.le_of_ble_eq_true rfl) ⟨Nat.le_of_ble_eq_true rfl, Nat.le_of_ble_eq_true rfl⟩ (fun y2 f2 h => ?_)
    refine ev_aload_n (i := 2) dL_law_1445 rfl rfl ?_
    refine ev_aload_n (i := 0) dL_law_1446 rfl rfl ?_
    refine ev_iload_n (i := 3) dL_law_1447 rfl rfl ?_
    refine ev_iconst dL_law_1448 (r32c rfl) ?_
    refine ev_iadd dL_law_1449 ?_
    by_cases g3 : 0 ≤ (w32 (x3 + 1)) ∧ (w32 (x3 + 1)) < ((Ln : Nat) : Int)
    · rw [if_pos g3] at h
      refine ex_sld hL hxs dL_law_1450 g3.1 g3.2 ?_
      refine ev_cVI (b := 150) (av := [vI (xs (w32 (x3 + 1)).toNat)]) (S := [vI y2]) PLn h dL_law_1451 (fun Q' q => TX11_cool (xs (w32 (x3 + 1)).toNat) _ q) kvX11_cool ml_L_228 sh_150 rfl (RRL (by decide) (by decide)) (Nat.le_of_ble_eq_true rfl) ⟨Nat.le_of_ble_eq_true rfl, Nat.le_of_ble_eq_true rfl⟩ (fun y4 f4 h => ?_)
      refine ev_icmp_eq (tgt := 2110) dL_law_1454 (by decide) (fun c5 => ?_) (fun c5 => ?_)
      · rw [if_pos c5] at h
        exact SL_law_2110 hL hxs q18 x3 _ h
      · rw [if_neg c5] at h
        refine ev_iconst dL_law_1457 (r32c rfl) ?_
        obtain ⟨g, hg⟩ := h
        cases hg
    · rw [if_neg g3] at h; exact (PLn h).elim
  · rw [if_neg g1] at h; exact (PLn h).elim
def FL_law_1459 (Ln : Nat) (xs : Nat → Int) (k18 : Int → Mm → Option (Int × Mm)) (x3 : Int) (f : Mm) : Option (Int × Mm) := (if 0 ≤ (w32 (x3 + 1)) ∧ (w32 (x3 + 1)) < ((Ln : Nat) : Int) then (b2 (FX10_rests (xs (w32 (x3 + 1)).toNat) f) fun y2 f2 => (if 0 ≤ (w32 (x3 + 1)) ∧ (w32 (x3 + 1)) < ((Ln : Nat) : Int) then (b2 (FX11_rests (xs (w32 (x3 + 1)).toNat) f2) fun y4 f4 => (if y2 = y4 then FL_law_2110 Ln xs k18 x3 f4 else some (0, f4))) else none)) else none)
set_option maxHeartbeats 8000000 in
set_option maxRecDepth 100000 in
theorem SL_law_1459 {G : GT} {l : Launch} {Ln : Nat} {xs : Nat → Int} (hL : gL G = Ln) (hxs : ∀ j, (gX G j).toInt = xs j) {k18 : Int → Mm → Option (Int × Mm)} (q18 : ∀ (x3 : Int) (f : Mm), PL (k18 x3 f) → Ev G l ML_law room_1 (ZL G) 178 4676 18 [some (vR 100000), some (vR 0), some (vR 150), some (vI x3)] [] (SH, RF, f)) (x3 : Int) (f : Mm) (h : PL (FL_law_1459 Ln xs k18 x3 f)) : Ev G l ML_law room_1 (ZL G) 178 4676 1459 [some (vR 100000), some (vR 0), some (vR 150), some (vI x3)] [] (SH, RF, f) := by
  unfold FL_law_1459 at h
  refine ev_aload_n (i := 1) dL_law_1459 rfl rfl ?_
  refine ev_aload_n (i := 0) dL_law_1460 rfl rfl ?_
  refine ev_iload_n (i := 3) dL_law_1461 rfl rfl ?_
  refine ev_iconst dL_law_1462 (r32c rfl) ?_
  refine ev_iadd dL_law_1463 ?_
  by_cases g1 : 0 ≤ (w32 (x3 + 1)) ∧ (w32 (x3 + 1)) < ((Ln : Nat) : Int)
  · rw [if_pos g1] at h
    refine ex_sld hL hxs dL_law_1464 g1.1 g1.2 ?_
    refine ev_cVI (b := 0) (av := [vI (xs (w32 (x3 + 1)).toNat)]) (S := []) PLn h dL_law_1465 (fun Q' q => TX10_rests (xs (w32 (x3 + 1)).toNat) _ q) kvX10_rests ml_L_229 sh_0 rfl (RRL (by decide) (by decide)) (Nat.le_of_ble_eq_true rfl) ⟨Nat.le_of_ble_eq_true rfl, Nat.le_of_ble_eq_true rfl⟩ (fun y2 f2 h => ?_)
    refine ev_aload_n (i := 2) dL_law_1468 rfl rfl ?_
    refine ev_aload_n (i := 0) dL_law_1469 rfl rfl ?_
    refine ev_iload_n (i := 3) dL_law_1470 rfl rfl ?_
    refine ev_iconst dL_law_1471 (r32c rfl) ?_
    refine ev_iadd dL_law_1472 ?_
    by_cases g3 : 0 ≤ (w32 (x3 + 1)) ∧ (w32 (x3 + 1)) < ((Ln : Nat) : Int)
    · rw [if_pos g3] at h
      refine ex_sld hL hxs dL_law_1473 g3.1 g3.2 ?_
      refine ev_cVI (b := 150) (av := [vI (xs (w32 (x3 + 1)).toNat)]) (S := [vI y2]) PLn h dL_law_1474 (fun Q' q => TX11_rests (xs (w32 (x3 + 1)).toNat) _ q) kvX11_rests ml_L_232 sh_150 rfl (RRL (by decide) (by decide)) (Nat.le_of_ble_eq_true rfl) ⟨Nat.le_of_ble_eq_true rfl, Nat.le_of_ble_eq_true rfl⟩ (fun y4 f4 h => ?_)
      refine ev_icmp_eq (tgt := 2110) dL_law_1477 (by decide) (fun c5 => ?_) (fun c5 => ?_)
      · rw [if_pos c5] at h
        exact SL_law_2110 hL hxs q18 x3 _ h
      · rw [if_neg c5] at h
        refine ev_iconst dL_law_1480 (r32c rfl) ?_
        obtain ⟨g, hg⟩ := h
        cases hg
    · rw [if_neg g3] at h; exact (PLn h).elim
  · rw [if_neg g1] at h; exact (PLn h).elim
def FL_law_1482 (Ln : Nat) (xs : Nat → Int) (k18 : Int → Mm → Option (Int × Mm)) (x3 : Int) (f : Mm) : Option (Int × Mm) := (if 0 ≤ (w32 (x3 + 1)) ∧ (w32 (x3 + 1)) < ((Ln : Nat) : Int) then (b2 (FX10_rest (xs (w32 (x3 + 1)).toNat) f) fun y2 f2 => (if 0 ≤ (w32 (x3 + 1)) ∧ (w32 (x3 + 1)) < ((Ln : Nat) : Int) then (b2 (FX11_rest (xs (w32 (x3 + 1)).toNat) f2) fun y4 f4 => (if y2 = y4 then FL_law_2110 Ln xs k18 x3 f4 else some (0, f4))) else none)) else none)
set_option maxHeartbeats 8000000 in
set_option maxRecDepth 100000 in
theorem SL_law_1482 {G : GT} {l : Launch} {Ln : Nat} {xs : Nat → Int} (hL : gL G = Ln) (hxs : ∀ j, (gX G j).toInt = xs j) {k18 : Int → Mm → Option (Int × Mm)} (q18 : ∀ (x3 : Int) (f : Mm), PL (k18 x3 f) → Ev G l ML_law room_1 (ZL G) 178 4676 18 [some (vR 100000), some (vR 0), some (vR 150), some (vI x3)] [] (SH, RF, f)) (x3 : Int) (f : Mm) (h : PL (FL_law_1482 Ln xs k18 x3 f)) : Ev G l ML_law room_1 (ZL G) 178 4676 1482 [some (vR 100000), some (vR 0), some (vR 150), some (vI x3)] [] (SH, RF, f) := by
  unfold FL_law_1482 at h
  refine ev_aload_n (i := 1) dL_law_1482 rfl rfl ?_
  refine ev_aload_n (i := 0) dL_law_1483 rfl rfl ?_
  refine ev_iload_n (i := 3) dL_law_1484 rfl rfl ?_
  refine ev_iconst dL_law_1485 (r32c rfl) ?_
  refine ev_iadd dL_law_1486 ?_
  by_cases g1 : 0 ≤ (w32 (x3 + 1)) ∧ (w32 (x3 + 1)) < ((Ln : Nat) : Int)
  · rw [if_pos g1] at h
    refine ex_sld hL hxs dL_law_1487 g1.1 g1.2 ?_
    refine ev_cVI (b := 0) (av := [vI (xs (w32 (x3 + 1)).toNat)]) (S := []) PLn h dL_law_1488 (fun Q' q => TX10_rest (xs (w32 (x3 + 1)).toNat) _ q) kvX10_rest ml_L_233 sh_0 rfl (RRL (by decide) (by decide)) (Nat.le_of_ble_eq_true rfl) ⟨Nat.le_of_ble_eq_true rfl, Nat.le_of_ble_eq_true rfl⟩ (fun y2 f2 h => ?_)
    refine ev_aload_n (i := 2) dL_law_1491 rfl rfl ?_
    refine ev_aload_n (i := 0) dL_law_1492 rfl rfl ?_
    refine ev_iload_n (i := 3) dL_law_1493 rfl rfl ?_
    refine ev_iconst dL_law_1494 (r32c rfl) ?_
    refine ev_iadd dL_law_1495 ?_
    by_cases g3 : 0 ≤ (w32 (x3 + 1)) ∧ (w32 (x3 + 1)) < ((Ln : Nat) : Int)
    · rw [if_pos g3] at h
      refine ex_sld hL hxs dL_law_1496 g3.1 g3.2 ?_
      refine ev_cVI (b := 150) (av := [vI (xs (w32 (x3 + 1)).toNat)]) (S := [vI y2]) PLn h dL_law_1497 (fun Q' q => TX11_rest (xs (w32 (x3 + 1)).toNat) _ q) kvX11_rest ml_L_236 sh_150 rfl (RRL (by decide) (by decide)) (Nat.le_of_ble_eq_true rfl) ⟨Nat.le_of_ble_eq_true rfl, Nat.le_of_ble_eq_true rfl⟩ (fun y4 f4 h => ?_)
      refine ev_icmp_eq (tgt := 2110) dL_law_1500 (by decide) (fun c5 => ?_) (fun c5 => ?_)
      · rw [if_pos c5] at h
        exact SL_law_2110 hL hxs q18 x3 _ h
      · rw [if_neg c5] at h
        refine ev_iconst dL_law_1503 (r32c rfl) ?_
        obtain ⟨g, hg⟩ := h
        cases hg
    · rw [if_neg g3] at h; exact (PLn h).elim
  · rw [if_neg g1] at h; exact (PLn h).elim
def FL_law_1505 (Ln : Nat) (xs : Nat → Int) (k18 : Int → Mm → Option (Int × Mm)) (x3 : Int) (f : Mm) : Option (Int × Mm) := (if 0 ≤ (w32 (x3 + 1)) ∧ (w32 (x3 + 1)) < ((Ln : Nat) : Int) then (if 0 ≤ (w32 (x3 + 2)) ∧ (w32 (x3 + 2)) < ((Ln : Nat) : Int) then (if 0 ≤ (w32 (x3 + 3)) ∧ (w32 (x3 + 3)) < ((Ln : Nat) : Int) then (if 0 ≤ (w32 (x3 + 4)) ∧ (w32 (x3 + 4)) < ((Ln : Nat) : Int) then (b2 (FX10_has (xs (w32 (x3 + 1)).toNat) (xs (w32 (x3 + 2)).toNat) (xs (w32 (x3 + 3)).toNat) (xs (w32 (x3 + 4)).toNat) f) fun y5 f5 => (if 0 ≤ (w32 (x3 + 1)) ∧ (w32 (x3 + 1)) < ((Ln : Nat) : Int) then (if 0 ≤ (w32 (x3 + 2)) ∧ (w32 (x3 + 2)) < ((Ln : Nat) : Int) then (if 0 ≤ (w32 (x3 + 3)) ∧ (w32 (x3 + 3)) < ((Ln : Nat) : Int) then (if 0 ≤ (w32 (x3 + 4)) ∧ (w32 (x3 + 4)) < ((Ln : Nat) : Int) then (b2 (FX11_has (xs (w32 (x3 + 1)).toNat) (xs (w32 (x3 + 2)).toNat) (xs (w32 (x3 + 3)).toNat) (xs (w32 (x3 + 4)).toNat) f5) fun y10 f10 => (if y5 = y10 then FL_law_2110 Ln xs k18 x3 f10 else some (0, f10))) else none) else none) else none) else none)) else none) else none) else none) else none)
set_option maxHeartbeats 8000000 in
set_option maxRecDepth 100000 in
theorem SL_law_1505 {G : GT} {l : Launch} {Ln : Nat} {xs : Nat → Int} (hL : gL G = Ln) (hxs : ∀ j, (gX G j).toInt = xs j) {k18 : Int → Mm → Option (Int × Mm)} (q18 : ∀ (x3 : Int) (f : Mm), PL (k18 x3 f) → Ev G l ML_law room_1 (ZL G) 178 4676 18 [some (vR 100000), some (vR 0), some (vR 150), some (vI x3)] [] (SH, RF, f)) (x3 : Int) (f : Mm) (h : PL (FL_law_1505 Ln xs k18 x3 f)) : Ev G l ML_law room_1 (ZL G) 178 4676 1505 [some (vR 100000), some (vR 0), some (vR 150), some (vI x3)] [] (SH, RF, f) := by
  unfold FL_law_1505 at h
  refine ev_aload_n (i := 1) dL_law_1505 rfl rfl ?_
  refine ev_aload_n (i := 0) dL_law_1506 rfl rfl ?_
  refine ev_iload_n (i := 3) dL_law_1507 rfl rfl ?_
  refine ev_iconst dL_law_1508 (r32c rfl) ?_
  refine ev_iadd dL_law_1509 ?_
  by_cases g1 : 0 ≤ (w32 (x3 + 1)) ∧ (w32 (x3 + 1)) < ((Ln : Nat) : Int)
  · rw [if_pos g1] at h
    refine ex_sld hL hxs dL_law_1510 g1.1 g1.2 ?_
    refine ev_aload_n (i := 0) dL_law_1511 rfl rfl ?_
    refine ev_iload_n (i := 3) dL_law_1512 rfl rfl ?_
    refine ev_iconst dL_law_1513 (r32c rfl) ?_
    refine ev_iadd dL_law_1514 ?_
    by_cases g2 : 0 ≤ (w32 (x3 + 2)) ∧ (w32 (x3 + 2)) < ((Ln : Nat) : Int)
    · rw [if_pos g2] at h
      refine ex_sld hL hxs dL_law_1515 g2.1 g2.2 ?_
      refine ev_aload_n (i := 0) dL_law_1516 rfl rfl ?_
      refine ev_iload_n (i := 3) dL_law_1517 rfl rfl ?_
      refine ev_iconst dL_law_1518 (r32c rfl) ?_
      refine ev_iadd dL_law_1519 ?_
      by_cases g3 : 0 ≤ (w32 (x3 + 3)) ∧ (w32 (x3 + 3)) < ((Ln : Nat) : Int)
      · rw [if_pos g3] at h
        refine ex_sld hL hxs dL_law_1520 g3.1 g3.2 ?_
        refine ev_aload_n (i := 0) dL_law_1521 rfl rfl ?_
        refine ev_iload_n (i := 3) dL_law_1522 rfl rfl ?_
        refine ev_iconst dL_law_1523 (r32c rfl) ?_
        refine ev_iadd dL_law_1524 ?_
        by_cases g4 : 0 ≤ (w32 (x3 + 4)) ∧ (w32 (x3 + 4)) < ((Ln : Nat) : Int)
        · rw [if_pos g4] at h
          refine ex_sld hL hxs dL_law_1525 g4.1 g4.2 ?_
          refine ev_cVI (b := 0) (av := [vI (xs (w32 (x3 + 1)).toNat), vI (xs (w32 (x3 + 2)).toNat), vI (xs (w32 (x3 + 3)).toNat), vI (xs (w32 (x3 + 4)).toNat)]) (S := []) PLn h dL_law_1526 (fun Q' q => TX10_has (xs (w32 (x3 + 1)).toNat) (xs (w32 (x3 + 2)).toNat) (xs (w32 (x3 + 3)).toNat) (xs (w32 (x3 + 4)).toNat) _ q) kvX10_has ml_L_237 sh_0 rfl (RRL (by decide) (by decide)) (Nat.le_of_ble_eq_true rfl) ⟨Nat.le_of_ble_eq_true rfl, Nat.le_of_ble_eq_true rfl⟩ (fun y5 f5 h => ?_)
          refine ev_aload_n (i := 2) dL_law_1529 rfl rfl ?_
          refine ev_aload_n (i := 0) dL_law_1530 rfl rfl ?_
          refine ev_iload_n (i := 3) dL_law_1531 rfl rfl ?_
          refine ev_iconst dL_law_1532 (r32c rfl) ?_
          refine ev_iadd dL_law_1533 ?_
          by_cases g6 : 0 ≤ (w32 (x3 + 1)) ∧ (w32 (x3 + 1)) < ((Ln : Nat) : Int)
          · rw [if_pos g6] at h
            refine ex_sld hL hxs dL_law_1534 g6.1 g6.2 ?_
            refine ev_aload_n (i := 0) dL_law_1535 rfl rfl ?_
            refine ev_iload_n (i := 3) dL_law_1536 rfl rfl ?_
            refine ev_iconst dL_law_1537 (r32c rfl) ?_
            refine ev_iadd dL_law_1538 ?_
            by_cases g7 : 0 ≤ (w32 (x3 + 2)) ∧ (w32 (x3 + 2)) < ((Ln : Nat) : Int)
            · rw [if_pos g7] at h
              refine ex_sld hL hxs dL_law_1539 g7.1 g7.2 ?_
              refine ev_aload_n (i := 0) dL_law_1540 rfl rfl ?_
              refine ev_iload_n (i := 3) dL_law_1541 rfl rfl ?_
              refine ev_iconst dL_law_1542 (r32c rfl) ?_
              refine ev_iadd dL_law_1543 ?_
              by_cases g8 : 0 ≤ (w32 (x3 + 3)) ∧ (w32 (x3 + 3)) < ((Ln : Nat) : Int)
              · rw [if_pos g8] at h
                refine ex_sld hL hxs dL_law_1544 g8.1 g8.2 ?_
                refine ev_aload_n (i := 0) dL_law_1545 rfl rfl ?_
                refine ev_iload_n (i := 3) dL_law_1546 rfl rfl ?_
                refine ev_iconst dL_law_1547 (r32c rfl) ?_
                refine ev_iadd dL_law_1548 ?_
                by_cases g9 : 0 ≤ (w32 (x3 + 4)) ∧ (w32 (x3 + 4)) < ((Ln : Nat) : Int)
                · rw [if_pos g9] at h
                  refine ex_sld hL hxs dL_law_1549 g9.1 g9.2 ?_
                  refine ev_cVI (b := 150) (av := [vI (xs (w32 (x3 + 1)).toNat), vI (xs (w32 (x3 + 2)).toNat), vI (xs (w32 (x3 + 3)).toNat), vI (xs (w32 (x3 + 4)).toNat)]) (S := [vI y5]) PLn h dL_law_1550 (fun Q' q => TX11_has (xs (w32 (x3 + 1)).toNat) (xs (w32 (x3 + 2)).toNat) (xs (w32 (x3 + 3)).toNat) (xs (w32 (x3 + 4)).toNat) _ q) kvX11_has ml_L_241 sh_150 rfl (RRL (by decide) (by decide)) (Nat.le_of_ble_eq_true rfl) ⟨Nat.le_of_ble_eq_true rfl, Nat.le_of_ble_eq_true rfl⟩ (fun y10 f10 h => ?_)
                  refine ev_icmp_eq (tgt := 2110) dL_law_1553 (by decide) (fun c11 => ?_) (fun c11 => ?_)
                  · rw [if_pos c11] at h
                    exact SL_law_2110 hL hxs q18 x3 _ h
                  · rw [if_neg c11] at h
                    refine ev_iconst dL_law_1556 (r32c rfl) ?_
                    obtain ⟨g, hg⟩ := h
                    cases hg
                · rw [if_neg g9] at h; exact (PLn h).elim
              · rw [if_neg g8] at h; exact (PLn h).elim
            · rw [if_neg g7] at h; exact (PLn h).elim
          · rw [if_neg g6] at h; exact (PLn h).elim
        · rw [if_neg g4] at h; exact (PLn h).elim
      · rw [if_neg g3] at h; exact (PLn h).elim
    · rw [if_neg g2] at h; exact (PLn h).elim
  · rw [if_neg g1] at h; exact (PLn h).elim
def FL_law_1558 (Ln : Nat) (xs : Nat → Int) (k18 : Int → Mm → Option (Int × Mm)) (x3 : Int) (f : Mm) : Option (Int × Mm) := (if 0 ≤ (w32 (x3 + 1)) ∧ (w32 (x3 + 1)) < ((Ln : Nat) : Int) then (b2 (FX10_fair (xs (w32 (x3 + 1)).toNat) f) fun y2 f2 => (if 0 ≤ (w32 (x3 + 1)) ∧ (w32 (x3 + 1)) < ((Ln : Nat) : Int) then (b2 (FX11_fair (xs (w32 (x3 + 1)).toNat) f2) fun y4 f4 => (if y2 = y4 then FL_law_2110 Ln xs k18 x3 f4 else some (0, f4))) else none)) else none)
set_option maxHeartbeats 8000000 in
set_option maxRecDepth 100000 in
theorem SL_law_1558 {G : GT} {l : Launch} {Ln : Nat} {xs : Nat → Int} (hL : gL G = Ln) (hxs : ∀ j, (gX G j).toInt = xs j) {k18 : Int → Mm → Option (Int × Mm)} (q18 : ∀ (x3 : Int) (f : Mm), PL (k18 x3 f) → Ev G l ML_law room_1 (ZL G) 178 4676 18 [some (vR 100000), some (vR 0), some (vR 150), some (vI x3)] [] (SH, RF, f)) (x3 : Int) (f : Mm) (h : PL (FL_law_1558 Ln xs k18 x3 f)) : Ev G l ML_law room_1 (ZL G) 178 4676 1558 [some (vR 100000), some (vR 0), some (vR 150), some (vI x3)] [] (SH, RF, f) := by
  unfold FL_law_1558 at h
  refine ev_aload_n (i := 1) dL_law_1558 rfl rfl ?_
  refine ev_aload_n (i := 0) dL_law_1559 rfl rfl ?_
  refine ev_iload_n (i := 3) dL_law_1560 rfl rfl ?_
  refine ev_iconst dL_law_1561 (r32c rfl) ?_
  refine ev_iadd dL_law_1562 ?_
  by_cases g1 : 0 ≤ (w32 (x3 + 1)) ∧ (w32 (x3 + 1)) < ((Ln : Nat) : Int)
  · rw [if_pos g1] at h
    refine ex_sld hL hxs dL_law_1563 g1.1 g1.2 ?_
    refine ev_cVI (b := 0) (av := [vI (xs (w32 (x3 + 1)).toNat)]) (S := []) PLn h dL_law_1564 (fun Q' q => TX10_fair (xs (w32 (x3 + 1)).toNat) _ q) kvX10_fair ml_L_242 sh_0 rfl (RRL (by decide) (by decide)) (Nat.le_of_ble_eq_true rfl) ⟨Nat.le_of_ble_eq_true rfl, Nat.le_of_ble_eq_true rfl⟩ (fun y2 f2 h => ?_)
    refine ev_aload_n (i := 2) dL_law_1567 rfl rfl ?_
    refine ev_aload_n (i := 0) dL_law_1568 rfl rfl ?_
    refine ev_iload_n (i := 3) dL_law_1569 rfl rfl ?_
    refine ev_iconst dL_law_1570 (r32c rfl) ?_
    refine ev_iadd dL_law_1571 ?_
    by_cases g3 : 0 ≤ (w32 (x3 + 1)) ∧ (w32 (x3 + 1)) < ((Ln : Nat) : Int)
    · rw [if_pos g3] at h
      refine ex_sld hL hxs dL_law_1572 g3.1 g3.2 ?_
      refine ev_cVI (b := 150) (av := [vI (xs (w32 (x3 + 1)).toNat)]) (S := [vI y2]) PLn h dL_law_1573 (fun Q' q => TX11_fair (xs (w32 (x3 + 1)).toNat) _ q) kvX11_fair ml_L_245 sh_150 rfl (RRL (by decide) (by decide)) (Nat.le_of_ble_eq_true rfl) ⟨Nat.le_of_ble_eq_true rfl, Nat.le_of_ble_eq_true rfl⟩ (fun y4 f4 h => ?_)
      refine ev_icmp_eq (tgt := 2110) dL_law_1576 (by decide) (fun c5 => ?_) (fun c5 => ?_)
      · rw [if_pos c5] at h
        exact SL_law_2110 hL hxs q18 x3 _ h
      · rw [if_neg c5] at h
        refine ev_iconst dL_law_1579 (r32c rfl) ?_
        obtain ⟨g, hg⟩ := h
        cases hg
    · rw [if_neg g3] at h; exact (PLn h).elim
  · rw [if_neg g1] at h; exact (PLn h).elim
def FL_law_1581 (Ln : Nat) (xs : Nat → Int) (k18 : Int → Mm → Option (Int × Mm)) (x3 : Int) (f : Mm) : Option (Int × Mm) := (if 0 ≤ (w32 (x3 + 1)) ∧ (w32 (x3 + 1)) < ((Ln : Nat) : Int) then (b2 (FX10_leave (xs (w32 (x3 + 1)).toNat) f) fun y2 f2 => (if 0 ≤ (w32 (x3 + 1)) ∧ (w32 (x3 + 1)) < ((Ln : Nat) : Int) then (b2 (FX11_leave (xs (w32 (x3 + 1)).toNat) f2) fun y4 f4 => (if y2 = y4 then FL_law_2110 Ln xs k18 x3 f4 else some (0, f4))) else none)) else none)
set_option maxHeartbeats 8000000 in
set_option maxRecDepth 100000 in
theorem SL_law_1581 {G : GT} {l : Launch} {Ln : Nat} {xs : Nat → Int} (hL : gL G = Ln) (hxs : ∀ j, (gX G j).toInt = xs j) {k18 : Int → Mm → Option (Int × Mm)} (q18 : ∀ (x3 : Int) (f : Mm), PL (k18 x3 f) → Ev G l ML_law room_1 (ZL G) 178 4676 18 [some (vR 100000), some (vR 0), some (vR 150), some (vI x3)] [] (SH, RF, f)) (x3 : Int) (f : Mm) (h : PL (FL_law_1581 Ln xs k18 x3 f)) : Ev G l ML_law room_1 (ZL G) 178 4676 1581 [some (vR 100000), some (vR 0), some (vR 150), some (vI x3)] [] (SH, RF, f) := by
  unfold FL_law_1581 at h
  refine ev_aload_n (i := 1) dL_law_1581 rfl rfl ?_
  refine ev_aload_n (i := 0) dL_law_1582 rfl rfl ?_
  refine ev_iload_n (i := 3) dL_law_1583 rfl rfl ?_
  refine ev_iconst dL_law_1584 (r32c rfl) ?_
  refine ev_iadd dL_law_1585 ?_
  by_cases g1 : 0 ≤ (w32 (x3 + 1)) ∧ (w32 (x3 + 1)) < ((Ln : Nat) : Int)
  · rw [if_pos g1] at h
    refine ex_sld hL hxs dL_law_1586 g1.1 g1.2 ?_
    refine ev_cVI (b := 0) (av := [vI (xs (w32 (x3 + 1)).toNat)]) (S := []) PLn h dL_law_1587 (fun Q' q => TX10_leave (xs (w32 (x3 + 1)).toNat) _ q) kvX10_leave ml_L_246 sh_0 rfl (RRL (by decide) (by decide)) (Nat.le_of_ble_eq_true rfl) ⟨Nat.le_of_ble_eq_true rfl, Nat.le_of_ble_eq_true rfl⟩ (fun y2 f2 h => ?_)
    refine ev_aload_n (i := 2) dL_law_1590 rfl rfl ?_
    refine ev_aload_n (i := 0) dL_law_1591 rfl rfl ?_
    refine ev_iload_n (i := 3) dL_law_1592 rfl rfl ?_
    refine ev_iconst dL_law_1593 (r32c rfl) ?_
    refine ev_iadd dL_law_1594 ?_
    by_cases g3 : 0 ≤ (w32 (x3 + 1)) ∧ (w32 (x3 + 1)) < ((Ln : Nat) : Int)
    · rw [if_pos g3] at h
      refine ex_sld hL hxs dL_law_1595 g3.1 g3.2 ?_
      refine ev_cVI (b := 150) (av := [vI (xs (w32 (x3 + 1)).toNat)]) (S := [vI y2]) PLn h dL_law_1596 (fun Q' q => TX11_leave (xs (w32 (x3 + 1)).toNat) _ q) kvX11_leave ml_L_249 sh_150 rfl (RRL (by decide) (by decide)) (Nat.le_of_ble_eq_true rfl) ⟨Nat.le_of_ble_eq_true rfl, Nat.le_of_ble_eq_true rfl⟩ (fun y4 f4 h => ?_)
      refine ev_icmp_eq (tgt := 2110) dL_law_1599 (by decide) (fun c5 => ?_) (fun c5 => ?_)
      · rw [if_pos c5] at h
        exact SL_law_2110 hL hxs q18 x3 _ h
      · rw [if_neg c5] at h
        refine ev_iconst dL_law_1602 (r32c rfl) ?_
        obtain ⟨g, hg⟩ := h
        cases hg
    · rw [if_neg g3] at h; exact (PLn h).elim
  · rw [if_neg g1] at h; exact (PLn h).elim
def FL_law_1604 (Ln : Nat) (xs : Nat → Int) (k18 : Int → Mm → Option (Int × Mm)) (x3 : Int) (f : Mm) : Option (Int × Mm) := (if 0 ≤ (w32 (x3 + 1)) ∧ (w32 (x3 + 1)) < ((Ln : Nat) : Int) then (if 0 ≤ (w32 (x3 + 2)) ∧ (w32 (x3 + 2)) < ((Ln : Nat) : Int) then (if 0 ≤ (w32 (x3 + 3)) ∧ (w32 (x3 + 3)) < ((Ln : Nat) : Int) then (b2 (FX10_chance (xs (w32 (x3 + 1)).toNat) (xs (w32 (x3 + 2)).toNat) (xs (w32 (x3 + 3)).toNat) f) fun y4 f4 => (if 0 ≤ (w32 (x3 + 1)) ∧ (w32 (x3 + 1)) < ((Ln : Nat) : Int) then (if 0 ≤ (w32 (x3 + 2)) ∧ (w32 (x3 + 2)) < ((Ln : Nat) : Int) then (if 0 ≤ (w32 (x3 + 3)) ∧ (w32 (x3 + 3)) < ((Ln : Nat) : Int) then (b2 (FX11_chance (xs (w32 (x3 + 1)).toNat) (xs (w32 (x3 + 2)).toNat) (xs (w32 (x3 + 3)).toNat) f4) fun y8 f8 => (if (cmp3 y4 y8) = 0 then FL_law_2110 Ln xs k18 x3 f8 else some (0, f8))) else none) else none) else none)) else none) else none) else none)
set_option maxHeartbeats 8000000 in
set_option maxRecDepth 100000 in
theorem SL_law_1604 {G : GT} {l : Launch} {Ln : Nat} {xs : Nat → Int} (hL : gL G = Ln) (hxs : ∀ j, (gX G j).toInt = xs j) {k18 : Int → Mm → Option (Int × Mm)} (q18 : ∀ (x3 : Int) (f : Mm), PL (k18 x3 f) → Ev G l ML_law room_1 (ZL G) 178 4676 18 [some (vR 100000), some (vR 0), some (vR 150), some (vI x3)] [] (SH, RF, f)) (x3 : Int) (f : Mm) (h : PL (FL_law_1604 Ln xs k18 x3 f)) : Ev G l ML_law room_1 (ZL G) 178 4676 1604 [some (vR 100000), some (vR 0), some (vR 150), some (vI x3)] [] (SH, RF, f) := by
  unfold FL_law_1604 at h
  refine ev_aload_n (i := 1) dL_law_1604 rfl rfl ?_
  refine ev_aload_n (i := 0) dL_law_1605 rfl rfl ?_
  refine ev_iload_n (i := 3) dL_law_1606 rfl rfl ?_
  refine ev_iconst dL_law_1607 (r32c rfl) ?_
  refine ev_iadd dL_law_1608 ?_
  by_cases g1 : 0 ≤ (w32 (x3 + 1)) ∧ (w32 (x3 + 1)) < ((Ln : Nat) : Int)
  · rw [if_pos g1] at h
    refine ex_sld hL hxs dL_law_1609 g1.1 g1.2 ?_
    refine ev_aload_n (i := 0) dL_law_1610 rfl rfl ?_
    refine ev_iload_n (i := 3) dL_law_1611 rfl rfl ?_
    refine ev_iconst dL_law_1612 (r32c rfl) ?_
    refine ev_iadd dL_law_1613 ?_
    by_cases g2 : 0 ≤ (w32 (x3 + 2)) ∧ (w32 (x3 + 2)) < ((Ln : Nat) : Int)
    · rw [if_pos g2] at h
      refine ex_sld hL hxs dL_law_1614 g2.1 g2.2 ?_
      refine ev_aload_n (i := 0) dL_law_1615 rfl rfl ?_
      refine ev_iload_n (i := 3) dL_law_1616 rfl rfl ?_
      refine ev_iconst dL_law_1617 (r32c rfl) ?_
      refine ev_iadd dL_law_1618 ?_
      by_cases g3 : 0 ≤ (w32 (x3 + 3)) ∧ (w32 (x3 + 3)) < ((Ln : Nat) : Int)
      · rw [if_pos g3] at h
        refine ex_sld hL hxs dL_law_1619 g3.1 g3.2 ?_
        refine ev_cVJ (b := 0) (av := [vI (xs (w32 (x3 + 1)).toNat), vI (xs (w32 (x3 + 2)).toNat), vI (xs (w32 (x3 + 3)).toNat)]) (S := []) PLn h dL_law_1620 (fun Q' q => TX10_chance (xs (w32 (x3 + 1)).toNat) (xs (w32 (x3 + 2)).toNat) (xs (w32 (x3 + 3)).toNat) _ q) kvX10_chance ml_L_250 sh_0 rfl (RRL (by decide) (by decide)) (Nat.le_of_ble_eq_true rfl) ⟨Nat.le_of_ble_eq_true rfl, Nat.le_of_ble_eq_true rfl⟩ (fun y4 f4 h => ?_)
        refine ev_aload_n (i := 2) dL_law_1623 rfl rfl ?_
        refine ev_aload_n (i := 0) dL_law_1624 rfl rfl ?_
        refine ev_iload_n (i := 3) dL_law_1625 rfl rfl ?_
        refine ev_iconst dL_law_1626 (r32c rfl) ?_
        refine ev_iadd dL_law_1627 ?_
        by_cases g5 : 0 ≤ (w32 (x3 + 1)) ∧ (w32 (x3 + 1)) < ((Ln : Nat) : Int)
        · rw [if_pos g5] at h
          refine ex_sld hL hxs dL_law_1628 g5.1 g5.2 ?_
          refine ev_aload_n (i := 0) dL_law_1629 rfl rfl ?_
          refine ev_iload_n (i := 3) dL_law_1630 rfl rfl ?_
          refine ev_iconst dL_law_1631 (r32c rfl) ?_
          refine ev_iadd dL_law_1632 ?_
          by_cases g6 : 0 ≤ (w32 (x3 + 2)) ∧ (w32 (x3 + 2)) < ((Ln : Nat) : Int)
          · rw [if_pos g6] at h
            refine ex_sld hL hxs dL_law_1633 g6.1 g6.2 ?_
            refine ev_aload_n (i := 0) dL_law_1634 rfl rfl ?_
            refine ev_iload_n (i := 3) dL_law_1635 rfl rfl ?_
            refine ev_iconst dL_law_1636 (r32c rfl) ?_
            refine ev_iadd dL_law_1637 ?_
            by_cases g7 : 0 ≤ (w32 (x3 + 3)) ∧ (w32 (x3 + 3)) < ((Ln : Nat) : Int)
            · rw [if_pos g7] at h
              refine ex_sld hL hxs dL_law_1638 g7.1 g7.2 ?_
              refine ev_cVJ (b := 150) (av := [vI (xs (w32 (x3 + 1)).toNat), vI (xs (w32 (x3 + 2)).toNat), vI (xs (w32 (x3 + 3)).toNat)]) (S := [vJ y4]) PLn h dL_law_1639 (fun Q' q => TX11_chance (xs (w32 (x3 + 1)).toNat) (xs (w32 (x3 + 2)).toNat) (xs (w32 (x3 + 3)).toNat) _ q) kvX11_chance ml_L_254 sh_150 rfl (RRL (by decide) (by decide)) (Nat.le_of_ble_eq_true rfl) ⟨Nat.le_of_ble_eq_true rfl, Nat.le_of_ble_eq_true rfl⟩ (fun y8 f8 h => ?_)
              refine ev_lcmp dL_law_1642 ?_
              refine ev_if_eq (tgt := 2110) dL_law_1643 (by decide) (fun c9 => ?_) (fun c9 => ?_)
              · rw [if_pos c9] at h
                exact SL_law_2110 hL hxs q18 x3 _ h
              · rw [if_neg c9] at h
                refine ev_iconst dL_law_1646 (r32c rfl) ?_
                obtain ⟨g, hg⟩ := h
                cases hg
            · rw [if_neg g7] at h; exact (PLn h).elim
          · rw [if_neg g6] at h; exact (PLn h).elim
        · rw [if_neg g5] at h; exact (PLn h).elim
      · rw [if_neg g3] at h; exact (PLn h).elim
    · rw [if_neg g2] at h; exact (PLn h).elim
  · rw [if_neg g1] at h; exact (PLn h).elim
