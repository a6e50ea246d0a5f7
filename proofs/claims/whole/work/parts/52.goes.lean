/-! goes(): feelings and widths of all days -/
theorem fum3 : ∃ m, fu = m + 1 + 1 + 1 := ⟨99997, rfl⟩
theorem up_s (f : Mm) (a i : Nat) (x : Int) : up f a i x a i = x := by unfold up; rw [if_pos ⟨rfl, rfl⟩]
theorem up_n {f : Mm} {a i b j : Nat} {x : Int} (h : ¬ (b = a ∧ j = i)) : up f a i x b j = f b j := by unfold up; rw [if_neg h]
/-- one side on a day: tempers, and it is written down -/
theorem goes_66s {k29 : Int → Int → Int → Mm → Option Mm} {m : Nat} {tm co : Int} {d s : Nat} {f : Mm} (hd : d < 6) (hs : s < 2) (h0 : 0 ≤ f 165 s ∧ f 165 s ≤ 60) :
    FX11_goes_66 k29 (m + 1) tm co (d : Int) (s : Int) f = FX11_goes_66 k29 m tm co (d : Int) ((s + 1 : Nat) : Int) (up (up f 165 s (if hbit tm d then jMax 0 (f 165 s - 5) else f 165 s)) 163 (2 * d + s) (if hbit tm d then jMax 0 (f 165 s - 5) else f 165 s)) := by
  have e1 : w32 (w32 (2 * (d : Int)) + (s : Int)) = ((2 * d + s : Nat) : Int) := by rw [w32s (x := 2 * (d : Int)) (by omega) (by omega), w32s (by omega) (by omega)]; omega
  rw [FX11_goes_66, if_neg (by omega), isBit_sp, b2_some]
  by_cases hb : hbit tm d = true
  · rw [if_pos hb, if_neg (by decide), if_pos ⟨by omega, by omega⟩, Int.toNat_natCast, w32s (x := f 165 s - 5) (by omega) (by omega), held_sp, b2_some, if_pos ⟨by omega, by omega⟩, if_pos hb, clp_lo (by omega)]
    unfold FX11_goes_99
    rw [if_pos ⟨by omega, by omega⟩, e1, if_pos ⟨by omega, by omega⟩, nx s (by omega), Int.toNat_natCast, Int.toNat_natCast, up_s]
  · rw [if_neg hb, if_pos rfl, if_neg hb]
    unfold FX11_goes_99
    rw [if_pos ⟨by omega, by omega⟩, e1, if_pos ⟨by omega, by omega⟩, nx s (by omega), Int.toNat_natCast, Int.toNat_natCast]
    congr 1
    funext a j
    unfold up
    by_cases h1 : a = 163 ∧ j = 2 * d + s
    · rw [if_pos h1, if_pos h1]
    · rw [if_neg h1, if_neg h1]
      by_cases h2 : a = 165 ∧ j = s
      · rw [if_pos h2, h2.1, h2.2]
      · rw [if_neg h2]
/-- the cooling of one side -/
theorem goes_162s {k29 : Int → Int → Int → Mm → Option Mm} {m : Nat} {tm co : Int} {d s : Nat} {f : Mm} (hs : s < 2) (hc : 0 ≤ co ∧ co ≤ 9) (h0 : 0 ≤ f 165 s ∧ f 165 s ≤ 60) :
    FX11_goes_162 k29 (m + 1) tm co (d : Int) (s : Int) f = FX11_goes_162 k29 m tm co (d : Int) ((s + 1 : Nat) : Int) (up f 165 s (jMax 0 (f 165 s - co))) := by
  rw [FX11_goes_162, if_neg (by omega), if_pos ⟨by omega, by omega⟩, Int.toNat_natCast, w32s (by omega) (by omega), held_sp, b2_some, if_pos ⟨by omega, by omega⟩, nx s (by omega), clp_lo (by omega)]
theorem goes_66e {k29 : Int → Int → Int → Mm → Option Mm} {m : Nat} {tm co : Int} {d : Nat} {f : Mm} : FX11_goes_66 k29 (m + 1) tm co (d : Int) ((2 : Nat) : Int) f = FX11_goes_123 k29 tm co (d : Int) f := by
  rw [FX11_goes_66, if_pos (by decide)]
theorem goes_162e {k29 : Int → Int → Int → Mm → Option Mm} {m : Nat} {tm co : Int} {d : Nat} {f : Mm} (hd : d < 6) : FX11_goes_162 k29 (m + 1) tm co (d : Int) ((2 : Nat) : Int) f = k29 tm co ((d + 1 : Nat) : Int) f := by
  rw [FX11_goes_162, if_pos (by decide)]
  unfold FX11_goes_193
  rw [nx d (by omega)]
/-- a day, once its deeds are done: y0, y1 the feelings behind them -/
theorem goes_day {k29 : Int → Int → Int → Mm → Option Mm} {tm co : Int} {d : Nat} {f : Mm} (hd : d < 6) (hc : 0 ≤ co ∧ co ≤ 9) (h0 : 0 ≤ f 165 0 ∧ f 165 0 ≤ 60) (h1 : 0 ≤ f 165 1 ∧ f 165 1 ≤ 60) :
    ∃ g, FX11_goes_63 k29 tm co (d : Int) f = k29 tm co ((d + 1 : Nat) : Int) g ∧ (∀ a j, a ≠ 163 → a ≠ 164 → a ≠ 165 → g a j = f a j) ∧ (∀ j, j ≠ 2 * d → j ≠ 2 * d + 1 → g 163 j = f 163 j) ∧ (∀ j, j ≠ d → g 164 j = f 164 j) ∧
      (∀ s, s < 2 → g 163 (2 * d + s) = (if hbit tm d then jMax 0 (f 165 s - 5) else f 165 s) ∧ g 165 s = jMax 0 ((if hbit tm d then jMax 0 (f 165 s - 5) else f 165 s) - co)) ∧ g 164 d = jMin (if hbit tm d then jMax 0 (f 165 0 - 5) else f 165 0) (if hbit tm d then jMax 0 (f 165 1 - 5) else f 165 1) := by
  obtain ⟨m, hm⟩ := fum3
  have hr : ∀ x : Int, 0 ≤ x ∧ x ≤ 60 → 0 ≤ (if hbit tm d then jMax 0 (x - 5) else x) ∧ (if hbit tm d then jMax 0 (x - 5) else x) ≤ 60 := by
    intro x hx
    split
    · unfold jMax
      split <;> omega
    · exact hx
  generalize hy0 : (if hbit tm d then jMax 0 (f 165 0 - 5) else f 165 0) = y0
  generalize hy1 : (if hbit tm d then jMax 0 (f 165 1 - 5) else f 165 1) = y1
  have r0 := hr _ h0
  have r1 := hr _ h1
  rw [hy0] at r0
  rw [hy1] at r1
  unfold FX11_goes_63
  rw [hm, show (0 : Int) = ((0 : Nat) : Int) from rfl, goes_66s hd (by decide) h0, hy0]
  have e1 : up (up f 165 0 y0) 163 (2 * d + 0) y0 165 1 = f 165 1 := by rw [up_n (by omega), up_n (by omega)]
  rw [goes_66s hd (by decide) (by rw [e1]; exact h1), e1, hy1, goes_66e]
  generalize hF : up (up (up (up f 165 0 y0) 163 (2 * d + 0) y0) 165 1 y1) 163 (2 * d + 1) y1 = F
  have f0 : F 165 0 = y0 := by rw [← hF, up_n (by omega), up_n (by omega), up_n (by omega), up_s]
  have f1 : F 165 1 = y1 := by rw [← hF, up_n (by omega), up_s]
  have f2 : F 163 (2 * d + 0) = y0 := by rw [← hF, up_n (by omega), up_n (by omega), up_s]
  have f3 : F 163 (2 * d + 1) = y1 := by rw [← hF, up_s]
  have fo : ∀ a j, a ≠ 163 → a ≠ 165 → F a j = f a j := fun a j ha hb => by rw [← hF, up_n (by omega), up_n (by omega), up_n (by omega), up_n (by omega)]
  have fp : ∀ j, j ≠ 2 * d → j ≠ 2 * d + 1 → F 163 j = f 163 j := fun j ha hb => by rw [← hF, up_n (by omega), up_n (by omega), up_n (by omega), up_n (by omega)]
  have key : FX11_goes_123 k29 tm co (d : Int) F = FX11_goes_158 k29 tm co (d : Int) (d : Int) (jMin y0 y1) F := by
    unfold FX11_goes_123
    rw [f0, f1]
    unfold jMin
    by_cases h : y1 < y0
    · rw [if_pos (by omega), if_pos h]
    · rw [if_neg h]
      by_cases h2 : y1 ≤ y0
      · rw [if_pos h2, show y1 = y0 by omega]
      · rw [if_neg h2]
  rw [key]
  unfold FX11_goes_158
  rw [if_pos ⟨by omega, by omega⟩, hm, show (0 : Int) = ((0 : Nat) : Int) from rfl, Int.toNat_natCast]
  have q0 : up F 164 d (jMin y0 y1) 165 0 = y0 := by rw [up_n (by omega), f0]
  rw [goes_162s (by decide) hc (by rw [q0]; exact r0), q0]
  have q1 : up (up F 164 d (jMin y0 y1)) 165 0 (jMax 0 (y0 - co)) 165 1 = y1 := by rw [up_n (by omega), up_n (by omega), f1]
  rw [goes_162s (by decide) hc (by rw [q1]; exact r1), q1, goes_162e hd]
  refine ⟨_, rfl, fun a j ha hb hc' => ?_, fun j ha hb => ?_, fun j ha => ?_, fun s hs => ?_, ?_⟩
  · rw [up_n (by omega), up_n (by omega), up_n (by omega), fo a j ha hc']
  · rw [up_n (by omega), up_n (by omega), up_n (by omega), fp j ha hb]
  · rw [up_n (by omega), up_n (by omega), up_n (by omega), fo 164 j (by decide) (by decide)]
  · rcases (show s = 0 ∨ s = 1 by omega) with rfl | rfl
    · rw [hy0]
      exact ⟨by rw [up_n (by omega), up_n (by omega), up_n (by omega), f2], by rw [up_n (by omega), up_s]⟩
    · rw [hy1]
      exact ⟨by rw [up_n (by omega), up_n (by omega), up_n (by omega), f3], by rw [up_s]⟩
  · rw [up_n (by omega), up_n (by omega), up_s]
