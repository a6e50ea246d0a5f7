/-! the model: acts, feelings, widths, who passes -/
/-- a row filled from lo to hi -/
def fil (f : Mm) (A lo hi : Nat) (v : Int) : Mm := fun a j => if a = A ∧ lo ≤ j ∧ j < hi then v else f a j
theorem fil_nil {f : Mm} {A lo hi : Nat} {v : Int} (h : hi ≤ lo) : fil f A lo hi v = f := by
  funext a j
  unfold fil
  rw [if_neg (by omega)]
theorem fil_up {f : Mm} {A lo hi : Nat} {v : Int} (h : lo < hi) : fil (up f A lo v) A (lo + 1) hi v = fil f A lo hi v := by
  funext a j
  unfold fil up
  by_cases h1 : a = A
  · by_cases h2 : j = lo
    · rw [if_neg (by omega), if_pos ⟨h1, h2⟩, if_pos (by omega)]
    · by_cases h3 : lo + 1 ≤ j ∧ j < hi
      · rw [if_pos ⟨h1, h3⟩, if_pos (by omega)]
      · rw [if_neg (by omega), if_neg (by omega), if_neg (by omega)]
  · rw [if_neg (fun q => h1 q.1), if_neg (fun q => h1 q.1), if_neg (fun q => h1 q.1)]
theorem nx (d : Nat) (h : d < 1000000) : w32 ((d : Int) + 1) = ((d + 1 : Nat) : Int) := by rw [w32s (by omega) (by omega)]; omega
theorem lays_7 : ∀ (n d : Nat) (f : Mm), d ≤ 6 → 6 - d < n → FX11_lays_7 n (d : Int) f = FX11_lays_26 (fil f 162 d 6 (-1)) := by
  intro n
  induction n with
  | zero => intro d f h1 h2; omega
  | succ n ih =>
    intro d f h1 h2
    rw [FX11_lays_7]
    by_cases h : (6 : Int) ≤ (d : Int)
    · rw [if_pos h, fil_nil (by omega)]
    · rw [if_neg h, if_pos ⟨by omega, by omega⟩, nx d (by omega), ih (d + 1) _ (by omega) (by omega)]
      simp only [Int.toNat_natCast]
      rw [fil_up (by omega)]
theorem dO_congr {f g : Mm} (h : ∀ j, g 160 j = f 160 j) : ∀ k d, dO g k d = dO f k d
  | 0, _ => rfl
  | k + 1, d => by unfold dO; rw [h, h, dO_congr h k d]
theorem lays_28 : ∀ (n k : Nat) (f : Mm), (0 ≤ f 157 7 ∧ f 157 7 ≤ 40) → (∀ q : Nat, (q : Int) < f 157 7 → 0 ≤ f 160 (2 * q) ∧ f 160 (2 * q) < 6) → (k : Int) ≤ f 157 7 → (f 157 7).toNat - k < n → (∀ j, j < 6 → f 162 j = dO f k j) →
    ∃ g, FX11_lays_28 n (k : Int) f = some g ∧ (∀ a j, a ≠ 162 → g a j = f a j) ∧ ∀ j, j < 6 → g 162 j = dO f (f 157 7).toNat j := by
  intro n
  induction n with
  | zero => intro k f _ _ _ h; omega
  | succ n ih =>
    intro k f hA hq hk hn hd
    rw [FX11_lays_28]
    by_cases h : f 157 7 ≤ (k : Int)
    · rw [if_pos h]
      refine ⟨f, rfl, fun _ _ _ => rfl, fun j hj => ?_⟩
      rw [hd j hj, show (f 157 7).toNat = k by omega]
    · have h1 := hq k (by omega)
      have e1 : w32 (2 * (k : Int)) = ((2 * k : Nat) : Int) := by rw [w32s (by omega) (by omega)]; omega
      have e2 : w32 (((2 * k : Nat) : Int) + 1) = ((2 * k + 1 : Nat) : Int) := by rw [w32s (by omega) (by omega)]; omega
      rw [if_neg h, e1, e2, if_pos ⟨by omega, by omega⟩, if_pos ⟨by omega, by omega⟩]
      simp only [Int.toNat_natCast]
      rw [if_pos ⟨h1.1, h1.2⟩, nx k (by omega)]
      obtain ⟨g, g1, g2, g3⟩ := ih (k + 1) (up f 162 (f 160 (2 * k)).toNat (f 160 (2 * k + 1))) hA hq (by show ((k + 1 : Nat) : Int) ≤ f 157 7; omega) (by show (f 157 7).toNat - (k + 1) < n; omega) (fun j hj => by
        rw [dO_congr (f := f) (g := up f 162 (f 160 (2 * k)).toNat (f 160 (2 * k + 1))) (fun _ => rfl)]
        unfold up dO
        by_cases hj2 : f 160 (2 * k) = (j : Int)
        · rw [if_pos ⟨rfl, by omega⟩, if_pos hj2]
        · rw [if_neg (by omega), if_neg hj2, hd j hj])
      refine ⟨g, g1, fun a j ha => ?_, fun j hj => ?_⟩
      · rw [g2 a j ha]
        unfold up
        rw [if_neg (fun q => ha q.1)]
      · rw [g3 j hj]
        exact dO_congr (f := f) (g := up f 162 (f 160 (2 * k)).toNat (f 160 (2 * k + 1))) (fun _ => rfl) _ _
theorem WB_day {f : Mm} (h : WB f) : ∀ q : Nat, (q : Int) < f 157 7 → 0 ≤ f 160 (2 * q) ∧ f 160 (2 * q) < 6 := fun q hq => by
  obtain ⟨h0, -, -, -, -, -, -, -, -, -, h10⟩ := h
  have := h10 q hq
  omega
/-- lays(): what is done, day by day -/
theorem lays_sp {f : Mm} (h : WB f) : ∃ g, FX11_lays f = some g ∧ (∀ a j, ¬ (a = 162 ∨ (a = 150 ∧ j = 23)) → g a j = f a j) ∧ g 150 23 = -1 ∧ ∀ j, j < 6 → g 162 j = dO f (bA f).toNat j := by
  have hA := h.2.2.2.2.2.2.2.1
  unfold FX11_lays FX11_lays_0
  rw [show (0 : Int) = ((0 : Nat) : Int) from rfl, lays_7 fu 0 _ (by omega) (by decide)]
  unfold FX11_lays_26
  rw [show (0 : Int) = ((0 : Nat) : Int) from rfl]
  obtain ⟨g, g1, g2, g3⟩ := lays_28 fu 0 (fil (up f 150 23 (-1)) 162 0 6 (-1)) hA (WB_day h) (by exact hA.1) (by show (f 157 7).toNat - 0 < fu; unfold fu; omega) (fun j hj => by unfold fil dO; rw [if_pos ⟨rfl, by omega, hj⟩])
  refine ⟨g, g1, fun a j ha => ?_, ?_, fun j hj => ?_⟩
  · rw [g2 a j (fun q => ha (Or.inl q))]
    unfold fil up
    rw [if_neg (fun q => ha (Or.inl q.1)), if_neg (fun q => ha (Or.inr q))]
  · rw [g2 150 23 (by decide)]
    rfl
  · rw [g3 j hj]
    exact dO_congr (f := f) (g := fil (up f 150 23 (-1)) 162 0 6 (-1)) (fun _ => rfl) _ _
theorem held_sp (x : Int) (f : Mm) : FX11_held x f = some (clp x, f) := by
  have e : clp x = if 0 ≤ x then (if x ≤ 60 then x else 60) else 0 := by
    unfold clp
    split <;> split <;> (try split) <;> omega
  unfold FX11_held FX11_held_0
  rw [e]
  split
  · split <;> rfl
  · rfl
theorem fu3 : fu = 99997 + 1 + 1 + 1 := rfl
theorem feelsOf_sp {f : Mm} {w : Int} (hW : WB f) (hw : -1 ≤ w ∧ w < f 157 5) (h0 : 0 ≤ f 165 0 ∧ f 165 0 ≤ 60) (h1 : 0 ≤ f 165 1 ∧ f 165 1 ≤ 60) : FX11_feelsOf w f = some (up (up f 165 0 (mv f w 0 (f 165 0))) 165 1 (mv f w 1 (f 165 1))) := by
  unfold FX11_feelsOf FX11_feelsOf_0
  rw [fu3, FX11_feelsOf_2, if_neg (by decide)]
  by_cases hn : w = -1
  · subst hn
    rw [if_pos rfl, if_pos (by decide)]
    unfold FX11_feelsOf_48
    rw [if_pos (by decide), show w32 (0 + 1) = 1 from rfl, FX11_feelsOf_2, if_neg (by decide), if_pos rfl, if_pos (by decide)]
    unfold FX11_feelsOf_48
    rw [if_pos (by decide), show w32 (1 + 1) = 2 from rfl, FX11_feelsOf_2, if_pos (by decide)]
    rfl
  · have hd := hW.2.2.2.2.2.2.2.2.1 w.toNat (by omega)
    have hm := hW.2.2.2.2.2.1
    have e0 : w32 (w32 (w32 (4 * w) + 2) + 0) = ((4 * w.toNat + 2 : Nat) : Int) := by
      rw [w32s (x := 4 * w) (by omega) (by omega), w32s (x := 4 * w + 2) (by omega) (by omega), w32s (by omega) (by omega)]; omega
    have e1 : w32 (w32 (w32 (4 * w) + 2) + 1) = ((4 * w.toNat + 3 : Nat) : Int) := by
      rw [w32s (x := 4 * w) (by omega) (by omega), w32s (x := 4 * w + 2) (by omega) (by omega), w32s (by omega) (by omega)]; omega
    rw [if_neg hn, if_pos (by decide), e0, if_pos ⟨by omega, by omega⟩, Int.toNat_natCast, show (0 : Int).toNat = 0 from rfl, w32s (by omega) (by omega), held_sp, b2_some]
    unfold FX11_feelsOf_48
    rw [if_pos (by decide), show w32 (0 + 1) = 1 from rfl, FX11_feelsOf_2, if_neg (by decide), if_neg hn, if_pos (by decide), e1, if_pos ⟨by omega, by omega⟩, Int.toNat_natCast, show (1 : Int).toNat = 1 from rfl, show (0 : Int).toNat = 0 from rfl]
    have r1 : up f 165 0 (clp (f 165 0 + f 158 (4 * w.toNat + 2))) 165 1 = f 165 1 := rfl
    have r2 : up f 165 0 (clp (f 165 0 + f 158 (4 * w.toNat + 2))) 158 (4 * w.toNat + 3) = f 158 (4 * w.toNat + 3) := rfl
    rw [r1, r2, w32s (by omega) (by omega), held_sp, b2_some]
    unfold FX11_feelsOf_48
    rw [if_pos (by decide), show w32 (1 + 1) = 2 from rfl, FX11_feelsOf_2, if_pos (by decide)]
    unfold mv
    rw [if_neg hn, if_neg hn]
    rfl
theorem isBit_sp (x : Int) (k : Nat) (f : Mm) : FX11_isBit x (k : Int) f = some (if hbit x k then 1 else 0, f) := by
  unfold FX11_isBit FX11_isBit_0 hbit
  by_cases h : bAnd (bShr x (k : Int)) 1 = 1
  · rw [if_pos h, if_pos (by simpa using h)]
  · rw [if_neg h, if_neg (by simpa using h)]
theorem days_sp (f : Mm) : FX11_days f = some (f 157 0, f) := rfl
theorem carts_sp (f : Mm) : FX11_carts f = some (f 157 6, f) := rfl
theorem mv_r {f : Mm} {w : Int} {s : Nat} {x : Int} (h : 0 ≤ x ∧ x ≤ 60) : 0 ≤ mv f w s x ∧ mv f w s x ≤ 60 := by
  unfold mv
  split
  · exact h
  · exact clp_r _
theorem fdy_r {f : Mm} {do_ : Nat → Int} {t2 tw tmp : Int} {d s : Nat} {x : Int} (h : 0 ≤ x ∧ x ≤ 60) : 0 ≤ fdy f do_ t2 tw tmp d s x ∧ fdy f do_ t2 tw tmp d s x ≤ 60 := by
  unfold fdy
  have h1 := mv_r (f := f) (w := do_ d) (s := s) h
  have h2 : 0 ≤ (if (d : Int) = t2 then mv f tw s (mv f (do_ d) s x) else mv f (do_ d) s x) ∧ (if (d : Int) = t2 then mv f tw s (mv f (do_ d) s x) else mv f (do_ d) s x) ≤ 60 := by
    split
    · exact mv_r h1
    · exact h1
  dsimp only
  split
  · unfold jMax
    split <;> omega
  · exact h2
theorem fbg_r {f : Mm} {do_ : Nat → Int} {t2 tw tmp co : Int} {s : Nat} (h : 0 ≤ f 157 (1 + s) ∧ f 157 (1 + s) ≤ 60) (hc : 0 ≤ co) : ∀ d, 0 ≤ fbg f do_ t2 tw tmp co s d ∧ fbg f do_ t2 tw tmp co s d ≤ 60
  | 0 => h
  | d + 1 => by
    have h1 := fdy_r (f := f) (do_ := do_) (t2 := t2) (tw := tw) (tmp := tmp) (d := d) (s := s) (fbg_r (do_ := do_) (t2 := t2) (tw := tw) (tmp := tmp) h hc d)
    have e : fbg f do_ t2 tw tmp co s (d + 1) = jMax 0 (fdy f do_ t2 tw tmp d s (fbg f do_ t2 tw tmp co s d) - co) := rfl
    rw [e]
    unfold jMax
    split <;> omega
theorem fl_r {f : Mm} {do_ : Nat → Int} {t2 tw tmp co : Int} {s d : Nat} (h : 0 ≤ f 157 (1 + s) ∧ f 157 (1 + s) ≤ 60) (hc : 0 ≤ co) : 0 ≤ fl f do_ t2 tw tmp co s d ∧ fl f do_ t2 tw tmp co s d ≤ 60 := fdy_r (fbg_r h hc d)
/-- the first row of goes(): the feelings as told -/
theorem goes_2 (tm co : Int) (f : Mm) : FX11_goes_2 fu tm co 0 f = FX11_goes_27 tm co (up (up f 165 0 (f 157 1)) 165 1 (f 157 2)) := by
  rw [fu3, FX11_goes_2, if_neg (by decide), show w32 (1 + 0) = 1 from rfl, if_pos (by decide), if_pos (by decide), show w32 (0 + 1) = 1 from rfl, FX11_goes_2, if_neg (by decide), show w32 (1 + 1) = 2 from rfl, if_pos (by decide), if_pos (by decide), FX11_goes_2, if_pos (by decide)]
  rfl
