/-! the two sides, together -/
def CM (B f : Mm) : Prop := (0 < B 0 8 ∧ CT B f ∧ PT B f) ∨ (B = B0 ∧ CEb 4 f)
def BM (b r : Nat) (f : Mm) : Prop := ∃ B, WF B ∧ MRv r B f ∧ ((0 < B 0 8 ∧ CB b B f) ∨ (B = B0 ∧ CEb b f))
def IM (f : Mm) : Prop := ∀ k, k < 3 → (f 39 k = 0 ∧ f 161 k = 0) ∨ (f 39 k ≠ 0 ∧ f 161 k ≠ 0 ∧ BM (99 + 17 * k) (1 + k) f)
/-- what holds between any two calls -/
def Iv (B Z : Mm) (T : Nat → Int) (n : Nat) (f : Mm) : Prop :=
  (WF B ∧ CM B f ∧ MO B f) ∧ (f 55 0 = 0 ∧ f 56 0 = 0) ∧ IM f ∧ (WZ Z ∧ CS Z f ∧ MS Z f) ∧ (n ≤ 800 ∧ TPc T n f ∧ TPm T n f) ∧ (f 1 0 = f 150 14 ∧ f 1 1 = f 150 15)
def Inv (f : Mm) : Prop := ∃ B Z T n, Iv B Z T n f
/-- one call on both sides -/
def Ok (F G : Mm → Option (Int × Mm)) : Prop := ∀ f, Inv f → ∃ v g h, F f = some (v, g) ∧ G g = some (v, h) ∧ Inv h
theorem CB_k {b : Nat} {B f g : Mm} (h : CB b B f) (hk : ∀ a j, b ≤ a → a ≤ b + 16 → g a j = f a j) (hB : WF B) : CB b B g := by
  obtain ⟨⟨a1, a2, a3, a4, a5, a6, a7⟩, ⟨b1, b2'⟩, b3, b4, b5, b6⟩ := h
  have hK := (WF_K hB).1
  have hC := (WF_C hB).1
  have e : ∀ j, g b j = f b j := fun j => hk b j (by omega) (by omega)
  have e1 : ∀ j, g (b + 1) j = f (b + 1) j := fun j => hk _ j (by omega) (by omega)
  refine ⟨⟨by rw [e]; exact a1, by rw [e]; exact a2, by rw [e]; exact a3, by rw [e]; exact a4, by rw [e]; exact a5, by rw [e]; exact a6, by rw [e]; exact a7⟩, ⟨by rw [e1]; exact b1, by rw [e1]; exact b2'⟩, fun d hd j hj => by rw [hk _ _ (by omega) (by omega)]; exact b3 d hd j hj, fun c hc j hj => by rw [hk _ _ (by omega) (by omega)]; exact b4 c hc j hj, fun d hd => by rw [hk _ _ (by omega) (by omega)]; exact b5 d hd, fun k hq => by rw [hk _ _ (by omega) (by omega), hk _ _ (by omega) (by omega)]; exact b6 k hq⟩
theorem PT_k {B f g : Mm} (h : PT B f) (hk : ∀ a j, 57 ≤ a → a ≤ 66 → g a j = f a j) : PT B g := fun q => by
  rw [hk 57 0 (by decide) (by decide)] at q
  obtain ⟨h1, h2, ⟨h3, h4⟩, h5, h6⟩ := h q
  refine ⟨by rw [hk 57 1 (by decide) (by decide)]; exact h1, by rw [hk 57 2 (by decide) (by decide)]; exact h2, ⟨fun m hm => ?_, fun m hm => by rw [hk 64 m (by decide) (by decide)]; exact h4 m hm⟩, fun d hd => by rw [hk 65 d (by decide) (by decide)]; exact h5 d hd, fun c hc => by rw [hk 66 c (by decide) (by decide)]; exact h6 c hc⟩
  rw [hk 60 m (by decide) (by decide), hk 61 m (by decide) (by decide), hk 62 m (by decide) (by decide), hk 63 m (by decide) (by decide)]
  exact h3 m hm
theorem CM_k {B f g : Mm} (hB : WF B) (h : CM B f) (hk : ∀ a j, (4 ≤ a ∧ a ≤ 20) ∨ (57 ≤ a ∧ a ≤ 66) → g a j = f a j) : CM B g := by
  rcases h with ⟨h1, h2, h3⟩ | ⟨h1, h2⟩
  · exact Or.inl ⟨h1, CB_k (b := 4) h2 (fun a j x y => hk a j (Or.inl ⟨x, y⟩)) hB, PT_k h3 (fun a j x y => hk a j (Or.inr ⟨x, y⟩))⟩
  · exact Or.inr ⟨h1, fun j hj => by rw [hk 4 j (by omega)]; exact h2 j hj⟩
theorem MR_p {r : Nat} {B f g : Mm} (hW : WF B) (h : MRv r B f) (hr : 0 ≠ r) (hk : ∀ a j, 156 ≤ a → a ≤ 160 → ¬ Rw 0 a j → g a j = f a j) : MRv r B g := by
  have h1 : Kp (Rw 0) f (fun a j => if 156 ≤ a ∧ a ≤ 160 then g a j else f a j) := fun a j q => by
    by_cases c : 156 ≤ a ∧ a ≤ 160
    · show (if 156 ≤ a ∧ a ≤ 160 then g a j else f a j) = _
      rw [if_pos c, hk a j c.1 c.2 q]
    · show (if 156 ≤ a ∧ a ≤ 160 then g a j else f a j) = _
      rw [if_neg c]
  refine MR_k (MR_o hW h h1 hr) (fun a j x y => ?_)
  show _ = (if 156 ≤ a ∧ a ≤ 160 then g a j else f a j)
  rw [if_pos ⟨x, y⟩]
theorem BM_k {b r : Nat} {f g : Mm} (h : BM b r f) (hr : 0 ≠ r) (hk : ∀ a j, b ≤ a → a ≤ b + 16 → g a j = f a j) (hm : ∀ a j, 156 ≤ a → a ≤ 160 → ¬ Rw 0 a j → g a j = f a j) : BM b r g := by
  obtain ⟨B, h1, h2, h3⟩ := h
  refine ⟨B, h1, MR_p h1 h2 hr hm, ?_⟩
  rcases h3 with ⟨h3, h4⟩ | ⟨h3, h4⟩
  · exact Or.inl ⟨h3, CB_k h4 hk h1⟩
  · exact Or.inr ⟨h3, fun j hj => by rw [hk b j (by omega) (by omega)]; exact h4 j hj⟩
theorem IM_k {f g : Mm} (h : IM f) (h3 : ∀ k, g 39 k = f 39 k ∧ g 161 k = f 161 k) (hk : ∀ a j, 99 ≤ a → a ≤ 149 → g a j = f a j) (hm : ∀ a j, 156 ≤ a → a ≤ 160 → ¬ Rw 0 a j → g a j = f a j) : IM g := fun k hq => by
  rw [(h3 k).1, (h3 k).2]
  rcases h k hq with q | ⟨q1, q2, q3⟩
  · exact Or.inl q
  · exact Or.inr ⟨q1, q2, BM_k q3 (by omega) (fun a j x y => hk a j (by omega) (by omega)) hm⟩
theorem CS_k {Z f g : Mm} (h : CS Z f) (hk : ∀ a j, 42 ≤ a → a ≤ 47 → g a j = f a j) : CS Z g := fun s hs => by
  obtain ⟨h1, h2⟩ := h s hs
  refine ⟨by rw [hk 46 s (by decide) (by decide)]; exact h1, fun q => ⟨by rw [hk 47 s (by decide) (by decide)]; exact (h2 q).1, fun i hi => by rw [hk (42 + s) i (by omega) (by omega)]; exact (h2 q).2 i hi⟩⟩
theorem MS_k {Z f g : Mm} (h : MS Z f) (hk : ∀ a j, 151 ≤ a → a ≤ 153 → g a j = f a j) : MS Z g := fun s hs => by
  obtain ⟨h1, h2⟩ := h s hs
  refine ⟨fun q => by rw [hk 151 s (by decide) (by decide)]; exact h1 q, fun q => ⟨by rw [hk 151 s (by decide) (by decide)]; exact (h2 q).1, by rw [hk 152 s (by decide) (by decide)]; exact (h2 q).2.1, fun i hi => by rw [hk 153 _ (by decide) (by decide)]; exact (h2 q).2.2 i hi⟩⟩
/-- what the told bridge alone may change -/
def Sb (a j : Nat) : Prop := (4 ≤ a ∧ a ≤ 38) ∨ (48 ≤ a ∧ a ≤ 98 ∧ ¬ ((a = 55 ∨ a = 56) ∧ j = 0)) ∨ (a = 150 ∧ j ≠ 6 ∧ j ≠ 14 ∧ j ≠ 15) ∨ 162 ≤ a ∨ Rw 0 a j
theorem Rw_a {r a j : Nat} (h : Rw r a j) : 156 ≤ a ∧ a ≤ 160 := by
  rcases h with h | h | h | h | h
  · exact ⟨by omega, by omega⟩
  · exact ⟨by omega, by omega⟩
  · exact ⟨by omega, by omega⟩
  · exact ⟨by omega, by omega⟩
  · exact ⟨by omega, by omega⟩
theorem Sb_n {a j : Nat} (h : (a < 4 ∨ (39 ≤ a ∧ a ≤ 47) ∨ ((a = 55 ∨ a = 56) ∧ j = 0) ∨ (99 ≤ a ∧ a ≤ 149) ∨ (a = 150 ∧ (j = 6 ∨ j = 14 ∨ j = 15)) ∨ (151 ≤ a ∧ a ≤ 155) ∨ a = 161)) : ¬ Sb a j := by
  rintro (q | q | q | q | q)
  · omega
  · omega
  · omega
  · omega
  · have := Rw_a q; omega
theorem Iv_b {B B' Z f h : Mm} {T : Nat → Int} {n : Nat} (hI : Iv B Z T n f) (hk : Kp Sb f h) (hB : WF B') (hC : CM B' h) (hM : MO B' h) : Iv B' Z T n h := by
  obtain ⟨_, ⟨a1, a2⟩, a3, ⟨a4, a5, a6⟩, ⟨a7, a8, a9⟩, a10, a11⟩ := hI
  refine ⟨⟨hB, hC, hM⟩, ⟨by rw [hk 55 0 (Sb_n (by omega))]; exact a1, by rw [hk 56 0 (Sb_n (by omega))]; exact a2⟩, IM_k a3 (fun k => ⟨hk 39 k (Sb_n (by omega)), hk 161 k (Sb_n (by omega))⟩) (fun a j x y => hk a j (Sb_n (by omega))) (fun a j x y q => hk a j ?_), ⟨a4, CS_k a5 (fun a j x y => hk a j (Sb_n (by omega))), MS_k a6 (fun a j x y => hk a j (Sb_n (by omega)))⟩, ⟨a7, TPc_k a8 (fun a j x y => hk a j (Sb_n (by omega))), TPm_k a9 (hk 150 6 (Sb_n (by omega))) (fun j => hk 155 j (Sb_n (by omega)))⟩, ?_, ?_⟩
  · rintro (z | z | z | z | z)
    · omega
    · omega
    · omega
    · omega
    · exact q z
  · rw [hk 1 0 (Sb_n (by omega)), hk 150 14 (Sb_n (by omega))]; exact a10
  · rw [hk 1 1 (Sb_n (by omega)), hk 150 15 (Sb_n (by omega))]; exact a11
theorem Sb_w {f g : Mm} (h : Kp Sw f g) : Kp Sb f g := Kp_m h (fun a j q => Or.inr (Or.inl (by unfold Sw Sc at q; omega)))
theorem Sb_m {f g : Mm} (h : Kp Sm f g) : Kp Sb f g := Kp_m h (fun a j q => by
  rcases q with q | q
  · exact Or.inr (Or.inr (Or.inl q))
  · exact Or.inr (Or.inr (Or.inr (Or.inl q))))
theorem MO_w {B f g : Mm} (h : MO B f) (hk : Kp Sw f g) : MO B g := MO_k h (fun a j x y => hk a j (fun q => by unfold Sw Sc at q; omega))
theorem MS_w {Z f g : Mm} (h : MS Z f) (hk : Kp Sw f g) : MS Z g := MS_k h (fun a j x y => hk a j (fun q => by unfold Sw Sc at q; omega))
theorem CM_m {B f g : Mm} (hB : WF B) (h : CM B f) (hk : Kp Sm f g) : CM B g := CM_k hB h (fun a j x => hk a j (fun q => by unfold Sm at q; omega))
def KC (B Z : Mm) (F : Mm → Option (Int × Mm)) (v : Int) : Prop := ∀ f, CM B f → f 55 0 = 0 → f 56 0 = 0 → CS Z f → Wp (F f) (fun p => p.1 = v ∧ Kp Sw f p.2 ∧ CM B p.2)
theorem Ok_q {F G : Mm → Option (Int × Mm)} {v : Mm → Mm → Int} (hc : ∀ B Z, WF B → WZ Z → KC B Z F (v B Z)) (hm : ∀ B Z, WF B → WZ Z → ZN B Z G (v B Z)) : Ok F G := by
  rintro f ⟨B, Z, T, n, hI⟩
  obtain ⟨⟨b1, b2', b3⟩, ⟨a1, a2⟩, a3, ⟨a4, a5, a6⟩, _⟩ := id hI
  obtain ⟨⟨v1, g⟩, e1, r1, k1, c1⟩ := hc B Z b1 a4 f b2' a1 a2 a5
  obtain ⟨⟨v2, h⟩, e2, r2, k2⟩ := hm B Z b1 a4 g (MO_w b3 k1) (MS_w a6 k1)
  simp only at r1 r2 k1 c1 k2
  subst r1 r2
  exact ⟨_, g, h, e1, e2, B, Z, T, n, Iv_b hI (Kp_t (Sb_w k1) (Sb_m k2)) b1 (CM_m b1 c1 k2) (MO_s (MO_w b3 k1) k2)⟩
theorem CM_c {B f g : Mm} (hB : WF B) (h : CM B f) (hk : Kp Sc f g) : CM B g := CM_k hB h (fun a j x => hk a j (fun q => by unfold Sc at q; omega))
theorem ZN_m {B Z : Mm} {G : Mm → Option (Int × Mm)} {v : Int} (h : QM B G v) : ZN B Z G v := fun f hM _ => h f hM
theorem Ok_z {F G : Mm → Option (Int × Mm)} {v : Mm → Mm → Int} (hc : ∀ B Z, WF B → WZ Z → ZC B Z F (v B Z)) (hm : ∀ B Z, WF B → WZ Z → ZN B Z G (v B Z)) (e : ∀ Z f, CEb 4 f → F f = some (v B0 Z, f)) : Ok F G := Ok_q (fun B Z hB hZ f hC x y hS => by
  rcases id hC with ⟨h1, h2, h3⟩ | ⟨h1, h2⟩
  · exact Wp_mono (hc B Z hB hZ f ⟨h2, x, y⟩ hS) (fun p ⟨q1, q2⟩ => ⟨q1, Sc_w q2, CM_c hB hC q2⟩)
  · subst h1
    exact ⟨_, e Z f h2, rfl, Kp_r _ _, hC⟩) hm
theorem Ok_zp {F G : Mm → Option (Int × Mm)} {v : Mm → Mm → Int} (hc : ∀ B Z, WF B → WZ Z → ZP B Z F (v B Z)) (hm : ∀ B Z, WF B → WZ Z → ZN B Z G (v B Z)) (e : ∀ Z f, CEb 4 f → F f = some (v B0 Z, f)) : Ok F G := Ok_q (fun B Z hB hZ f hC x y hS => by
  rcases id hC with ⟨h1, h2, h3⟩ | ⟨h1, h2⟩
  · exact Wp_mono (hc B Z hB hZ f ⟨h2, x, y⟩ hS h3) (fun p ⟨q1, q2, q3⟩ => ⟨q1, q2, Or.inl ⟨h1, CT_w hB h2 q2, q3⟩⟩)
  · subst h1
    exact ⟨_, e Z f h2, rfl, Kp_r _ _, hC⟩) hm
theorem Ok_c {F G : Mm → Option (Int × Mm)} {v : Mm → Int} (hc : ∀ B, WF B → QC B F (v B)) (hm : ∀ B, WF B → QM B G (v B)) (e : ∀ f, CEb 4 f → F f = some (v B0, f)) : Ok F G := Ok_z (v := fun B _ => v B) (fun B _ hB _ f hC _ => hc B hB f hC) (fun B _ hB _ => ZN_m (hm B hB)) (fun _ f h => e f h)
theorem Ok_p {F G : Mm → Option (Int × Mm)} {v : Mm → Int} (hc : ∀ B, WF B → QP B F (v B)) (hm : ∀ B, WF B → QM B G (v B)) (e : ∀ f, CEb 4 f → F f = some (v B0, f)) : Ok F G := Ok_zp (v := fun B _ => v B) (fun B _ hB _ f hC _ hP => hc B hB f hC hP) (fun B _ hB _ => ZN_m (hm B hB)) (fun _ f h => e f h)
theorem n0D : nD B0 = 0 := rfl
theorem n0C : nC B0 = 0 := rfl
theorem n0K : nK B0 = 0 := rfl
theorem n08 : B0 0 8 = 0 := rfl
theorem hasSet_0 (x : Int) {f : Mm} (h : CEb 4 f) : FX0_hasSet_4 x f = some (0, f) := by
  unfold FX0_hasSet_4 FX0_hasSet_4_0
  rw [stands_e, b2_some, h 0 (by decide), if_neg (show ¬ ((0 : Int) < 0) by decide), if_pos rfl]
theorem slot_0 (x : Int) {f : Mm} (h : CEb 4 f) : FX10_slotWrong x f = some (-2, f) := by
  unfold FX10_slotWrong FX10_slotWrong_0
  rw [isSlot_e, b2_some]
  by_cases q : 0 ≤ x ∧ x < 4
  · rw [if_pos q, if_neg (show ¬ (1 : Int) = 0 by decide), stands_e, b2_some, h 0 (by decide), if_neg (show ¬ ((0 : Int) < 0) by decide), if_pos rfl]
  · rw [if_neg q, if_pos rfl]
theorem wW_c (x : Int) {f : Mm} (h : CEb 4 f) : FX10_widthsWrong x f = some (-2, f) := by
  unfold FX10_widthsWrong FX10_widthsWrong_0
  rw [slot_0 x h, b2_some, if_neg (show ¬ (-2 : Int) = 0 by decide)]
theorem wS_c (x : Int) {f : Mm} (h : CEb 4 f) : FX10_sharesWrong x f = some (-2, f) := by
  unfold FX10_sharesWrong FX10_sharesWrong_0
  rw [slot_0 x h, b2_some, if_neg (show ¬ (-2 : Int) = 0 by decide)]
theorem wWo (Z : Mm) (x : Int) : wW B0 Z x = -2 := if_pos (fun c => absurd c.2.2 (Int.lt_irrefl _))
theorem wSo (Z : Mm) (x : Int) : wS B0 Z x = -2 := if_pos (fun c => absurd c.2.2 (Int.lt_irrefl _))
