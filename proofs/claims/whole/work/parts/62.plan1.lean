/-! all PLANS, gone through by the class -/
def nP (B : Mm) : Nat := (nK B + 1) ^ nD B
theorem nP_r {B : Mm} (hB : WF B) : 1 ≤ nP B ∧ nP B ≤ 15625 := by
  have h1 := (WF_K hB).1
  have h2 := (WF_D hB).1
  unfold nP
  refine ⟨Nat.pow_pos (by omega), ?_⟩
  have a := Nat.pow_le_pow_left (show nK B + 1 ≤ 5 by omega) (nD B)
  have b := Nat.pow_le_pow_right (show 0 < 5 by decide) h2
  have : (5 : Nat) ^ 6 = 15625 := by decide
  omega
def pch (B : Mm) (k d : Nat) : Int := if d < nD B then ((dg (nK B + 1) (nD B - 1 - d) k : Nat) : Int) - 1 else -1
theorem pch_W {B : Mm} (hB : WF B) (k : Nat) : WD B (pch B k) := fun d hd => by
  have h1 := (WF_K hB).2
  have h2 := dg_lt (b := nK B + 1) (e := nD B - 1 - d) (k := k) (by omega)
  unfold pch
  split <;> omega
def pw (B : Mm) (k : Nat) : Nat → Int := wd B (pch B k) (-1) (-1) 0 (B 0 3)
def pp (B : Mm) (k : Nat) : Nat → Int := pas B idn (pw B k) (nD B)
def kpI (B : Mm) (k : Nat) : Int := bts (inT B (pp B k)) (nC B)
def kp (B : Mm) (k : Nat) : Nat := (kpI B k).toNat
def pco (B : Mm) (k : Nat) : Int := csts B (pch B k)
def lsw (w : Nat → Int) : Nat → Int
  | 0 => 60
  | e + 1 => jMin (lsw w e) (w e)
def lsI (B : Mm) (k : Nat) : Int := lsw (pw B k) (nD B)
def lsN (B : Mm) (k : Nat) : Nat := (lsI B k).toNat
def mxw (g : Nat → Int) : Nat → Int
  | 0 => 0
  | k + 1 => jMax (mxw g k) (g k)
def fdk (B : Mm) (k c : Nat) : Int := mn (fun j => decide (pp B j c ≠ -1)) (fun j => pp B j c) k
theorem pw_r {B : Mm} (hB : WF B) (k d : Nat) : 0 ≤ pw B k d ∧ pw B k d ≤ 60 := wd_r hB hB.2.2.2.1.1 d
theorem pco_r {B : Mm} (hB : WF B) (k : Nat) : 0 ≤ pco B k ∧ pco B k ≤ 594 := csts_r hB (pch_W hB k)
theorem bts_c6 {p : Nat → Bool} {n : Nat} (h : n ≤ 6) : 0 ≤ bts p n ∧ bts p n < 64 := by
  have h1 := bts_s (p := p) n (by omega)
  obtain ⟨m, hm, e⟩ := sS_n h1.1
  have h2 := h1.2 6 (by omega)
  rw [e, hb_t hm (by omega), decide_eq_false (by omega), Bool.false_and] at h2
  rw [e]
  have h3 : m < 2 ^ 6 := by
    apply Nat.lt_pow_two_of_testBit
    intro i hi
    by_cases h6 : i = 6
    · rw [h6]; exact h2
    · exact Nat.testBit_lt_two_pow (Nat.lt_of_lt_of_le (show m < 2 ^ 7 from hm) (Nat.pow_le_pow_right (by decide) (by omega)))
  omega
theorem kp_r {B : Mm} (hB : WF B) (k : Nat) : kp B k < 64 ∧ kpI B k = (kp B k : Int) := by
  have := bts_c6 (p := inT B (pp B k)) (WF_C hB).1
  unfold kp kpI
  omega
theorem lsw_r {w : Nat → Int} (h : ∀ d, 0 ≤ w d ∧ w d ≤ 60) : ∀ e, 0 ≤ lsw w e ∧ lsw w e ≤ 60
  | 0 => by unfold lsw; omega
  | e + 1 => by
    have h1 := lsw_r h e
    have h2 := h e
    unfold lsw jMin
    split <;> omega
theorem ls_r {B : Mm} (hB : WF B) (k : Nat) : lsN B k < 61 ∧ lsI B k = (lsN B k : Int) := by
  have := lsw_r (w := pw B k) (fun d => pw_r hB k d) (nD B)
  unfold lsN lsI
  omega
theorem fdy_c {B : Mm} {ch ch' : Nat → Int} {t2 tw tm : Int} {d s : Nat} {x : Int} (h : ch d = ch' d) : fdy B ch t2 tw tm d s x = fdy B ch' t2 tw tm d s x := by unfold fdy; rw [h]
theorem fbg_c {B : Mm} {ch ch' : Nat → Int} {t2 tw tm co : Int} {s : Nat} : ∀ d, (∀ e, e < d → ch e = ch' e) → fbg B ch t2 tw tm co s d = fbg B ch' t2 tw tm co s d
  | 0, _ => rfl
  | d + 1, h => by unfold fbg; rw [fbg_c d (fun e he => h e (by omega)), fdy_c (h d (by omega))]
theorem fl_c {B : Mm} {ch ch' : Nat → Int} {t2 tw tm co : Int} {s d : Nat} (h : ∀ e, e ≤ d → ch e = ch' e) : fl B ch t2 tw tm co s d = fl B ch' t2 tw tm co s d := by
  unfold fl
  rw [fbg_c d (fun e he => h e (by omega)), fdy_c (h d (by omega))]
theorem wd_c {B : Mm} {ch ch' : Nat → Int} {t2 tw tm co : Int} {d : Nat} (h : ∀ e, e ≤ d → ch e = ch' e) : wd B ch t2 tw tm co d = wd B ch' t2 tw tm co d := by
  unfold wd
  rw [fl_c h, fl_c h]
theorem pas_c {B : Mm} {od : Nat → Nat} {w w' : Nat → Int} : ∀ d, (∀ e, e < d → w e = w' e) → pas B od w d = pas B od w' d
  | 0, _ => rfl
  | d + 1, h => by
    show (pcs B od d (w d, pas B od w d) (nC B)).2 = (pcs B od d (w' d, pas B od w' d) (nC B)).2
    rw [h d (by omega), pas_c d (fun e he => h e (by omega))]
theorem lft_c {B : Mm} {od : Nat → Nat} {w w' : Nat → Int} {d : Nat} (h : ∀ e, e ≤ d → w e = w' e) : lft B od w d = lft B od w' d := by
  unfold lft
  rw [h d (by omega), pas_c d (fun e he => h e (by omega))]
theorem lsw_c {w w' : Nat → Int} : ∀ d, (∀ e, e < d → w e = w' e) → lsw w d = lsw w' d
  | 0, _ => rfl
  | d + 1, h => by unfold lsw; rw [lsw_c d (fun e he => h e (by omega)), h d (by omega)]
theorem pw_c {B : Mm} {k l fr : Nat} (h : ∀ d, d < fr → pch B k d = pch B l d) : ∀ d, d < fr → pw B k d = pw B l d := fun d hd => wd_c (fun e he => h e (by omega))
theorem scm_s (kp : Nat → Nat) (co : Nat → Int) (k m : Nat) : scm kp co (k + 1) m = if kp k = m ∧ (scm kp co k m = -1 ∨ co k < scm kp co k m) then co k else scm kp co k m := by
  show (if decide (kp k = m) = true ∧ (mn (fun k => decide (kp k = m)) co k = -1 ∨ co k < mn (fun k => decide (kp k = m)) co k) then co k else mn (fun k => decide (kp k = m)) co k) = _
  simp only [decide_eq_true_eq]
  rfl
theorem sfm_s (kp : Nat → Nat) (co : Nat → Int) (k m : Nat) : sfm kp co (k + 1) m = if kp k = m ∧ (scm kp co k m = -1 ∨ co k < scm kp co k m) then (k : Int) else sfm kp co k m := by
  show (if decide (kp k = m) = true ∧ (mn (fun k => decide (kp k = m)) co k = -1 ∨ co k < mn (fun k => decide (kp k = m)) co k) then (k : Int) else fm (fun k => decide (kp k = m)) co k) = _
  simp only [decide_eq_true_eq]
  rfl
def swy (kp : Nat → Nat) (co : Nat → Int) (N m : Nat) : Int := wy (fun k => decide (kp k = m)) co N
theorem swy_s (kp : Nat → Nat) (co : Nat → Int) (k m : Nat) : swy kp co (k + 1) m = if kp k = m ∧ (scm kp co k m = -1 ∨ co k < scm kp co k m) then 1 else if kp k = m ∧ co k = scm kp co k m then swy kp co k m + 1 else swy kp co k m := by
  show (if decide (kp k = m) = true ∧ (mn (fun k => decide (kp k = m)) co k = -1 ∨ co k < mn (fun k => decide (kp k = m)) co k) then 1 else if decide (kp k = m) = true ∧ co k = mn (fun k => decide (kp k = m)) co k then wy (fun k => decide (kp k = m)) co k + 1 else wy (fun k => decide (kp k = m)) co k) = _
  simp only [decide_eq_true_eq]
  rfl
def sct (kp : Nat → Nat) (N m : Nat) : Int := cnt (fun k => decide (kp k = m)) N
theorem sct_s (kp : Nat → Nat) (k m : Nat) : sct kp (k + 1) m = if kp k = m then sct kp k m + 1 else sct kp k m := by
  unfold sct
  rw [cnt_s]
  by_cases h : kp k = m
  · rw [if_pos h, if_pos (decide_eq_true h)]
  · rw [if_neg h, if_neg (by rw [decide_eq_true_eq]; exact h), Int.add_zero]
theorem swy_r (kp : Nat → Nat) (co : Nat → Int) (m : Nat) : ∀ N, 0 ≤ swy kp co N m ∧ swy kp co N m ≤ N
  | 0 => by unfold swy wy; omega
  | N + 1 => by
    have := swy_r kp co m N
    rw [swy_s]
    split
    · omega
    · split <;> omega
theorem scm_r {B : Mm} (hB : WF B) (q : Nat → Nat) (k m : Nat) : -1 ≤ scm q (pco B) k m ∧ scm q (pco B) k m ≤ 594 := mn_r (fun j _ _ => pco_r hB j) (by decide)
/-- the table of the first k PLANS -/
def TB (B : Mm) (k : Nat) (g : Mm) : Prop :=
  (∀ m, m < 64 → g 60 m = sct (kp B) k m ∧ g 61 m = scm (kp B) (pco B) k m ∧ g 62 m = swy (kp B) (pco B) k m ∧ g 63 m = sfm (kp B) (pco B) k m) ∧ ∀ m, m < 61 → g 64 m = scm (lsN B) (pco B) k m
theorem enter_fin {B g g1 : Mm} (hB : WF B) {k : Nat} (hT : TB B k g) (hk1 : Kp (fun a m => 60 ≤ a ∧ a ≤ 63 ∧ m = kp B k) g g1)
    (h0 : g1 60 (kp B k) = sct (kp B) (k + 1) (kp B k)) (h1 : g1 61 (kp B k) = scm (kp B) (pco B) (k + 1) (kp B k)) (h2 : g1 62 (kp B k) = swy (kp B) (pco B) (k + 1) (kp B k)) (h3 : g1 63 (kp B k) = sfm (kp B) (pco B) (k + 1) (kp B k)) :
    Wp (FX3_enter_74 (pco B k) (lsI B k) g1) (fun g' => Kp (fun a _ => 60 ≤ a ∧ a ≤ 64) g g' ∧ TB B (k + 1) g') := by
  obtain ⟨l6, le⟩ := ls_r hB k
  have hl := hT.2 (lsN B k) l6
  have el : g1 64 (lsN B k) = scm (lsN B) (pco B) k (lsN B k) := by rw [hk1 64 _ (by omega), hl]
  have fin : ∀ g2 : Mm, (∀ a m, a ≠ 64 → g2 a m = g1 a m) → (∀ m, m < 61 → g2 64 m = scm (lsN B) (pco B) (k + 1) m) → Kp (fun a _ => 60 ≤ a ∧ a ≤ 64) g g2 ∧ TB B (k + 1) g2 := by
    intro g2 ho h64
    refine ⟨fun a j h => by rw [ho a j (by omega), hk1 a j (by omega)], fun m hm => ?_, h64⟩
    by_cases hmk : m = kp B k
    · subst hmk
      rw [ho _ _ (by decide), ho _ _ (by decide), ho _ _ (by decide), ho _ _ (by decide)]
      exact ⟨h0, h1, h2, h3⟩
    · rw [ho _ _ (by decide), ho _ _ (by decide), ho _ _ (by decide), ho _ _ (by decide), hk1 60 m (by omega), hk1 61 m (by omega), hk1 62 m (by omega), hk1 63 m (by omega), sct_s, scm_s, swy_s, sfm_s, if_neg (fun h => hmk h.symm), if_neg (fun h => hmk h.1.symm), if_neg (fun h => hmk h.1.symm), if_neg (fun h => hmk h.1.symm), if_neg (fun h => hmk h.1.symm)]
      exact hT.1 m hm
  have keep : ¬ (scm (lsN B) (pco B) k (lsN B k) = -1 ∨ pco B k < scm (lsN B) (pco B) k (lsN B k)) → ∀ m, m < 61 → g1 64 m = scm (lsN B) (pco B) (k + 1) m := by
    intro hn m hm
    rw [hk1 64 m (by omega), hT.2 m hm, scm_s, if_neg]
    rintro ⟨e, q⟩
    subst e
    exact hn q
  have set' : (scm (lsN B) (pco B) k (lsN B k) = -1 ∨ pco B k < scm (lsN B) (pco B) k (lsN B k)) → ∀ m, m < 61 → up g1 64 (lsN B k) (pco B k) 64 m = scm (lsN B) (pco B) (k + 1) m := by
    intro hn m hm
    rw [scm_s]
    by_cases hm2 : lsN B k = m
    · subst hm2
      rw [up_s, if_pos ⟨rfl, hn⟩]
    · rw [up_n (by omega), if_neg (fun h => hm2 h.1), hk1 64 m (by omega), hT.2 m hm]
  unfold FX3_enter_74 FX3_enter_96
  have hI : (0 : Int) ≤ (lsN B k : Int) ∧ (lsN B k : Int) < 61 := by omega
  rw [le]
  simp only [if_pos hI]
  rw [Int.toNat_natCast, el]
  by_cases c1 : scm (lsN B) (pco B) k (lsN B k) = -1
  · rw [if_pos c1]
    exact Wp_some (fin _ (fun a m h => up_n (by omega)) (set' (Or.inl c1)))
  · rw [if_neg c1]
    by_cases c2 : scm (lsN B) (pco B) k (lsN B k) ≤ pco B k
    · rw [if_pos c2]
      exact Wp_some (fin _ (fun a m h => rfl) (keep (by omega)))
    · rw [if_neg c2]
      exact Wp_some (fin _ (fun a m h => up_n (by omega)) (set' (by omega)))
theorem enter_W {B g : Mm} (hB : WF B) {k : Nat} (hk : k < 20000) (hT : TB B k g) : Wp (FX3_enter (k : Int) (kpI B k) (pco B k) (lsI B k) g) (fun g' => Kp (fun a _ => 60 ≤ a ∧ a ≤ 64) g g' ∧ TB B (k + 1) g') := by
  obtain ⟨m6, me⟩ := kp_r hB k
  obtain ⟨t0, t1, t2, t3⟩ := hT.1 (kp B k) m6
  have r0 := cnt_r (p := fun j => decide (kp B j = kp B k)) k
  have e0 : sct (kp B) k (kp B k) = cnt (fun j => decide (kp B j = kp B k)) k := rfl
  have r2 := swy_r (kp B) (pco B) (kp B k) k
  have hI : (0 : Int) ≤ (kp B k : Int) ∧ (kp B k : Int) < 64 := by omega
  have n0 : w32 (g 60 (kp B k) + 1) = sct (kp B) (k + 1) (kp B k) := by rw [t0, w32s (by omega) (by omega), sct_s, if_pos rfl]
  have cA : (scm (kp B) (pco B) k (kp B k) = -1 ∨ pco B k < scm (kp B) (pco B) k (kp B k)) → Wp (FX3_enter_30 (k : Int) (kpI B k) (pco B k) (lsI B k) (up g 60 (kp B k) (w32 (g 60 (kp B k) + 1)))) (fun g' => Kp (fun a _ => 60 ≤ a ∧ a ≤ 64) g g' ∧ TB B (k + 1) g') := by
    intro hn
    unfold FX3_enter_30
    rw [me]
    simp only [if_pos hI]
    rw [Int.toNat_natCast]
    refine enter_fin hB hT (Kp_u (Kp_u (Kp_u (Kp_u (Kp_r _ _) (by omega)) (by omega)) (by omega)) (by omega)) ?_ ?_ ?_ ?_
    · rw [up_n (by omega), up_n (by omega), up_n (by omega), up_s, n0]
    · rw [up_n (by omega), up_n (by omega), up_s, scm_s, if_pos ⟨rfl, hn⟩]
    · rw [up_n (by omega), up_s, swy_s, if_pos ⟨rfl, hn⟩]
    · rw [up_s, sfm_s, if_pos ⟨rfl, hn⟩]
  unfold FX3_enter FX3_enter_0
  rw [me]
  simp only [if_pos hI]
  rw [Int.toNat_natCast, ← me]
  by_cases c1 : g 61 (kp B k) = -1
  · rw [if_pos c1]
    exact cA (Or.inl (by rw [← t1]; exact c1))
  · rw [if_neg c1]
    by_cases c2 : g 61 (kp B k) ≤ pco B k
    · rw [if_pos c2]
      by_cases c3 : pco B k = g 61 (kp B k)
      · rw [if_pos c3]
        refine enter_fin hB hT (Kp_u (Kp_u (Kp_r _ _) (by omega)) (by omega)) ?_ ?_ ?_ ?_
        · rw [up_n (by omega), up_s, n0]
        · rw [up_n (by omega), up_n (by omega), t1, scm_s, if_neg (by rw [← t1]; omega)]
        · rw [up_s, swy_s, if_neg (by rw [← t1]; omega), if_pos ⟨rfl, by rw [← t1]; exact c3⟩, t2, w32s (by omega) (by omega)]
        · rw [up_n (by omega), up_n (by omega), t3, sfm_s, if_neg (by rw [← t1]; omega)]
      · rw [if_neg c3]
        refine enter_fin hB hT (Kp_u (Kp_r _ _) (by omega)) ?_ ?_ ?_ ?_
        · rw [up_s, n0]
        · rw [up_n (by omega), t1, scm_s, if_neg (by rw [← t1]; omega)]
        · rw [up_n (by omega), swy_s, if_neg (by rw [← t1]; omega), if_neg (by rw [← t1]; omega), t2]
        · rw [up_n (by omega), t3, sfm_s, if_neg (by rw [← t1]; omega)]
    · rw [if_neg c2]
      exact cA (Or.inr (by rw [← t1]; omega))
theorem turnPlan_l {B g : Mm} (hB : WF B) {k : Nat} (hk : k < nP B) (h2 : g 57 2 = (nK B : Int) + 1) : ∀ (i n : Nat) (g' : Mm), i ≤ nD B → i < n → (∀ d, d < i → g' 49 d = pch B k d) → (∀ d, i ≤ d → d < 6 → g' 49 d = -1) → lowM (nK B + 1) (nD B - i) k → Kp (fun a _ => a = 49) g g' →
    Wp (FX3_turnPlan_57_48_7 n ((i : Int) - 1) g') (fun p => ∃ fr : Nat, p.1 = (fr : Int) ∧ fr ≤ nD B ∧ Kp (fun a _ => a = 49) g p.2 ∧ (k + 1 < nP B → (∀ d, d < 6 → p.2 49 d = pch B (k + 1) d) ∧ ∀ d, d < fr → pch B (k + 1) d = pch B k d)) := by
  obtain ⟨hD6, hDe⟩ := WF_D hB
  obtain ⟨hK4, hKe⟩ := WF_K hB
  intro i
  induction i with
  | zero =>
    intro n g' _ hn _ _ hl hkp
    obtain ⟨m, rfl⟩ : ∃ m, n = m + 1 := ⟨n - 1, by omega⟩
    rw [FX3_turnPlan_57_48_7, if_pos (by omega)]
    refine Wp_some ⟨0, rfl, by omega, hkp, fun h => ?_⟩
    have := low_all (e := nD B) (by rw [Nat.sub_zero] at hl; exact hl) hk
    unfold nP at h
    omega
  | succ i ih =>
    intro n g' hi hn h1 h3 hl hkp
    obtain ⟨m, rfl⟩ : ∃ m, n = m + 1 := ⟨n - 1, by omega⟩
    have e1 := h1 i (by omega)
    have ep : pch B k i = ((dg (nK B + 1) (nD B - 1 - i) k : Nat) : Int) - 1 := by unfold pch; rw [if_pos (by omega)]
    have hlt := dg_lt (b := nK B + 1) (e := nD B - 1 - i) (k := k) (by omega)
    have e57 : g' 57 2 = (nK B : Int) + 1 := by rw [hkp 57 2 (by omega), h2]
    have hI : (0 : Int) ≤ (i : Int) ∧ (i : Int) < 6 := by omega
    have e9 : w32 ((i : Int) + -1) = (i : Int) - 1 := by rw [w32s (by omega) (by omega)]; omega
    rw [show nD B - (i + 1) = nD B - 1 - i by omega] at hl
    rw [show ((i + 1 : Nat) : Int) - 1 = (i : Int) by omega, FX3_turnPlan_57_48_7, if_neg (by omega)]
    simp only [if_pos hI]
    rw [Int.toNat_natCast, e1, ep, e57, e9, w32s (by omega) (by omega)]
    by_cases c : (nK B : Int) + 1 ≤ ((dg (nK B + 1) (nD B - 1 - i) k : Nat) : Int) - 1 + 2
    · rw [if_pos c]
      refine ih m _ (by omega) (by omega) (fun d hd => ?_) (fun d hd hd6 => ?_) ?_ (Kp_u hkp rfl)
      · rw [up_n (by omega)]; exact h1 d (by omega)
      · by_cases hdi : d = i
        · subst hdi; rw [up_s]
        · rw [up_n (by omega)]; exact h3 d (by omega) hd6
      · rw [show nD B - i = nD B - 1 - i + 1 by omega]
        exact low_s hl (by omega)
    · rw [if_neg c]
      unfold FX3_turnPlan_57_48_26
      rw [if_pos (by omega), if_pos (by omega), Int.toNat_natCast, e1, ep, w32s (by omega) (by omega)]
      obtain ⟨u1, u2, u3⟩ := dg_up (b := nK B + 1) (e := nD B - 1 - i) (k := k) (by omega) hl (by omega)
      have up1 : ∀ d, d < i → pch B (k + 1) d = pch B k d := fun d hd => by
        unfold pch
        rw [if_pos (by omega), if_pos (by omega), u2 (nD B - 1 - d) (by omega)]
      refine Wp_some ⟨i, rfl, by omega, Kp_u hkp rfl, fun _ => ⟨fun d hd => ?_, up1⟩⟩
      show up g' 49 i _ 49 d = pch B (k + 1) d
      by_cases hdi : d = i
      · subst hdi
        rw [up_s]
        unfold pch
        rw [if_pos (by omega), u1]
        omega
      · rw [up_n (by omega)]
        rcases Nat.lt_or_ge d i with hlt2 | hge
        · rw [up1 d hlt2]; exact h1 d (by omega)
        · rw [h3 d (by omega) hd]
          unfold pch
          by_cases hdD : d < nD B
          · rw [if_pos hdD, u3 (nD B - 1 - d) (by omega)]
            rfl
          · rw [if_neg hdD]
theorem turnPlan_W {B g : Mm} (hB : WF B) {k : Nat} (hk : k < nP B) (h1 : g 57 1 = (nD B : Int)) (h2 : g 57 2 = (nK B : Int) + 1) (h3 : ∀ d, d < 6 → g 49 d = pch B k d) :
    Wp (FX3_turnPlan_57_48 g) (fun p => ∃ fr : Nat, p.1 = (fr : Int) ∧ fr ≤ nD B ∧ Kp (fun a _ => a = 49) g p.2 ∧ (k + 1 < nP B → (∀ d, d < 6 → p.2 49 d = pch B (k + 1) d) ∧ ∀ d, d < fr → pch B (k + 1) d = pch B k d)) := by
  obtain ⟨hD6, hDe⟩ := WF_D hB
  unfold FX3_turnPlan_57_48 FX3_turnPlan_57_48_0
  rw [h1, w32s (by omega) (by omega)]
  refine turnPlan_l hB hk h2 (nD B) fu g (by omega) (by have := fub; omega) (fun d hd => h3 d (by omega)) (fun d hd hd6 => ?_) ?_ (Kp_r _ _)
  · rw [h3 d hd6]; unfold pch; rw [if_neg (by omega)]
  · rw [Nat.sub_self]; exact low_0 _ _
/-- what a PLAN's first days leave -/
def WS (B : Mm) (k i : Nat) (g : Mm) : Prop :=
  (∀ e, e ≤ i → g 58 e = sm (fun d => cst B (pch B k d)) e ∧ g 59 e = lsw (pw B k) e) ∧
  (∀ d, d < nD B → g 65 d = mxw (fun j => pw B j d) (if d < i then k + 1 else k)) ∧
  (∀ c, c < nC B → g 66 c = fdk B (if pas B idn (pw B k) i c = -1 then k else k + 1) c)
theorem fdk_s (B : Mm) (k c : Nat) : fdk B (k + 1) c = if pp B k c ≠ -1 ∧ (fdk B k c = -1 ∨ pp B k c < fdk B k c) then pp B k c else fdk B k c := by
  show (if decide (pp B k c ≠ -1) = true ∧ (mn (fun j => decide (pp B j c ≠ -1)) (fun j => pp B j c) k = -1 ∨ pp B k c < mn (fun j => decide (pp B j c ≠ -1)) (fun j => pp B j c) k) then pp B k c else mn (fun j => decide (pp B j c ≠ -1)) (fun j => pp B j c) k) = _
  simp only [decide_eq_true_eq]
  rfl
theorem pas_D {B : Mm} {od : Nat → Nat} {w : Nat → Int} {b e D : Nat} (h : e ≤ D) (hp : pas B od w e b ≠ -1) : pas B od w D b = pas B od w e b := by
  have := (pas_le (B := B) (od := od) (w := w) (b := b) (e := e) (D - e)).2 hp
  rw [show e + (D - e) = D by omega] at this
  exact this
theorem note_W {B g : Mm} (hB : WF B) (hC : CT B g) {k i : Nat} (hX : ∀ d, d < 6 → g 49 d = pch B k d) (hF : FK B (pch B k) (-1) (-1) 0 (B 0 3) (i + 1) g) (hP : PK B idn (pw B k) (i + 1) g) (hi : i < nD B) (hW : WS B k i g) :
    Wp (FX3_note_57_4_48 (i : Int) g) (fun g' => Kp (fun a _ => a = 58 ∨ a = 59 ∨ a = 65 ∨ a = 66) g g' ∧ WS B k (i + 1) g') := by
  obtain ⟨hD6, hDe⟩ := WF_D hB
  obtain ⟨hC6, hCe⟩ := WF_C hB
  obtain ⟨w1, w2, w3⟩ := hW
  have rr := pw_r hB k i
  have ep : wd B (pch B k) (-1) (-1) 0 (B 0 3) i = pw B k i := rfl
  have rc := cst_r hB (pch_W hB k i (by omega))
  have hb : ∀ j, j < nD B → 0 ≤ cst B (pch B k j) ∧ cst B (pch B k j) ≤ 99 := fun j hj => cst_r hB (pch_W hB k j (by omega))
  have hp := sm_part hb (by omega) (i := i) (by omega)
  unfold FX3_note_57_4_48 FX3_note_57_4_48_0
  rw [widthOn_e hF (by omega) (by omega), b2_some, ep, if_pos (by omega), if_pos (by omega), Int.toNat_natCast, hX i (by omega), costOf_e hB hC (pch_W hB k i (by omega)), b2_some, w32n (x := (i : Int) + 1) (n := i + 1) (by omega) (by omega), if_pos (by omega), if_pos (by omega), if_pos (by omega), if_pos (by omega), if_pos (by omega), Int.toNat_natCast, (w1 i (by omega)).1, (w1 i (by omega)).2, w2 i hi, if_neg (by omega), w32s (by omega) (by omega)]
  have hk1 : Kp (fun a _ => a = 58 ∨ a = 59 ∨ a = 65) g (up (up (up g 58 (i + 1) (sm (fun d => cst B (pch B k d)) i + cst B (pch B k i))) 59 (i + 1) (jMin (lsw (pw B k) i) (pw B k i))) 65 i (jMax (mxw (fun j => pw B j i) k) (pw B k i))) := Kp_u (Kp_u (Kp_u (Kp_r _ _) (by omega)) (by omega)) (by omega)
  have a1 : ∀ e, e ≤ i + 1 → (up (up (up g 58 (i + 1) (sm (fun d => cst B (pch B k d)) i + cst B (pch B k i))) 59 (i + 1) (jMin (lsw (pw B k) i) (pw B k i))) 65 i (jMax (mxw (fun j => pw B j i) k) (pw B k i))) 58 e = sm (fun d => cst B (pch B k d)) e ∧ (up (up (up g 58 (i + 1) (sm (fun d => cst B (pch B k d)) i + cst B (pch B k i))) 59 (i + 1) (jMin (lsw (pw B k) i) (pw B k i))) 65 i (jMax (mxw (fun j => pw B j i) k) (pw B k i))) 59 e = lsw (pw B k) e := by
    intro e he
    by_cases h : e = i + 1
    · subst h
      rw [up_n (by omega), up_n (by omega), up_s, up_n (by omega), up_s]
      exact ⟨rfl, rfl⟩
    · rw [up_n (by omega), up_n (by omega), up_n (by omega), up_n (by omega), up_n (by omega), up_n (by omega)]
      exact w1 e (by omega)
  have a2 : ∀ d, d < nD B → (up (up (up g 58 (i + 1) (sm (fun d => cst B (pch B k d)) i + cst B (pch B k i))) 59 (i + 1) (jMin (lsw (pw B k) i) (pw B k i))) 65 i (jMax (mxw (fun j => pw B j i) k) (pw B k i))) 65 d = mxw (fun j => pw B j d) (if d < i + 1 then k + 1 else k) := by
    intro d hd
    by_cases h : d = i
    · subst h
      rw [up_s, if_pos (by omega)]
      rfl
    · rw [up_n (by omega), up_n (by omega), up_n (by omega), w2 d hd]
      have : (if d < i then k + 1 else k) = (if d < i + 1 then k + 1 else k) := by split <;> split <;> omega
      rw [this]
  generalize up (up (up g 58 (i + 1) (sm (fun d => cst B (pch B k d)) i + cst B (pch B k i))) 59 (i + 1) (jMin (lsw (pw B k) i) (pw B k i))) 65 i (jMax (mxw (fun j => pw B j i) k) (pw B k i)) = g1 at *
  have hP1 : PK B idn (pw B k) (i + 1) g1 := PK_k hP (fun a j h1 h2 => hk1 a j (by omega))
  rw [passedOn_e hB hP1 (by omega) (by omega), b2_some]
  have same : ∀ c, pas B idn (pw B k) (i + 1) c ≠ (i : Int) → fdk B (if pas B idn (pw B k) i c = -1 then k else k + 1) c = fdk B (if pas B idn (pw B k) (i + 1) c = -1 then k else k + 1) c := by
    intro c hc
    have hs := pas_s (B := B) (od := idn) (w := pw B k) (b := c) i
    by_cases h : pas B idn (pw B k) i c = -1
    · rcases hs.2 h with h2 | h2
      · rw [h, h2]
      · exact absurd h2 hc
    · rw [hs.1 h]
  have diff : ∀ c, pas B idn (pw B k) (i + 1) c = (i : Int) → fdk B (if pas B idn (pw B k) i c = -1 then k else k + 1) c = fdk B k c ∧ fdk B (if pas B idn (pw B k) (i + 1) c = -1 then k else k + 1) c = if fdk B k c = -1 ∨ (i : Int) < fdk B k c then (i : Int) else fdk B k c := by
    intro c hc
    have hs := pas_s (B := B) (od := idn) (w := pw B k) (b := c) i
    have hr := pas_r (B := B) (od := idn) (w := pw B k) (b := c) i
    have h : pas B idn (pw B k) i c = -1 := by
      by_cases h : pas B idn (pw B k) i c = -1
      · exact h
      · have := hs.1 h; omega
    have e2 : pp B k c = (i : Int) := by
      have := pas_D (B := B) (od := idn) (w := pw B k) (b := c) (e := i + 1) (D := nD B) (by omega) (by omega)
      unfold pp
      rw [this, hc]
    refine ⟨by rw [if_pos h], ?_⟩
    rw [if_neg (by omega), fdk_s, e2]
    by_cases q : fdk B k c = -1 ∨ (i : Int) < fdk B k c
    · rw [if_pos q, if_pos ⟨by omega, q⟩]
    · rw [if_neg q, if_neg (fun h => q h.2)]
  have hbs := bts_s (p := fun c => decide (pas B idn (pw B k) (i + 1) c = (i : Int))) (nC B) (by omega)
  have hC1 : CT B g1 := CT_k hC (fun a j h => hk1 a j (by omega)) hB
  refine forX (fun n x (s : Mm) => FX3_note_57_4_48_78 n (i : Int) (bts (fun c => decide (pas B idn (pw B k) (i + 1) c = (i : Int))) (nC B)) x s)
    (fun c s => Kp (fun a _ => a = 66) g1 s ∧ ∀ c', c' < nC B → s 66 c' = if c' < c then fdk B (if pas B idn (pw B k) (i + 1) c' = -1 then k else k + 1) c' else fdk B (if pas B idn (pw B k) i c' = -1 then k else k + 1) c') _ (nC B) ?_ ?_ fu 0 g1 ⟨Kp_r _ _, fun c' hc' => by rw [if_neg (by omega), hk1 66 c' (by omega)]; exact w3 c' hc'⟩ (by omega) (by have := fub; omega)
  · rintro n s ⟨h1, h2⟩
    have e5 : s 4 5 = (nC B : Int) := by rw [h1 4 5 (by omega), hC1.1.2.2.2.2.2.1, hCe]
    rw [FX3_note_57_4_48_78, if_pos (by omega)]
    refine Wp_some ⟨fun a j h => by rw [h1 a j (by omega), hk1 a j (by omega)], fun e he => ?_, fun d hd => ?_, fun c hc => ?_⟩
    · rw [h1 58 e (by omega), h1 59 e (by omega)]; exact a1 e he
    · rw [h1 65 d (by omega)]; exact a2 d hd
    · rw [h2 c hc, if_pos hc]
  · rintro n c s hc ⟨h1, h2⟩
    have e5 : s 4 5 = (nC B : Int) := by rw [h1 4 5 (by omega), hC1.1.2.2.2.2.2.1, hCe]
    rw [FX3_note_57_4_48_78, if_neg (by omega)]
    by_cases hz : bts (fun c => decide (pas B idn (pw B k) (i + 1) c = (i : Int))) (nC B) = 0
    · right
      rw [if_pos hz]
      refine Wp_some ⟨fun a j h => by rw [h1 a j (by omega), hk1 a j (by omega)], fun e he => ?_, fun d hd => ?_, fun c' hc' => ?_⟩
      · rw [h1 58 e (by omega), h1 59 e (by omega)]; exact a1 e he
      · rw [h1 65 d (by omega)]; exact a2 d hd
      · have hn : pas B idn (pw B k) (i + 1) c' ≠ (i : Int) := fun q => by
          have := hbs.2 c' (by omega)
          rw [hz, hb_0 (by omega), decide_eq_true hc', decide_eq_true q] at this
          cases this
        rw [h2 c' hc']
        split
        · rfl
        · exact same c' hn
    · left
      rw [if_neg hz, holds_e, b2_some, hbs.2 c (by omega), decide_eq_true hc, Bool.true_and]
      unfold FX3_note_57_4_48_124 FX3_note_57_4_48_132
      rw [nx c (by omega)]
      have e66 := h2 c hc
      rw [if_neg (by omega)] at e66
      have keep : pas B idn (pw B k) (i + 1) c ≠ (i : Int) ∨ ¬ (fdk B k c = -1 ∨ (i : Int) < fdk B k c) → ∀ c', c' < nC B → s 66 c' = if c' < c + 1 then fdk B (if pas B idn (pw B k) (i + 1) c' = -1 then k else k + 1) c' else fdk B (if pas B idn (pw B k) i c' = -1 then k else k + 1) c' := by
        intro hor c' hc'
        by_cases hcc : c' = c
        · subst hcc
          rw [if_pos (by omega), e66]
          by_cases hq : pas B idn (pw B k) (i + 1) c' = (i : Int)
          · rcases hor with h | h
            · exact absurd hq h
            · rw [(diff c' hq).1, (diff c' hq).2, if_neg h]
          · exact same c' hq
        · rw [h2 c' hc']
          by_cases hlt : c' < c
          · rw [if_pos hlt, if_pos (show c' < c + 1 by omega)]
          · rw [if_neg hlt, if_neg (show ¬ c' < c + 1 by omega)]
      have put : pas B idn (pw B k) (i + 1) c = (i : Int) → (fdk B k c = -1 ∨ (i : Int) < fdk B k c) → ∀ c', c' < nC B → up s 66 c (i : Int) 66 c' = if c' < c + 1 then fdk B (if pas B idn (pw B k) (i + 1) c' = -1 then k else k + 1) c' else fdk B (if pas B idn (pw B k) i c' = -1 then k else k + 1) c' := by
        intro hq hor c' hc'
        by_cases hcc : c' = c
        · subst hcc
          rw [if_pos (by omega), up_s, (diff c' hq).2, if_pos hor]
        · rw [up_n (by omega), h2 c' hc']
          by_cases hlt : c' < c
          · rw [if_pos hlt, if_pos (show c' < c + 1 by omega)]
          · rw [if_neg hlt, if_neg (show ¬ c' < c + 1 by omega)]
      by_cases hq : pas B idn (pw B k) (i + 1) c = (i : Int)
      · have hI : (0 : Int) ≤ (c : Int) ∧ (c : Int) < 6 := by omega
        rw [decide_eq_true hq, if_neg (by decide)]
        simp only [if_pos hI]
        rw [Int.toNat_natCast, e66, (diff c hq).1]
        by_cases q1 : fdk B k c = -1
        · rw [if_pos q1]
          exact ⟨_, rfl, Kp_u h1 rfl, put hq (Or.inl q1)⟩
        · rw [if_neg q1]
          by_cases q2 : fdk B k c ≤ (i : Int)
          · rw [if_pos q2]
            exact ⟨_, rfl, h1, keep (by omega)⟩
          · rw [if_neg q2]
            exact ⟨_, rfl, Kp_u h1 rfl, put hq (by omega)⟩
      · rw [decide_eq_false hq, if_pos (by decide)]
        exact ⟨_, rfl, h1, keep (Or.inl hq)⟩
