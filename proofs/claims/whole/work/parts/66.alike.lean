/-! bridges that differ in acts and pays alone have one table -/
def Al (B B' : Mm) : Prop := ∀ a j, ¬ (a = 1 ∨ a = 2 ∨ (a = 0 ∧ j = 7) ∨ (20 ≤ a ∧ j = 4)) → B a j = B' a j
theorem Al_n {B B' : Mm} (h : Al B B') : nD B = nD B' ∧ nK B = nK B' ∧ nC B = nC B' := by
  unfold nD nK nC
  rw [h 0 0 (by omega), h 0 5 (by omega), h 0 6 (by omega)]
  exact ⟨rfl, rfl, rfl⟩
theorem Al_mv {B B' : Mm} (h : Al B B') {w : Int} {s : Nat} (hs : s < 2) {x : Int} (hw : w < 5) : mv B w s x = mv B' w s x := by
  unfold mv
  rw [h (10 + w.toNat) (2 + s) (by omega)]
theorem Al_fdy {B B' : Mm} (h : Al B B') {ch : Nat → Int} {t2 tw tm : Int} {d s : Nat} (hs : s < 2) {x : Int} (hc : ch d < 5) (ht : tw < 5) : fdy B ch t2 tw tm d s x = fdy B' ch t2 tw tm d s x := by
  unfold fdy
  rw [Al_mv h hs hc, Al_mv h hs ht]
theorem Al_fbg {B B' : Mm} (h : Al B B') {ch : Nat → Int} {t2 tw tm co : Int} {s : Nat} (hs : s < 2) (ht : tw < 5) : ∀ d, (∀ e, e < d → ch e < 5) → fbg B ch t2 tw tm co s d = fbg B' ch t2 tw tm co s d
  | 0, _ => h 0 (1 + s) (by omega)
  | d + 1, hc => by
    unfold fbg
    rw [Al_fbg h hs ht d (fun e he => hc e (by omega)), Al_fdy h hs (hc d (by omega)) ht]
theorem Al_fl {B B' : Mm} (h : Al B B') {ch : Nat → Int} {t2 tw tm co : Int} {s d : Nat} (hs : s < 2) (ht : tw < 5) (hc : ∀ e, ch e < 5) : fl B ch t2 tw tm co s d = fl B' ch t2 tw tm co s d := by
  unfold fl
  rw [Al_fbg h hs ht d (fun e _ => hc e), Al_fdy h hs (hc d) ht]
theorem Al_wd {B B' : Mm} (h : Al B B') {ch : Nat → Int} {t2 tw tm co : Int} {d : Nat} (ht : tw < 5) (hc : ∀ e, ch e < 5) : wd B ch t2 tw tm co d = wd B' ch t2 tw tm co d := by
  unfold wd
  rw [Al_fl h (by decide) ht hc, Al_fl h (by decide) ht hc]
theorem Al_pcs {B B' : Mm} (h : Al B B') {od : Nat → Nat} {d : Nat} {q : Int × (Nat → Int)} : ∀ i, pcs B od d q i = pcs B' od d q i
  | 0 => rfl
  | i + 1 => by
    unfold pcs pst
    rw [Al_pcs h i, h (20 + od i) 1 (by omega), h (20 + od i) 2 (by omega)]
theorem Al_pas {B B' : Mm} (h : Al B B') {od : Nat → Nat} {w : Nat → Int} : ∀ d, pas B od w d = pas B' od w d
  | 0 => rfl
  | d + 1 => by
    show (pcs B od d (w d, pas B od w d) (nC B)).2 = (pcs B' od d (w d, pas B' od w d) (nC B')).2
    rw [Al_pas h d, Al_pcs h, (Al_n h).2.2]
theorem Al_inT {B B' : Mm} (h : Al B B') {p : Nat → Int} : inT B p = inT B' p := by
  funext c
  unfold inT
  rw [h (20 + c) 3 (by omega)]
theorem Al_cst {B B' : Mm} (h : Al B B') {w : Int} (hw : w < 5) : cst B w = cst B' w := by
  unfold cst
  rw [h (10 + w.toNat) 1 (by omega)]
theorem Al_pch {B B' : Mm} (h : Al B B') : pch B = pch B' := by
  funext k d
  unfold pch
  rw [(Al_n h).1, (Al_n h).2.1]
theorem pch_5 {B : Mm} (hB : WF B) (k e : Nat) : pch B k e < 5 := by
  have h1 := (WF_K hB).1
  have h2 := dg_lt (b := nK B + 1) (e := nD B - 1 - e) (k := k) (by omega)
  unfold pch
  split <;> omega
theorem Al_pw {B B' : Mm} (hB : WF B) (h : Al B B') : pw B = pw B' := by
  funext k d
  unfold pw
  rw [Al_wd h (by decide) (pch_5 hB k), Al_pch h, h 0 3 (by omega)]
theorem Al_pp {B B' : Mm} (hB : WF B) (h : Al B B') : pp B = pp B' := by
  funext k
  unfold pp
  rw [Al_pas h, Al_pw hB h, (Al_n h).1]
theorem Al_kp {B B' : Mm} (hB : WF B) (h : Al B B') : kpI B = kpI B' ∧ kp B = kp B' := by
  have e : kpI B = kpI B' := by
    funext k
    unfold kpI
    rw [Al_inT h, Al_pp hB h, (Al_n h).2.2]
  refine ⟨e, ?_⟩
  funext k
  unfold kp
  rw [e]
theorem Al_pco {B B' : Mm} (hB : WF B) (h : Al B B') : pco B = pco B' := by
  funext k
  unfold pco csts
  rw [(Al_n h).1, Al_pch h]
  refine sm_congr _ (fun d _ => ?_)
  rw [Al_cst h (by rw [← Al_pch h]; exact pch_5 hB k d)]
theorem Al_ls {B B' : Mm} (hB : WF B) (h : Al B B') : lsI B = lsI B' ∧ lsN B = lsN B' := by
  have e : lsI B = lsI B' := by
    funext k
    unfold lsI
    rw [Al_pw hB h, (Al_n h).1]
  refine ⟨e, ?_⟩
  funext k
  unfold lsN
  rw [e]
theorem Al_nP {B B' : Mm} (h : Al B B') : nP B = nP B' := by
  unfold nP
  rw [(Al_n h).1, (Al_n h).2.1]
theorem Al_fdk {B B' : Mm} (hB : WF B) (h : Al B B') : fdk B = fdk B' := by
  funext k c
  unfold fdk
  rw [Al_pp hB h]
theorem Al_TB {B B' : Mm} (hB : WF B) (h : Al B B') {k : Nat} {g : Mm} (hT : TB B k g) : TB B' k g := by
  unfold TB at *
  rw [← (Al_kp hB h).2, ← Al_pco hB h, ← (Al_ls hB h).2]
  exact hT
theorem Al_PF {B B' : Mm} (hB : WF B) (h : Al B B') {g : Mm} (hF : PF B g) : PF B' g := by
  obtain ⟨h1, h2, h3, h4, h5⟩ := hF
  refine ⟨by rw [← (Al_n h).1]; exact h1, by rw [← (Al_n h).2.1]; exact h2, by rw [← Al_nP h]; exact Al_TB hB h h3, fun d hd => ?_, fun c hc => ?_⟩
  · rw [← Al_nP h, ← Al_pw hB h]
    exact h4 d (by rw [(Al_n h).1]; exact hd)
  · rw [← Al_nP h, ← Al_fdk hB h]
    exact h5 c (by rw [(Al_n h).2.2]; exact hc)
theorem Al_PT {B B' : Mm} (hB : WF B) (h : Al B B') {g : Mm} (hF : PT B g) : PT B' g := fun q => Al_PF hB h (hF q)
/-- a cart that pays nothing -/
def pz (B : Mm) (c : Nat) : Mm := up B (20 + c) 4 0
theorem Al_pz (B : Mm) (c : Nat) : Al B (pz B c) := fun a j h => by unfold pz; rw [up_n (by omega)]
theorem pz_o {B : Mm} {c a j : Nat} (h : ¬ (a = 20 + c ∧ j = 4)) : pz B c a j = B a j := up_n h
theorem WF_pz {B : Mm} (hB : WF B) {c : Nat} : WF (pz B c) := by
  have e : ∀ j, pz B c 0 j = B 0 j := fun j => pz_o (by omega)
  have eK : nK (pz B c) = nK B := by unfold nK; rw [e]
  have eC : nC (pz B c) = nC B := by unfold nC; rw [e]
  have eA : nA (pz B c) = nA B := by unfold nA; rw [e]
  have hK := (WF_K hB).1
  unfold WF
  rw [eK, eC, eA]
  simp only [e]
  obtain ⟨h1, h2, h3, h4, h5, h6, h7, h8, h9, h10, h11, h12, h13⟩ := hB
  refine ⟨h1, h2, h3, h4, h5, h6, h7, h8, h9, h10, fun d hd => ?_, fun k hk => ?_, fun k hk => ?_⟩
  · rw [pz_o (by omega), pz_o (by omega), pz_o (by omega), pz_o (by omega)]
    exact h11 d hd
  · rw [pz_o (j := 0) (by omega), pz_o (j := 1) (by omega), pz_o (j := 2) (by omega), pz_o (j := 3) (by omega)]
    obtain ⟨q1, q2, q3, q4, q5⟩ := h12 k hk
    refine ⟨q1, q2, q3, q4, ?_⟩
    unfold pz
    rw [up_eq]
    split
    · exact ⟨by decide, by decide⟩
    · exact q5
  · rw [pz_o (by omega), pz_o (by omega)]
    exact h13 k hk
theorem bt_anx1 : ∀ x : Fin 64, ∀ c : Fin 6, ∀ j : Fin 6, hbit (bAnd (x.val : Int) (bXor (bShl 1 (c.val : Int)) (-1))) j.val = (hbit (x.val : Int) j.val && decide (j.val ≠ c.val)) := by decide +kernel
theorem pay_pz {B : Mm} (hB : WF B) {c x : Nat} (hc : c < nC B) (hx : x < 64) : sumf (pz B c) 4 (x : Int) = payS B (c : Int) (x : Int) := by
  have h6 := (WF_C hB).1
  have eC : nC (pz B c) = nC B := ((Al_n (Al_pz B c)).2.2).symm
  unfold payS sumf
  rw [eC, if_neg (by omega)]
  refine sm_congr _ (fun j hj => ?_)
  have e := bt_anx1 ⟨x, hx⟩ ⟨c, by omega⟩ ⟨j, by omega⟩
  try simp only at e
  rw [e]
  by_cases hjc : j = c
  · subst hjc
    unfold pz
    rw [up_s]
    simp
  · rw [pz_o (by omega)]
    simp [hjc]
theorem mn_c {p p' : Nat → Bool} {c c' : Nat → Int} : ∀ n, (∀ k, k < n → p k = p' k ∧ c k = c' k) → mn p c n = mn p' c' n
  | 0, _ => rfl
  | n + 1, h => by
    show (if p n = true ∧ (mn p c n = -1 ∨ c n < mn p c n) then c n else mn p c n) = (if p' n = true ∧ (mn p' c' n = -1 ∨ c' n < mn p' c' n) then c' n else mn p' c' n)
    rw [mn_c n (fun k hk => h k (by omega)), (h n (by omega)).1, (h n (by omega)).2]
theorem bW_pz {B : Mm} (hB : WF B) {c : Nat} (hc : c < nC B) : bW (pz B c) (sumf (pz B c) 4) = bW B (payS B (c : Int)) := by
  have hA := Al_pz B c
  unfold bW
  rw [← Al_nP hA]
  refine mn_c _ (fun k hk => ⟨rfl, ?_⟩)
  unfold vW
  rw [← (Al_kp hB hA).2, ← Al_pco hB hA, pay_pz hB hc (kp_r hB k).1]
