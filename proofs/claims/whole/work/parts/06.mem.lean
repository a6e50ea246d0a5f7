/-! locals, fields, rows -/
def isJ : AV → Bool
  | .inr (.inl _) => true
  | _ => false
def dJ : Option AV → Option AV
  | some (.inr (.inl _)) => none
  | o => o
def stI : List (Option AV) → Nat → AV → List (Option AV)
  | [], _, _ => []
  | _ :: r, 0, v => some v :: r
  | o :: r, 1, v => dJ o :: stI r 0 v
  | o :: r, i + 2, v => o :: stI r (i + 1) v
def noT : List (Option AV) → List (Option AV)
  | [] => []
  | _ :: r => none :: r
def stJ : List (Option AV) → Nat → AV → List (Option AV)
  | [], _, _ => []
  | _ :: r, 0, v => some v :: noT r
  | o :: r, 1, v => dJ o :: stJ r 0 v
  | o :: r, i + 2, v => o :: stJ r (i + 1) v
def mkL : List (Option AV) → List Bool → List (Option AV)
  | [], _ => []
  | o :: r, [] => o :: r
  | o :: r, b :: bs => (if b then o else none) :: mkL r bs
theorem stI_len (v : AV) : ∀ (L : List (Option AV)) (i : Nat), (stI L i v).length = L.length
  | [], _ => rfl
  | _ :: r, 0 => rfl
  | o :: r, 1 => by simp [stI, stI_len v r 0]
  | o :: r, i + 2 => by simp [stI, stI_len v r (i + 1)]
theorem noT_len (r : List (Option AV)) : (noT r).length = r.length := by cases r <;> rfl
theorem stJ_len (v : AV) : ∀ (L : List (Option AV)) (i : Nat), (stJ L i v).length = L.length
  | [], _ => rfl
  | _ :: r, 0 => by simp [stJ, noT_len]
  | o :: r, 1 => by simp [stJ, stJ_len v r 0]
  | o :: r, i + 2 => by simp [stJ, stJ_len v r (i + 1)]
theorem mkL_len : ∀ (L : List (Option AV)) (b : List Bool), (mkL L b).length = L.length
  | [], _ => rfl
  | o :: r, [] => rfl
  | o :: r, b :: bs => by simp [mkL, mkL_len r bs]
theorem dJ_get {o : Option AV} {w : AV} (h : dJ o = some w) : o = some w ∧ isJ w = false := by
  cases o with
  | none => cases h
  | some x =>
    rcases x with x | x | x
    · cases h; exact ⟨rfl, rfl⟩
    · cases h
    · cases h; exact ⟨rfl, rfl⟩
theorem stI_get (v w : AV) : ∀ (L : List (Option AV)) (i j : Nat), (stI L i v)[j]? = some (some w) → (j = i ∧ w = v) ∨ (j ≠ i ∧ L[j]? = some (some w) ∧ ¬ (j + 1 = i ∧ isJ w = true))
  | [], _, _, h => by simp [stI] at h
  | _ :: r, 0, 0, h => by simp [stI] at h; exact Or.inl ⟨rfl, h.symm⟩
  | _ :: r, 0, j + 1, h => by simp [stI] at h; exact Or.inr ⟨by omega, by simpa using h, by omega⟩
  | o :: r, 1, 0, h => by
    simp [stI] at h
    obtain ⟨h1, h2⟩ := dJ_get h
    exact Or.inr ⟨by omega, by simp [h1], by simp [h2]⟩
  | o :: r, 1, j + 1, h => by
    simp [stI] at h
    rcases stI_get v w r 0 j h with ⟨h1, h2⟩ | ⟨h1, h2, h3⟩
    · exact Or.inl ⟨by omega, h2⟩
    · exact Or.inr ⟨by omega, by simpa using h2, by omega⟩
  | o :: r, i + 2, 0, h => by simp [stI] at h; exact Or.inr ⟨by omega, by simp [h], by omega⟩
  | o :: r, i + 2, j + 1, h => by
    simp [stI] at h
    rcases stI_get v w r (i + 1) j h with ⟨h1, h2⟩ | ⟨h1, h2, h3⟩
    · exact Or.inl ⟨by omega, h2⟩
    · exact Or.inr ⟨by omega, by simpa using h2, fun q => h3 ⟨by omega, q.2⟩⟩
theorem noT_get {w : AV} {r : List (Option AV)} {j : Nat} (h : (noT r)[j]? = some (some w)) : j ≠ 0 ∧ r[j]? = some (some w) := by
  cases r with
  | nil => simp [noT] at h
  | cons o r =>
    cases j with
    | zero => simp [noT] at h
    | succ j => simp [noT] at h; exact ⟨by omega, by simpa using h⟩
theorem stJ_get (v w : AV) : ∀ (L : List (Option AV)) (i j : Nat), (stJ L i v)[j]? = some (some w) → (j = i ∧ w = v) ∨ (j ≠ i ∧ j ≠ i + 1 ∧ L[j]? = some (some w) ∧ ¬ (j + 1 = i ∧ isJ w = true))
  | [], _, _, h => by simp [stJ] at h
  | _ :: r, 0, 0, h => by simp [stJ] at h; exact Or.inl ⟨rfl, h.symm⟩
  | _ :: r, 0, j + 1, h => by
    simp [stJ] at h
    obtain ⟨h1, h2⟩ := noT_get h
    exact Or.inr ⟨by omega, by omega, by simpa using h2, by omega⟩
  | o :: r, 1, 0, h => by
    simp [stJ] at h
    obtain ⟨h1, h2⟩ := dJ_get h
    exact Or.inr ⟨by omega, by omega, by simp [h1], by simp [h2]⟩
  | o :: r, 1, j + 1, h => by
    simp [stJ] at h
    rcases stJ_get v w r 0 j h with ⟨h1, h2⟩ | ⟨h1, h2, h3, h4⟩
    · exact Or.inl ⟨by omega, h2⟩
    · exact Or.inr ⟨by omega, by omega, by simpa using h3, by omega⟩
  | o :: r, i + 2, 0, h => by simp [stJ] at h; exact Or.inr ⟨by omega, by omega, by simp [h], by omega⟩
  | o :: r, i + 2, j + 1, h => by
    simp [stJ] at h
    rcases stJ_get v w r (i + 1) j h with ⟨h1, h2⟩ | ⟨h1, h2, h3, h4⟩
    · exact Or.inl ⟨by omega, h2⟩
    · exact Or.inr ⟨by omega, by omega, by simpa using h3, fun q => h4 ⟨by omega, q.2⟩⟩
theorem mkL_get {w : AV} : ∀ (L : List (Option AV)) (b : List Bool) (j : Nat), (mkL L b)[j]? = some (some w) → L[j]? = some (some w)
  | [], _, _, h => by simp [mkL] at h
  | o :: r, [], _, h => h
  | o :: r, b :: bs, 0, h => by cases b <;> simp [mkL] at h ⊢; exact h
  | o :: r, b :: bs, j + 1, h => by simp [mkL] at h ⊢; exact mkL_get r bs j h
theorem cat_vO (G : GT) (w : AV) : (vO G w).category = if isJ w then 2 else 1 := by rcases w with x | x | x <;> rfl
/-- the told locals, as places and values -/
def asc (G : GT) (L : List (Option AV)) : List (Nat × Value) := (List.range L.length).filterMap (fun j => match L[j]? with
  | some (some w) => some (j, vO G w)
  | _ => none)
theorem asc_mem {G : GT} {L : List (Option AV)} {j : Nat} {w : AV} (h : L[j]? = some (some w)) : (j, vO G w) ∈ asc G L := by
  refine List.mem_filterMap.mpr ⟨j, List.mem_range.mpr (List.getElem?_eq_some_iff.mp h).1, ?_⟩
  rw [h]
theorem asc_has {G : GT} {ls : Array Slot} {n : Nat} {L : List (Option AV)} (h : LR G ls n L) : lv_has ls n (asc G L) := by
  refine ⟨h.1, h.2.1, fun q hq => ?_⟩
  obtain ⟨j, -, hj⟩ := List.mem_filterMap.mp hq
  split at hj
  · rename_i w hw
    cases hj
    exact h.2.2.2.1 _ _ hw
  · cases hj
theorem LR_stI {G : GT} {ls ls' : Array Slot} {n i : Nat} {L : List (Option AV)} {v : AV} (h : LR G ls n L) (hv : nV v) (h' : lv_has ls' n ((i, vO G v) :: (asc G L).filter (fun q => !(q.1 == i) && !(q.1 + 1 == i && q.2.category == 2)))) : LR G ls' n (stI L i v) := by
  refine ⟨h'.1, h'.2.1, (stI_len v L i).trans h.2.2.1, fun j w hj => ?_, fun j w hj => ?_⟩
  · rcases stI_get v w L i j hj with ⟨rfl, rfl⟩ | ⟨h1, h2, h3⟩
    · exact h'.2.2 _ List.mem_cons_self
    · refine h'.2.2 (j, vO G w) (List.mem_cons_of_mem _ (List.mem_filter.mpr ⟨asc_mem h2, ?_⟩))
      simp only [cat_vO, Bool.and_eq_true, Bool.not_eq_true', beq_eq_false_iff_ne, ne_eq, Bool.and_eq_false_iff]
      refine ⟨h1, ?_⟩
      by_cases q : j + 1 = i
      · right
        cases hJ : isJ w
        · simp
        · exact absurd ⟨q, hJ⟩ h3
      · exact Or.inl q
  · rcases stI_get v w L i j hj with ⟨rfl, rfl⟩ | ⟨h1, h2, h3⟩
    · exact hv
    · exact h.2.2.2.2 j w h2
theorem LR_stJ {G : GT} {ls ls' : Array Slot} {n i : Nat} {L : List (Option AV)} {v : AV} (h : LR G ls n L) (hv : nV v) (h' : lv_has ls' n ((i, vO G v) :: (asc G L).filter (fun q => !(q.1 == i) && (!(q.1 == i + 1) && !(q.1 + 1 == i && q.2.category == 2))))) : LR G ls' n (stJ L i v) := by
  refine ⟨h'.1, h'.2.1, (stJ_len v L i).trans h.2.2.1, fun j w hj => ?_, fun j w hj => ?_⟩
  · rcases stJ_get v w L i j hj with ⟨rfl, rfl⟩ | ⟨h1, h2, h3, h4⟩
    · exact h'.2.2 _ List.mem_cons_self
    · refine h'.2.2 (j, vO G w) (List.mem_cons_of_mem _ (List.mem_filter.mpr ⟨asc_mem h3, ?_⟩))
      simp only [cat_vO, Bool.and_eq_true, Bool.not_eq_true', beq_eq_false_iff_ne, ne_eq, Bool.and_eq_false_iff]
      refine ⟨h1, h2, ?_⟩
      by_cases q : j + 1 = i
      · right
        cases hJ : isJ w
        · simp
        · exact absurd ⟨q, hJ⟩ h4
      · exact Or.inl q
  · rcases stJ_get v w L i j hj with ⟨rfl, rfl⟩ | ⟨h1, h2, h3, h4⟩
    · exact hv
    · exact h.2.2.2.2 j w h3
section RulesL
variable {G : GT} {l : Launch} {M : MT} {R : Room} {Z : List Frame → Array Value → State → State → Prop} {cs sl pc : Nat} {L L' : List (Option AV)} {S : List AV} {μ : Mem}
theorem ev_fg (b : List Bool) (hL : mkL L b = L') (k : Ev G l M R Z cs sl pc L' S μ) : Ev G l M R Z cs sl pc L S μ := by
  subst hL
  intro p e s m args below meth c H locs ls C hs hS hw hn hl
  exact k p e s m args below meth c H locs ls C hs hS hw hn ⟨hl.1, hl.2.1, (mkL_len L b).trans hl.2.2.1, fun i v h => hl.2.2.2.1 i v (mkL_get L b i h), fun i v h => hl.2.2.2.2 i v (mkL_get L b i h)⟩
theorem ev_istore_n {j : Fin 4} {i : Nat} {x : Int} (hd : decode (mC M) pc = .ok (.istore_n j, 1)) (hi : (j : Nat) = i) (hm : i < mL M) (hL : stI L i (vI x) = L') (k : Ev G l M R Z cs sl (pc + 1) L' S μ) : Ev G l M R Z cs sl pc L (vI x :: S) μ := by
  subst hL
  intro p e s m args below meth c H locs ls C hs hS hw hn hl
  exact lv_istore_n C.1 C.2.1 hd hi (asc_has hl) hm rfl (fun ls' hl' => k p e s m args below meth c H locs ls' C hs hS hw (n2 hn) (LR_stI hl (n1 hn) hl'))
theorem ev_istore {i : Nat} {x : Int} (hd : decode (mC M) pc = .ok (.istore i, 2)) (hm : i < mL M) (hL : stI L i (vI x) = L') (k : Ev G l M R Z cs sl (pc + 2) L' S μ) : Ev G l M R Z cs sl pc L (vI x :: S) μ := by
  subst hL
  intro p e s m args below meth c H locs ls C hs hS hw hn hl
  exact lv_istore C.1 C.2.1 hd (asc_has hl) hm rfl (fun ls' hl' => k p e s m args below meth c H locs ls' C hs hS hw (n2 hn) (LR_stI hl (n1 hn) hl'))
theorem ev_astore_n {j : Fin 4} {i : Nat} {x : Nat} (hd : decode (mC M) pc = .ok (.astore_n j, 1)) (hi : (j : Nat) = i) (hm : i < mL M) (hL : stI L i (vR x) = L') (k : Ev G l M R Z cs sl (pc + 1) L' S μ) : Ev G l M R Z cs sl pc L (vR x :: S) μ := by
  subst hL
  intro p e s m args below meth c H locs ls C hs hS hw hn hl
  exact lv_astore_n C.1 C.2.1 hd hi (asc_has hl) hm rfl (fun ls' hl' => k p e s m args below meth c H locs ls' C hs hS hw (n2 hn) (LR_stI hl (n1 hn) hl'))
theorem ev_astore {i : Nat} {x : Nat} (hd : decode (mC M) pc = .ok (.astore i, 2)) (hm : i < mL M) (hL : stI L i (vR x) = L') (k : Ev G l M R Z cs sl (pc + 2) L' S μ) : Ev G l M R Z cs sl pc L (vR x :: S) μ := by
  subst hL
  intro p e s m args below meth c H locs ls C hs hS hw hn hl
  exact lv_astore C.1 C.2.1 hd (asc_has hl) hm rfl (fun ls' hl' => k p e s m args below meth c H locs ls' C hs hS hw (n2 hn) (LR_stI hl (n1 hn) hl'))
theorem ev_lstore_n {j : Fin 4} {i : Nat} {x : Int} (hd : decode (mC M) pc = .ok (.lstore_n j, 1)) (hi : (j : Nat) = i) (hm : i + 1 < mL M) (hL : stJ L i (vJ x) = L') (k : Ev G l M R Z cs sl (pc + 1) L' S μ) : Ev G l M R Z cs sl pc L (vJ x :: S) μ := by
  subst hL
  intro p e s m args below meth c H locs ls C hs hS hw hn hl
  exact lv_lstore_n C.1 C.2.1 hd hi (asc_has hl) hm rfl (fun ls' hl' => k p e s m args below meth c H locs ls' C hs hS hw (n2 hn) (LR_stJ hl (n1 hn) hl'))
theorem ev_lstore {i : Nat} {x : Int} (hd : decode (mC M) pc = .ok (.lstore i, 2)) (hm : i + 1 < mL M) (hL : stJ L i (vJ x) = L') (k : Ev G l M R Z cs sl (pc + 2) L' S μ) : Ev G l M R Z cs sl pc L (vJ x :: S) μ := by
  subst hL
  intro p e s m args below meth c H locs ls C hs hS hw hn hl
  exact lv_lstore C.1 C.2.1 hd (asc_has hl) hm rfl (fun ls' hl' => k p e s m args below meth c H locs ls' C hs hS hw (n2 hn) (LR_stJ hl (n1 hn) hl'))
theorem ev_iinc {i : Nat} {n x : Int} (hd : decode (mC M) pc = .ok (.iinc i n, 3)) (hx : L[i]? = some (some (vI x))) (hm : i < mL M) (hL : stI L i (vI (w32 (x + n))) = L') (k : Ev G l M R Z cs sl (pc + 3) L' S μ) : Ev G l M R Z cs sl pc L S μ := by
  subst hL
  intro p e s m args below meth c H locs ls C hs hS hw hn hl
  obtain ⟨q, hq⟩ := List.getElem?_of_mem (asc_mem (G := G) hx)
  exact lv_iinc C.1 C.2.1 hd (asc_has hl) hq (i32_add x n) hm rfl (fun ls' hl' => k p e s m args below meth c H locs ls' C hs hS hw hn (LR_stI hl (w32_r (x + n)) hl'))
end RulesL
/-- what the tables say of a kind of objects -/
def KOK (ci : Nat) (C : String) (T : u_T) (N : Nat) : Prop := (∀ w ∈ u_ws C T N, w ∈ tblG) ∧ (∀ k, k < N → parseFieldDescriptor (T k).2.2.1 = some (ftab ci k)) ∧ ∀ a, a < N → ∀ b, b < N → a ≠ b → (T a).2.1 ≠ (T b).2.1
/-- a link to a field, from the pool of 'own' -/
def FL (own : String) (idx ci k : Nat) : Prop := ∃ (C : String) (T : u_T) (N : Nat), kls[ci]? = some (C, T, N) ∧ k < N ∧ KOK ci C T N ∧ Cond.fieldLink own idx (T k).1 (T k).2.1 (T k).2.2.1 ∈ tblG ∧ ((T k).2.2.2 = true → fty ci k = 2)
theorem aO_lt {G : GT} {a : Nat} (h : a < 100000) : aO G a = gN G + a := if_pos h
theorem cO_obj (G : GT) (ci n : Nat) (f : Nat → Int) (r : Nat → Option Nat) : cO G (10 + ci) n f r = .inr (ci, (List.range n).map (fun j => fO G (fty ci j) (f j) (r j))) := by
  unfold cO
  rw [if_neg (by omega), if_neg (by omega), if_neg (by omega), Nat.add_sub_cancel_left]
theorem fs_get {G : GT} {ci n k : Nat} {f : Nat → Int} {r : Nat → Option Nat} (h : k < n) : ((List.range n).map (fun j => fO G (fty ci j) (f j) (r j)))[k]? = some (fO G (fty ci k) (f k) (r k)) := by
  rw [List.getElem?_map, List.getElem?_range h]
  rfl
theorem nM_up {sh : Sh} {rf : Rf} {f : Mm} {a i : Nat} {x : Int} {q : Nat × Nat} (h : nM (sh, rf, f)) (hq : sh[a]? = some q) (hx : nk q.1 i x) : nM (sh, rf, up f a i x) := by
  intro b q' hb j
  show nk q'.1 j (up f a i x b j)
  unfold up
  by_cases hc : b = a ∧ j = i
  · rw [if_pos hc]
    obtain ⟨rfl, rfl⟩ := hc
    cases hb.symm.trans hq
    exact hx
  · rw [if_neg hc]
    exact h b q' hb j
theorem up_off {f : Mm} {a i : Nat} {x : Int} : ∀ b, b ≠ a → up f a i x b = f b := fun b hb => by
  funext j
  unfold up
  rw [if_neg (fun q => hb q.1)]
theorem up_at {f : Mm} {a i : Nat} {x : Int} : up f a i x a = fun j => if j = i then x else f a j := by
  funext j
  simp [up]
theorem fs_set {G : GT} {ci n k : Nat} {f : Nat → Int} {r : Nat → Option Nat} {x : Int} (hk : fty ci k ≠ 2) : ((List.range n).map (fun j => fO G (fty ci j) (f j) (r j))).set k (fO G (fty ci k) x (r k)) = (List.range n).map (fun j => fO G (fty ci j) (if j = k then x else f j) (r j)) := by
  apply List.ext_getElem?
  intro i
  by_cases hi : i = k
  · subst hi
    by_cases hl : i < n
    · rw [List.getElem?_set_self (by simpa using hl), List.getElem?_map, List.getElem?_range hl]
      simp
    · rw [List.getElem?_eq_none (by simp; omega), List.getElem?_eq_none (by simp; omega)]
  · rw [List.getElem?_set_ne (Ne.symm hi)]
    simp only [List.getElem?_map]
    by_cases hl : i < n
    · rw [List.getElem?_range hl]
      simp [hi]
    · rw [List.getElem?_eq_none (by simp; omega)]
      rfl
