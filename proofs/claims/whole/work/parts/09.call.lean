/-! calls -/
/-- the callee: its words are among the lasting ones -/
def CO (M : MT) (n : Nat) : Prop := Cond.code (mY M) (mC M) (mL M) (mR M) ∈ tblG ∧ Cond.initialized (mY M).cls ∈ tblG ∧ ((mY M).cls ≠ "java/lang/invoke/MethodHandle" ∧ (mY M).cls ≠ "java/lang/invoke/VarHandle") ∧ (parseMethodDescriptor (mY M).desc).map (fun d => d.parameters.length) = some n
theorem CO_ws {M : MT} {n : Nat} (h : CO M n) : GoodIn tblG (wsM M) := fun w hw => by
  rcases List.mem_cons.mp hw with rfl | hw
  · exact ⟨h.1, tblG_good _ h.1⟩
  · exact ⟨hw, tblG_good w hw⟩
theorem Pcc_blind (G : GT) (av : List AV) (μ : Mem) : FrameBlind (Pcc G av μ) := fun a U g mk h => ⟨h.1, h.2.1.calling g mk a, h.2.2.1, h.2.2.2⟩
theorem CO_B {M Mc : MT} {n d mc ms : Nat} {R : Room} {s : State} {args : Array Value} {idx : Nat} (h : CO Mc n) (hts : ∀ w ∈ tblG, w.before args s = true) (hl : Cond.methodLink (mY M).cls idx (mY Mc) ∈ tblG) (hR : d + 1 ≤ R.frames ∧ 8 + (mL Mc + 11) + 40 * d ≤ R.locals) : CallB R s args (mY M).cls idx (mY Mc) (mC Mc) (mL Mc) (mR Mc) (wsM Mc) (Rm d mc ms) mc ms n :=
  callB_of n hts (CO_ws h) rfl rfl rfl (hts _ h.2.1) (hts _ hl) ⟨h.2.2.1.1, h.2.2.1.2, h.2.2.2⟩ hR
section Call
variable {G : GT} {l : Launch} {M Mc : MT} {R : Room} {Z : List Frame → Array Value → State → State → Prop} {cs sl pc : Nat} {L : List (Option AV)} {S : List AV} {μ : Mem} {d mc ms idx n : Nat} {av : List AV} {Q' : Option AV → Mem → Prop}
theorem ev_back {p : Program} {e : Env} {s : State} {m : MethodId} {args : Array Value} {below : List Frame} {meth : Method} {c : Code} {H : Heap} {locs : List Loc} {ls : Array Slot} {st0 : List Value} {as : Array Value}
    (hr : va_Run p l e R s m args below meth c H locs cs sl mc ms (F0 m pc ls st0) (S.map (vO G)) (Qcc G Q' as) (gA G)) (C : CF p s m args meth c M) (hs : St G s) (hS : va_S (gA G) s.heap H locs) (hn : ∀ v ∈ S, nV v) (hl : LR G ls (mL M) L)
    (kk : ∀ (r : Option AV) (μ' : Mem), Q' r μ' → Ev G l M R Z (cs + mc) (sl + ms) (pc + 3) L (r.toList ++ S) μ') : W p l e R s m args below meth c H locs cs sl (Z below args s) (F0 m pc ls st0) := by
  intro T hT X
  obtain ⟨v, st₀, t, T', L', h0, X', hL', e1, e2, ⟨⟨r, μ', hv, hq, hw', hnv⟩, hz, hk⟩, st⟩ := hr T hT X
  have hvr : v = r.map (vO G) := by
    injection hv
  subst hvr
  rw [h0] at hz hk
  have hS' : va_S (gA G) s.heap T'.heap (locs ++ L') := ⟨Nat.le_trans hS.1 (by rw [e1]; exact hz), fun q h1 h2 => by rw [e1, hk q (Nat.lt_of_lt_of_le h1 hS.1) h2]; exact hS.2.1 q h1 h2, fun q hq => by
    rcases List.mem_append.mp hq with h | h
    · exact hS.2.2 q h
    · exact hL' q h⟩
  have hn' : ∀ u ∈ r.toList ++ S, nV u := by
    intro u hu
    rcases List.mem_append.mp hu with h | h
    · cases r with
      | none => cases h
      | some x => simp at h; subst h; exact hnv _ rfl
    · exact hn u h
  have hW := kk r μ' hq p e s m args below meth c T'.heap (locs ++ L') ls C hs hS' (by rw [e1]; exact hw') hn' hl
  have est : (r.toList ++ S).map (vO G) = (r.map (vO G)).toList ++ S.map (vO G) := by cases r <;> rfl
  rw [est] at hW
  obtain ⟨t2, a1, b1⟩ := hW T' rfl X'
  exact ⟨t2, st t2 a1, b1⟩
theorem st_app (G : GT) (av S : List AV) (v : AV) : (av.reverse ++ v :: S).map (vO G) = (av.map (vO G)).reverse ++ vO G v :: S.map (vO G) := by simp
theorem st_app' (G : GT) (av S : List AV) : (av.reverse ++ S).map (vO G) = (av.map (vO G)).reverse ++ S.map (vO G) := by simp
theorem nV_app {av S : List AV} (h : ∀ v ∈ av.reverse ++ S, nV v) : (∀ v ∈ av, nV v) ∧ ∀ v ∈ S, nV v := ⟨fun v hv => h v (List.mem_append_left _ (List.mem_reverse.mpr hv)), fun v hv => h v (List.mem_append_right _ hv)⟩
/-- a virtual call of a method of our own -/
theorem ev_callV {b ci N : Nat} {T : u_T} (hd : decode (mC M) pc = .ok (.invokevirtual idx, 3)) (hret : Ret G l Mc d mc ms (vR b :: av) μ Q') (hco : CO Mc n) (hlk : Cond.methodLink (mY M).cls idx (mY Mc) ∈ tblG) (hin : Cond.instanceMethod (mY Mc) ∈ tblG) (hse : Cond.selects (mY Mc).cls (mY Mc) (mY Mc) ∈ tblG)
    (hb : μ.1[b]? = some (10 + ci, N)) (hkl : kls[ci]? = some ((mY Mc).cls, T, N)) (hav : av.length = n) (hR : d + 1 ≤ R.frames ∧ 8 + (mL Mc + 11) + 40 * d ≤ R.locals) (hst : ((S.map (vO G)).map fun v => v.category).sum ≤ 8) (hcm : cs + mc ≤ R.cells ∧ sl + ms ≤ R.slots)
    (kk : ∀ (r : Option AV) (μ' : Mem), Q' r μ' → Ev G l M R Z (cs + mc) (sl + ms) (pc + 3) L (r.toList ++ S) μ') : Ev G l M R Z cs sl pc L (av.reverse ++ vR b :: S) μ := by
  intro p e s m args below meth c H locs ls C hs hS hw hn hl
  obtain ⟨sh, rf, f⟩ := μ
  have hts := C.2.2.2.2.2.1
  have he := wO_get (G := G) (rf := rf) (f := f) hb
  rw [cO_obj] at he
  have hrec := va_recv hs.1 hw.1 hkl he
  have ea : aO G b = gN G + b := a_lt hw hb
  obtain ⟨hn1, hn2⟩ := nV_app hn
  rw [st_app]
  refine ev_back (va_runV (As := av.map (vO G)) (rest := S.map (vO G)) (b := aO G b) (C := (mY Mc).cls) ⟨C.1, C.2.1, C.2.2.2.1, C.2.2.2.2.1, hts⟩ hret ⟨CO_B hco hts hlk hR, hts _ hin, hts _ hse⟩ ⟨Pcc_blind G _ _, by rw [ea]; exact hrec, fun U hU hW => ⟨rfl, hs.go hW (by rw [hU]; exact hS), by rw [hU]; exact hw, nc trivial hn1⟩⟩ rfl (by simpa using hav) hl.1 rfl (lv_room hst) hd hcm) C hs hS (n2 hn2) hl kk
/-- a static call -/
theorem ev_callS (hd : decode (mC M) pc = .ok (.invokestatic idx, 3)) (hret : Ret G l Mc d mc ms av μ Q') (hco : CO Mc n) (hlk : Cond.methodLink (mY M).cls idx (mY Mc) ∈ tblG) (hin : Cond.static (mY Mc) ∈ tblG)
    (hav : av.length = n) (hR : d + 1 ≤ R.frames ∧ 8 + (mL Mc + 11) + 40 * d ≤ R.locals) (hst : ((S.map (vO G)).map fun v => v.category).sum ≤ 8) (hcm : cs + mc ≤ R.cells ∧ sl + ms ≤ R.slots)
    (kk : ∀ (r : Option AV) (μ' : Mem), Q' r μ' → Ev G l M R Z (cs + mc) (sl + ms) (pc + 3) L (r.toList ++ S) μ') : Ev G l M R Z cs sl pc L (av.reverse ++ S) μ := by
  intro p e s m args below meth c H locs ls C hs hS hw hn hl
  have hts := C.2.2.2.2.2.1
  obtain ⟨hn1, hn2⟩ := nV_app hn
  rw [st_app']
  refine ev_back (va_runS (As := av.map (vO G)) (rest := S.map (vO G)) ⟨C.1, C.2.1, C.2.2.2.1, C.2.2.2.2.1, hts⟩ hret ⟨CO_B hco hts hlk hR, hts _ hin⟩ ⟨Pcc_blind G _ _, fun U hU hW => ⟨rfl, hs.go hW (by rw [hU]; exact hS), by rw [hU]; exact hw, hn1⟩⟩ rfl (by simpa using hav) hl.1 rfl (lv_room hst) hd hcm) C hs hS hn2 hl kk
/-- a static call of a nest mate's own -/
theorem ev_callSN (hd : decode (mC M) pc = .ok (.invokestatic idx, 3)) (hret : Ret G l Mc d mc ms av μ Q') (hco : CO Mc n) (hlk : Cond.methodLinkNest (mY M).cls idx (mY Mc) RX10 ∈ nstW) (hin : Cond.static (mY Mc) ∈ tblG)
    (hav : av.length = n) (hR : d + 1 ≤ R.frames ∧ 8 + (mL Mc + 11) + 40 * d ≤ R.locals) (hst : ((S.map (vO G)).map fun v => v.category).sum ≤ 8) (hcm : cs + mc ≤ R.cells ∧ sl + ms ≤ R.slots)
    (kk : ∀ (r : Option AV) (μ' : Mem), Q' r μ' → Ev G l M R Z (cs + mc) (sl + ms) (pc + 3) L (r.toList ++ S) μ') : Ev G l M R Z cs sl pc L (av.reverse ++ S) μ := by
  intro p e s m args below meth c H locs ls C hs hS hw hn hl
  have hts := C.2.2.2.2.2.1
  obtain ⟨hn1, hn2⟩ := nV_app hn
  rw [st_app']
  refine ev_back (va_runSN (As := av.map (vO G)) (rest := S.map (vO G)) ⟨C.1, C.2.1, C.2.2.2.1, C.2.2.2.2.1, hts⟩ hret ⟨va_cnB n hts (CO_ws hco) rfl rfl rfl (hs.2.2.2.1 _ hlk) (hts _ hco.2.1) ⟨hco.2.2.1.1, hco.2.2.1.2, hco.2.2.2⟩ hR, hts _ hin, trivial⟩ ⟨Pcc_blind G _ _, fun U hU hW => ⟨rfl, hs.go hW (by rw [hU]; exact hS), by rw [hU]; exact hw, hn1⟩⟩ rfl (by simpa using hav) hl.1 rfl (lv_room hst) hd hcm) C hs hS hn2 hl kk
end Call
