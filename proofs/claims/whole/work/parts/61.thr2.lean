/-! THROWING: new, dup, ldc, the constructor, athrow, from any place of a walk -/
def q_QT (cl : List vw_C) (sh : List qS) (D : va_G) (tc : Nat → ClassId) (ad : Nat → Nat) (X : String) (Post : qM → Prop) (A : Nat → Prop) : Array Value → State → Outcome → State → Prop := fun _ st o t =>
  ∃ (x : Nat) (M' : qM) (ce : Cell) (L : List Loc), o = .threw x ∧ st.heap.size ≤ x ∧ t.heap[x]? = some ce ∧ ce.vm = .none ∧ st.vm.findClass X = some ce.cls ∧ Post M' ∧ va_P D cl (q_wd tc ad M' 0 sh) t.heap ∧ va_F A st t ∧ st.WarmedH t.vm ∧ st.sameButNew ({ t with vm := st.vm } : State) L 1 6 ∧ ∀ q ∈ L, A q.base
theorem va_at_obj {D : va_G} {cl : List vw_C} {q : Nat × va_E} {H : Heap} (h : va_at D cl q H) : ∃ cell : Cell, H[q.1]? = some cell ∧ cell.vm.isStatics = false := by
  obtain ⟨a, e⟩ := q
  cases e with
  | inl z =>
    have h' : H[a]? = some (vp_cell z.1 z.2) := h
    refine ⟨_, h', ?_⟩
    obtain ⟨c, n, k⟩ := z
    rcases k with k | k | k | k | k <;> rfl
  | inr o =>
    obtain ⟨r, -, h1⟩ := h
    obtain ⟨cell, h2, -, h3, -⟩ := h1
    exact ⟨cell, h2, by rw [h3]; rfl⟩
theorem q_A_st {D : va_G} {cl : List vw_C} {tc : Nat → ClassId} {ad : Nat → Nat} {M : qM} {sh : List qS} {H : Heap} (hP : va_P D cl (q_wd tc ad M 0 sh) H) {q : Nat} {cell : Cell} (hq : H[q]? = some cell) (hs : cell.vm.isStatics = true) : ¬ q_A sh.length ad H.size q := by
  rintro (⟨k, hk, rfl⟩ | h)
  · have e : (q_wd tc ad M 0 sh)[k]? = some (ad k, q_c tc ad M k sh[k]) := by rw [q_wd_at, List.getElem?_eq_getElem hk, Option.map_some, Nat.zero_add]
    obtain ⟨c2, g1, g2⟩ := va_at_obj (hP k _ e)
    cases hq.symm.trans g1
    rw [g2] at hs; cases hs
  · have := (Array.getElem?_eq_some_iff.mp hq).1
    omega
set_option maxHeartbeats 1000000 in
theorem q_thr {p : Program} {l : Launch} {e : Env} {R : Room} {s : State} {m : MethodId} {args : Array Value} {below : List Frame} {meth : Method} {c : Code} {cc : ByteArray} {nL : Nat} {E : qE} {tc : Nat → ClassId} {D : va_G} {ad : Nat → Nat} {sc : Nat × (Nat → Int32)} {M0 : qM}
    (C : q_Cx p R s m args c TS "CachedSpeaker" cc nL E CL TY tc D SHP ad (q_A SHP.length ad s.heap.size) sc) (htr : l.stackTraces = false) (hx : x_W s) (hP0 : va_P D CL (q_wd tc ad M0 0 SHP) s.heap) (hR : 6 ≤ R.frames ∧ 100 ≤ R.locals ∧ 1 ≤ R.cells ∧ 6 ≤ R.slots) (hno : ∀ q x, x ∈ c.exceptionTable.toList → covers x q = false) (hlocks : meth.locks = false)
    {pc i0 k ic : Nat} {tx X : String} (hX : (X = ISE ∧ ic = 103) ∨ (X = IAE ∧ ic = 113)) (hw : Cond.classLink "CachedSpeaker" i0 X ∈ TS ∧ Cond.instantiable X 6 ∈ TS ∧ Cond.initialized X ∈ TS) (hk : (k, tx) ∈ x_str)
    (h0 : decode cc pc = .ok (.new i0, 3)) (h3 : decode cc (pc + 3) = .ok (.dup, 1)) (h4 : decode cc (pc + 4) = .ok (.ldc k, 2)) (h6 : decode cc (pc + 6) = .ok (.invokespecial ic, 3)) (h9 : decode cc (pc + 9) = .ok (.athrow, 1))
    {Post : qM → Prop} {lv : List Value} {M : qM} (hpo : Post M) :
    q_St p l e R s m args below meth c (fun t => ∃ o, t.status = .running ∧ Ended t below o ∧ q_QT CL SHP D tc ad X Post (q_A SHP.length ad s.heap.size) args s o t) nL CL tc D SHP ad (q_A SHP.length ad s.heap.size) 0 0 pc lv [] M := by
  obtain ⟨hexec, hbc, hml, hown, hts, hK, hinj, hAk, -⟩ := C
  intro H locs ls hP hS hl T hT X0
  have htr' : e.platform.stackTraces = false := by rw [X0.admits.platform]; exact htr
  have Xb := x_rebase X0
  have hts' : ∀ w ∈ TS, w.before args ({ s with heap := T.heap } : State) = true := fun w hw => word_at (U := { s with heap := T.heap }) (State.WarmedH.refl s) (TS_good w hw) (hts w hw)
  have hkeepS : ∀ (q : Nat) (cell : Cell), s.heap[q]? = some cell → cell.vm.isStatics = true → T.heap[q]? = some cell := fun q cell h1 h2 => by
    rw [hT, hS.2.1 q (Array.getElem?_eq_some_iff.mp h1).1 (q_A_st hP0 h1 h2)]; exact h1
  have hx' : x_W ({ s with heap := T.heap } : State) := hx.move (State.WarmedH.refl s) hkeepS
  obtain ⟨vm₁, cX, kX, hfX, hkX, -, -, X₁, st1⟩ := Xb.newCold hexec (own := "CachedSpeaker") (C := X) (index := i0) (n := 6) hown (hts' _ hw.1) (hts' _ hw.2.1) (hts' _ hw.2.2) (g := F0 m pc ls []) rfl (by rw [hbc]; exact h0) (by omega) (by omega)
  generalize hT1 : (T.setVm vm₁).pushCell { cls := cX, slots := kX.instanceTypes.map defaultValue, vm := .none } = T1 at X₁ st1
  have hcellA : T1.heap[T.heap.size]? = some (freshCell cX kX) := by rw [← hT1]; exact State.heap_pushCell_size _ _
  obtain ⟨sa, hsa⟩ := hx'.2.2 _ hk
  obtain ⟨U, hsteps, hrun, hend, hW, hsame, ce, hce, K⟩ := X₁.ctorThrowS hexec htr' (own := "CachedSpeaker") (cls := X) (names := x_up) (ic := ic) hown (by rcases hX with ⟨rfl, -⟩ | ⟨rfl, -⟩ <;> decide +kernel) (by decide +kernel)
    (x_own ic X hX hts' hx') (fun y hy => by cases hy) hfX hkX hcellA (Nat.le_refl _) (msg := .ref sa) rfl
    (g := F0 m (pc + 6) ls [.ref sa, .ref T.heap.size, .ref T.heap.size]) rfl (hl.1.trans hml.symm) rfl rfl (rest := []) rfl
    (by rw [hbc]; exact h6) (by rw [hbc]; exact h9) (hno _) (by show 2 + 3 < _; omega) (by show 2 * 0 + 1 + (13 * (2 + 1) + 42) ≤ _; omega)
  refine ⟨U, ?_, .threw T.heap.size, hrun, hend, ?_⟩
  · refine st1 _ ?_
    show Steps p.tables e below (T1.setTop (F0 m (pc + 3) ls [.ref T.heap.size])) _
    jvm_step X₁.here [X₁.here.top, hexec, hbc, h3, Value.category]
    exact X₁.ldcString hexec (own := "CachedSpeaker") (text := tx) (index := k) (a := sa) hown hsa.1 hsa.2 (g := F0 m (pc + 4) ls [.ref T.heap.size, .ref T.heap.size]) rfl (by rw [hbc]; exact h4) _ hsteps
  · obtain ⟨z1, z2, z3, z4, z5, z6⟩ := hsame
    have keepU : ∀ q : Nat, q < T.heap.size → U.heap[q]? = T.heap[q]? := fun q hq => by
      have hc : T.heap[q]? = some T.heap[q] := Array.getElem?_eq_getElem hq
      obtain ⟨c', g1, g2, -, g4⟩ := z6 q _ hc
      have es : c'.slots = (T.heap[q]).slots := Array.ext_getElem? (fun i => g4 i (fun z => by cases z))
      rw [es] at g2
      rw [show U.heap[q]? = some c' from g1, hc, g2]
    obtain ⟨y1, y2, y3, y4, y5, y6⟩ := X0.same
    have hsz : T.heap.size = s.heap.size := Nat.le_antisymm y3 y2
    refine ⟨T.heap.size, M, ce, locs, rfl, y2, hce, K.vm, K.cls, hpo, hP.kept (fun j q hq => ?_), ⟨?_, fun q h1 h2 => ?_⟩, hW, ⟨?_, ?_, ?_, ?_, ?_, fun a cl ha => ?_⟩, hS.2.2⟩
    · have hlt : q.1 < T.heap.size := by
        obtain ⟨cell, hcell, -⟩ := va_at_obj (hP j q hq)
        rw [hT]; exact (Array.getElem?_eq_some_iff.mp hcell).1
      rw [keepU _ hlt, hT]
    · exact Nat.le_trans y2 z2
    · rw [keepU q (Nat.lt_of_lt_of_le h1 y2), hT]; exact hS.2.1 q h1 h2
    · exact z1
    · exact Nat.le_trans y2 z2
    · have h := z3
      show U.heap.size ≤ s.heap.size + 1
      have h' : U.heap.size ≤ T.heap.size + (0 + 1) := h
      omega
    · have h : U.slotsUsed = s.slotsUsed + ((U.heap.toList.drop T.heap.size).map (·.slots.size)).sum := z4
      show U.slotsUsed = s.slotsUsed + ((U.heap.toList.drop s.heap.size).map (·.slots.size)).sum
      rw [← hsz]; exact h
    · have h : ((U.heap.toList.drop T.heap.size).map (·.slots.size)).sum ≤ 0 + 6 := z5
      show ((U.heap.toList.drop s.heap.size).map (·.slots.size)).sum ≤ 6
      rw [← hsz]; omega
    · obtain ⟨c', g1, g2⟩ := y6 a cl ha
      refine ⟨c', ?_, g2⟩
      have hlt : a < T.heap.size := (Array.getElem?_eq_some_iff.mp (show T.heap[a]? = some c' from g1)).1
      show U.heap[a]? = some c'
      rw [keepU a hlt]; exact g1
