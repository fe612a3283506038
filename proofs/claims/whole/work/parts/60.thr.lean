/-! THROWING: what must hold beside the tables' words, and that it is kept -/
def ISE : String := "java/lang/IllegalStateException"
def IAE : String := "java/lang/IllegalArgumentException"
def x_up : List String := ["java/lang/RuntimeException", "java/lang/Exception"]
def x_tab : List Cond := [.castable ISE ISE, .castable IAE IAE, .declares (Bundle.initS "java/lang/RuntimeException"), .declares (Bundle.initS "java/lang/Exception"), .declares (Bundle.initS Bundle.tN)]
def x_not : List Cond := [.not (.castable IAE ISE), .not (.castable ISE IAE)]
def x_lay : List (String × String × String) := [(Bundle.tN, "UNASSIGNED_STACK", Bundle.steD), (Bundle.tN, "SUPPRESSED_SENTINEL", Bundle.listD)]
def x_str : List (Nat × String) := [(101, "there is no model"), (111, "the prompt has no token or too many"), (124, "there is no run or it has ended"), (129, "the steps are not 1 to 20")]
def x_W (U : State) : Prop := (∀ w ∈ x_tab ++ x_not, ∀ A, w.before A U = true) ∧ (∀ q ∈ x_lay, ∀ A, (Cond.laysStatic q.1 q.2.1 q.2.2).before A U = true ∧ (Cond.isRef (.static q.1 q.2.1 q.2.2)).before A U = true) ∧ ∀ q ∈ x_str, ∃ a, vk_R "CachedSpeaker" q.1 q.2 a U
theorem x_stat {o n d : String} {A A' : Array Value} {u U : State} (hv : u.vm.Alike U.vm) (hk : ∀ (q : Nat) (cell : Cell), u.heap[q]? = some cell → cell.vm.isStatics = true → U.heap[q]? = some cell)
    (h : (Cond.laysStatic o n d).before A u = true) (h2 : (Cond.isRef (.static o n d)).before A u = true) : (Cond.laysStatic o n d).before A' U = true ∧ (Cond.isRef (.static o n d)).before A' U = true := by
  obtain ⟨c, k, i, f, a, cell, hc, hf, hst, ha, hcell, hs, hcls, hlt, hty⟩ := Cond.laysStatic_spec h
  obtain ⟨k', hf', he⟩ := State.fieldFound?_setVm hv hf
  have hf2 : U.fieldFound? o n d = some (c, k', i, f) := hf'
  have hc2 : U.vm.findClass o = some c := by rw [← hc]; exact hv.findClass ..
  have hcell2 := hk a cell hcell hs
  have ha2 : k'.statics = some a := by rw [he]; exact ha
  have hty2 : k'.staticTypes[f.slot]? = some f.type := by rw [he]; exact hty
  have e1 : (Term.static o n d).eval A u none [] u = cell.slots[f.slot]? := by simp [Term.eval, State.fieldNamed?, hf, hst, ha, hcell, hs]
  have e2 : (Term.static o n d).eval A' U none [] U = cell.slots[f.slot]? := by simp [Term.eval, State.fieldNamed?, hf2, hst, ha2, hcell2, hs]
  refine ⟨by simp [Cond.before, Cond.holds, Cond.value, hc2, hf2, hst, ha2, hcell2, hs, hcls, hlt, hty2], ?_⟩
  simp only [Cond.before, Cond.holds, Cond.value, e1, e2] at h2 ⊢
  exact h2
theorem x_W.move {u U : State} (h : x_W u) (hW : u.WarmedH U.vm) (hk : ∀ (q : Nat) (cell : Cell), u.heap[q]? = some cell → cell.vm.isStatics = true → U.heap[q]? = some cell) : x_W U := by
  obtain ⟨h1, h2, h3⟩ := h
  refine ⟨fun w hw A => ?_, fun q hq A => x_stat (A := #[]) hW.alike hk (h2 q hq #[]).1 (h2 q hq #[]).2, fun q hq => ?_⟩
  · have hkeep : w.keepsCast = true := by
      have : ∀ w ∈ x_tab ++ x_not, w.keepsCast = true := by decide +kernel
      exact this w hw
    have g := Cond.before_shiftedCast (args := A) (State.Shifted.of_warmed hW) w hkeep (h1 w hw A)
    rcases List.mem_append.mp hw with hw | hw
    · have ht : w.onTables = true := by
        have : ∀ w ∈ x_tab, w.onTables = true := by decide +kernel
        exact this w hw
      exact va_tabs ht (u := u.setVm U.vm) rfl g
    · simp only [x_not, List.mem_cons, List.not_mem_nil, or_false] at hw
      rcases hw with rfl | rfl <;> exact g
  · obtain ⟨a, ha⟩ := h3 q hq
    exact ⟨a, ha.warm hW⟩
theorem x_own (ic : Nat) (X : String) (hX : (X = ISE ∧ ic = 103) ∨ (X = IAE ∧ ic = 113)) {args : Array Value} {s : State} (hts : ∀ w ∈ TS, w.before args s = true) (h : x_W s) : ∀ a ∈ Bundle.ownAtoms "CachedSpeaker" ic X x_up, a.before args s = true := by
  have key : ∀ a ∈ Bundle.ownAtoms "CachedSpeaker" ic X x_up, a ∈ TS ∨ a ∈ x_tab ∨ a ∈ x_lay.map (fun q => Cond.laysStatic q.1 q.2.1 q.2.2) ∨ a ∈ x_lay.map (fun q => Cond.isRef (.static q.1 q.2.1 q.2.2)) := by
    rcases hX with ⟨rfl, rfl⟩ | ⟨rfl, rfl⟩
    · decide +kernel
    · decide +kernel
  intro a ha
  rcases key a ha with q | q | q | q
  · exact hts a q
  · exact h.1 a (List.mem_append_left _ q) args
  · obtain ⟨z, hz, rfl⟩ := List.mem_map.mp q
    exact (h.2.1 z hz args).1
  · obtain ⟨z, hz, rfl⟩ := List.mem_map.mp q
    exact (h.2.1 z hz args).2
/-- the walk seen from a start that has the heap as it now is -/
theorem x_rebase {p : Program} {l : Launch} {e : Env} {R : Room} {s : State} {m : MethodId} {args : Array Value} {below : List Frame} {meth : Method} {c : Code} {T : State} {locs : List Loc} (X : Stand p l e R s m args below meth c T locs 0 0) :
    Stand p l e R { s with heap := T.heap } m args below meth c T [] 0 0 := by
  obtain ⟨e1, e2, e3, e4, e5, e6⟩ := X.same
  have hsz : T.heap.size = s.heap.size := Nat.le_antisymm e3 e2
  have hus : T.slotsUsed = s.slotsUsed := by
    have : T.slotsUsed = s.slotsUsed + _ := e4
    omega
  have hd : List.drop (Array.size T.heap) T.heap.toList = [] := List.drop_eq_nil_of_le (by rw [Array.length_toList]; exact Nat.le_refl _)
  have hroom := X.room
  have hbook : T.slotsTrue = true := X.book
  refine { admits := X.admits, cas := X.cas, clock := X.clock, frames := X.frames, room := ?_, hears := X.hears, method := X.method, code := X.code, here := X.here, tail := X.tail, warmed := X.warmed, limits := X.limits, bytes := X.bytes, same := ?_ }
  · simp only [State.hasRoom, Bool.and_eq_true] at hroom ⊢
    obtain ⟨⟨⟨⟨r1, r2⟩, r3⟩, r4⟩, r5⟩ := hroom
    refine ⟨⟨⟨⟨r1, r2⟩, ?_⟩, r4⟩, ?_⟩
    · show decide (T.heap.size + R.cells ≤ _) = true
      rw [hsz]; exact r3
    · simp only [State.slotsTrue] at hbook ⊢
      rw [← hus]
      exact hbook
  · refine ⟨?_, Nat.le_refl _, Nat.le_refl _, ?_, ?_, fun a c h => ⟨c, h, rfl, rfl, fun _ _ => rfl⟩⟩
    · exact e1
    · show T.slotsUsed = s.slotsUsed + ((T.heap.toList.drop T.heap.size).map (·.slots.size)).sum
      rw [hus, hd]; rfl
    · show ((T.heap.toList.drop T.heap.size).map (·.slots.size)).sum ≤ 0
      rw [hd]; exact Nat.le_refl _
