/-! CATCHING: a virtual call that throws, caught in the caller by one of its rows -/
section XCALL
variable {p : Program} {l : Launch} {e : Env} {R : Room} {s : State} {m : MethodId} {args : Array Value} {below : List Frame} {meth : Method} {c : Code} {T : State} {locs : List Loc} {cells slots : Nat}
theorem x_callVT (X : Stand p l e R s m args below meth c T locs cells slots) (hexec : p.tables.exec = Jvm.exec) {own C : String} {index : Nat} {y : MethodName} {bytes : ByteArray} {maxL : Nat} {ret : Option FieldType}
    (hown : s.vm.findClass own = some m.cls) (hlink : (Cond.methodLink own index y).before args s = true) (hinst : (Cond.instanceMethod y).before args s = true) (hsel : (Cond.selects C y y).before args s = true)
    (hcode : (Cond.code y bytes maxL ret).before args s = true) (hy : y.cls ≠ "java/lang/invoke/MethodHandle" ∧ y.cls ≠ "java/lang/invoke/VarHandle")
    {W : Nat} {Pre : Pt → Array Value → Prop} {Post : Pt → Array Value → Addr → Pt → Prop} (hK : BackT l R p e below s args y 3 W Pre Post)
    {b : Addr} {cellB : Cell} (hcell : T.heap[b]? = some cellB) (hobj : cellB.vm.isStatics = false) (hcls : s.vm.findClass C = some cellB.cls)
    {g : JFrame} (hg : g.method = m) (hsize : g.locals.size = c.maxLocals) {argsL rest : List Value} (hlen : ∀ sig, parseMethodDescriptor y.desc = some sig → argsL.length = sig.parameters.length)
    (hstack : g.stack = argsL.reverse ++ .ref b :: rest) (hW : 2 * g.monitorRoom + (rest.map fun v => v.category).sum ≤ W) (hdg : decode c.code g.pc = .ok (.invokevirtual index, 3))
    (hpre : ∀ vm₁, s.WarmedH vm₁ → Pre ⟨T.setVm vm₁, locs, cells, slots⟩ (Value.ref b :: argsL).toArray) :
    ∃ (x : Addr) (vm₁ : Vm) (B : Pt), s.WarmedH vm₁ ∧ Stand p l e R s m args below meth c B.U B.locs B.cells B.slots ∧ Post ⟨T.setVm vm₁, locs, cells, slots⟩ (Value.ref b :: argsL).toArray x B ∧
      Steps p.tables e below (T.setTop g) ((B.U.setTop { g with stack := rest }).pushFrame (.throwing x)) := by
  obtain ⟨mk, methM, hnamed, hmethM, hstM, habM⟩ := Cond.instanceMethod_spec hinst
  obtain ⟨methM', cM, hmethM', -, -, -, -, -, -, hsigM⟩ := Cond.code_spec hnamed hcode
  cases hmethM.symm.trans hmethM'
  obtain ⟨c2, r2, m2, q1, q2, q3, q4, kP, hkP, hkPi⟩ := Cond.selects_spec hsel
  cases hcls.symm.trans q1
  cases (State.methodFound?_of_named hnamed hy).symm.trans q2
  cases hnamed.symm.trans q3
  have hselP : selectMethod e.platform s.vm cellB.cls mk = .method mk := by rw [Launch.admits_selectMethod X.admits]; exact q4
  obtain ⟨vm₁, X₁, hstep₁⟩ := X.invokevirtual hexec hown hlink hnamed hmethM hstM hkP hkPi hy (a := b) (cell := cellB) hcell
    (fun z h => by rw [h] at hobj; cases hobj) hselP hmethM habM hkP hkPi (g := g) hg (argsL := argsL) (rest := rest) (hlen _ hsigM) hstack hdg
  obtain ⟨x, B, X', hpost, hsteps⟩ := hK m meth c ⟨T.setVm vm₁, locs, cells, slots⟩ { g with stack := rest } (.invokevirtual index) mk (Value.ref b :: argsL).toArray X₁ hg hsize hdg hW (X₁.named hnamed) (hpre vm₁ X₁.warmed)
  exact ⟨x, vm₁, B, X₁.warmed, X', hpost, (hstep₁ _ fun acts => by rw [doInvoke_state]; exact Steps.refl _).trans hsteps⟩
theorem x_W.vm {U U' : State} (h : x_W U) (hv : U'.vm = U.vm) (hh : U'.heap = U.heap) : x_W U' := h.move (by rw [hv]; exact State.WarmedH.refl U) (fun q cell h1 _ => by rw [hh]; exact h1)
/-- the payer: a throw contract -/
theorem x_back {y : qD} {dC : Nat} {as : List Value} {M : qM} {X : String} {Post : qM → Prop} (hCT : q_CT l dC y as M X Post) {D : va_G} {tc : Nat → ClassId} {ad : Nat → Nat} {sz : Nat}
    (hfr : dC + 2 ≤ R.frames) (hlo : 8 + (y.2.2.1 + 11) + 36 * (dC + 1) ≤ R.locals) (hts : ∀ w ∈ TS, w.before args s = true) (hcode : Cond.code y.1 y.2.1 y.2.2.1 y.2.2.2 ∈ TS) (hini : Cond.initialized y.1.cls ∈ TS) :
    BackT l R p e below s args y.1 3 8 (fun A a => A.cells + 1 ≤ R.cells ∧ A.slots + 6 ≤ R.slots ∧ q_PcT D tc ad sz as M a A.U)
      (fun A a x B => ∃ (g : JFrame) (mk : MethodId) (t : State) (L : List Loc), B.U.heap = t.heap ∧ B.U.vm = t.vm ∧ q_QT CL SHP D tc ad X Post (q_A SHP.length ad sz) a (A.U.calling g mk a) (.threw x) t ∧ B.locs = A.locs ++ L ∧ (∀ q ∈ L, q_A SHP.length ad sz q.base) ∧ B.cells = A.cells + 1 ∧ B.slots = A.slots + 6) := by
  have hws : ∀ w ∈ q_ws TS y, ∀ (a' : Array Value) (U : State), s.WarmedH U.vm → w.before a' U = true := pay_in hts (q_good_in TS_good hcode)
  refine BackT.of_free (S := headSpec (q_ws TS y) (q_rmT dC)) (P := q_PcT D tc ad sz as M) (K := fun _ _ _ _ _ => True) (Q := q_QT CL SHP D tc ad X Post (q_A SHP.length ad sz)) (bytes := y.2.1) (maxL := y.2.2.1) (ret := y.2.2.2)
    (E := fun a st o t L k n => k = 1 ∧ n = 6 ∧ ∀ q ∈ L, q_A SHP.length ad sz q.base) (hCT D tc ad sz) hfr hlo ?_ ?_ (fun _ _ _ _ _ _ _ _ _ => trivial) ?_ ?_
  · intro m meth c A a X hp
    exact ⟨atoms_intro fun w hw => hws w hw _ _ X.warmed, hws _ List.mem_cons_self _ _ X.warmed, word_at X.warmed (TS_good _ hini) (hts _ hini), hp.1, hp.2.1⟩
  · intro m meth c A a g mk X hp
    exact ⟨q_blind _ _ _ _ hp.2.2.1, hp.2.2.2.vm rfl rfl⟩
  · intro a st o t hq
    obtain ⟨x, M', ce, L, rfl, h1, h2, h3, h4, h5, h6, h7, h8, h9, h10⟩ := hq
    exact ⟨L, 1, 6, ⟨⟨x, rfl⟩, h8, h9⟩, rfl, rfl, h10⟩
  · intro m meth c A a g mk v t L k n X hp hq hF ⟨e1, e2, hL⟩
    subst e1; subst e2
    exact ⟨g, mk, t, L, rfl, rfl, hq, rfl, hL, rfl, rfl⟩
end XCALL
