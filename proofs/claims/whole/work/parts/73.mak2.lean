/-! MAKING: contracts of constructors, and their calls -/
def g_Pc (D : va_G) (tc : Nat → ClassId) (o : Nat) (as : List Value) (ci : Nat) : Array Value → State → Prop := fun a U => a = (.ref o :: as).toArray ∧ g_P D o [.inr (ci, g_bl ci)] U.heap ∧ va_K D CL (q_tys tc) U ∧ g_Z U
def g_Qc (D : va_G) (o : Nat) (es : List va_E) : Array Value → State → Outcome → State → Prop := fun _ st oc t => (oc = .returned none ∧ g_P D o es t.heap) ∧ va_F (g_A o) st t
def g_CV (l : Launch) (d mc ms : Nat) (y : qD) (as : List Value) (ci : Nat) (res : (Nat → ClassId) → Nat → List va_E) : Prop :=
  ∀ (D : va_G) (tc : Nat → ClassId) (o : Nat), Met l y.1 (q_ws TS y) (q_rmW d mc ms) (g_Pc D tc o as ci) (g_Qc D o (res tc o)) mc ms (g_A o)
theorem g_blind {D : va_G} {tc : Nat → ClassId} {o : Nat} {as : List Value} {ci : Nat} : FrameBlind (g_Pc D tc o as ci) := fun a U g mk q => by
  obtain ⟨q0, q1, qK, qZ⟩ := q
  exact ⟨q0, q1, va_K.moved (u := U) (U := U.calling g mk a) (Vm.Alike.refl U.vm) qK, qZ.moved (U := U.calling g mk a) (State.WarmedH.refl U)⟩
section GCALL
variable {p : Program} {l : Launch} {e : Env} {R : Room} {s : State} {m : MethodId} {args : Array Value} {below : List Frame} {meth : Method} {c : Code} {Q : State → Prop}
variable {own : String} {cc : ByteArray} {nL : Nat} {E : qE} {tc : Nat → ClassId} {D : va_G} {o cells slots mc ms : Nat}
theorem g_callW {H : Heap} {locs : List Loc} {pc : Nat} {ls : Array Slot} {st0 rest : List Value} {a : Array Value} {o1 : Nat} {es' : List va_E} (hr : va_Run p l e R s m args below meth c H locs cells slots mc ms (F0 m pc ls st0) rest (g_Qc D o1 es' a) (g_A o1)) (hS : va_S (g_A o) s.heap H locs) (ho : o ≤ o1)
    (kk : ∀ (H1 : Heap) (locs1 : List Loc), g_P D o1 es' H1 → (∀ q, q < H.size → q < o1 → H1[q]? = H[q]?) → va_S (g_A o) s.heap H1 locs1 → W p l e R s m args below meth c H1 locs1 (cells + mc) (slots + ms) Q (F0 m (pc + 3) ls rest)) : W p l e R s m args below meth c H locs cells slots Q (F0 m pc ls st0) := by
  intro T hT X
  obtain ⟨v, st₀, t, T', L, h0, X', hL, e1, e2, ⟨⟨hv, hb⟩, hz, hk⟩, st⟩ := hr T hT X
  cases hv
  rw [h0] at hz hk
  obtain ⟨t2, a1, b1⟩ := kk T'.heap (locs ++ L) (by rw [e1]; exact hb) (fun q h1 h2 => by rw [e1]; exact hk q h1 (fun z => absurd h2 (Nat.not_lt.mpr z)))
    ⟨Nat.le_trans hS.1 (by rw [e1]; exact hz), fun q h1 h2 => by rw [e1, hk q (Nat.lt_of_lt_of_le h1 hS.1) (fun z => h2 (Nat.le_trans ho z))]; exact hS.2.1 q h1 h2, fun q hq => by
      rcases List.mem_append.mp hq with h | h
      · exact hS.2.2 q h
      · exact Nat.le_trans ho (hL q h)⟩ T' rfl X'
  exact ⟨t2, st t2 a1, b1⟩
def g_lk (y : qD) (n : Nat) : Prop := Cond.code y.1 y.2.1 y.2.2.1 y.2.2.2 ∈ TS ∧ Cond.initialized y.1.cls ∈ TS ∧ Cond.instanceMethod y.1 ∈ TS ∧ y.1.name = "<init>" ∧ y.2.2.2 = none ∧ (y.1.cls ≠ "java/lang/invoke/MethodHandle" ∧ y.1.cls ≠ "java/lang/invoke/VarHandle" ∧ (parseMethodDescriptor y.1.desc).map (fun d => d.parameters.length) = some n) ∧ y.2.2.1 ≤ 17
theorem g_callI (C : g_Cx p R s m args c own cc nL tc D o) {d n idx pc ci : Nat} {y : qD} (hy : g_lk y n) (hlink : Cond.methodLink own idx y.1 ∈ TS ∨ ∃ host, Cond.methodLinkNest own idx y.1 host ∈ g_nest) {as : List Value} (hn : as.length = n) {res : (Nat → ClassId) → Nat → List va_E} (hM : g_CV l d mc ms y as ci res)
    (hR : d + 2 ≤ R.frames ∧ 36 * (d + 2) ≤ R.locals) (hcs : cells + mc ≤ R.cells ∧ slots + ms ≤ R.slots) (hd : decode cc pc = .ok (.invokespecial idx, 3)) {lv : List (Nat × Value)} {rest : List Value} (hW : q_cats rest ≤ 8) {pre : List va_E}
    (kk : g_St p l e R s m args below meth c Q nL D o (cells + mc) (slots + ms) (pc + 3) lv rest (pre ++ res tc (o + pre.length))) : g_St p l e R s m args below meth c Q nL D o cells slots pc lv (as.reverse ++ .ref (o + pre.length) :: rest) (pre ++ [.inr (ci, g_bl ci)]) := by
  obtain ⟨hx, hb, hml, hown, hts, hK, hZ, -⟩ := C
  obtain ⟨w1, w2, w3, w4, w5, w6, w7⟩ := hy
  intro H locs ls hP hS hl
  have hroom : (q_rmW d mc ms).frames + 1 ≤ R.frames ∧ 8 + (y.2.2.1 + 11) + (q_rmW d mc ms).locals ≤ R.locals := ⟨by show d + 1 + 1 ≤ _; omega, by show 8 + (y.2.2.1 + 11) + 36 * (d + 1) ≤ _; omega⟩
  have hp : PreS s H (g_Pc D tc (o + pre.length) as ci) (.ref (o + pre.length) :: as) := ⟨g_blind, fun U hU hW => ⟨rfl, by rw [hU]; exact hP.last, va_K.moved hW.alike hK, hZ.moved hW⟩⟩
  have hlenW : 2 * (F0 m pc ls (as.reverse ++ .ref (o + pre.length) :: rest)).monitorRoom + (rest.map fun v => v.category).sum ≤ 8 := by show 2 * 0 + _ ≤ 8; have : (rest.map fun v => v.category).sum = q_cats rest := rfl; omega
  have hrun : va_Run p l e R s m args below meth c H locs cells slots mc ms (F0 m pc ls (as.reverse ++ .ref (o + pre.length) :: rest)) rest (g_Qc D (o + pre.length) (res tc (o + pre.length)) (Value.ref (o + pre.length) :: as).toArray) (g_A (o + pre.length)) := by
    have hG : GoodIn TS (q_ws TS y) := q_good_in TS_good w1
    rcases hlink with hl1 | ⟨host, hl1⟩
    · exact va_runI (bytes := y.2.1) (maxL := y.2.2.1) ⟨hx, hb, hml, hown, hts⟩ (hM D tc (o + pre.length)) ⟨callB_of n hts hG (by rw [← w5]; rfl) rfl rfl (hts _ w2) (hts _ hl1) w6 hroom, w4, hts _ w3⟩ hp rfl hn hl.1 rfl hlenW hd hcs
    · exact va_runIN (bytes := y.2.1) (maxL := y.2.2.1) (host := host) ⟨hx, hb, hml, hown, hts⟩ (hM D tc (o + pre.length)) ⟨va_cnB n hts hG (by rw [← w5]; rfl) rfl rfl (hZ.2 _ hl1) (hts _ w2) w6 hroom, w4, hts _ w3⟩ hp rfl hn hl.1 rfl hlenW hd hcs
  refine g_callW hrun hS (Nat.le_add_right _ _) (fun H1 locs1 hP1 hk hS1 => kk H1 locs1 ls (hP.join hP1 (fun q hq => hk q ?_ hq)) hS1 hl)
  rw [hP.1, List.length_append]
  omega
/-- new T[n][k] -/
theorem g_mna (C : g_Cx p R s m args c own cc nL tc D o) {pc idx : Nat} (hd : decode cc pc = .ok (.multianewarray idx 2, 4)) (hw : Cond.classLink own idx "[[I" ∈ TS ∧ Cond.arrayClass .int ∈ TS) {n k : Int32} {N K : Nat} (hn : ¬ n < 0 ∧ n.toNatClampNeg = N ∧ N ≤ 2000) (hk : ¬ k < 0 ∧ k.toNatClampNeg = K ∧ K ≤ 2000) (hcs : cells + (1 + N) ≤ R.cells ∧ slots + (N + N * K) ≤ R.slots)
    {lv : List (Nat × Value)} {st : List Value} {es : List va_E} (kk : g_St p l e R s m args below meth c Q nL D o (cells + 1 + N) (slots + N + N * K) (pc + 4) lv (.ref (o + es.length) :: st) (es ++ .inl (tc 3, N, .inr (.inr (.inr (.inr (fun j => some (o + es.length + 1 + j)))))) :: List.replicate N (.inl (tc 0, K, .inl (fun _ => 0))))) :
    g_St p l e R s m args below meth c Q nL D o cells slots pc lv (.int k :: .int n :: st) es := by
  obtain ⟨hx, hb, hml, hown, hts, hK, hZ, -⟩ := C
  obtain ⟨n0, rfl, n2⟩ := hn
  obtain ⟨k0, rfl, k2⟩ := hk
  intro H locs ls hP hS hl T hT Xs
  obtain ⟨vm₁, cA, comp, -, fA, fC, hO, -, X', step⟩ := Xs.multianewarray2F (ty := .int) hx hown (hts _ hw.1) (over_moved (a' := args) (Vm.Alike.refl s.vm) hZ.1) (hts _ hw.2) (g := F0 m pc ls (.int k :: .int n :: st)) rfl (by rw [hb]; exact hd) rfl n0 k0 (by omega) (by show k.toNatClampNeg * 4 ≤ _; omega) (by omega) rfl rfl hcs.1 hcs.2
  have e3 : cA = tc 3 := Option.some.inj (fA.symm.trans (hK.2 3 _ rfl).2)
  have e0 : comp = tc 0 := Option.some.inj (fC.symm.trans (hK.2 0 _ rfl).2)
  subst e3; subst e0
  generalize hF : Jvm.Free.Multi.fill (T.setVm vm₁) (tc 3) (tc 0) n.toNatClampNeg k.toNatClampNeg (defaultValue .int) n.toNatClampNeg = F at X' step
  have hTh : (T.setVm vm₁).heap = H := hT
  obtain ⟨f1, f2, -, -⟩ := Jvm.Free.Multi.fill_facts (T.setVm vm₁) (tc 3) (tc 0) n.toNatClampNeg k.toNatClampNeg (defaultValue .int) n.toNatClampNeg
  rw [hF, hTh] at f1 f2
  have hold : ∀ x : Nat, x < H.size → F.heap[x]? = H[x]? := fun x hx => by
    have := Jvm.Free.Multi.fill_old (T.setVm vm₁) (tc 3) (tc 0) n.toNatClampNeg k.toNatClampNeg (defaultValue .int) (a := x) (by rw [hTh]; exact hx) n.toNatClampNeg
    rw [hF, hTh] at this
    exact this
  have hrow : ∀ j : Nat, j < n.toNatClampNeg → F.heap[H.size + 1 + j]? = some (vp_cell (tc 0) (k.toNatClampNeg, .inl (fun _ => 0))) := fun j hj => by
    have := Jvm.Free.Multi.fill_inner (T.setVm vm₁) (tc 3) (tc 0) n.toNatClampNeg k.toNatClampNeg (defaultValue .int) n.toNatClampNeg j hj
    rw [hF, hTh] at this
    rw [this, vp_cell_i, ← arrV_new]
    rfl
  have hout : Jvm.Free.Multi.outerC (tc 3) n.toNatClampNeg H.size n.toNatClampNeg = vp_cell (tc 3) (n.toNatClampNeg, .inr (.inr (.inr (.inr (fun j => some (H.size + 1 + j)))))) := by
    rw [vp_cell_q]
    have ho : ∀ i : Nat, Jvm.Free.Multi.outerC (tc 3) n.toNatClampNeg H.size i = arrV (tc 3) n.toNatClampNeg (fun j => va_rf (if j < i then some (H.size + 1 + j) else none)) := by
      intro i
      induction i with
      | zero =>
        show ({ cls := tc 3, slots := Array.replicate n.toNatClampNeg .null, vm := .none } : Cell) = _
        rw [arrV_new]
        refine congrArg (arrV (tc 3) n.toNatClampNeg) (funext fun j => ?_)
        simp [va_rf]
      | succ i ih =>
        show (Jvm.Free.Multi.outerC (tc 3) n.toNatClampNeg H.size i).setSlot i (.ref (H.size + 1 + i)) = _
        rw [ih, arrV_store]
        refine congrArg (arrV (tc 3) n.toNatClampNeg) (funext fun j => ?_)
        by_cases ej : j = i
        · subst ej; simp [updV, va_rf]
        · by_cases h : j < i
          · simp [updV, ej, h, Nat.lt_succ_of_lt h]
          · simp [updV, ej, h, show ¬ j < i + 1 by omega]
    rw [ho]
    unfold arrV
    congr 1
    refine congrArg Array.ofFn (funext fun j => ?_)
    show va_rf (if j.1 < n.toNatClampNeg then some (H.size + 1 + j.1) else none) = va_rf (some (H.size + 1 + j.1))
    rw [if_pos j.2]
  rw [hout] at f2
  have hsz : H.size = o + es.length := hP.1
  have hP1 : g_P D o (es ++ .inl (tc 3, n.toNatClampNeg, .inr (.inr (.inr (.inr (fun j => some (o + es.length + 1 + j)))))) :: List.replicate n.toNatClampNeg (.inl (tc 0, k.toNatClampNeg, .inl (fun _ => 0)))) F.heap := by
    refine ⟨by rw [f1, List.length_append, List.length_cons, List.length_replicate]; omega, fun k9 x hx9 => ?_⟩
    by_cases h9 : k9 < es.length
    · rw [List.getElem?_append_left h9] at hx9
      exact (hP.2 k9 x hx9).kept (hold _ (by show o + k9 < H.size; omega))
    · rw [List.getElem?_append_right (by omega)] at hx9
      by_cases h8 : k9 = es.length
      · subst h8
        rw [Nat.sub_self] at hx9
        cases hx9
        show F.heap[o + es.length]? = _
        rw [← hsz]; exact f2
      · rw [show k9 - es.length = (k9 - es.length - 1) + 1 by omega, List.getElem?_cons_succ, List.getElem?_replicate] at hx9
        by_cases h7 : k9 - es.length - 1 < n.toNatClampNeg
        · rw [if_pos h7] at hx9
          cases hx9
          show F.heap[o + k9]? = _
          have := hrow _ h7
          rw [show H.size + 1 + (k9 - es.length - 1) = o + k9 by omega] at this
          exact this
        · rw [if_neg h7] at hx9
          cases hx9
  obtain ⟨t, a1, b1⟩ := kk F.heap locs ls hP1 (g_grow hS (by rw [f1]; omega) hold) hl F rfl X'
  refine ⟨t, step t ?_, b1⟩
  rw [hT, hsz]
  exact a1
/-- aload_0, a number, newarray, putfield -/
theorem g_arr (C : g_Cx p R s m args c own cc nL tc D o) (hm : meth.name = "<init>") (F : q_fld own E CL TS) {ci : Nat} {q : vw_C} (hc : CL[ci]? = some q) {lv : List (Nat × Value)} (hlv : (0, Value.ref o) ∈ lv) (pc w idx k t N : Nat) {ty : FieldType} {at0 : ArrayType} {a0 : vp_A} {n : Int32} {fs : List Value} {suf : List va_E}
    (h0 : decode cc pc = .ok (.aload_n 0, 1)) (h1 : g_push cc (pc + 1) w n) (h2 : decode cc (pc + 1 + w) = .ok (.newarray at0, 2)) (h3 : decode cc (pc + 1 + w + 2) = .ok (.putfield idx, 3)) (hty : newarray.typeOf at0 = ty) (ht : g_ty t ty a0 N) (hn : ¬ n < 0 ∧ n.toNatClampNeg = N ∧ N ≤ 2000)
    (hlk : q_lk E.1 idx = some (ci, k)) (hf : (q.2.1 k).2.2.2 = true ∧ (q.2.1 k).1 = own) (hr : ∀ x, narrow (TY ci k) (.ref x) = .ref x ∧ fits (TY ci k) (.ref x) = true) (hkl : k < fs.length) (hcs : cells + 1 ≤ R.cells ∧ slots + N ≤ R.slots)
    (kk : g_St p l e R s m args below meth c Q nL D o (cells + 1) (slots + N) (pc + 1 + w + 2 + 3) lv [] (.inr (ci, fs.set k (.ref (o + (suf.length + 1)))) :: (suf ++ [.inl (tc t, a0)]))) : g_St p l e R s m args below meth c Q nL D o cells slots pc lv [] (.inr (ci, fs) :: suf) :=
  g_aload C h0 rfl hlv (g_pushW C h1 (g_newa C h2 hty ht hn hcs (g_put (j := 0) C hm F h3 hc hlk hf (hr _) rfl hkl kk)))
end GCALL
set_option maxHeartbeats 1000000 in
/-- a constructor's contract out of its walk -/
theorem g_CV.of {y : qD} {own : String} (hpl : plainFor y.1 = true) (hyo : y.1.cls = own) (hyn : y.1.name = "<init>") (hret : y.2.2.2 = none) {l : Launch} {d mc ms ci : Nat} {as : List Value} (hn : ∀ o, (lg_sl (.ref o :: as)).length ≤ y.2.2.1) {res : (Nat → ClassId) → Nat → List va_E}
    (body : ∀ (p : Program) (e : Env) (s : State) (m : MethodId) (below : List Frame) (meth : Method) (c : Code) (D : va_G) (tc : Nat → ClassId) (o : Nat) (Q : State → Prop), g_Cx p (q_rmW d mc ms) s m (.ref o :: as).toArray c own y.2.1 y.2.2.1 tc D o → meth.name = "<init>" →
      (∀ pc lv, decode y.2.1 pc = .ok (.return_, 1) → g_St p l e (q_rmW d mc ms) s m (.ref o :: as).toArray below meth c Q y.2.2.1 D o mc ms pc lv [] (res tc o)) →
      g_St p l e (q_rmW d mc ms) s m (.ref o :: as).toArray below meth c Q y.2.2.1 D o 0 0 0 (lv_args 0 (.ref o :: as)) [] [.inr (ci, g_bl ci)]) : g_CV l d mc ms y as ci res := by
  intro D tc o
  refine q_ofW (cc := y.2.1) (maxL := y.2.2.1) (ret := y.2.2.2) hpl rfl ?_
  intro p e s m args below meth c s₁ B hml hvv
  obtain ⟨rfl, hP, hK, hZ⟩ := hvv
  have hx := B.exec
  have hb := B.bytes
  have hrt := B.returns
  have hts0 := atoms_spec (ws := q_ws TS y) B.pre
  have hts : ∀ w ∈ TS, w.before (Value.ref o :: as).toArray s = true := fun w hw => hts0 w (List.mem_cons_of_mem _ hw)
  have hown : s.vm.findClass own = some m.cls := hyo ▸ findClass_of_methodNamed B.named
  have hlocks := B.notSynchronized
  have hin : meth.name = "<init>" := (name_of_methodNamed B.named B.method).1.trans hyn
  have C : g_Cx p (q_rmW d mc ms) s m (Value.ref o :: as).toArray c own y.2.1 y.2.2.1 tc D o := ⟨hx, hb, hml, hown, hts, hK, hZ, by rw [hP.1]; exact Nat.le_add_right _ _, by show 1 ≤ d + 1; omega, by show 36 ≤ 36 * (d + 1); omega⟩
  have hl := lv_entry (Value.ref o :: as) (n := y.2.2.1) (hn o)
  rw [lg_entry_eq]
  generalize (lg_sl (Value.ref o :: as) ++ List.replicate (y.2.2.1 - (lg_sl (Value.ref o :: as)).length) Slot.unset).toArray = ls at hl ⊢
  refine body p e s m below meth c D tc o _ C hin (fun pc lv hd H locs ls hP hS hl => ?_) s.heap [] ls hP va_S.rf hl
  exact W.vret hx hb (hrt.trans hret) (fun t ht hW => ⟨⟨rfl, by rw [ht]; exact hP⟩, hS.F ht⟩) hS.2.2 hd
