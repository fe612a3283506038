/-! MAKING: cells one behind the other, from an address on -/
def g_P (D : va_G) (o : Nat) (es : List va_E) (H : Heap) : Prop := H.size = o + es.length ∧ ∀ (k : Nat) (x : va_E), es[k]? = some x → va_at D CL (o + k, x) H
def g_A (o : Nat) : Nat → Prop := fun q => o ≤ q
def g_nest : List Cond := [.methodLinkNest "CachedSpeaker" 9 y_Im_init.1 "CachedSpeaker", .methodLinkNest "CachedSpeaker" 18 y_Mo_init.1 "CachedSpeaker", .methodLinkNest "CachedSpeaker" 25 y_Pr_init.1 "CachedSpeaker"]
def g_Z (U : State) : Prop := (Cond.arrayOver (.array .int)).before #[] U = true ∧ ∀ w ∈ g_nest, va_Nw w U
theorem g_Z.moved {u U : State} (hW : u.WarmedH U.vm) (h : g_Z u) : g_Z U := by
  refine ⟨over_moved hW.alike h.1, fun w hw => ?_⟩
  have h2 := h.2 w hw
  simp only [g_nest, List.mem_cons, List.not_mem_nil, or_false] at hw
  rcases hw with rfl | rfl | rfl <;> exact va_Nw.warmM hW h2
theorem g_P.push {D : va_G} {o : Nat} {es : List va_E} {H H1 : Heap} {x : va_E} (h : g_P D o es H) (z1 : H1.size = H.size + 1) (o1 : ∀ q, q < H.size → H1[q]? = H[q]?) (hx : va_at D CL (H.size, x) H1) : g_P D o (es ++ [x]) H1 := by
  obtain ⟨hz, hP⟩ := h
  refine ⟨by rw [z1, hz, List.length_append, List.length_singleton]; omega, fun k y hy => ?_⟩
  by_cases hk : k < es.length
  · rw [List.getElem?_append_left hk] at hy
    exact (hP k y hy).kept (o1 _ (by show o + k < H.size; omega))
  · rw [List.getElem?_append_right (by omega)] at hy
    have hk2 : k - es.length < 1 := (List.getElem?_eq_some_iff.mp hy).1
    rw [show k - es.length = 0 by omega] at hy
    cases hy
    rw [show o + k = H.size by omega]
    exact hx
theorem g_P.last {D : va_G} {o : Nat} {pre suf : List va_E} {H : Heap} (h : g_P D o (pre ++ suf) H) : g_P D (o + pre.length) suf H := by
  refine ⟨by rw [h.1, List.length_append]; omega, fun k x hx => ?_⟩
  rw [Nat.add_assoc]
  exact h.2 (pre.length + k) x (by rw [List.getElem?_append_right (by omega), Nat.add_sub_cancel_left]; exact hx)
theorem g_P.join {D : va_G} {o : Nat} {pre suf suf' : List va_E} {H H1 : Heap} (h : g_P D o (pre ++ suf) H) (h1 : g_P D (o + pre.length) suf' H1) (hk : ∀ q, q < o + pre.length → H1[q]? = H[q]?) : g_P D o (pre ++ suf') H1 := by
  refine ⟨by rw [h1.1, List.length_append]; omega, fun k x hx => ?_⟩
  by_cases hl : k < pre.length
  · rw [List.getElem?_append_left hl] at hx
    exact (h.2 k x (by rw [List.getElem?_append_left hl]; exact hx)).kept (hk _ (by show o + k < _; omega))
  · rw [List.getElem?_append_right (by omega)] at hx
    have := h1.2 _ x hx
    rw [show o + pre.length + (k - pre.length) = o + k by omega] at this
    exact this
theorem g_P.set {D : va_G} {o j : Nat} {es : List va_E} {x : va_E} {H H1 : Heap} (h : g_P D o es H) (hj : j < es.length) (hx : va_at D CL (o + j, x) H1) (z : H1.size = H.size) (oq : ∀ q, q ≠ o + j → H1[q]? = H[q]?) : g_P D o (es.set j x) H1 := by
  refine ⟨by rw [z, h.1, List.length_set], fun k y hy => ?_⟩
  by_cases e : j = k
  · subst e
    rw [List.getElem?_set_self hj] at hy
    cases hy
    exact hx
  · rw [List.getElem?_set_ne e] at hy
    exact (h.2 k y hy).kept (oq _ (by show o + k ≠ o + j; omega))
/-- what stands during a constructor's walk -/
def g_Cx (p : Program) (R : Room) (s : State) (m : MethodId) (args : Array Value) (c : Code) (own : String) (cc : ByteArray) (nL : Nat) (tc : Nat → ClassId) (D : va_G) (o : Nat) : Prop :=
  p.tables.exec = Jvm.exec ∧ c.code = cc ∧ c.maxLocals = nL ∧ s.vm.findClass own = some m.cls ∧ (∀ w ∈ TS, w.before args s = true) ∧ va_K D CL (q_tys tc) s ∧ g_Z s ∧ o ≤ s.heap.size ∧ 1 ≤ R.frames ∧ 36 ≤ R.locals
def g_St (p : Program) (l : Launch) (e : Env) (R : Room) (s : State) (m : MethodId) (args : Array Value) (below : List Frame) (meth : Method) (c : Code) (Q : State → Prop) (nL : Nat) (D : va_G) (o cells slots pc : Nat) (lv : List (Nat × Value)) (st : List Value) (es : List va_E) : Prop :=
  ∀ (H : Heap) (locs : List Loc) (ls : Array Slot), g_P D o es H → va_S (g_A o) s.heap H locs → lv_has ls nL lv → W p l e R s m args below meth c H locs cells slots Q (F0 m pc ls st)
/-- the fields' first values -/
def g_bl (ci : Nat) : List Value := match CL[ci]? with
  | some q => (List.range q.2.2).map (fun j => defaultValue (TY ci j))
  | none => []
theorem g_bl_ok {ci : Nat} {q : vw_C} (h : CL[ci]? = some q) : ∀ j, j < q.2.2 → defaultValue (TY ci j) = vp_V (g_bl ci) j := by
  intro j hj
  simp only [g_bl, h, vp_V]
  rw [List.getD_eq_getElem?_getD, List.getElem?_map, List.getElem?_range hj]
  rfl
section GST
variable {p : Program} {l : Launch} {e : Env} {R : Room} {s : State} {m : MethodId} {args : Array Value} {below : List Frame} {meth : Method} {c : Code} {Q : State → Prop}
variable {own : String} {cc : ByteArray} {nL : Nat} {E : qE} {tc : Nat → ClassId} {D : va_G} {o cells slots : Nat}
theorem g_grow {H H1 : Heap} {locs : List Loc} (hS : va_S (g_A o) s.heap H locs) (z : H.size ≤ H1.size) (o1 : ∀ q, q < H.size → H1[q]? = H[q]?) : va_S (g_A o) s.heap H1 locs :=
  ⟨Nat.le_trans hS.1 z, fun x h1 h2 => (o1 x (Nat.lt_of_lt_of_le h1 hS.1)).trans (hS.2.1 x h1 h2), hS.2.2⟩
theorem g_aload (C : g_Cx p R s m args c own cc nL tc D o) {pc i x : Nat} {k : Fin 4} {lv : List (Nat × Value)} {st : List Value} {es : List va_E} (hd : decode cc pc = .ok (.aload_n k, 1)) (hi : (k : Nat) = i) (hl0 : (i, Value.ref x) ∈ lv)
    (kk : g_St p l e R s m args below meth c Q nL D o cells slots (pc + 1) lv (.ref x :: st) es) : g_St p l e R s m args below meth c Q nL D o cells slots pc lv st es :=
  fun H locs ls hP hS hl => lv_aload_n C.1 C.2.1 hd hi (hl.2.2 _ hl0) (kk H locs ls hP hS hl)
theorem g_dup (C : g_Cx p R s m args c own cc nL tc D o) {pc x : Nat} {lv : List (Nat × Value)} {st : List Value} {es : List va_E} (hd : decode cc pc = .ok (.dup, 1))
    (kk : g_St p l e R s m args below meth c Q nL D o cells slots (pc + 1) lv (.ref x :: .ref x :: st) es) : g_St p l e R s m args below meth c Q nL D o cells slots pc lv (.ref x :: st) es :=
  fun H locs ls hP hS hl => lv_dup C.1 C.2.1 hd rfl (kk H locs ls hP hS hl)
def g_push (cc : ByteArray) (pc w : Nat) (n : Int32) : Prop := (w = 2 ∧ ∃ z, decode cc pc = .ok (.bipush z, 2) ∧ (Int8.ofInt z).toInt32 = n) ∨ (w = 3 ∧ ∃ z, decode cc pc = .ok (.sipush z, 3) ∧ (Int16.ofInt z).toInt32 = n)
theorem g_pushW (C : g_Cx p R s m args c own cc nL tc D o) {pc w : Nat} {n : Int32} {lv : List (Nat × Value)} {st : List Value} {es : List va_E} (hd : g_push cc pc w n)
    (kk : g_St p l e R s m args below meth c Q nL D o cells slots (pc + w) lv (.int n :: st) es) : g_St p l e R s m args below meth c Q nL D o cells slots pc lv st es := by
  rcases hd with ⟨rfl, z, hd, hz⟩ | ⟨rfl, z, hd, hz⟩
  · exact fun H locs ls hP hS hl => lv_bipush C.1 C.2.1 hd hz (kk H locs ls hP hS hl)
  · exact fun H locs ls hP hS hl => lv_sipush C.1 C.2.1 hd hz (kk H locs ls hP hS hl)
/-- kinds of arrays: what a new one is -/
def g_ty (t : Nat) (ty : FieldType) (a0 : vp_A) (N : Nat) : Prop := (∀ tc, (q_tys tc)[t]? = some (tc t, ty)) ∧ (∀ cA : ClassId, vp_cell cA a0 = arrV cA N (fun _ => defaultValue ty)) ∧ (∀ (U : State) (cA : ClassId), va_RA U cA ty → U.vm.findClass ("[" ++ ty.toString) = some cA) ∧ Cond.arrayClass ty ∈ TS ∧ componentBytes ty ≤ 8
theorem g_newa (C : g_Cx p R s m args c own cc nL tc D o) {pc t N : Nat} {ty : FieldType} {at0 : ArrayType} {a0 : vp_A} {n : Int32} {lv : List (Nat × Value)} {st : List Value} {es : List va_E} (hd : decode cc pc = .ok (.newarray at0, 2)) (hty : newarray.typeOf at0 = ty) (ht : g_ty t ty a0 N) (hn : ¬ n < 0 ∧ n.toNatClampNeg = N ∧ N ≤ 2000) (hcs : cells + 1 ≤ R.cells ∧ slots + N ≤ R.slots)
    (kk : g_St p l e R s m args below meth c Q nL D o (cells + 1) (slots + N) (pc + 2) lv (.ref (o + es.length) :: st) (es ++ [.inl (tc t, a0)])) : g_St p l e R s m args below meth c Q nL D o cells slots pc lv (.int n :: st) es := by
  subst hty
  obtain ⟨ht1, ht2, ht3, ht4, ht5⟩ := ht
  obtain ⟨hx, hb, -, -, hts, hK, -⟩ := C
  intro H locs ls hP hS hl
  have hby : N * componentBytes (newarray.typeOf at0) ≤ 536870912 := by
    have := Nat.mul_le_mul hn.2.2 ht5
    omega
  refine va_newaK hx hb (hts _ ht4) rfl hd rfl hn.1 hn.2.1 hby hcs.1 hcs.2 hP.1 (fun H1 cA e1 z1 o1 hAr hNm => ?_)
  have hcA : cA = tc t := Option.some.inj (hNm.symm.trans (ht3 _ _ (hK.2 t _ (ht1 tc)).2))
  subst hcA
  rw [← hP.1] at e1 z1 o1
  have hP1 : g_P D o (es ++ [.inl (tc t, a0)]) H1 := hP.push z1 o1 (by show H1[H.size]? = some (vp_cell _ _); rw [ht2]; exact e1)
  exact kk H1 locs ls hP1 (g_grow hS (by omega) o1) hl
theorem g_new (C : g_Cx p R s m args c own cc nL tc D o) {pc ci idx : Nat} {q : vw_C} {lv : List (Nat × Value)} {st : List Value} {es : List va_E} (hd : decode cc pc = .ok (.new idx, 3)) (hc : CL[ci]? = some q) (hw : Cond.classLink own idx q.1 ∈ TS ∧ Cond.instantiable q.1 q.2.2 ∈ TS ∧ Cond.initialized q.1 ∈ TS) (hcs : cells + 1 ≤ R.cells ∧ slots + q.2.2 ≤ R.slots)
    (kk : g_St p l e R s m args below meth c Q nL D o (cells + 1) (slots + q.2.2) (pc + 3) lv (.ref (o + es.length) :: st) (es ++ [.inr (ci, g_bl ci)])) : g_St p l e R s m args below meth c Q nL D o cells slots pc lv st es := by
  obtain ⟨hx, hb, -, hown, hts, hK, -⟩ := C
  intro H locs ls hP hS hl
  have hKn := hK.1 ci _ hc
  obtain ⟨w1, w2, -⟩ := CL_ok ci _ hc
  refine W.newcK hx hb hown (hts _ hw.1) (hts _ hw.2.1) (hts _ hw.2.2) rfl hd hcs.1 hcs.2 hKn.2.1 hP.1 (fun H1 kC hkC e1 z1 o1 => ?_)
  rw [← hP.1] at e1 z1 o1
  have hP1 : g_P D o (es ++ [.inr (ci, g_bl ci)]) H1 := hP.push z1 o1 ⟨_, hc, (u_born (TY ci) hts w1 hKn hkC e1 w2).to (g_bl_ok hc)⟩
  exact kk H1 locs ls hP1 (g_grow hS (by omega) o1) hl
theorem g_put (C : g_Cx p R s m args c own cc nL tc D o) (hm : meth.name = "<init>") (F : q_fld own E CL TS) {pc j ci k idx x : Nat} {q : vw_C} {fs : List Value} {lv : List (Nat × Value)} {st : List Value} {es : List va_E} (hd : decode cc pc = .ok (.putfield idx, 3)) (hc : CL[ci]? = some q) (hlk : q_lk E.1 idx = some (ci, k))
    (hf : (q.2.1 k).2.2.2 = true ∧ (q.2.1 k).1 = own) (hr : narrow (TY ci k) (.ref x) = .ref x ∧ fits (TY ci k) (.ref x) = true) (he : es[j]? = some (.inr (ci, fs))) (hkl : k < fs.length)
    (kk : g_St p l e R s m args below meth c Q nL D o cells slots (pc + 3) lv st (es.set j (.inr (ci, fs.set k (.ref x))))) : g_St p l e R s m args below meth c Q nL D o cells slots pc lv (.ref x :: .ref (o + j) :: st) es := by
  obtain ⟨hx, hb, -, hown, hts, hK, -⟩ := C
  obtain ⟨q', hc', hk, hlink⟩ := F idx ci k hlk
  cases hc.symm.trans hc'
  obtain ⟨C0, T, N⟩ := q
  obtain ⟨w1, w2, w3⟩ := CL_ok ci _ hc
  intro H locs ls hP hS0 hl
  have hap := va_apart (own := own) hts w1 (TY ci) w2 w3 hK hc
  obtain ⟨r, h1, cell, q1, q2, q3, q4⟩ := hP.2 j _ he
  cases hc.symm.trans h1
  obtain ⟨hS, hfc, kC, hkC, hkind⟩ := hK.1 ci _ hc
  obtain ⟨cf, kf, fi, f, hi, hsl⟩ := hS k hk
  have hlay := hts _ (w1 _ (u_in_lay hk))
  unfold u_lay at hlay
  rw [if_pos hf.1] at hlay
  have hst := (u_facts hfc hkC (u_lays hts w1 hk) hi).1
  have hcf : m.cls = cf := by
    obtain ⟨_, _, c', _, _, _, -, -, hf', -, -, -, hown2, -⟩ := Cond.laysFinal_spec hlay
    have e1 : c' = cf := by have := hi.symm.trans hf'; simp at this; exact this.1.symm
    rw [hf.2] at hown2
    rw [← e1]; exact Option.some.inj (hown.symm.trans hown2)
  have h6 := u_fits hfc hkC hkind (Or.inr hlay) hi (w2 k hk) hr.1 hr.2
  refine W.putFinK hx hb hown (hts _ hlink) hi hst hcf hm (by rw [q2]; exact h6) q1 q3 (by rw [hsl]; exact k2_hasslot (q4 k hk)) rfl rfl hd (fun H' e1 e2 e3 => ?_)
  rw [hsl] at e1 ⊢
  have hj : j < es.length := (List.getElem?_eq_some_iff.mp he).1
  exact kk H' _ ls (hP.set hj ⟨_, hc, t_OB.to (V := updV (vp_V fs) k (.ref x)) ⟨_, e1, q2, q3, t_set q4 hap hk _⟩ (fun j _ => vp_updV_set hkl _ j)⟩ e2 e3) (hS0.put e2 e3 (Nat.le_add_right o j)) hl
theorem g_get (C : g_Cx p R s m args c own cc nL tc D o) (F : q_fld own E CL TS) {pc j ci k idx : Nat} {q : vw_C} {fs : List Value} {v : Value} {lv : List (Nat × Value)} {st : List Value} {es : List va_E} (hd : decode cc pc = .ok (.getfield idx, 3)) (hc : CL[ci]? = some q) (hlk : q_lk E.1 idx = some (ci, k))
    (he : es[j]? = some (.inr (ci, fs))) (hv : fs[k]? = some v) (kk : g_St p l e R s m args below meth c Q nL D o cells slots (pc + 3) lv (v :: st) es) : g_St p l e R s m args below meth c Q nL D o cells slots pc lv (.ref (o + j) :: st) es := by
  obtain ⟨hx, hb, -, hown, hts, hK, -⟩ := C
  obtain ⟨q', hc', hk, hlink⟩ := F idx ci k hlk
  cases hc.symm.trans hc'
  obtain ⟨C0, T, N⟩ := q
  intro H locs ls hP hS0 hl
  refine va_get (ws := [(o + j, .inr (ci, fs))]) hx hb hts (CL_ok ci _ hc).1 hown hK (fun k0 x0 hx0 => ?_) 0 rfl hc k hk (hts _ hlink) (fun _ h => h) hv hd (kk H locs ls hP hS0 hl)
  have hz : k0 < 1 := (List.getElem?_eq_some_iff.mp hx0).1
  rw [show k0 = 0 by omega] at hx0
  cases hx0
  exact hP.2 j _ he
theorem g_obj (C : g_Cx p R s m args c own cc nL tc D o) {pc idx x : Nat} {lv : List (Nat × Value)} {es : List va_E} (hd : decode cc pc = .ok (.invokespecial idx, 3)) (hw : Cond.methodLink own idx Lib.objectInit ∈ TS) (hi : Cond.instanceMethod Lib.objectInit ∈ TS ∧ Cond.code Lib.objectInit ⟨#[0xb1]⟩ 1 none ∈ TS)
    (kk : g_St p l e R s m args below meth c Q nL D o cells slots (pc + 3) lv [] es) : g_St p l e R s m args below meth c Q nL D o cells slots pc lv [.ref x] es := by
  obtain ⟨hx, hb, hml, hown, hts, hK, -, -, hfr, hlo⟩ := C
  intro H locs ls hP hS hl
  exact W.objInit hx hb hown (hts _ hw) (hts _ hi.1) (hts _ hi.2) rfl (hl.1.trans hml.symm) rfl hd hfr (by show 2 * 0 + 0 + 12 ≤ R.locals; omega) (kk H locs ls hP hS hl)
end GST
