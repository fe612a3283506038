/-! THROWING: contracts of the calls that throw -/
def q_rmT (d : Nat) : Room := { frames := d + 1, cells := 1, slots := 6, locals := 36 * (d + 1) }
def q_PcT (D : va_G) (tc : Nat → ClassId) (ad : Nat → Nat) (sz : Nat) (as : List Value) (M : qM) : Array Value → State → Prop := fun a U => q_Pc CL SHP D tc ad sz as M a U ∧ x_W U
def q_CT (l : Launch) (d : Nat) (y : qD) (as : List Value) (M : qM) (X : String) (Post : qM → Prop) : Prop :=
  ∀ (D : va_G) (tc : Nat → ClassId) (ad : Nat → Nat) (sz : Nat), MetFree l y.1 (headSpec (q_ws TS y) (q_rmT d)) (q_PcT D tc ad sz as M) (fun _ _ _ _ _ => True) (q_QT CL SHP D tc ad X Post (q_A SHP.length ad sz))
/-- new, dup, ldc, constructor, athrow -/
def x_at (cc : ByteArray) (pc i0 k ic : Nat) : Prop := decode cc pc = .ok (.new i0, 3) ∧ decode cc (pc + 3) = .ok (.dup, 1) ∧ decode cc (pc + 4) = .ok (.ldc k, 2) ∧ decode cc (pc + 6) = .ok (.invokespecial ic, 3) ∧ decode cc (pc + 9) = .ok (.athrow, 1)
def x_wd (X : String) (i0 ic : Nat) : Prop := ((X = ISE ∧ ic = 103) ∨ (X = IAE ∧ ic = 113)) ∧ Cond.classLink "CachedSpeaker" i0 X ∈ TS ∧ Cond.instantiable X 6 ∈ TS ∧ Cond.initialized X ∈ TS
theorem q_ofT {l : Launch} {y : MethodName} {ws ws' : List Cond} {rm : Room} {Pc : Array Value → State → Prop} {QT : Array Value → State → Outcome → State → Prop} {cc : ByteArray} {maxL : Nat} {ret : Option FieldType}
    (hy : plainFor y = true) (hw : ws = Cond.code y cc maxL ret :: ws')
    (body : ∀ p e s m args below meth c s₁, BodyLoose p l y (headSpec ws rm) cc maxL ret e s m args below meth c s₁ → c.maxLocals = maxL → Pc args s →
      W p l e (headSpec ws rm).room s m args below meth c s.heap [] 0 0 (fun t => ∃ o, t.status = .running ∧ Ended t below o ∧ QT args s o t) (entryFrame m args maxL)) : MetFree l y (headSpec ws rm) Pc (fun _ _ _ _ _ => True) QT := by
  refine MetFree.of_bodySF (code := cc) (maxLocals := maxL) (ret := ret) hy ?_ ?_
  · intro args s m h hn
    obtain ⟨meth, c, h1, h2, h3, h4, h5, h6, -, -⟩ := Cond.code_spec hn (atoms_spec (ws := ws) h _ (by rw [hw]; exact List.mem_cons_self))
    exact ⟨meth, c, h1, h2, h3, h4, h5, h6⟩
  · intro p e s m args below meth c s₁ B hml hP _
    have hh0 : s₁.heap = s.heap := by rw [B.state]; rfl
    obtain ⟨t, a1, o, b1, b2, b3⟩ := body p e s m args below meth c s₁ B hml hP s₁ hh0 (Stand.of_body B)
    exact ⟨t, o, a1, b1, b2, b3⟩
set_option maxHeartbeats 1000000 in
theorem q_CT.of {E : qE} {tb : List qI} {y : qD} (F : q_fix TS CL TY SHP "CachedSpeaker" E tb y) {l : Launch} (htr : l.stackTraces = false) {d : Nat} (hd : 5 ≤ d) {as : List Value} (lv0 : List Value) {M : qM} {X : String} {Post : qM → Prop}
    (hlv : q_ent as y.2.2.1 = lv0) (hn : Nat.ble (q_sl as).length y.2.2.1 = true)
    (body : ∀ S : Nat → List Value → List Value → qM → Prop, q_Mach TS CL TY SHP (0, fun _ => 0) E tb d S (fun _ _ => False) → (∀ pc i0 k ic tx, x_at y.2.1 pc i0 k ic → x_wd X i0 ic → (k, tx) ∈ x_str → ∀ lv M', Post M' → S pc lv [] M') → S 0 lv0 [] M) : q_CT l d y as M X Post := by
  obtain ⟨hpl, hyo, hg, f1, f2, f3, f4, f5, f7, f6⟩ := F
  intro D tc ad sz
  refine q_ofT (cc := y.2.1) (maxL := y.2.2.1) (ret := y.2.2.2) hpl rfl ?_
  intro p e s m args below meth c s₁ B hml hvv
  obtain ⟨⟨rfl, hsz, hP, hK, hinj⟩, hxW⟩ := hvv
  have hx := B.exec
  have hb := B.bytes
  have hts0 := atoms_spec (ws := q_ws TS y) B.pre
  have hts : ∀ w ∈ TS, w.before (as.map (q_v ad)).toArray s = true := fun w hw => hts0 w (List.mem_cons_of_mem _ hw)
  have hown : s.vm.findClass "CachedSpeaker" = some m.cls := hyo ▸ findClass_of_methodNamed B.named
  have hlocks := B.notSynchronized
  have hnoH : ∀ q x, x ∈ c.exceptionTable.toList → covers x q = false := fun q => covers_of_empty (B.noHandlers (hts0 _ List.mem_cons_self)) q
  subst hsz
  have hAk : ∀ k, k < SHP.length → q_A SHP.length ad s.heap.size (ad k) := fun k hk => Or.inl ⟨k, hk, rfl⟩
  have C : q_Cx p (q_rmT d) s m (as.map (q_v ad)).toArray c TS "CachedSpeaker" y.2.1 y.2.2.1 E CL TY tc D SHP ad (q_A SHP.length ad s.heap.size) (0, fun _ => 0) := ⟨hx, hb, hml, hown, hts, hK, hinj, hAk, f1, f2, f3, f4, by show 1 ≤ d + 1; omega, by show 36 ≤ 36 * (d + 1); omega, Or.inl rfl, f5⟩
  have hl := lv_entry (as.map (q_v ad)) (n := y.2.2.1) (by rw [q_sl_len]; exact Nat.le_of_ble_eq_true hn)
  rw [lg_entry_eq]
  generalize (lg_sl (as.map (q_v ad)) ++ List.replicate (y.2.2.1 - (lg_sl (as.map (q_v ad))).length) Slot.unset).toArray = ls at hl ⊢
  have hhas := q_ent_has (Nat.le_of_ble_eq_true hn) hl
  rw [hlv] at hhas
  refine body (q_St p l e (q_rmT d) s m (as.map (q_v ad)).toArray below meth c _ y.2.2.1 CL tc D SHP ad (q_A SHP.length ad s.heap.size) 0 0) (q_mach C f7 (fun q hq => Or.inr hq) hg ⟨Nat.zero_le _, Nat.zero_le _⟩ ⟨Nat.le_refl _, Nat.le_refl _⟩ f6 (fun _ _ _ _ _ h => h.elim) (fun _ _ _ _ h => h.elim)) ?_ s.heap [] ls hP va_S.rf hhas
  intro pc i0 k ic tx ⟨h0, h3, h4, h6, h9⟩ ⟨hX, hw⟩ hk lv M' hpo
  exact q_thr C htr hxW hP ⟨by show 6 ≤ d + 1; omega, by show 100 ≤ 36 * (d + 1); omega, Nat.le_refl _, Nat.le_refl _⟩ hnoH hlocks hX hw hk h0 h3 h4 h6 h9 hpo
set_option maxRecDepth 100000 in
theorem xw_ise : x_wd ISE 99 103 := ⟨Or.inl ⟨rfl, rfl⟩, by decide +kernel, by decide +kernel, by decide +kernel⟩
set_option maxRecDepth 100000 in
theorem xw_iae : x_wd IAE 109 113 := ⟨Or.inr ⟨rfl, rfl⟩, by decide +kernel, by decide +kernel, by decide +kernel⟩
theorem xa_b10 : x_at y_CS_begin.2.1 10 99 101 103 := ⟨by decide +kernel, by decide +kernel, by decide +kernel, by decide +kernel, by decide +kernel⟩
theorem xa_b59 : x_at y_CS_begin.2.1 59 109 111 113 := ⟨by decide +kernel, by decide +kernel, by decide +kernel, by decide +kernel, by decide +kernel⟩
theorem xa_n10 : x_at y_CS_next.2.1 10 99 124 103 := ⟨by decide +kernel, by decide +kernel, by decide +kernel, by decide +kernel, by decide +kernel⟩
theorem xa_g11 : x_at y_CS_go.2.1 11 109 129 113 := ⟨by decide +kernel, by decide +kernel, by decide +kernel, by decide +kernel, by decide +kernel⟩
theorem xa_g31 : x_at y_CS_go.2.1 31 99 124 103 := ⟨by decide +kernel, by decide +kernel, by decide +kernel, by decide +kernel, by decide +kernel⟩
theorem c_begin0 {l : Launch} (htr : l.stackTraces = false) {M : qM} (h0 : M.1 3 2 = 0) : q_CT l 6 y_CS_begin [.ref 0] M ISE (fun M' => M' = M) :=
  q_CT.of f_CS_begin htr (by decide) [.ref 0] rfl rfl (fun S h thr => p_CS_begin_0_0 h ⟨h0, thr 10 99 101 103 "there is no model" xa_b10 xw_ise (by decide) _ _ rfl⟩)
theorem c_begin2 {l : Launch} (htr : l.stackTraces = false) {M : qM} {c : Nat → Nat} {xs : List Nat} (hc : cOk c) (hL : LC c M) (hB : ∀ x ∈ xs, x < 8) (hx : at_ (M.1 7) 0 xs) (hn : M.1 6 1 = nI xs.length) (h24 : xs.length ≤ 24) (h12 : (toks (M.1 4) (c 5) xs).length < 1 ∨ c 4 < (toks (M.1 4) (c 5) xs).length) :
    q_CT l 6 y_CS_begin [.ref 0] M IAE (fun M' => (∀ k, k ≠ 3 → M'.1 6 k = M.1 6 k) ∧ fr (fun x => x = 6 ∨ x = 8) M M') := by
  refine q_CT.of f_CS_begin htr (by decide) [.ref 0] rfl rfl (fun S h thr => ?_)
  have h4 : c 4 ≤ 12 := hc.2.2.2.2.2.2.1
  have hlen : (toks (M.1 4) (c 5) xs).length ≤ 24 := Nat.le_trans (m_from_len _ _ _) h24
  refine p_CS_begin_0_1 h ⟨by rw [hL.2.1]; exact n_ne10, 1, _, by decide, c_mergeBy hL.2.2.1 hc.2.2.2.2.2.2.2.1 hL.1.2.2.2.2.2.1 hB hx hn h24, fun M1 g => ?_⟩
  obtain ⟨x1, x2, x3, x4⟩ := g
  have th : S 59 [.ref 0] [] M1 := thr 59 109 111 113 "the prompt has no token or too many" xa_b59 xw_iae (by decide) _ _ ⟨x3, x4⟩
  by_cases g1 : (toks (M.1 4) (c 5) xs).length < 1
  · exact p_CS_begin_39_2 h ⟨by rw [x2]; exact nI_lt (b := 1) g1 (by decide), th⟩
  · refine p_CS_begin_39_0 h ⟨by rw [x2]; exact nI_nlt (b := 1) (by omega) (by omega), ?_, th⟩
    rw [x2, x4.1 3 (by omega), hL.1.2.2.2.2.1]
    exact nI_ge (h12.resolve_left g1) (by omega)
theorem c_next0 {l : Launch} (htr : l.stackTraces = false) {M : qM} (h0 : M.1 9 7 = 0) : q_CT l 6 y_CS_next [.ref 0] M ISE (fun M' => M' = M) :=
  q_CT.of f_CS_next htr (by decide) [.ref 0] rfl rfl (fun S h thr => p_CS_next_0_0 h ⟨h0, thr 10 99 124 103 "there is no run or it has ended" xa_n10 xw_ise (by decide) _ _ rfl⟩)
theorem c_go0 {l : Launch} (htr : l.stackTraces = false) {M : qM} {a : Int32} (ha : a < 1 ∨ 20 < a) : q_CT l 6 y_CS_go [.ref 0, .int a] M IAE (fun M' => M' = M) := by
  refine q_CT.of f_CS_go htr (by decide) [.ref 0, .int a, .null] rfl rfl (fun S h thr => ?_)
  have th : S 11 [.ref 0, .int a, .null] [] M := thr 11 109 129 113 "the steps are not 1 to 20" xa_g11 xw_iae (by decide) _ _ rfl
  by_cases g : a < 1
  · exact p_CS_go_0_3 h ⟨g, th⟩
  · exact p_CS_go_0_0 h ⟨g, n_nle.mpr (ha.resolve_left g), th⟩
theorem c_go2 {l : Launch} (htr : l.stackTraces = false) {M : qM} {a : Int32} (ha : ¬ a < 1) (hb : a ≤ 20) (h0 : M.1 9 7 = 0) : q_CT l 6 y_CS_go [.ref 0, .int a] M ISE (fun M' => M' = M) :=
  q_CT.of f_CS_go htr (by decide) [.ref 0, .int a, .null] rfl rfl (fun S h thr => p_CS_go_0_1 h ⟨ha, hb, h0, thr 31 99 124 103 "there is no run or it has ended" xa_g31 xw_ise (by decide) _ _ rfl⟩)
