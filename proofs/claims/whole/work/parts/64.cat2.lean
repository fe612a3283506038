/-! THE LAW'S begin, next, go: with rows of handlers -/
def q_rmW (d mc ms : Nat) : Room := { frames := d + 1, cells := mc, slots := ms, locals := 36 * (d + 1) }
def x_rows (c : Code) : List (Nat × Nat × Nat × Nat) := c.exceptionTable.toList.map (fun h => (h.startPc, h.endPc, h.handlerPc, h.catchType))
def q_QW (D : va_G) (tc : Nat → ClassId) (ad : Nat → Nat) (sz : Nat) (Post : Int32 → qM → Prop) : Array Value → State → Outcome → State → Prop := q_Qc CL SHP D tc ad (fun r M' => ∃ v, r = some (.int v) ∧ Post v M') (q_A SHP.length ad sz)
def q_CW (l : Launch) (d mc ms : Nat) (y : qD) (hh : List (Nat × Nat × Nat × Nat)) (as : List Value) (M : qM) (Post : Int32 → qM → Prop) : Prop :=
  ∀ (D : va_G) (tc : Nat → ClassId) (ad : Nat → Nat) (sz : Nat), Met l y.1 (Cond.codeWith y.1 y.2.1 y.2.2.1 y.2.2.2 hh :: TS) (q_rmW d mc ms) (q_PcT D tc ad sz as M) (q_QW D tc ad sz Post) mc ms (q_A SHP.length ad sz)
def x_La (y : qD) (tb : List qI) : Prop := plainName y.1.cls = true ∧ y.1.cls = "CachedSpeakerLaw" ∧ y.2.2.2 = some .int ∧ q_tb "CachedSpeakerLaw" TS y.2.1 tb
set_option maxHeartbeats 1000000 in
theorem q_CW.of {y : qD} {hh : List (Nat × Nat × Nat × Nat)} {tb : List qI} (F : x_La y tb) {l : Launch} {d mc ms : Nat} {as : List Value} (lv0 : List Value) {M : qM} {Post : Int32 → qM → Prop} (hlv : q_ent as y.2.2.1 = lv0) (hn : Nat.ble (q_sl as).length y.2.2.1 = true)
    (body : ∀ (p : Program) (e : Env) (s : State) (m : MethodId) (below : List Frame) (meth : Method) (c : Code) (D : va_G) (tc : Nat → ClassId) (ad : Nat → Nat),
      q_Cx p (q_rmW d mc ms) s m (as.map (q_v ad)).toArray c TS "CachedSpeakerLaw" y.2.1 y.2.2.1 E_La CL TY tc D SHP ad (q_A SHP.length ad s.heap.size) (0, fun _ => 0) → x_W s → va_P D CL (q_wd tc ad M 0 SHP) s.heap → meth.locks = false → meth.sig.returnType = some .int → x_rows c = hh →
      q_St p l e (q_rmW d mc ms) s m (as.map (q_v ad)).toArray below meth c (MQ below (q_QW D tc ad s.heap.size Post) (as.map (q_v ad)).toArray s mc ms (q_A SHP.length ad s.heap.size)) y.2.2.1 CL tc D SHP ad (q_A SHP.length ad s.heap.size) 0 0 0 lv0 [] M) : q_CW l d mc ms y hh as M Post := by
  obtain ⟨hpl, hyo, hret, f6⟩ := F
  intro D tc ad sz
  refine va_MetW (hh := hh) (cc := y.2.1) (maxL := y.2.2.1) (ret := y.2.2.2) hpl rfl ?_
  intro p e s m args below meth c s₁ B hml hvv
  obtain ⟨⟨rfl, hsz, hP, hK, hinj⟩, hxW⟩ := hvv
  have hx := B.exec
  have hb := B.bytes
  have hrt : meth.sig.returnType = some .int := B.returns.trans hret
  have hts0 := atoms_spec (ws := Cond.codeWith y.1 y.2.1 y.2.2.1 y.2.2.2 hh :: TS) B.pre
  have hts : ∀ w ∈ TS, w.before (as.map (q_v ad)).toArray s = true := fun w hw => hts0 w (List.mem_cons_of_mem _ hw)
  have hown : s.vm.findClass "CachedSpeakerLaw" = some m.cls := hyo ▸ findClass_of_methodNamed B.named
  have hlocks := B.notSynchronized
  subst hsz
  have hrows : x_rows c = hh := by
    obtain ⟨m9, meth9, c9, hn9, h1, h2, -, -, h5, -⟩ := Cond.codeWith_spec (hts0 _ List.mem_cons_self)
    cases B.named.symm.trans hn9
    cases B.method.symm.trans h1
    cases (Stand.of_body B).code.symm.trans h2
    exact h5
  have hAk : ∀ k, k < SHP.length → q_A SHP.length ad s.heap.size (ad k) := fun k hk => Or.inl ⟨k, hk, rfl⟩
  have C : q_Cx p (q_rmW d mc ms) s m (as.map (q_v ad)).toArray c TS "CachedSpeakerLaw" y.2.1 y.2.2.1 E_La CL TY tc D SHP ad (q_A SHP.length ad s.heap.size) (0, fun _ => 0) := ⟨hx, hb, hml, hown, hts, hK, hinj, hAk, CL_ok, qf_La, SHP_ok, SHP_len, by show 1 ≤ d + 1; omega, by show 36 ≤ 36 * (d + 1); omega, Or.inl rfl, qj_La⟩
  have hl := lv_entry (as.map (q_v ad)) (n := y.2.2.1) (by rw [q_sl_len]; exact Nat.le_of_ble_eq_true hn)
  rw [lg_entry_eq]
  generalize (lg_sl (as.map (q_v ad)) ++ List.replicate (y.2.2.1 - (lg_sl (as.map (q_v ad))).length) Slot.unset).toArray = ls at hl ⊢
  have hhas := q_ent_has (Nat.le_of_ble_eq_true hn) hl
  rw [hlv] at hhas
  exact body p e s m below meth c D tc ad C hxW hP hlocks hrt hrows s.heap [] ls hP va_S.rf hhas
def x_cw (y : qD) (idx n : Nat) : Prop := q_lnB TS "CachedSpeakerLaw" idx y n ∧ Cond.instanceMethod y.1 ∈ TS ∧ Cond.selects y.1.cls y.1 y.1 ∈ TS ∧ y.1.cls = "CachedSpeaker"
theorem x_g0 : ∃ rs, SHP[0]? = some (.inl (0, rs)) := ⟨_, rfl⟩
theorem x_c0 : ∃ q, CL[0]? = some q ∧ q.1 = "CachedSpeaker" := ⟨_, rfl, rfl⟩
set_option maxHeartbeats 1000000 in
theorem q_CW0 {y yC : qD} {hh : List (Nat × Nat × Nat × Nat)} {tb : List qI} (F : x_La y tb) {l : Launch} {d dC : Nat} {as asC : List Value} (lv0 lvC : List Value) {M : qM} {Qv : Int32 → qM → Prop} {pc idx n : Nat} (hlv : q_ent as y.2.2.1 = lv0) (hn : Nat.ble (q_sl as).length y.2.2.1 = true)
    (hC : q_CI TS CL SHP dC yC (.ref 0 :: asC) M Qv) (hdC : dC < d) (hy : x_cw yC idx n) (hlen : asC.length = n) (hd : decode y.2.1 pc = .ok (.invokevirtual idx, 3))
    (entry : ∀ (S : Nat → List Value → List Value → qM → Prop) (Rt : Option Int32 → qM → Prop), q_Mach TS CL TY SHP (0, fun _ => 0) E_La tb d S Rt → S pc lvC (asC.reverse ++ .ref 0 :: [.int 0, .ref 87]) M → S 0 lv0 [] M)
    (back : ∀ (S : Nat → List Value → List Value → qM → Prop) (Rt : Option Int32 → qM → Prop), q_Mach TS CL TY SHP (0, fun _ => 0) E_La tb d S Rt → ∀ v M', Rt (some 0) (q_upL M' 87 0 v.toInt64) → S (pc + 3) lvC (.int v :: [.int 0, .ref 87]) M') :
    q_CW l d 0 0 y hh as M (fun r M' => r = 0 ∧ ∃ v M1, Qv v M1 ∧ M' = q_upL M1 87 0 v.toInt64) := by
  refine q_CW.of F lv0 hlv hn ?_
  intro p e s m below meth c D tc ad C hxW hP hlocks hrt hrows
  have mch := q_mach (l := l) (e := e) (below := below) (meth := meth) (Q := MQ below (q_QW D tc ad s.heap.size (fun r M' => r = 0 ∧ ∃ v M1, Qv v M1 ∧ M' = q_upL M1 87 0 v.toInt64)) (as.map (q_v ad)).toArray s 0 0 (q_A SHP.length ad s.heap.size)) (cells := 0) (slots := 0) (d := d) (Rt := fun o M' => match o with | some r => r = 0 ∧ ∃ v M1, Qv v M1 ∧ M' = q_upL M1 87 0 v.toInt64 | none => False)
    C ql_La (fun q hq => Or.inr hq) TS_good ⟨Nat.zero_le _, Nat.zero_le _⟩ ⟨Nat.le_refl _, Nat.le_refl _⟩ F.2.2.2 (fun pc hd lv v M' hr H locs ls hP hS hl => ?_) (fun _ _ _ _ h => h.elim)
  · obtain ⟨rs, g1⟩ := x_g0
    obtain ⟨q, g2, g3⟩ := x_c0
    refine entry _ _ mch (q_callV C (fun q hq => Or.inr hq) TS_good ⟨Nat.zero_le _, Nat.zero_le _⟩ (d := dC) ⟨by show dC + 2 ≤ d + 1; omega, by show 36 * (dC + 2) ≤ 36 * (d + 1); omega⟩ hd hy.1 hy.2.1 hy.2.2.1 g1 g2 (g3.trans hy.2.2.2.symm) hlen (by decide) hC (fun r M' hr => ?_))
    obtain ⟨v, rfl, hv⟩ := hr
    exact back _ _ mch v M' ⟨rfl, v, M', hv, rfl⟩
  · exact W.zret C.1 C.2.1 hrt rfl (fun t ht hW => ⟨⟨some (.int v), M', rfl, ⟨v, rfl, hr⟩, by rw [ht]; exact hP⟩, hS.F ht⟩) hS.2.2 hd
