/-! THE LAW'S begin, next, go: their contracts; and the call of one -/
def hhB : List (Nat × Nat × Nat × Nat) := [(0, 8, 11, 13), (0, 8, 14, 15)]
def hhN : List (Nat × Nat × Nat × Nat) := [(0, 8, 11, 13)]
def hhG : List (Nat × Nat × Nat × Nat) := [(0, 9, 12, 15), (0, 9, 15, 13)]
theorem fl_begin : x_La y_La_begin t_La_begin := ⟨by decide +kernel, rfl, rfl, q_tb_of b_La_begin⟩
theorem fl_next : x_La y_La_next t_La_next := ⟨by decide +kernel, rfl, rfl, q_tb_of b_La_next⟩
theorem fl_go : x_La y_La_go t_La_go := ⟨by decide +kernel, rfl, rfl, q_tb_of b_La_go⟩
set_option maxRecDepth 100000 in
theorem cw_begin : x_cw y_CS_begin 7 0 := ⟨⟨by decide +kernel, by decide +kernel, by decide +kernel, by decide +kernel, by decide⟩, by decide +kernel, by decide +kernel, rfl⟩
set_option maxRecDepth 100000 in
theorem cw_next : x_cw y_CS_next 17 0 := ⟨⟨by decide +kernel, by decide +kernel, by decide +kernel, by decide +kernel, by decide⟩, by decide +kernel, by decide +kernel, rfl⟩
set_option maxRecDepth 100000 in
theorem cw_go : x_cw y_CS_go 20 1 := ⟨⟨by decide +kernel, by decide +kernel, by decide +kernel, by decide +kernel, by decide⟩, by decide +kernel, by decide +kernel, rfl⟩
set_option maxRecDepth 100000 in
theorem lk13 : Cond.classLink "CachedSpeakerLaw" 13 ISE ∈ TS := by decide +kernel
set_option maxRecDepth 100000 in
theorem lk15 : Cond.classLink "CachedSpeakerLaw" 15 IAE ∈ TS := by decide +kernel
theorem ok87 : q_ok SHP 2 87 (0 : Int32) := ⟨1, rfl, vp_in_nI (n := 0) (by decide) (by decide)⟩
theorem l_begin1 {l : Launch} {M : qM} {Qv : Int32 → qM → Prop} (hC : q_CI TS CL SHP 6 y_CS_begin [.ref 0] M Qv) : q_CW l 7 0 0 y_La_begin hhB [.ref 0, .ref 87] M (fun r M' => r = 0 ∧ ∃ v M1, Qv v M1 ∧ M' = q_upL M1 87 0 v.toInt64) :=
  q_CW0 fl_begin [.ref 0, .ref 87, .null] [.ref 0, .ref 87, .null] (asC := []) rfl rfl hC (by decide) cw_begin rfl (by decide +kernel) (fun S Rt h k => p_La_begin_0_0 h k) (fun S Rt h v M' hr => p_La_begin_6_0 h ⟨ok87, hr⟩)
theorem l_beginS {l : Launch} {M : qM} {Post : qM → Prop} (hC : q_CT l 6 y_CS_begin [.ref 0] M ISE Post) : q_CW l 7 1 6 y_La_begin hhB [.ref 0, .ref 87] M (fun r M' => r = 1 ∧ Post M') :=
  q_CWT (j := 2) (kk := 1) fl_begin [.ref 0, .ref 87, .null] [.ref 0, .ref 87, .null] (asC := []) (preH := []) rfl rfl hC (by decide) cw_begin rfl (by decide +kernel) (fun S Rt h k => p_La_begin_0_0 h k) rfl (by decide) (by decide) lk13 (by decide) (fun z hz => by cases hz) (by decide) (by decide +kernel) (by decide +kernel) rfl (by decide +kernel)
theorem l_beginA {l : Launch} {M : qM} {Post : qM → Prop} (hC : q_CT l 6 y_CS_begin [.ref 0] M IAE Post) : q_CW l 7 1 6 y_La_begin hhB [.ref 0, .ref 87] M (fun r M' => r = 2 ∧ Post M') :=
  q_CWT (j := 2) (kk := 2) fl_begin [.ref 0, .ref 87, .null] [.ref 0, .ref 87, .null] (asC := []) (preH := [(0, 8, 11, 13)]) rfl rfl hC (by decide) cw_begin rfl (by decide +kernel) (fun S Rt h k => p_La_begin_0_0 h k) rfl (by decide) (by decide) lk15 (by decide)
    (fun z hz => by
      simp only [List.mem_cons, List.not_mem_nil, or_false] at hz
      subst hz
      exact ⟨by decide, ISE, lk13, by decide⟩) (by decide) (by decide +kernel) (by decide +kernel) rfl (by decide +kernel)
theorem l_next1 {l : Launch} {M : qM} {Qv : Int32 → qM → Prop} (hC : q_CI TS CL SHP 6 y_CS_next [.ref 0] M Qv) : q_CW l 7 0 0 y_La_next hhN [.ref 0, .ref 87] M (fun r M' => r = 0 ∧ ∃ v M1, Qv v M1 ∧ M' = q_upL M1 87 0 v.toInt64) :=
  q_CW0 fl_next [.ref 0, .ref 87, .null] [.ref 0, .ref 87, .null] (asC := []) rfl rfl hC (by decide) cw_next rfl (by decide +kernel) (fun S Rt h k => p_La_next_0_0 h k) (fun S Rt h v M' hr => p_La_next_6_0 h ⟨ok87, hr⟩)
theorem l_nextS {l : Launch} {M : qM} {Post : qM → Prop} (hC : q_CT l 6 y_CS_next [.ref 0] M ISE Post) : q_CW l 7 1 6 y_La_next hhN [.ref 0, .ref 87] M (fun r M' => r = 1 ∧ Post M') :=
  q_CWT (j := 2) (kk := 1) fl_next [.ref 0, .ref 87, .null] [.ref 0, .ref 87, .null] (asC := []) (preH := []) rfl rfl hC (by decide) cw_next rfl (by decide +kernel) (fun S Rt h k => p_La_next_0_0 h k) rfl (by decide) (by decide) lk13 (by decide) (fun z hz => by cases hz) (by decide) (by decide +kernel) (by decide +kernel) rfl (by decide +kernel)
theorem l_go1 {l : Launch} {M : qM} {a : Int32} {Qv : Int32 → qM → Prop} (hC : q_CI TS CL SHP 6 y_CS_go [.ref 0, .int a] M Qv) : q_CW l 7 0 0 y_La_go hhG [.ref 0, .int a, .ref 87] M (fun r M' => r = 0 ∧ ∃ v M1, Qv v M1 ∧ M' = q_upL M1 87 0 v.toInt64) :=
  q_CW0 fl_go [.ref 0, .int a, .ref 87, .null] [.ref 0, .int a, .ref 87, .null] (asC := [.int a]) rfl rfl hC (by decide) cw_go rfl (by decide +kernel) (fun S Rt h k => p_La_go_0_0 h k) (fun S Rt h v M' hr => p_La_go_7_0 h ⟨ok87, hr⟩)
theorem l_goA {l : Launch} {M : qM} {a : Int32} {Post : qM → Prop} (hC : q_CT l 6 y_CS_go [.ref 0, .int a] M IAE Post) : q_CW l 7 1 6 y_La_go hhG [.ref 0, .int a, .ref 87] M (fun r M' => r = 1 ∧ Post M') :=
  q_CWT (j := 3) (kk := 1) fl_go [.ref 0, .int a, .ref 87, .null] [.ref 0, .int a, .ref 87, .null] (asC := [.int a]) (preH := []) rfl rfl hC (by decide) cw_go rfl (by decide +kernel) (fun S Rt h k => p_La_go_0_0 h k) rfl (by decide) (by decide) lk15 (by decide) (fun z hz => by cases hz) (by decide) (by decide +kernel) (by decide +kernel) rfl (by decide +kernel)
theorem l_goS {l : Launch} {M : qM} {a : Int32} {Post : qM → Prop} (hC : q_CT l 6 y_CS_go [.ref 0, .int a] M ISE Post) : q_CW l 7 1 6 y_La_go hhG [.ref 0, .int a, .ref 87] M (fun r M' => r = 2 ∧ Post M') :=
  q_CWT (j := 3) (kk := 2) fl_go [.ref 0, .int a, .ref 87, .null] [.ref 0, .int a, .ref 87, .null] (asC := [.int a]) (preH := [(0, 9, 12, 15)]) rfl rfl hC (by decide) cw_go rfl (by decide +kernel) (fun S Rt h k => p_La_go_0_0 h k) rfl (by decide) (by decide) lk13 (by decide)
    (fun z hz => by
      simp only [List.mem_cons, List.not_mem_nil, or_false] at hz
      subst hz
      exact ⟨by decide, IAE, lk15, by decide⟩) (by decide) (by decide +kernel) (by decide +kernel) rfl (by decide +kernel)
def x_sw (y : qD) (hh : List (Nat × Nat × Nat × Nat)) (idx n : Nat) : Prop := Cond.codeWith y.1 y.2.1 y.2.2.1 y.2.2.2 hh ∈ TS ∧ Cond.initialized y.1.cls ∈ TS ∧ Cond.methodLink "CachedSpeakerLaw" idx y.1 ∈ TS ∧ Cond.static y.1 ∈ TS ∧ (y.1.cls ≠ "java/lang/invoke/MethodHandle" ∧ y.1.cls ≠ "java/lang/invoke/VarHandle" ∧ (parseMethodDescriptor y.1.desc).map (fun d => d.parameters.length) = some n) ∧ y.2.2.1 ≤ 17
set_option maxRecDepth 100000 in
theorem sw_begin : x_sw y_La_begin hhB 70 2 := ⟨by decide +kernel, by decide +kernel, by decide +kernel, by decide +kernel, by decide +kernel, by decide⟩
set_option maxRecDepth 100000 in
theorem sw_next : x_sw y_La_next hhN 79 2 := ⟨by decide +kernel, by decide +kernel, by decide +kernel, by decide +kernel, by decide +kernel, by decide⟩
set_option maxRecDepth 100000 in
theorem sw_go : x_sw y_La_go hhG 82 3 := ⟨by decide +kernel, by decide +kernel, by decide +kernel, by decide +kernel, by decide +kernel, by decide⟩
set_option maxHeartbeats 2000000 in
theorem x_callSW {p : Program} {l : Launch} {e : Env} {R : Room} {s : State} {m : MethodId} {args : Array Value} {below : List Frame} {meth : Method} {c : Code} {Q : State → Prop} {cc : ByteArray} {nL : Nat} {E : qE} {tc : Nat → ClassId} {D : va_G} {ad : Nat → Nat} {A : Nat → Prop} {sc : Nat × (Nat → Int32)} {cells slots : Nat}
    (C : q_Cx p R s m args c TS "CachedSpeakerLaw" cc nL E CL TY tc D SHP ad A sc) (hN : ∀ q, s.heap.size ≤ q → A q) (hA : ∀ q, A q → s.heap.size ≤ q) (hx : x_W s) {d mc ms : Nat} (hR : d + 2 ≤ R.frames ∧ 36 * (d + 2) ≤ R.locals) (hcs : cells + mc ≤ R.cells ∧ slots + ms ≤ R.slots)
    {pc idx n : Nat} (hd : decode cc pc = .ok (.invokestatic idx, 3)) {y : qD} {hh : List (Nat × Nat × Nat × Nat)} (hy : x_sw y hh idx n) {lv as : List Value} (hn : as.length = n) {M : qM} {Post : Int32 → qM → Prop}
    (hm : q_CW l d mc ms y hh as M Post) (k : ∀ v M', Post v M' → q_St p l e R s m args below meth c Q nL CL tc D SHP ad A (cells + mc) (slots + ms) (pc + 3) lv [.int v] M') :
    q_St p l e R s m args below meth c Q nL CL tc D SHP ad A cells slots pc lv as.reverse M := by
  obtain ⟨hexec, hbc, hml, hown, hts, hK, hinj, hAk, -⟩ := C
  obtain ⟨w1, w2, w3, w4, w5, w6⟩ := hy
  intro H locs ls hP hS hl T hT X0
  have hws : ∀ w ∈ (Cond.codeWith y.1 y.2.1 y.2.2.1 y.2.2.2 hh :: TS), ∀ (a' : Array Value) (U : State), s.WarmedH U.vm → w.before a' U = true := pay_in hts (fun w hw => by
    rcases List.mem_cons.mp hw with rfl | hw
    · exact ⟨w1, TS_good _ w1⟩
    · exact ⟨hw, TS_good _ hw⟩)
  have hblind : FrameBlind (q_PcT D tc ad H.size as M) := fun a U g mk q => ⟨q_blind _ _ _ _ q.1, q.2.vm rfl rfl⟩
  have hBk : Back l R p e below s args y.1 3 8 (PreOf R mc ms (q_PcT D tc ad H.size as M)) (PostOf (q_QW D tc ad H.size Post) mc ms (q_A SHP.length ad H.size)) :=
    va_backW (hh := hh) (bytes := y.2.1) (maxL := y.2.2.1) (ret := y.2.2.2) (hm D tc ad H.size) hblind rfl rfl hR.1 (by show 8 + (y.2.2.1 + 11) + 36 * (d + 1) ≤ _; omega) hws List.mem_cons_self (fun a' U hW => word_at hW (TS_good _ w2) (hts _ w2))
  obtain ⟨mk, methM, cM, hnamed, hmethM, -, -, -, -, -, -, hsigM⟩ := Cond.codeWith_spec (hts _ w1)
  have hstatic : methM.isStatic = true := Cond.static_spec hnamed hmethM (hts _ w4)
  obtain ⟨kP, hkP, -⟩ := className_of_methodNamed hnamed
  have hinitP : kP.init = .initialized := Cond.initialized_spec (findClass_of_methodNamed hnamed) hkP (hts _ w2)
  have hlen : ∀ sig, parseMethodDescriptor y.1.desc = some sig → (as.map (q_v ad)).length = sig.parameters.length := fun sig h => by
    have h2 := w5.2.2
    rw [h] at h2
    rw [List.length_map, hn]
    exact (Option.some.inj h2).symm
  have hst : (F0 m pc ls (as.reverse.map (q_v ad))).stack = (as.map (q_v ad)).reverse ++ [] := by rw [List.append_nil, ← List.map_reverse]
  obtain ⟨vm₁, X₁, hstep₁⟩ := X0.invokestatic hexec hown (hts _ w3) hnamed hmethM hstatic hkP hinitP ⟨w5.1, w5.2.1⟩ (g := F0 m pc ls (as.reverse.map (q_v ad))) rfl (argsL := as.map (q_v ad)) (rest := []) (hlen _ hsigM) hst (by rw [hbc]; exact hd)
  have hkeepS : ∀ (q : Nat) (cell : Cell), s.heap[q]? = some cell → cell.vm.isStatics = true → T.heap[q]? = some cell := fun q cell h1 h2 => by
    have hlt := (Array.getElem?_eq_some_iff.mp h1).1
    rw [hT, hS.2.1 q hlt (fun z => by have := hA q z; omega)]; exact h1
  obtain ⟨v, ⟨BU, Bl, Bc, Bs⟩, XB, hpost, hsteps⟩ := hBk m meth c ⟨T.setVm vm₁, locs, cells, slots⟩ { (F0 m pc ls (as.reverse.map (q_v ad))) with stack := [] } (.invokestatic idx) mk (as.map (q_v ad)).toArray X₁ rfl (hl.1.trans hml.symm) (by rw [hbc]; exact hd) (by show 2 * 0 + 0 ≤ 8; omega) (X₁.named hnamed)
    ⟨hcs.1, hcs.2, ⟨rfl, by show T.heap.size = H.size; rw [hT], by show va_P D CL (q_wd tc ad M 0 SHP) T.heap; rw [hT]; exact hP, va_K.moved X₁.warmed.alike hK, hinj⟩, hx.move X₁.warmed hkeepS⟩
  obtain ⟨g', mk', t, L, e1, e2, hq, e3, e4, e5, e6⟩ := hpost
  dsimp only [Pt.U, Pt.locs, Pt.cells, Pt.slots] at XB e1 e2 e3 e5 e6 hsteps hq
  subst e3; subst e5; subst e6
  obtain ⟨⟨r, M', hr, ⟨w, rfl, hpo⟩, hP'⟩, hz, hk⟩ := hq
  cases hr
  have hsz : ((T.setVm vm₁).calling g' mk' (as.map (q_v ad)).toArray).heap = H := hT
  rw [hsz] at hz hk
  have hAA : ∀ q, q_A SHP.length ad H.size q → A q := fun q hq => by
    rcases hq with ⟨j, hj, rfl⟩ | h
    · exact hAk j hj
    · exact hN q (Nat.le_trans hS.1 h)
  have hS' : va_S A s.heap t.heap (locs ++ L) := ⟨Nat.le_trans hS.1 hz, fun q h1 h2 => by rw [hk q (Nat.lt_of_lt_of_le h1 hS.1) (fun z => h2 (hAA q z))]; exact hS.2.1 q h1 h2, fun q hq => by
    rcases List.mem_append.mp hq with h | h
    · exact hS.2.2 q h
    · exact hAA _ (e4 q h)⟩
  obtain ⟨tf, b1, b2⟩ := k w M' hpo t.heap (locs ++ L) ls hP' hS' hl BU e1 XB
  exact ⟨tf, hstep₁ _ fun acts => by rw [doInvoke_state]; exact hsteps.trans b1, b2⟩
