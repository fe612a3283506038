/-! THE LAW'S begin, next, go where the class throws -/
theorem x_split {α β : Type} {f : α → β} {l : List α} {p : List β} {x : β} {r : List β} (h : l.map f = p ++ x :: r) : ∃ p' x' r', l = p' ++ x' :: r' ∧ p'.map f = p ∧ f x' = x := by
  obtain ⟨l1, l2, rfl, h1, h2⟩ := List.map_eq_append_iff.mp h
  obtain ⟨y, l3, rfl, h3, -⟩ := List.map_eq_cons_iff.mp h2
  exact ⟨l1, y, l3, rfl, h1, h3⟩
set_option maxHeartbeats 2000000 in
theorem q_CWT {y yC : qD} {hh preH restH : List (Nat × Nat × Nat × Nat)} {xH : Nat × Nat × Nat × Nat} {tb : List qI} (F : x_La y tb) {l : Launch} {d dC : Nat} {as asC : List Value} (lv0 lvC : List Value) {M : qM} {X : String} {Post : qM → Prop} {pc idx n : Nat} (hlv : q_ent as y.2.2.1 = lv0) (hn : Nat.ble (q_sl as).length y.2.2.1 = true)
    (hC : q_CT l dC yC (.ref 0 :: asC) M X Post) (hdC : dC < d) (hy : x_cw yC idx n) (hlen : asC.length = n) (hd : decode y.2.1 pc = .ok (.invokevirtual idx, 3))
    (entry : ∀ (S : Nat → List Value → List Value → qM → Prop) (Rt : Option Int32 → qM → Prop), q_Mach TS CL TY SHP (0, fun _ => 0) E_La tb d S Rt → S pc lvC (asC.reverse ++ .ref 0 :: [.int 0, .ref 87]) M → S 0 lv0 [] M)
    (hrow : hh = preH ++ xH :: restH) (hcov : xH.1 ≤ pc ∧ pc < xH.2.1) (h0 : xH.2.2.2 ≠ 0) (hlk : Cond.classLink "CachedSpeakerLaw" xH.2.2.2 X ∈ TS) (hself : Cond.castable X X ∈ x_tab)
    (hpass : ∀ z ∈ preH, z.2.2.2 ≠ 0 ∧ ∃ nm, Cond.classLink "CachedSpeakerLaw" z.2.2.2 nm ∈ TS ∧ Cond.not (.castable X nm) ∈ x_not)
    {j : Fin 4} {kk : Int} {cd : Int32} (hjn : (j : Nat) < y.2.2.1) (hst : decode y.2.1 xH.2.2.1 = .ok (.astore_n j, 1)) (hic : decode y.2.1 (xH.2.2.1 + 1) = .ok (.iconst kk, 1)) (hcd : Int32.ofInt kk = cd) (hrt0 : decode y.2.1 (xH.2.2.1 + 1 + 1) = .ok (.ireturn, 1)) :
    q_CW l d 1 6 y hh as M (fun r M' => r = cd ∧ Post M') := by
  refine q_CW.of F lv0 hlv hn ?_
  intro p e s m below meth c D tc ad C hxW hP0 hlocks hrt hrows
  have mch := q_mach (l := l) (e := e) (below := below) (meth := meth) (Q := MQ below (q_QW D tc ad s.heap.size (fun r M' => r = cd ∧ Post M')) (as.map (q_v ad)).toArray s 1 6 (q_A SHP.length ad s.heap.size)) (cells := 0) (slots := 0) (d := d) (Rt := fun _ _ => False)
    C ql_La (fun q hq => Or.inr hq) TS_good ⟨Nat.zero_le _, Nat.zero_le _⟩ ⟨Nat.le_refl _, Nat.le_refl _⟩ F.2.2.2 (fun _ _ _ _ _ h => h.elim) (fun _ _ _ _ h => h.elim)
  refine entry _ _ mch ?_
  obtain ⟨hexec, hbc, hml, hown, hts, hK, hinj, hAk, -⟩ := C
  obtain ⟨⟨w1, w2, w3, w4, w5⟩, w6, w7, w8⟩ := hy
  obtain ⟨rs, g1⟩ := x_g0
  obtain ⟨q, g2, g3⟩ := x_c0
  intro H locs ls hP hS hl T hT X0
  obtain ⟨cellB, hcB, hoB, hclB⟩ := va_recv hK hP g2 (q_wd_get (tc := tc) (ad := ad) (M := M) g1)
  have hkeepS : ∀ (q : Nat) (cell : Cell), s.heap[q]? = some cell → cell.vm.isStatics = true → T.heap[q]? = some cell := fun q cell h1 h2 => by
    rw [hT, hS.2.1 q (Array.getElem?_eq_some_iff.mp h1).1 (q_A_st hP0 h1 h2)]; exact h1
  have hrest : (((asC.reverse ++ .ref 0 :: [.int 0, .ref 87] : List Value)).map (q_v ad)) = (asC.map (q_v ad)).reverse ++ .ref (ad 0) :: [.int 0, .ref (ad 87)] := by simp [q_v]
  rw [hrest]
  obtain ⟨x, vm₁, ⟨BU, Bl, Bc, Bs⟩, hW₁, XB, hpost, hsteps⟩ := x_callVT X0 hexec (own := "CachedSpeakerLaw") (C := yC.1.cls) (bytes := yC.2.1) (maxL := yC.2.2.1) (ret := yC.2.2.2) hown (hts _ w3) (hts _ w6) (hts _ w7) (hts _ w1) ⟨w4.1, w4.2.1⟩
    (x_back (R := q_rmW d 1 6) (p := p) (e := e) (below := below) hC (D := D) (tc := tc) (ad := ad) (sz := H.size) (by show dC + 2 ≤ d + 1; omega) (by show 8 + (yC.2.2.1 + 11) + 36 * (dC + 1) ≤ 36 * (d + 1); omega) hts w1 w2)
    (b := ad 0) (cellB := cellB) (by rw [hT]; exact hcB) hoB (by rw [w8, ← g3]; exact hclB) (g := F0 m pc ls ((asC.map (q_v ad)).reverse ++ .ref (ad 0) :: [.int 0, .ref (ad 87)])) rfl (hl.1.trans hml.symm) (argsL := asC.map (q_v ad)) (rest := [.int 0, .ref (ad 87)])
    (fun sig h => by
      have h2 := w4.2.2
      rw [h] at h2
      rw [List.length_map, hlen]
      exact (Option.some.inj h2).symm) rfl (by show 2 * 0 + (1 + (1 + 0)) ≤ 8; omega) (by rw [hbc]; exact hd)
    (fun vm₁ hW => ⟨Nat.le_refl _, Nat.le_refl _, ⟨by simp [q_v], by show T.heap.size = H.size; rw [hT], by show va_P D CL (q_wd tc ad M 0 SHP) T.heap; rw [hT]; exact hP, va_K.moved hW.alike hK, hinj⟩, hxW.move hW hkeepS⟩)
  obtain ⟨g', mk, t, L, e1, e2, ⟨x', M', ce, L', ex, z1, z2, z3, z4, z5, z6, z7, z8, z9, z10⟩, e3, e4, e5, e6⟩ := hpost
  dsimp only [Pt.U, Pt.locs, Pt.cells, Pt.slots] at XB e1 e2 e3 e5 e6 hsteps
  cases ex
  subst e3; subst e5; subst e6
  have hfX : s.vm.findClass X = some ce.cls := by rw [← z4]; exact (hW₁.alike.findClass ..).symm
  obtain ⟨c3, cT, hc3, hcT, hasg⟩ := Cond.castable_spec (hxW.1 _ (List.mem_append_left _ hself) (as.map (q_v ad)).toArray)
  cases hfX.symm.trans hc3
  cases hfX.symm.trans hcT
  have hpl : e.platform.magicAccessors = ({} : Platform).magicAccessors := by rw [XB.admits.platform]
  unfold x_rows at hrows
  rw [hrow] at hrows
  obtain ⟨pre, xx, rest, hsplit, hpre, hxx⟩ := x_split hrows
  have hxx2 : xx.startPc = xH.1 ∧ xx.endPc = xH.2.1 ∧ xx.handlerPc = xH.2.2.1 ∧ xx.catchType = xH.2.2.2 := by rw [← hxx]; exact ⟨rfl, rfl, rfl, rfl⟩
  obtain ⟨q1, q2, q3, q4⟩ := hxx2
  obtain ⟨hend, hk0⟩ := XB.catches_of_link hown (x := xx) (by rw [q4]; exact h0) (by rw [q4]; exact hts _ hlk) hfX hasg
  obtain ⟨vm', XV, st2⟩ := XB.thenCaughtThrough x rfl hsteps (cell := ce) (by rw [e1]; exact z2) (by rw [z3]; rfl) hk0 pre xx rest hsplit
    (fun z hz => by
      have hm : (z.startPc, z.endPc, z.handlerPc, z.catchType) ∈ preH := by rw [← hpre]; exact List.mem_map.mpr ⟨z, hz, rfl⟩
      obtain ⟨n1, nm, n2, n3⟩ := hpass _ hm
      exact RowPassed.of_words hpl hown n1 (hts _ n2) hfX (hxW.1 _ (List.mem_append_right _ n3) _))
    (by show (decide (xx.startPc ≤ pc) && decide (pc < xx.endPc)) = true; rw [q1, q2]; simp [hcov.1, hcov.2]) hend
  have hA : ∀ q, q_A SHP.length ad H.size q → q_A SHP.length ad s.heap.size q := fun q hq => by
    rcases hq with h | h
    · exact Or.inl h
    · exact Or.inr (Nat.le_trans hS.1 h)
  have hS' : va_S (q_A SHP.length ad s.heap.size) s.heap t.heap (locs ++ L) := by
    have hsz : ((T.setVm vm₁).calling g' mk (Value.ref (ad 0) :: asC.map (q_v ad)).toArray).heap = H := hT
    have z7' : va_F (q_A SHP.length ad H.size) ((T.setVm vm₁).calling g' mk (Value.ref (ad 0) :: asC.map (q_v ad)).toArray) t := z7
    obtain ⟨f1, f2⟩ := z7'
    rw [hsz] at f1 f2
    refine ⟨Nat.le_trans hS.1 f1, fun q h1 h2 => ?_, fun q hq => ?_⟩
    · rw [f2 q (Nat.lt_of_lt_of_le h1 hS.1) (fun z => h2 (hA q z))]; exact hS.2.1 q h1 h2
    · rcases List.mem_append.mp hq with h | h
      · exact hS.2.2 q h
      · exact hA _ (e4 q h)
  have K : W p l e (q_rmW d 1 6) s m (as.map (q_v ad)).toArray below meth c t.heap (locs ++ L) 1 6 (MQ below (q_QW D tc ad s.heap.size (fun r M' => r = cd ∧ Post M')) (as.map (q_v ad)).toArray s 1 6 (q_A SHP.length ad s.heap.size)) (F0 m xH.2.2.1 ls [.ref x]) := by
    refine lv_astore_n hexec hbc (lv := []) hst rfl ⟨hl.1, hl.2.1, fun q hq => by cases hq⟩ hjn rfl (fun ls' _ => ?_)
    refine lv_iconst hexec hbc hic hcd ?_
    exact W.zret hexec hbc hrt rfl (fun u hu hW => ⟨⟨some (.int cd), M', rfl, ⟨cd, rfl, rfl, z5⟩, by rw [hu]; exact z6⟩, hS'.F hu⟩) hS'.2.2 hrt0
  obtain ⟨tf, b1, b2⟩ := K (BU.setVm vm') e1 XV
  rw [q3] at st2
  exact ⟨tf, st2.trans b1, b2⟩
