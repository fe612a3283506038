/-! THE CLAIM OUT OF ONE WALK OF THE LAW'S BODY. Your part is whole_start (and what it stands on); all else here is the same for every law, but numbers. -/
def R_law : String := "CachedSpeakerLaw"
def lw_P (b : Addr) (xs : List Int32) (args : Array Value) (s : State) : Prop := args = #[.ref b] ∧ s.IntsAt b xs ∧ xs.length ≤ 2560 ∧ (Jvm.Cond.and given_1 narrow_1).before args s = true
def lw_Q (_ : Array Value) (s : State) (o : Outcome) (t : State) : Prop := o = .returned (some (.int 1)) ∧ Framed s o t [] 601024 7293034
def lw_Z (below : List Frame) (a : Array Value) (s : State) : State → Prop := fun t => ∃ o, t.status = .running ∧ Ended t below o ∧ lw_Q a s o t
/-- the law's own end, with 1 on the stack, nothing written that was there before, its room as the claim has it -/
theorem lw_ret {p : Program} {l : Launch} {e : Env} {s : State} {m : MethodId} {below : List Frame} {meth : Method} {c : Code} {b : Nat} (hx : p.tables.exec = Jvm.exec) (hb : c.code = code) (hr : meth.sig.returnType = ret) (hlocks : meth.locks = false) {pc : Nat} {H : Heap} {ls : Array Slot} (hdg : decode code pc = .ok (.ireturn, 1)) : W p l e room_1 s m #[Value.ref b] below meth c H [] 601024 7293034 (lw_Z below #[Value.ref b] s) (F0 m pc ls [.int 1]) := by
  intro T hT X
  obtain ⟨fs, hret, hrun, hended, hW, hframe⟩ := X.leave (v := some (.int 1)) (hlocks := hlocks) (fun h => by rw [hr] at h; cases h)
  have hmeth' : T.vm.method? m = some meth := X.method'
  refine ⟨T.setFrames fs, ?_, .returned (some (.int 1)), hrun, hended, rfl, ⟨_, rfl⟩, hW, hframe⟩
  jvm_step X.here [X.here.top, hx, hb, hdg, hmeth', hr, ret, narrow_b1]
  (try refine ⟨rfl, ?_⟩); (try refine ⟨rfl, ?_⟩)
  first | (intro acts; rw [hret _ acts rfl rfl rfl]) | rw [hret _ _ rfl rfl rfl]
  exact Steps.refl _
/-- what holds at the law's entry: the machine, the code, the tables' words (any of lw_tbl by 'hts w (by decide +kernel)'), the script of L ints xs at the cell b, what the Statement gives of the start (any of its parts by flat_of_before) -/
def lw_At (p : Program) (s : State) (m : MethodId) (meth : Method) (c : Code) (b L : Nat) (xs : Nat → Int32) : Prop :=
  p.tables.exec = Jvm.exec ∧ c.code = code ∧ meth.sig.returnType = ret ∧ c.maxLocals = 7 ∧ s.vm.findClass R_law = some m.cls ∧ (∀ w ∈ lw_tbl, w.before #[Value.ref b] s = true) ∧ va_X b L xs s s.heap ∧ b < s.heap.size ∧ meth.locks = false ∧ (Jvm.Cond.and given_1 narrow_1).before #[Value.ref b] s = true
section LAWL
variable {p : Program} {l : Launch} {e : Env} {s : State} {m : MethodId} {below : List Frame} {meth : Method} {c : Code} {b L : Nat} {xs : Nat → Int32} {tc : Nat → ClassId} {D : va_G} {ad : Nat → Nat}
/-- what stands during the law's walk, once all is made -/
abbrev lw_C (p : Program) (s : State) (m : MethodId) (c : Code) (b L : Nat) (xs : Nat → Int32) (tc : Nat → ClassId) (D : va_G) (ad : Nat → Nat) : Prop :=
  q_Cx p room_1 s m #[Value.ref b] c TS "CachedSpeakerLaw" code 7 E_La CL TY tc D SHP ad (fun q => s.heap.size ≤ q) (L + 1, xs)
abbrev lw_S (p : Program) (l : Launch) (e : Env) (s : State) (m : MethodId) (below : List Frame) (meth : Method) (c : Code) (b : Nat) (tc : Nat → ClassId) (D : va_G) (ad : Nat → Nat) (cells slots : Nat) : Nat → List Value → List Value → qM → Prop :=
  q_St p l e room_1 s m #[Value.ref b] below meth c (lw_Z below #[Value.ref b] s) 7 CL tc D SHP ad (fun q => s.heap.size ≤ q) cells slots
theorem lw_mach (C : lw_C p s m c b L xs tc D ad) (hr : meth.sig.returnType = ret) (hlk : meth.locks = false) {cells slots : Nat} (h1 : cells ≤ 601024) (h2 : slots ≤ 7293034) :
    q_Mach TS CL TY SHP (L + 1, xs) E_La t_La_law 9 (lw_S p l e s m below meth c b tc D ad cells slots) (fun o _ => o = some 1) := by
  refine q_mach C ql_La (fun q hq => hq) TS_good ⟨h1, h2⟩ ⟨by decide, by decide⟩ (q_tb_of b_La_law) ?_ ?_
  · intro pc hd lv v M hv H locs ls hP hS hl
    have hv2 : some v = some (1 : Int32) := hv
    cases hv2
    refine W.widen h1 h2 ?_
    have := W.forget (locs := []) (L := locs) (fun q hq => hS.2.2 q hq) (lw_ret (p := p) (l := l) (e := e) (s := s) (m := m) (below := below) (b := b) C.1 C.2.1 hr hlk (H := H) (ls := ls) hd)
    rw [List.nil_append] at this
    exact this
  · intro pc hd lv M hv
    have hv2 : none = some (1 : Int32) := hv
    cases hv2
def lw_dead (M : qM) : Prop := M.1 9 7 = 0 ∧ (M.1 69 17 = 0 ∨ (¬ M.1 69 17 = 0 ∧ ¬ M.1 69 18 = 0))
theorem lw_run {M : qM} (h : InvR M) : lw_dead M ∨ ∃ c r, cOk c ∧ LC c M ∧ LR c M ∧ rsOk c r ∧ rsC c (M.1 4) r M ∧ rsR c (M.1 4) r M ∧ r.2.2.2.2 = true := by
  obtain ⟨-, h⟩ := h
  rcases h with ⟨-, -, q⟩ | ⟨c, hc, g1, g2, q | ⟨r, ho, rC, rR⟩⟩
  · exact Or.inl ⟨q.2.2.2, Or.inl q.1⟩
  · exact Or.inl ⟨q.2.2.2, Or.inl q.1⟩
  · by_cases hg : r.2.2.2.2 = true
    · exact Or.inr ⟨c, r, hc, g1, g2, ho, rC, rR, hg⟩
    · have hg2 : r.2.2.2.2 = false := by cases h0 : r.2.2.2.2 <;> simp_all
      refine Or.inl ⟨by rw [rC.2.2.1, hg2]; rfl, Or.inr ⟨by rw [rR.1]; exact n_ne10, by rw [rR.2.1, hg2]; exact n_ne10⟩⟩
theorem lw_20 {a : Int32} (h : ¬ (a < 1 ∨ 20 < a)) : ∃ n : Nat, 1 ≤ n ∧ n ≤ 20 ∧ a = nI n := by
  rw [n_lt, n_lt, show (1 : Int32).toInt = 1 from rfl, show (20 : Int32).toInt = 20 from rfl] at h
  refine ⟨a.toInt.toNat, by omega, by omega, ?_⟩
  rw [n_eq, nI_toInt (by omega)]
  omega
set_option maxHeartbeats 4000000 in
/-- all turns, from any that comes, to the end -/
theorem lw_loop (C : lw_C p s m c b L xs tc D ad) (hx : x_W s) (htr : l.stackTraces = false) (hr : meth.sig.returnType = ret) (hlk : meth.locks = false) (hL : L ≤ 2560) :
    ∀ (n i cells slots : Nat) (M : qM), L ≤ i + 5 * n + 4 → i ≤ L + 5 → cells + n ≤ 601024 → slots + 6 * n ≤ 7293034 → Inv M → lw_S p l e s m below meth c b tc D ad cells slots 23 (lv7 i) [] M := by
  have fin : ∀ (i cells slots : Nat) (M : qM), L ≤ i + 4 → i ≤ L + 5 → cells ≤ 601024 → slots ≤ 7293034 → lw_S p l e s m below meth c b tc D ad cells slots 23 (lv7 i) [] M := fun i cells slots M h1 h2 h3 h4 =>
    p_La_law_23_18 (lw_mach C hr hlk h3 h4) ⟨⟨rfl, Nat.succ_pos _⟩, i5_lt h1 hL (by omega), rfl⟩
  intro n
  induction n with
  | zero => intro i cells slots M h1 h2 h3 h4 hI; exact fin i cells slots M (by omega) h2 (by omega) (by omega)
  | succ n ih =>
    intro i cells slots M h1 h2 h3 h4 hI
    by_cases hend : L ≤ i + 4
    · exact fin i cells slots M hend h2 (by omega) (by omega)
    have hi : i + 5 ≤ L := by omega
    have kk : ∀ cs ss, cs ≤ cells + 1 → ss ≤ slots + 6 → ∀ M', Inv M' → lw_S p l e s m below meth c b tc D ad cs ss 23 (lv7 (i + 5)) [] M' := fun cs ss a1 a2 M' hM => ih (i + 5) cs ss M' (by omega) (by omega) (by omega) (by omega) hM
    have mch : ∀ cs ss, cs ≤ cells + 1 → ss ≤ slots + 6 → q_Mach TS CL TY SHP (L + 1, xs) E_La t_La_law 9 (lw_S p l e s m below meth c b tc D ad cs ss) (fun o _ => o = some 1) := fun cs ss a1 a2 => lw_mach C hr hlk (by omega) (by omega)
    obtain ⟨zs, hzL, hzB, hz7, hz72, hz6, hz12⟩ := hI.2.2.1
    have hRB := hI.2.2.2.1.2
    have hR71 := hI.2.2.2.1.1
    have hbd : ∀ j, bd 128 (M.1 4 j) := fun j => isB_bd (hRB j)
    refine law_iter (mch cells slots (by omega) (by omega)) hI hi hL (kk cells slots (by omega) (by omega)) ?_ ?_ ?_
    · have cb : ∀ {mc ms : Nat} {Post : Int32 → qM → Prop}, mc ≤ 1 → ms ≤ 6 → q_CW l 7 mc ms y_La_begin hhB [.ref 0, .ref 87] M Post → (∀ v M', Post v M' → lw_S p l e s m below meth c b tc D ad (cells + mc) (slots + ms) 392 (lv7 i) [.int v] M') → lw_S p l e s m below meth c b tc D ad cells slots 389 (lv7 i) [.ref 87, .ref 0] M := fun {mc ms _} a1 a2 hm k =>
        x_callSW (as := [.ref 0, .ref 87]) C (fun q hq => hq) (fun q hq => hq) hx (d := 7) ⟨by decide, by decide⟩ ⟨show cells + mc ≤ 601024 by omega, show slots + ms ≤ 7293034 by omega⟩ (by decide +kernel) sw_begin rfl hm k
      rcases hI.2.2.2.2 with ⟨m1, m2, -⟩ | ⟨q, hc, hLC, hLR, -⟩
      · refine cb (by omega) (by omega) (l_beginS (c_begin0 htr m1)) (fun v M' g => ?_)
        obtain ⟨rfl, rfl⟩ := g
        exact k_begin0 (mch _ _ (by omega) (by omega)) (kk _ _ (by omega) (by omega)) hI m2
      · by_cases g1 : 1 ≤ (toks (M.1 4) (q 5) zs).length ∧ (toks (M.1 4) (q 5) zs).length ≤ q 4
        · refine cb (by omega) (by omega) (l_begin1 (c_begin1 hc hLC hbd hzB hz7 hz6 hzL g1.1 g1.2)) (fun v M' g => ?_)
          obtain ⟨rfl, w, M1, g2, rfl⟩ := g
          exact k_begin1 (mch _ _ (by omega) (by omega)) (kk _ _ (by omega) (by omega)) hI hc hLC hLR hzB hz72 hz12 hzL g1.1 g1.2 g2
        · refine cb (by omega) (by omega) (l_beginA (c_begin2 htr hc hLC hzB hz7 hz6 hzL (by omega))) (fun v M' g => ?_)
          obtain ⟨rfl, x1, x2⟩ := g
          have e71 : M'.1 71 = M.1 71 := x2.1 71 (by omega)
          have e69 : M'.1 69 = M.1 69 := x2.1 69 (by omega)
          have I1 : Inv M' := hI.to (fun x hx => x2.1 x (by omega)) (x1 1 (by decide)) (fun k _ _ => by rw [e69])
          exact k_begin2 (mch _ _ (by omega) (by omega)) (kk _ _ (by omega) (by omega)) I1 hc (hLR.to2 (fun k _ _ => by rw [e69]) e71) hzB (by rw [x2.1 72 (by omega)]; exact hz72) (by rw [e69]; exact hz12) hzL (by rw [e71, hR71]; omega)
    · have cb : ∀ {mc ms : Nat} {Post : Int32 → qM → Prop}, mc ≤ 1 → ms ≤ 6 → q_CW l 7 mc ms y_La_next hhN [.ref 0, .ref 87] M Post → (∀ v M', Post v M' → lw_S p l e s m below meth c b tc D ad (cells + mc) (slots + ms) 436 (lv7 i) [.int v] M') → lw_S p l e s m below meth c b tc D ad cells slots 433 (lv7 i) [.ref 87, .ref 0] M := fun {mc ms _} a1 a2 hm k =>
        x_callSW (as := [.ref 0, .ref 87]) C (fun q hq => hq) (fun q hq => hq) hx (d := 7) ⟨by decide, by decide⟩ ⟨show cells + mc ≤ 601024 by omega, show slots + ms ≤ 7293034 by omega⟩ (by decide +kernel) sw_next rfl hm k
      rcases lw_run hI.2.2.2 with ⟨d1, d2⟩ | ⟨q, r, hc, hLC, hLR, ho, rC, rR, hg⟩
      · refine cb (by omega) (by omega) (l_nextS (c_next0 htr d1)) (fun v M' g => ?_)
        obtain ⟨rfl, rfl⟩ := g
        exact k_next0 (mch _ _ (by omega) (by omega)) (kk _ _ (by omega) (by omega)) hI d2
      · refine cb (by omega) (by omega) (l_next1 (c_next1 hc hLC.1 hbd rC ho hg)) (fun v M' g => ?_)
        obtain ⟨rfl, w, M1, g2, rfl⟩ := g
        exact k_next1 (mch _ _ (by omega) (by omega)) (kk _ _ (by omega) (by omega)) hI hc hLC hLR ho rR hg g2
    · generalize ha : xs (nI i + 1).toNatClampNeg = a
      have cb : ∀ {mc ms : Nat} {Post : Int32 → qM → Prop}, mc ≤ 1 → ms ≤ 6 → q_CW l 7 mc ms y_La_go hhG [.ref 0, .int a, .ref 87] M Post → (∀ v M', Post v M' → lw_S p l e s m below meth c b tc D ad (cells + mc) (slots + ms) 486 (lv7 i) [.int v] M') → lw_S p l e s m below meth c b tc D ad cells slots 483 (lv7 i) [.ref 87, .int a, .ref 0] M := fun {mc ms _} a1 a2 hm k =>
        x_callSW (as := [.ref 0, .int a, .ref 87]) C (fun q hq => hq) (fun q hq => hq) hx (d := 7) ⟨by decide, by decide⟩ ⟨show cells + mc ≤ 601024 by omega, show slots + ms ≤ 7293034 by omega⟩ (by decide +kernel) sw_go rfl hm k
      by_cases hA : a < 1 ∨ 20 < a
      · refine cb (by omega) (by omega) (l_goA (c_go0 htr hA)) (fun v M' g => ?_)
        obtain ⟨rfl, rfl⟩ := g
        exact k_go0 (mch _ _ (by omega) (by omega)) (kk _ _ (by omega) (by omega)) hI hi hL (by decide) (by rw [ha]; exact r_go0 hA)
      · have hA1 : ¬ a < 1 := fun z => hA (Or.inl z)
        have hA2 : a ≤ 20 := Decidable.byContradiction (fun z => hA (Or.inr (n_nle.mp z)))
        rcases lw_run hI.2.2.2 with ⟨d1, d2⟩ | ⟨q, r, hc, hLC, hLR, ho, rC, rR, hg⟩
        · refine cb (by omega) (by omega) (l_goS (c_go2 htr hA1 hA2 d1)) (fun v M' g => ?_)
          obtain ⟨rfl, rfl⟩ := g
          exact k_go0 (mch _ _ (by omega) (by omega)) (kk _ _ (by omega) (by omega)) hI hi hL (by decide) (by rw [ha]; exact r_go2 hA1 hA2 d2)
        · obtain ⟨n0, hn1, hn2, rfl⟩ := lw_20 hA
          refine cb (by omega) (by omega) (l_go1 (c_go1 hc hLC.1 hbd rC ho hg hn1 hn2)) (fun v M' g => ?_)
          obtain ⟨rfl, w, M1, g2, rfl⟩ := g
          exact k_go1 (mch _ _ (by omega) (by omega)) (kk _ _ (by omega) (by omega)) hI hi hL hn1 hn2 ha hc hLC hLR ho rR hg g2
end LAWL
