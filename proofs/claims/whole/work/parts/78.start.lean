/-! THE LAW'S START: the world is made, and nothing is in it yet -/
def g_pm (h : Nat) : Nat := if h ≤ 10 then h else if h = 11 then 35 else if h ≤ 20 then h + 48 else if h ≤ 44 then h - 10 else if h ≤ 68 then h - 9 else h
def g_ad (o b h : Nat) : Nat := if h = 1000 then b else o + g_pm h
def M0 : qM := (fun _ _ => 0, fun _ _ => 0)
def g_i7 (tc : Nat → ClassId) : va_E := .inl (tc 2, 1, .inr (.inl (fun _ => 0)))
def r_all (tc : Nat → ClassId) (o : Nat) : List va_E := r_CS tc o ++ (r_Rf tc (o + 69) ++ [g_i7 tc])
theorem SHP_88 : SHP.length = 88 := by decide +kernel
theorem g_pm_inj : ∀ i, i < 88 → ∀ j, j < 88 → g_pm i = g_pm j → i = j := by decide +kernel
theorem g_inj (o b : Nat) : q_inj SHP.length (g_ad o b) := by
  intro i j hi hj h
  rw [SHP_88] at hi hj
  unfold g_ad at h
  rw [if_neg (by omega), if_neg (by omega)] at h
  exact g_pm_inj i hi j hj (by omega)
theorem g_row1 : ∀ j, j < 24 → g_pm (21 + j) = 11 + j := by decide +kernel
theorem g_row2 : ∀ j, j < 24 → g_pm (45 + j) = 36 + j := by decide +kernel
theorem g_cellq {cA : ClassId} {n : Nat} {f f' : Nat → Option Nat} (h : ∀ j, j < n → f j = f' j) : vp_cell cA (n, .inr (.inr (.inr (.inr f)))) = vp_cell cA (n, .inr (.inr (.inr (.inr f')))) := by
  rw [vp_cell_q, vp_cell_q]
  unfold arrV
  congr 1
  refine congrArg Array.ofFn (funext fun j => ?_)
  show va_rf (f j.1) = va_rf (f' j.1)
  rw [h j.1 j.2]
set_option maxRecDepth 100000 in
set_option maxHeartbeats 8000000 in
theorem g_key {D : va_G} {tc : Nat → ClassId} {o b : Nat} {H : Heap} : ∀ (k : Nat) (x : qS), SHP[k]? = some x → ∃ y, (r_all tc o)[g_pm k]? = some y ∧ ∀ a, va_at D CL (a, y) H → va_at D CL (a, q_c tc (g_ad o b) M0 k x) H := by
  intro k x h
  match k, h with
  | 0, h => cases h; exact ⟨_, rfl, fun _ q => q⟩
  | 1, h => cases h; exact ⟨_, rfl, fun _ q => q⟩
  | 2, h => cases h; exact ⟨_, rfl, fun _ q => q⟩
  | 3, h => cases h; exact ⟨_, rfl, fun _ q => q⟩
  | 4, h => cases h; exact ⟨_, rfl, fun _ q => q⟩
  | 5, h => cases h; exact ⟨_, rfl, fun _ q => q⟩
  | 6, h => cases h; exact ⟨_, rfl, fun _ q => q⟩
  | 7, h => cases h; exact ⟨_, rfl, fun _ q => q⟩
  | 8, h => cases h; exact ⟨_, rfl, fun _ q => q⟩
  | 9, h => cases h; exact ⟨_, rfl, fun _ q => q⟩
  | 10, h => cases h; exact ⟨g_i9 tc (o + 10), rfl, fun a q => by rw [show q_c tc (g_ad o b) M0 10 (.inr (24, 24)) = .inl (tc 3, 24, .inr (.inr (.inr (.inr (fun j => some (g_ad o b (21 + j))))))) from rfl]; show H[a]? = some (vp_cell _ _); rw [← g_cellq (f := fun j => some (o + 10 + 1 + j)) (fun j hj => by show some (o + 10 + 1 + j) = some (g_ad o b (21 + j)); unfold g_ad; rw [if_neg (by omega), g_row1 j hj]; congr 1; omega)]; exact q⟩
  | 11, h => cases h; exact ⟨g_i9 tc (o + 35), rfl, fun a q => by rw [show q_c tc (g_ad o b) M0 11 (.inr (48, 24)) = .inl (tc 3, 24, .inr (.inr (.inr (.inr (fun j => some (g_ad o b (45 + j))))))) from rfl]; show H[a]? = some (vp_cell _ _); rw [← g_cellq (f := fun j => some (o + 35 + 1 + j)) (fun j hj => by show some (o + 35 + 1 + j) = some (g_ad o b (45 + j)); unfold g_ad; rw [if_neg (by omega), g_row2 j hj]; congr 1; omega)]; exact q⟩
  | 12, h => cases h; exact ⟨_, rfl, fun _ q => q⟩
  | 13, h => cases h; exact ⟨_, rfl, fun _ q => q⟩
  | 14, h => cases h; exact ⟨_, rfl, fun _ q => q⟩
  | 15, h => cases h; exact ⟨_, rfl, fun _ q => q⟩
  | 16, h => cases h; exact ⟨_, rfl, fun _ q => q⟩
  | 17, h => cases h; exact ⟨_, rfl, fun _ q => q⟩
  | 18, h => cases h; exact ⟨_, rfl, fun _ q => q⟩
  | 19, h => cases h; exact ⟨_, rfl, fun _ q => q⟩
  | 20, h => cases h; exact ⟨_, rfl, fun _ q => q⟩
  | 21, h => cases h; exact ⟨_, rfl, fun _ q => q⟩
  | 22, h => cases h; exact ⟨_, rfl, fun _ q => q⟩
  | 23, h => cases h; exact ⟨_, rfl, fun _ q => q⟩
  | 24, h => cases h; exact ⟨_, rfl, fun _ q => q⟩
  | 25, h => cases h; exact ⟨_, rfl, fun _ q => q⟩
  | 26, h => cases h; exact ⟨_, rfl, fun _ q => q⟩
  | 27, h => cases h; exact ⟨_, rfl, fun _ q => q⟩
  | 28, h => cases h; exact ⟨_, rfl, fun _ q => q⟩
  | 29, h => cases h; exact ⟨_, rfl, fun _ q => q⟩
  | 30, h => cases h; exact ⟨_, rfl, fun _ q => q⟩
  | 31, h => cases h; exact ⟨_, rfl, fun _ q => q⟩
  | 32, h => cases h; exact ⟨_, rfl, fun _ q => q⟩
  | 33, h => cases h; exact ⟨_, rfl, fun _ q => q⟩
  | 34, h => cases h; exact ⟨_, rfl, fun _ q => q⟩
  | 35, h => cases h; exact ⟨_, rfl, fun _ q => q⟩
  | 36, h => cases h; exact ⟨_, rfl, fun _ q => q⟩
  | 37, h => cases h; exact ⟨_, rfl, fun _ q => q⟩
  | 38, h => cases h; exact ⟨_, rfl, fun _ q => q⟩
  | 39, h => cases h; exact ⟨_, rfl, fun _ q => q⟩
  | 40, h => cases h; exact ⟨_, rfl, fun _ q => q⟩
  | 41, h => cases h; exact ⟨_, rfl, fun _ q => q⟩
  | 42, h => cases h; exact ⟨_, rfl, fun _ q => q⟩
  | 43, h => cases h; exact ⟨_, rfl, fun _ q => q⟩
  | 44, h => cases h; exact ⟨_, rfl, fun _ q => q⟩
  | 45, h => cases h; exact ⟨_, rfl, fun _ q => q⟩
  | 46, h => cases h; exact ⟨_, rfl, fun _ q => q⟩
  | 47, h => cases h; exact ⟨_, rfl, fun _ q => q⟩
  | 48, h => cases h; exact ⟨_, rfl, fun _ q => q⟩
  | 49, h => cases h; exact ⟨_, rfl, fun _ q => q⟩
  | 50, h => cases h; exact ⟨_, rfl, fun _ q => q⟩
  | 51, h => cases h; exact ⟨_, rfl, fun _ q => q⟩
  | 52, h => cases h; exact ⟨_, rfl, fun _ q => q⟩
  | 53, h => cases h; exact ⟨_, rfl, fun _ q => q⟩
  | 54, h => cases h; exact ⟨_, rfl, fun _ q => q⟩
  | 55, h => cases h; exact ⟨_, rfl, fun _ q => q⟩
  | 56, h => cases h; exact ⟨_, rfl, fun _ q => q⟩
  | 57, h => cases h; exact ⟨_, rfl, fun _ q => q⟩
  | 58, h => cases h; exact ⟨_, rfl, fun _ q => q⟩
  | 59, h => cases h; exact ⟨_, rfl, fun _ q => q⟩
  | 60, h => cases h; exact ⟨_, rfl, fun _ q => q⟩
  | 61, h => cases h; exact ⟨_, rfl, fun _ q => q⟩
  | 62, h => cases h; exact ⟨_, rfl, fun _ q => q⟩
  | 63, h => cases h; exact ⟨_, rfl, fun _ q => q⟩
  | 64, h => cases h; exact ⟨_, rfl, fun _ q => q⟩
  | 65, h => cases h; exact ⟨_, rfl, fun _ q => q⟩
  | 66, h => cases h; exact ⟨_, rfl, fun _ q => q⟩
  | 67, h => cases h; exact ⟨_, rfl, fun _ q => q⟩
  | 68, h => cases h; exact ⟨_, rfl, fun _ q => q⟩
  | 69, h => cases h; exact ⟨_, rfl, fun _ q => q⟩
  | 70, h => cases h; exact ⟨_, rfl, fun _ q => q⟩
  | 71, h => cases h; exact ⟨_, rfl, fun _ q => q⟩
  | 72, h => cases h; exact ⟨_, rfl, fun _ q => q⟩
  | 73, h => cases h; exact ⟨_, rfl, fun _ q => q⟩
  | 74, h => cases h; exact ⟨_, rfl, fun _ q => q⟩
  | 75, h => cases h; exact ⟨_, rfl, fun _ q => q⟩
  | 76, h => cases h; exact ⟨_, rfl, fun _ q => q⟩
  | 77, h => cases h; exact ⟨_, rfl, fun _ q => q⟩
  | 78, h => cases h; exact ⟨_, rfl, fun _ q => q⟩
  | 79, h => cases h; exact ⟨_, rfl, fun _ q => q⟩
  | 80, h => cases h; exact ⟨_, rfl, fun _ q => q⟩
  | 81, h => cases h; exact ⟨_, rfl, fun _ q => q⟩
  | 82, h => cases h; exact ⟨_, rfl, fun _ q => q⟩
  | 83, h => cases h; exact ⟨_, rfl, fun _ q => q⟩
  | 84, h => cases h; exact ⟨_, rfl, fun _ q => q⟩
  | 85, h => cases h; exact ⟨_, rfl, fun _ q => q⟩
  | 86, h => cases h; exact ⟨_, rfl, fun _ q => q⟩
  | 87, h => cases h; exact ⟨_, rfl, fun _ q => q⟩
  | n + 88, h => exact absurd (List.getElem?_eq_some_iff.mp h).1 (by rw [SHP_88]; omega)
theorem g_world {D : va_G} {tc : Nat → ClassId} {o b : Nat} {H : Heap} (h : g_P D o (r_all tc o) H) : va_P D CL (q_wd tc (g_ad o b) M0 0 SHP) H := by
  intro k q hq
  rw [q_wd_at] at hq
  obtain ⟨x, hx, rfl⟩ := Option.map_eq_some_iff.mp hq
  have hk : k < 88 := by rw [← SHP_88]; exact (List.getElem?_eq_some_iff.mp hx).1
  obtain ⟨y, hy, hv⟩ := g_key (D := D) (tc := tc) (o := o) (b := b) (H := H) k x hx
  rw [Nat.zero_add]
  refine hv _ ?_
  rw [show g_ad o b k = o + g_pm k from if_neg (by omega)]
  exact h.2 _ y hy
theorem isB0 : isB 0 := ⟨by decide, by decide⟩
theorem Inv0 : Inv M0 := by
  refine ⟨⟨rfl, fun _ => isB0⟩, ⟨0, by omega, rfl, rfl⟩, ⟨[], by simp, fun x h => (by cases h), fun i x h => (by cases h), fun i x h => (by cases h), rfl, rfl⟩, ⟨⟨rfl, fun _ => isB0⟩, Or.inl ⟨rfl, rfl, rfl, rfl, rfl, rfl⟩⟩⟩
/-! what holds at the law's entry -/
theorem TS_sub : ∀ w ∈ TS, w ∈ lw_tbl := by
  intro w hw
  rcases List.mem_append.mp hw with h | h
  · exact List.mem_append_left _ h
  · exact List.mem_append_right _ (List.mem_filter.mp h).1
set_option maxRecDepth 100000 in
theorem CL_inst : ∀ (ci : Nat) (q : vw_C), CL[ci]? = some q → Cond.instantiable q.1 q.2.2 ∈ TS := by
  intro ci q h
  match ci, h with
  | 0, h => cases h; decide +kernel
  | 1, h => cases h; decide +kernel
  | 2, h => cases h; decide +kernel
  | 3, h => cases h; decide +kernel
  | 4, h => cases h; decide +kernel
  | 5, h => cases h; decide +kernel
  | n + 6, h => simp [CL] at h
theorem g_arrOf {s : State} {cA : ClassId} {ty : FieldType} (h : ∃ k comp, s.vm.classes[cA]? = some k ∧ k.kind = .array comp ty) : ArrOfT s cA ty := by
  obtain ⟨k, comp, h2, h3⟩ := h
  exact fun n z => ⟨fun k h => (by cases h), k, h2, comp, h3⟩
theorem g_known {s : State} {args : Array Value} (hts : ∀ w ∈ TS, w.before args s = true) (hov : (Cond.arrayOver (.array .int)).before args s = true) : ∃ (D : va_G) (tc : Nat → ClassId), va_K D CL (q_tys tc) s := by
  have hD : ∀ ci : Nat, ∃ z : ClassId × (Nat → Nat), ∀ q, CL[ci]? = some q → u_Kn s q.1 q.2.1 q.2.2 z.1 z.2 := by
    intro ci
    cases h : CL[ci]? with
    | none => exact ⟨(0, fun _ => 0), fun q hq => by cases hq⟩
    | some q =>
      obtain ⟨cC, iS, hk⟩ := u_known hts (CL_ok ci q h).1 (hts _ (CL_inst ci q h))
      exact ⟨(cC, iS), fun q' hq => by cases hq; exact hk⟩
  obtain ⟨f, hf⟩ := Classical.axiomOfChoice hD
  obtain ⟨c0, k0, p0, a1, a2, a3⟩ := Cond.arrayClass_spec (hts _ wd_arr.1)
  obtain ⟨c1, k1, p1, b1, b2, b3⟩ := Cond.arrayClass_spec (hts _ wd_arr.2.1)
  obtain ⟨c2, k2, p2, d1, d2, d3⟩ := Cond.arrayClass_spec (hts _ wd_arr.2.2)
  obtain ⟨p3, c3, k3, e1, -, e2, e3, e4⟩ := arrayOverA_spec hov
  refine ⟨(fun ci => (f ci).1, fun ci => (f ci).2), fun t => match t with | 0 => c0 | 1 => c1 | 2 => c2 | _ => c3, fun ci q hq => hf ci q hq, fun k q hk => ?_⟩
  match k, hk with
  | 0, hk => cases hk; exact ⟨g_arrOf ⟨k0, p0, a2, a3⟩, a1⟩
  | 1, hk => cases hk; exact ⟨g_arrOf ⟨k1, p1, b2, b3⟩, b1⟩
  | 2, hk => cases hk; exact ⟨g_arrOf ⟨k2, p2, d2, d3⟩, d1⟩
  | 3, hk => cases hk; exact ⟨g_arrOf ⟨k3, p3, e2, e3⟩, e4⟩
  | n + 4, hk => simp [q_tys] at hk
set_option maxRecDepth 100000 in
theorem wd_z : Cond.arrayOver (.array .int) ∈ lw_tbl ∧ ∀ w ∈ g_nest, w ∈ lw_tbl := ⟨by decide +kernel, by decide +kernel⟩
theorem g_Z0 {s : State} {args : Array Value} (hts : ∀ w ∈ lw_tbl, w.before args s = true) : g_Z s := by
  refine ⟨over_moved (Vm.Alike.refl s.vm) (hts _ wd_z.1), fun w hw => ?_⟩
  have h2 := hts _ (wd_z.2 w hw)
  simp only [g_nest, List.mem_cons, List.not_mem_nil, or_false] at hw
  rcases hw with rfl | rfl | rfl <;> exact va_Nw.of rfl h2
set_option maxRecDepth 100000 in
theorem wd_x : (∀ w ∈ x_tab, w ∈ lw_tbl) ∧ (∀ q ∈ x_lay, Cond.laysStatic q.1 q.2.1 q.2.2 ∈ lw_tbl) ∧ (∀ q ∈ x_str, Cond.stringRef "CachedSpeaker" q.1 q.2 ∈ lw_tbl) := ⟨by decide +kernel, by decide +kernel, by decide +kernel⟩
set_option maxRecDepth 100000 in
theorem wd_n : (∀ w ∈ x_not, w ∈ flatC (Jvm.Cond.and given_1 narrow_1)) ∧ (∀ q ∈ x_lay, Cond.isRef (.static q.1 q.2.1 q.2.2) ∈ flatC (Jvm.Cond.and given_1 narrow_1)) := ⟨by decide +kernel, by decide +kernel⟩
theorem x_W0 {s : State} {args : Array Value} (hts : ∀ w ∈ lw_tbl, w.before args s = true) (hgv : (Jvm.Cond.and given_1 narrow_1).before args s = true) {cur : ClassId} (hcur : s.vm.findClass "CachedSpeaker" = some cur) : x_W s := by
  have hs := flat_of_before _ hgv
  refine ⟨fun w hw A => ?_, fun q hq A => ⟨hts _ (wd_x.2.1 q hq), hs _ (wd_n.2 q hq)⟩, fun q hq => ?_⟩
  · rcases List.mem_append.mp hw with hw | hw
    · have ht : w.onTables = true := by
        have : ∀ w ∈ x_tab, w.onTables = true := by decide +kernel
        exact this w hw
      exact va_any ht (hts _ (wd_x.1 w hw))
    · have h2 := hs _ (wd_n.1 w hw)
      simp only [x_not, List.mem_cons, List.not_mem_nil, or_false] at hw
      rcases hw with rfl | rfl <;> exact h2
  · have h1 := hts _ (wd_x.2.2 q hq)
    obtain ⟨k, cf, i, a, -, -, -, -, -, h2⟩ := Cond.stringRef_spec hcur h1
    exact ⟨a, vk_R.of h1 h2⟩
section GLAW
variable {p : Program} {l : Launch} {e : Env} {R : Room} {s : State} {m : MethodId} {args : Array Value} {below : List Frame} {meth : Method} {c : Code} {Q : State → Prop} {own : String} {cc : ByteArray} {nL : Nat} {tc : Nat → ClassId} {D : va_G} {o cells slots : Nat}
theorem g_astore (C : g_Cx p R s m args c own cc nL tc D o) {pc i x : Nat} {k : Fin 4} {lv lv' : List (Nat × Value)} {st : List Value} {es : List va_E} (hd : decode cc pc = .ok (.astore_n k, 1)) (hi : (k : Nat) = i) (hn : i < nL) (hl : (i, Value.ref x) :: lv.filter (fun q => !(q.1 == i) && !(q.1 + 1 == i && q.2.category == 2)) = lv')
    (kk : g_St p l e R s m args below meth c Q nL D o cells slots (pc + 1) lv' st es) : g_St p l e R s m args below meth c Q nL D o cells slots pc lv (.ref x :: st) es :=
  fun H locs ls hP hS h => lv_astore_n C.1 C.2.1 hd hi h hn hl (fun ls' hl' => kk H locs ls' hP hS hl')
theorem g_istore (C : g_Cx p R s m args c own cc nL tc D o) {pc i : Nat} {x : Int32} {lv lv' : List (Nat × Value)} {st : List Value} {es : List va_E} (hd : decode cc pc = .ok (.istore i, 2)) (hn : i < nL) (hl : (i, Value.int x) :: lv.filter (fun q => !(q.1 == i) && !(q.1 + 1 == i && q.2.category == 2)) = lv')
    (kk : g_St p l e R s m args below meth c Q nL D o cells slots (pc + 2) lv' st es) : g_St p l e R s m args below meth c Q nL D o cells slots pc lv (.int x :: st) es :=
  fun H locs ls hP hS h => lv_istore C.1 C.2.1 hd h hn hl (fun ls' hl' => kk H locs ls' hP hS hl')
theorem g_iconst (C : g_Cx p R s m args c own cc nL tc D o) {pc : Nat} {n : Int} {v : Int32} {lv : List (Nat × Value)} {st : List Value} {es : List va_E} (hd : decode cc pc = .ok (.iconst n, 1)) (hv : Int32.ofInt n = v)
    (kk : g_St p l e R s m args below meth c Q nL D o cells slots (pc + 1) lv (.int v :: st) es) : g_St p l e R s m args below meth c Q nL D o cells slots pc lv st es :=
  fun H locs ls hP hS hl => lv_iconst C.1 C.2.1 hd hv (kk H locs ls hP hS hl)
end GLAW
set_option maxRecDepth 100000 in
set_option maxHeartbeats 8000000 in
/-- from the entry, for every script of at most 2560 ints, the law comes to its end with true -/
theorem whole_start0 {p : Program} {e : Env} {s : State} {m : MethodId} {below : List Frame} {meth : Method} {c : Code} (l : Launch) (htr : l.stackTraces = false) {b L : Nat} {xs : Nat → Int32} (hL : L ≤ 2560) (C0 : lw_At p s m meth c b L xs) : W p l e room_1 s m #[Value.ref b] below meth c s.heap [] 0 0 (lw_Z below #[Value.ref b] s) (entryFrame m ([Value.ref b] : List Value).toArray 7) := by
  obtain ⟨hx, hb, hr, hml, hown, hts, hX, hbl, hlk, hgv⟩ := C0
  have htsT : ∀ w ∈ TS, w.before #[Value.ref b] s = true := fun w hw => hts w (TS_sub w hw)
  obtain ⟨D, tc, hK⟩ := g_known htsT (hts _ wd_z.1)
  have hZ : g_Z s := g_Z0 hts
  have hxW : x_W s := x_W0 hts hgv (hK.1 0 _ rfl).2.1
  have C : g_Cx p room_1 s m #[Value.ref b] c "CachedSpeakerLaw" code 7 tc D s.heap.size := ⟨hx, hb, hml, hown, htsT, hK, hZ, Nat.le_refl _, by decide, by decide⟩
  have CQ : lw_C p s m c b L xs tc D (g_ad s.heap.size b) := ⟨hx, hb, hml, hown, htsT, hK, g_inj _ _, fun k hk => by
      show s.heap.size ≤ g_ad s.heap.size b k
      rw [SHP_88] at hk
      unfold g_ad
      rw [if_neg (by omega)]
      exact Nat.le_add_right _ _, CL_ok, qf_La, SHP_ok, SHP_len, by decide, by decide, Or.inr ⟨hX, hbl, fun z => by
      have z2 : s.heap.size ≤ b := z
      omega⟩, qj_La⟩
  have hl := lv_entry [Value.ref b] (n := 7) (by show 1 ≤ 7; decide)
  rw [lg_entry_eq]
  generalize (lg_sl [Value.ref b] ++ List.replicate (7 - (lg_sl [Value.ref b]).length) Slot.unset).toArray = ls at hl ⊢
  refine (?_ : g_St p l e room_1 s m #[Value.ref b] below meth c (lw_Z below #[Value.ref b] s) 7 D s.heap.size 0 0 0 [(0, Value.ref b)] [] []) s.heap [] ls ⟨rfl, fun k x h => by cases h⟩ va_S.rf hl
  refine g_new (ci := 0) (idx := 8) (q := ("CachedSpeaker", qF_CS, 4)) C (by decide +kernel) rfl ⟨by decide +kernel, by decide +kernel, by decide +kernel⟩ ⟨by decide, by decide⟩ ?_
  refine g_dup C (by decide +kernel) ?_
  refine g_callI (idx := 24) (as := []) (pre := []) (rest := [.ref (s.heap.size + 0)]) C lk_CS (Or.inl (by decide +kernel)) rfl g_CS ⟨by decide, by decide⟩ ⟨by decide, by decide⟩ (by decide +kernel) (Nat.le_of_ble_eq_true rfl) ?_
  refine g_astore (k := 1) (i := 1) (lv' := [(1, .ref (s.heap.size + 0)), (0, .ref b)]) C (by decide +kernel) rfl (by decide) rfl ?_
  refine g_eq (es' := r_CS tc s.heap.size) (st' := []) rfl rfl ?_
  refine g_new (ci := 5) (idx := 25) (q := ("CachedSpeakerModel", qF_Rf, 34)) C (by decide +kernel) rfl ⟨by decide +kernel, by decide +kernel, by decide +kernel⟩ ⟨by decide, by decide⟩ ?_
  refine g_dup C (by decide +kernel) ?_
  refine g_callI (idx := 27) (as := []) (pre := r_CS tc s.heap.size) (rest := [.ref (s.heap.size + 69)]) C lk_Rf (Or.inl (by decide +kernel)) rfl g_Rf ⟨by decide, by decide⟩ ⟨by decide, by decide⟩ (by decide +kernel) (Nat.le_of_ble_eq_true rfl) ?_
  refine g_astore (k := 2) (i := 2) (lv' := [(2, .ref (s.heap.size + 69)), (1, .ref (s.heap.size + 0)), (0, .ref b)]) C (by decide +kernel) rfl (by decide) rfl ?_
  refine g_iconst (n := 1) (v := 1) C (by decide +kernel) (by decide) ?_
  refine g_newa (t := 2) (N := 1) (at0 := .long) C (by decide +kernel) rfl (gt_long 1) ⟨by decide, by decide, by decide⟩ ⟨by decide, by decide⟩ ?_
  refine g_eq (es' := r_all tc s.heap.size) (st' := [.ref (s.heap.size + 87)]) rfl rfl ?_
  refine g_astore (k := 3) (i := 3) (lv' := [(3, .ref (s.heap.size + 87)), (2, .ref (s.heap.size + 69)), (1, .ref (s.heap.size + 0)), (0, .ref b)]) C (by decide +kernel) rfl (by decide) rfl ?_
  refine g_iconst (n := 0) (v := 0) C (by decide +kernel) (by decide) ?_
  refine g_istore (i := 4) (lv' := [(4, .int 0), (3, .ref (s.heap.size + 87)), (2, .ref (s.heap.size + 69)), (1, .ref (s.heap.size + 0)), (0, .ref b)]) C (by decide +kernel) (by decide) rfl ?_
  intro H locs ls hP hS hl
  have hq : q_has (g_ad s.heap.size b) ls 7 (lv7 0) := by
    refine ⟨hl.1, hl.2.1, by decide, fun i v hi hv => ?_⟩
    match i, hi with
    | 0, hi => cases hi; exact hl.2.2 (0, .ref b) (by simp)
    | 1, hi => cases hi; exact hl.2.2 (1, .ref (s.heap.size + 0)) (by simp)
    | 2, hi => cases hi; exact hl.2.2 (2, .ref (s.heap.size + 69)) (by simp)
    | 3, hi => cases hi; exact hl.2.2 (3, .ref (s.heap.size + 87)) (by simp)
    | 4, hi => cases hi; exact hl.2.2 (4, .int 0) (by simp)
    | 5, hi => cases hi; exact absurd rfl hv
    | 6, hi => cases hi; exact absurd rfl hv
    | n + 7, hi => simp at hi
  exact lw_loop CQ hxW htr hr hlk hL 512 0 _ _ M0 (by omega) (by omega) (by decide) (by decide) Inv0 H locs ls (g_world hP) hS hq
