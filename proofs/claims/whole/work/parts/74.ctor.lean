/-! THE CONSTRUCTORS -/
set_option maxRecDepth 100000 in
theorem wd_obj : Cond.instanceMethod Lib.objectInit ∈ TS ∧ Cond.code Lib.objectInit ⟨#[0xb1]⟩ 1 none ∈ TS := ⟨by decide +kernel, by decide +kernel⟩
set_option maxRecDepth 100000 in
theorem wd_arr : Cond.arrayClass .int ∈ TS ∧ Cond.arrayClass .byte ∈ TS ∧ Cond.arrayClass .long ∈ TS := ⟨by decide +kernel, by decide +kernel, by decide +kernel⟩
theorem gt_int (N : Nat) : g_ty 0 .int (N, .inl (fun _ => 0)) N := ⟨fun _ => rfl, fun _ => rfl, fun _ _ h => h, wd_arr.1, by decide⟩
theorem gt_byte (N : Nat) : g_ty 1 .byte (N, .inl (fun _ => 0)) N := ⟨fun _ => rfl, fun _ => rfl, fun _ _ h => h, wd_arr.2.1, by decide⟩
theorem gt_long (N : Nat) : g_ty 2 .long (N, .inr (.inl (fun _ => 0))) N := ⟨fun _ => rfl, fun _ => rfl, fun _ _ h => h, wd_arr.2.2, by decide⟩
theorem g_eq {p : Program} {l : Launch} {e : Env} {R : Room} {s : State} {m : MethodId} {args : Array Value} {below : List Frame} {meth : Method} {c : Code} {Q : State → Prop} {nL : Nat} {D : va_G} {o cells slots pc : Nat} {lv : List (Nat × Value)} {st st' : List Value} {es es' : List va_E} (he : es = es') (hs : st = st')
    (k : g_St p l e R s m args below meth c Q nL D o cells slots pc lv st' es') : g_St p l e R s m args below meth c Q nL D o cells slots pc lv st es := by subst he; subst hs; exact k
def g_i8 (tc : Nat → ClassId) (t N : Nat) : va_E := .inl (tc t, N, .inl (fun _ => 0))
def r_Im (tc : Nat → ClassId) (o : Nat) : List va_E := [.inr (1, [.ref (o + 1), .int 0]), g_i8 tc 1 1500]
def r_Mo (tc : Nat → ClassId) (o : Nat) : List va_E := [.inr (2, [.ref (o + 1), .ref (o + 2), .int 0, .int 0, .int 0, .int 0, .int 0, .int 0, .int 0, .int 0, .int 0, .int 0, .int 0, .int 0, .int 0, .int 0, .int 0, .int 0]), g_i8 tc 1 1500, g_i8 tc 0 16]
def r_Pr (tc : Nat → ClassId) (o : Nat) : List va_E := [.inr (3, [.ref (o + 1), .int 0, .ref (o + 2), .int 0]), g_i8 tc 0 24, g_i8 tc 0 24]
def g_i9 (tc : Nat → ClassId) (a : Nat) : va_E := .inl (tc 3, 24, .inr (.inr (.inr (.inr (fun j => some (a + 1 + j))))))
def r_Ru (x : Nat) (tc : Nat → ClassId) (o : Nat) : List va_E := .inr (4, [.ref x, .ref (o + 1), .ref (o + 26), .ref (o + 51), .ref (o + 52), .int 0, .int 0, .int 0, .ref (o + 53), .ref (o + 54), .ref (o + 55), .ref (o + 56), .ref (o + 57), .ref (o + 58), .ref (o + 59)]) ::
  ((g_i9 tc (o + 1) :: List.replicate 24 (g_i8 tc 0 8)) ++ ((g_i9 tc (o + 26) :: List.replicate 24 (g_i8 tc 0 8)) ++ [g_i8 tc 0 12, g_i8 tc 0 16, g_i8 tc 0 8, g_i8 tc 0 8, g_i8 tc 0 8, g_i8 tc 0 8, g_i8 tc 0 8, g_i8 tc 0 16, g_i8 tc 0 12]))
def r_CS (tc : Nat → ClassId) (o : Nat) : List va_E := .inr (0, [.ref (o + 1), .ref (o + 3), .ref (o + 6), .ref (o + 9)]) :: (r_Im tc (o + 1) ++ (r_Mo tc (o + 3) ++ (r_Pr tc (o + 6) ++ r_Ru (o + 3) tc (o + 9))))
def r_Rf (tc : Nat → ClassId) (o : Nat) : List va_E := .inr (5, [.ref (o + 1), .int 0, .ref (o + 2), .int 0, .int 0, .int 0, .int 0, .int 0, .int 0, .int 0, .int 0, .int 0, .int 0, .ref (o + 3), .int 0, .ref (o + 4), .ref (o + 5), .int 0, .int 0, .int 0, .ref (o + 6), .int 0, .ref (o + 7), .ref (o + 8), .ref (o + 9), .ref (o + 10), .ref (o + 11), .ref (o + 12), .ref (o + 13), .ref (o + 14), .ref (o + 15), .ref (o + 16), .ref (o + 17), .int 0]) ::
  [g_i8 tc 0 1500, g_i8 tc 0 1500, g_i8 tc 0 24, g_i8 tc 0 24, g_i8 tc 0 16, g_i8 tc 0 12, g_i8 tc 0 16, g_i8 tc 0 96, g_i8 tc 0 192, g_i8 tc 0 192, g_i8 tc 0 16, g_i8 tc 0 16, g_i8 tc 0 16, g_i8 tc 0 16, g_i8 tc 0 16, g_i8 tc 0 12, g_i8 tc 0 12]
set_option maxRecDepth 100000 in
set_option maxHeartbeats 4000000 in
theorem g_Im {l : Launch} : g_CV l 0 1 1500 y_Im_init [] 1 r_Im := by
  refine g_CV.of (by decide +kernel) rfl rfl rfl (fun _ => Nat.le_refl _) ?_
  intro p e s m below meth c D tc o Q C hm ret
  refine g_aload (k := 0) (i := 0) (x := o) C (by decide +kernel) rfl (List.mem_cons_self) ?_
  refine g_obj (idx := 3) C (by decide +kernel) (by decide +kernel) wd_obj ?_
  refine g_arr (ci := 1) (q := ("CachedSpeaker$Image", qF_Im, 2)) (at0 := .byte) (n := 1500) C hm qf_Im rfl (List.mem_cons_self) 4 3 9 0 1 1500 (by decide +kernel) (Or.inr ⟨rfl, 1500, by decide +kernel, by decide⟩) (by decide +kernel) (by decide +kernel) rfl (gt_byte 1500) ⟨by decide, by decide, by decide⟩ rfl ⟨rfl, rfl⟩ (fun _ => ⟨rfl, rfl⟩) (Nat.le_of_ble_eq_true rfl) ⟨by decide, by decide⟩ ?_
  exact ret 13 _ (by decide +kernel)
set_option maxRecDepth 100000 in
set_option maxHeartbeats 4000000 in
theorem g_Mo {l : Launch} : g_CV l 0 2 1516 y_Mo_init [] 2 r_Mo := by
  refine g_CV.of (by decide +kernel) rfl rfl rfl (fun _ => Nat.le_refl _) ?_
  intro p e s m below meth c D tc o Q C hm ret
  refine g_aload (k := 0) (i := 0) (x := o) C (by decide +kernel) rfl (List.mem_cons_self) ?_
  refine g_obj (idx := 3) C (by decide +kernel) (by decide +kernel) wd_obj ?_
  refine g_arr (ci := 2) (q := ("CachedSpeaker$Model", qF_Mo, 18)) (at0 := .byte) (n := 1500) C hm qf_Mo rfl (List.mem_cons_self) 4 3 9 0 1 1500 (by decide +kernel) (Or.inr ⟨rfl, 1500, by decide +kernel, by decide⟩) (by decide +kernel) (by decide +kernel) rfl (gt_byte 1500) ⟨by decide, by decide, by decide⟩ rfl ⟨rfl, rfl⟩ (fun _ => ⟨rfl, rfl⟩) (Nat.le_of_ble_eq_true rfl) ⟨by decide, by decide⟩ ?_
  refine g_arr (ci := 2) (q := ("CachedSpeaker$Model", qF_Mo, 18)) (at0 := .int) (n := 16) C hm qf_Mo rfl (List.mem_cons_self) 13 2 15 1 0 16 (by decide +kernel) (Or.inl ⟨rfl, 16, by decide +kernel, by decide⟩) (by decide +kernel) (by decide +kernel) rfl (gt_int 16) ⟨by decide, by decide, by decide⟩ rfl ⟨rfl, rfl⟩ (fun _ => ⟨rfl, rfl⟩) (Nat.le_of_ble_eq_true rfl) ⟨by decide, by decide⟩ ?_
  exact ret 21 _ (by decide +kernel)
set_option maxRecDepth 100000 in
set_option maxHeartbeats 4000000 in
theorem g_Pr {l : Launch} : g_CV l 0 2 48 y_Pr_init [] 3 r_Pr := by
  refine g_CV.of (by decide +kernel) rfl rfl rfl (fun _ => Nat.le_refl _) ?_
  intro p e s m below meth c D tc o Q C hm ret
  refine g_aload (k := 0) (i := 0) (x := o) C (by decide +kernel) rfl (List.mem_cons_self) ?_
  refine g_obj (idx := 3) C (by decide +kernel) (by decide +kernel) wd_obj ?_
  refine g_arr (ci := 3) (q := ("CachedSpeaker$Prompt", qF_Pr, 4)) (at0 := .int) (n := 24) C hm qf_Pr rfl (List.mem_cons_self) 4 2 9 0 0 24 (by decide +kernel) (Or.inl ⟨rfl, 24, by decide +kernel, by decide⟩) (by decide +kernel) (by decide +kernel) rfl (gt_int 24) ⟨by decide, by decide, by decide⟩ rfl ⟨rfl, rfl⟩ (fun _ => ⟨rfl, rfl⟩) (Nat.le_of_ble_eq_true rfl) ⟨by decide, by decide⟩ ?_
  refine g_arr (ci := 3) (q := ("CachedSpeaker$Prompt", qF_Pr, 4)) (at0 := .int) (n := 24) C hm qf_Pr rfl (List.mem_cons_self) 12 2 15 2 0 24 (by decide +kernel) (Or.inl ⟨rfl, 24, by decide +kernel, by decide⟩) (by decide +kernel) (by decide +kernel) rfl (gt_int 24) ⟨by decide, by decide, by decide⟩ rfl ⟨rfl, rfl⟩ (fun _ => ⟨rfl, rfl⟩) (Nat.le_of_ble_eq_true rfl) ⟨by decide, by decide⟩ ?_
  exact ret 20 _ (by decide +kernel)
