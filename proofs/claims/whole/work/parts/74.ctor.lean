/-! THE CONSTRUCTORS -/
set_option maxRecDepth 100000 in
theorem wd_obj : Cond.instanceMethod Lib.objectInit ∈ TS ∧ Cond.code Lib.objectInit ⟨#[0xb1]⟩ 1 none ∈ TS := ⟨by decide +kernel, by decide +kernel⟩
set_option maxRecDepth 100000 in
theorem wd_arr : Cond.arrayClass .int ∈ TS ∧ Cond.arrayClass .byte ∈ TS ∧ Cond.arrayClass .long ∈ TS := ⟨by decide +kernel, by decide +kernel, by decide +kernel⟩
theorem gt_int (N : Nat) : g_ty 0 .int (N, .inl (fun _ => 0)) N := ⟨fun _ => rfl, fun _ => rfl, fun _ _ h => h, wd_arr.1, by decide⟩
theorem gt_byte (N : Nat) : g_ty 1 .byte (N, .inl (fun _ => 0)) N := ⟨fun _ => rfl, fun _ => rfl, fun _ _ h => h, wd_arr.2.1, by decide⟩
theorem gt_long (N : Nat) : g_ty 2 .long (N, .inr (.inl (fun _ => 0))) N := ⟨fun _ => rfl, fun _ => rfl, fun _ _ h => h, wd_arr.2.2, by decide⟩
theorem g_eq {p : Program} {l : Launch} {e : Env} {R : Room} {s : State} {m : MethodId} {args : Array Value} {below : List Frame} {meth : Method} {c : Code} {Q : State → Prop} {nL : Nat} {D : va_G} {o cells slots pc : Nat} {lv : List (Nat × Value)} {st st' : List Value} {es es' : List va_E} (he : es = es') (hs : st = st')
    (k : g_St p l e R s m args below meth c Q nL D o cells slots pc lv st' es') : g_St p l e R s m args below meth c Q nL D o cells slots pc lv st es := by subst he; subst hs; exact k
def i8 (tc : Nat → ClassId) (t N : Nat) : va_E := .inl (tc t, N, .inl (fun _ => 0))
def r_Im (tc : Nat → ClassId) (o : Nat) : List va_E := [.inr (1, [.ref (o + 1), .int 0]), i8 tc 1 1500]
def r_Mo (tc : Nat → ClassId) (o : Nat) : List va_E := [.inr (2, [.ref (o + 1), .ref (o + 2), .int 0, .int 0, .int 0, .int 0, .int 0, .int 0, .int 0, .int 0, .int 0, .int 0, .int 0, .int 0, .int 0, .int 0, .int 0, .int 0]), i8 tc 1 1500, i8 tc 0 16]
def r_Pr (tc : Nat → ClassId) (o : Nat) : List va_E := [.inr (3, [.ref (o + 1), .int 0, .ref (o + 2), .int 0]), i8 tc 0 24, i8 tc 0 24]
def i9 (tc : Nat → ClassId) (a : Nat) : va_E := .inl (tc 3, 24, .inr (.inr (.inr (.inr (fun j => some (a + 1 + j))))))
def r_Ru (x : Nat) (tc : Nat → ClassId) (o : Nat) : List va_E := .inr (4, [.ref x, .ref (o + 1), .ref (o + 26), .ref (o + 51), .ref (o + 52), .int 0, .int 0, .int 0, .ref (o + 53), .ref (o + 54), .ref (o + 55), .ref (o + 56), .ref (o + 57), .ref (o + 58), .ref (o + 59)]) ::
  ((i9 tc (o + 1) :: List.replicate 24 (i8 tc 0 8)) ++ ((i9 tc (o + 26) :: List.replicate 24 (i8 tc 0 8)) ++ [i8 tc 0 12, i8 tc 0 16, i8 tc 0 8, i8 tc 0 8, i8 tc 0 8, i8 tc 0 8, i8 tc 0 8, i8 tc 0 16, i8 tc 0 12]))
def r_CS (tc : Nat → ClassId) (o : Nat) : List va_E := .inr (0, [.ref (o + 1), .ref (o + 3), .ref (o + 6), .ref (o + 9)]) :: (r_Im tc (o + 1) ++ (r_Mo tc (o + 3) ++ (r_Pr tc (o + 6) ++ r_Ru (o + 3) tc (o + 9))))
def r_Rf (tc : Nat → ClassId) (o : Nat) : List va_E := .inr (5, [.ref (o + 1), .int 0, .ref (o + 2), .int 0, .int 0, .int 0, .int 0, .int 0, .int 0, .int 0, .int 0, .int 0, .int 0, .ref (o + 3), .int 0, .ref (o + 4), .ref (o + 5), .int 0, .int 0, .int 0, .ref (o + 6), .int 0, .ref (o + 7), .ref (o + 8), .ref (o + 9), .ref (o + 10), .ref (o + 11), .ref (o + 12), .ref (o + 13), .ref (o + 14), .ref (o + 15), .ref (o + 16), .ref (o + 17), .int 0]) ::
  [i8 tc 0 1500, i8 tc 0 1500, i8 tc 0 24, i8 tc 0 24, i8 tc 0 16, i8 tc 0 12, i8 tc 0 16, i8 tc 0 96, i8 tc 0 192, i8 tc 0 192, i8 tc 0 16, i8 tc 0 16, i8 tc 0 16, i8 tc 0 16, i8 tc 0 16, i8 tc 0 12, i8 tc 0 12]
set_option maxRecDepth 100000 in
set_option maxHeartbeats 4000000 in
theorem g_Im {l : Launch} : g_CV l 0 1 1500 y_Im_init [] 1 r_Im := by
  refine g_CV.of (by decide +kernel) rfl rfl rfl (fun _ => Nat.le_refl _) ?_
  intro p e s m below meth c D tc o Q C hm ret
  refine g_aload (k := 0) (i := 0) (x := o) C (by decide +kernel) rfl (List.mem_cons_self) ?_
  refine g_obj (idx := 3) C (by decide +kernel) (by decide +kernel) wd_obj ?_
  refine g_arr (ci := 1) (q := ("CachedSpeaker$Image", qF_Im, 2)) (at0 := .byte) (n := 1500) C hm qf_Im rfl (List.mem_cons_self) 4 3 9 0 1 1500 (by decide +kernel) (Or.inr ⟨rfl, 1500, by decide +kernel, by decide⟩) (by decide +kernel) (by decide +kernel) rfl (gt_byte 1500) ⟨by decide, by decide, by decide⟩ rfl ⟨rfl, rfl⟩ (fun _ => ⟨rfl, rfl⟩) (by decide) ⟨by decide, by decide⟩ ?_
  exact ret 13 _ (by decide +kernel)
set_option maxRecDepth 100000 in
set_option maxHeartbeats 4000000 in
theorem g_Mo {l : Launch} : g_CV l 0 2 1516 y_Mo_init [] 2 r_Mo := by
  refine g_CV.of (by decide +kernel) rfl rfl rfl (fun _ => Nat.le_refl _) ?_
  intro p e s m below meth c D tc o Q C hm ret
  refine g_aload (k := 0) (i := 0) (x := o) C (by decide +kernel) rfl (List.mem_cons_self) ?_
  refine g_obj (idx := 3) C (by decide +kernel) (by decide +kernel) wd_obj ?_
  refine g_arr (ci := 2) (q := ("CachedSpeaker$Model", qF_Mo, 18)) (at0 := .byte) (n := 1500) C hm qf_Mo rfl (List.mem_cons_self) 4 3 9 0 1 1500 (by decide +kernel) (Or.inr ⟨rfl, 1500, by decide +kernel, by decide⟩) (by decide +kernel) (by decide +kernel) rfl (gt_byte 1500) ⟨by decide, by decide, by decide⟩ rfl ⟨rfl, rfl⟩ (fun _ => ⟨rfl, rfl⟩) (by decide) ⟨by decide, by decide⟩ ?_
  refine g_arr (ci := 2) (q := ("CachedSpeaker$Model", qF_Mo, 18)) (at0 := .int) (n := 16) C hm qf_Mo rfl (List.mem_cons_self) 13 2 15 1 0 16 (by decide +kernel) (Or.inl ⟨rfl, 16, by decide +kernel, by decide⟩) (by decide +kernel) (by decide +kernel) rfl (gt_int 16) ⟨by decide, by decide, by decide⟩ rfl ⟨rfl, rfl⟩ (fun _ => ⟨rfl, rfl⟩) (by decide) ⟨by decide, by decide⟩ ?_
  exact ret 21 _ (by decide +kernel)
set_option maxRecDepth 100000 in
set_option maxHeartbeats 4000000 in
theorem g_Pr {l : Launch} : g_CV l 0 2 48 y_Pr_init [] 3 r_Pr := by
  refine g_CV.of (by decide +kernel) rfl rfl rfl (fun _ => Nat.le_refl _) ?_
  intro p e s m below meth c D tc o Q C hm ret
  refine g_aload (k := 0) (i := 0) (x := o) C (by decide +kernel) rfl (List.mem_cons_self) ?_
  refine g_obj (idx := 3) C (by decide +kernel) (by decide +kernel) wd_obj ?_
  refine g_arr (ci := 3) (q := ("CachedSpeaker$Prompt", qF_Pr, 4)) (at0 := .int) (n := 24) C hm qf_Pr rfl (List.mem_cons_self) 4 2 9 0 0 24 (by decide +kernel) (Or.inl ⟨rfl, 24, by decide +kernel, by decide⟩) (by decide +kernel) (by decide +kernel) rfl (gt_int 24) ⟨by decide, by decide, by decide⟩ rfl ⟨rfl, rfl⟩ (fun _ => ⟨rfl, rfl⟩) (by decide) ⟨by decide, by decide⟩ ?_
  refine g_arr (ci := 3) (q := ("CachedSpeaker$Prompt", qF_Pr, 4)) (at0 := .int) (n := 24) C hm qf_Pr rfl (List.mem_cons_self) 12 2 15 2 0 24 (by decide +kernel) (Or.inl ⟨rfl, 24, by decide +kernel, by decide⟩) (by decide +kernel) (by decide +kernel) rfl (gt_int 24) ⟨by decide, by decide, by decide⟩ rfl ⟨rfl, rfl⟩ (fun _ => ⟨rfl, rfl⟩) (by decide) ⟨by decide, by decide⟩ ?_
  exact ret 20 _ (by decide +kernel)
set_option maxRecDepth 100000 in
set_option maxHeartbeats 4000000 in
theorem g_Rf {l : Launch} : g_CV l 0 17 3676 y_Rf_init [] 5 r_Rf := by
  refine g_CV.of (by decide +kernel) rfl rfl rfl (fun _ => Nat.le_refl _) ?_
  intro p e s m below meth c D tc o Q C hm ret
  refine g_aload (k := 0) (i := 0) (x := o) C (by decide +kernel) rfl (List.mem_cons_self) ?_
  refine g_obj (idx := 1) C (by decide +kernel) (by decide +kernel) wd_obj ?_
  refine g_arr (ci := 5) (q := ("CachedSpeakerModel", qF_Rf, 34)) (at0 := .int) (n := 1500) C hm qf_Rf rfl (List.mem_cons_self) 4 3 7 0 0 1500 (by decide +kernel) (Or.inr ⟨rfl, 1500, by decide +kernel, by decide⟩) (by decide +kernel) (by decide +kernel) rfl (gt_int 1500) ⟨by decide, by decide, by decide⟩ rfl ⟨rfl, rfl⟩ (fun _ => ⟨rfl, rfl⟩) (by decide) ⟨by decide, by decide⟩ ?_
  refine g_arr (ci := 5) (q := ("CachedSpeakerModel", qF_Rf, 34)) (at0 := .int) (n := 1500) C hm qf_Rf rfl (List.mem_cons_self) 13 3 13 2 0 1500 (by decide +kernel) (Or.inr ⟨rfl, 1500, by decide +kernel, by decide⟩) (by decide +kernel) (by decide +kernel) rfl (gt_int 1500) ⟨by decide, by decide, by decide⟩ rfl ⟨rfl, rfl⟩ (fun _ => ⟨rfl, rfl⟩) (by decide) ⟨by decide, by decide⟩ ?_
  refine g_arr (ci := 5) (q := ("CachedSpeakerModel", qF_Rf, 34)) (at0 := .int) (n := 24) C hm qf_Rf rfl (List.mem_cons_self) 22 2 16 13 0 24 (by decide +kernel) (Or.inl ⟨rfl, 24, by decide +kernel, by decide⟩) (by decide +kernel) (by decide +kernel) rfl (gt_int 24) ⟨by decide, by decide, by decide⟩ rfl ⟨rfl, rfl⟩ (fun _ => ⟨rfl, rfl⟩) (by decide) ⟨by decide, by decide⟩ ?_
  refine g_arr (ci := 5) (q := ("CachedSpeakerModel", qF_Rf, 34)) (at0 := .int) (n := 24) C hm qf_Rf rfl (List.mem_cons_self) 30 2 19 15 0 24 (by decide +kernel) (Or.inl ⟨rfl, 24, by decide +kernel, by decide⟩) (by decide +kernel) (by decide +kernel) rfl (gt_int 24) ⟨by decide, by decide, by decide⟩ rfl ⟨rfl, rfl⟩ (fun _ => ⟨rfl, rfl⟩) (by decide) ⟨by decide, by decide⟩ ?_
  refine g_arr (ci := 5) (q := ("CachedSpeakerModel", qF_Rf, 34)) (at0 := .int) (n := 16) C hm qf_Rf rfl (List.mem_cons_self) 38 2 22 16 0 16 (by decide +kernel) (Or.inl ⟨rfl, 16, by decide +kernel, by decide⟩) (by decide +kernel) (by decide +kernel) rfl (gt_int 16) ⟨by decide, by decide, by decide⟩ rfl ⟨rfl, rfl⟩ (fun _ => ⟨rfl, rfl⟩) (by decide) ⟨by decide, by decide⟩ ?_
  refine g_arr (ci := 5) (q := ("CachedSpeakerModel", qF_Rf, 34)) (at0 := .int) (n := 12) C hm qf_Rf rfl (List.mem_cons_self) 46 2 25 20 0 12 (by decide +kernel) (Or.inl ⟨rfl, 12, by decide +kernel, by decide⟩) (by decide +kernel) (by decide +kernel) rfl (gt_int 12) ⟨by decide, by decide, by decide⟩ rfl ⟨rfl, rfl⟩ (fun _ => ⟨rfl, rfl⟩) (by decide) ⟨by decide, by decide⟩ ?_
  refine g_arr (ci := 5) (q := ("CachedSpeakerModel", qF_Rf, 34)) (at0 := .int) (n := 16) C hm qf_Rf rfl (List.mem_cons_self) 54 2 28 22 0 16 (by decide +kernel) (Or.inl ⟨rfl, 16, by decide +kernel, by decide⟩) (by decide +kernel) (by decide +kernel) rfl (gt_int 16) ⟨by decide, by decide, by decide⟩ rfl ⟨rfl, rfl⟩ (fun _ => ⟨rfl, rfl⟩) (by decide) ⟨by decide, by decide⟩ ?_
  refine g_arr (ci := 5) (q := ("CachedSpeakerModel", qF_Rf, 34)) (at0 := .int) (n := 96) C hm qf_Rf rfl (List.mem_cons_self) 62 2 31 23 0 96 (by decide +kernel) (Or.inl ⟨rfl, 96, by decide +kernel, by decide⟩) (by decide +kernel) (by decide +kernel) rfl (gt_int 96) ⟨by decide, by decide, by decide⟩ rfl ⟨rfl, rfl⟩ (fun _ => ⟨rfl, rfl⟩) (by decide) ⟨by decide, by decide⟩ ?_
  refine g_arr (ci := 5) (q := ("CachedSpeakerModel", qF_Rf, 34)) (at0 := .int) (n := 192) C hm qf_Rf rfl (List.mem_cons_self) 70 3 34 24 0 192 (by decide +kernel) (Or.inr ⟨rfl, 192, by decide +kernel, by decide⟩) (by decide +kernel) (by decide +kernel) rfl (gt_int 192) ⟨by decide, by decide, by decide⟩ rfl ⟨rfl, rfl⟩ (fun _ => ⟨rfl, rfl⟩) (by decide) ⟨by decide, by decide⟩ ?_
  refine g_arr (ci := 5) (q := ("CachedSpeakerModel", qF_Rf, 34)) (at0 := .int) (n := 192) C hm qf_Rf rfl (List.mem_cons_self) 79 3 37 25 0 192 (by decide +kernel) (Or.inr ⟨rfl, 192, by decide +kernel, by decide⟩) (by decide +kernel) (by decide +kernel) rfl (gt_int 192) ⟨by decide, by decide, by decide⟩ rfl ⟨rfl, rfl⟩ (fun _ => ⟨rfl, rfl⟩) (by decide) ⟨by decide, by decide⟩ ?_
  refine g_arr (ci := 5) (q := ("CachedSpeakerModel", qF_Rf, 34)) (at0 := .int) (n := 16) C hm qf_Rf rfl (List.mem_cons_self) 88 2 40 26 0 16 (by decide +kernel) (Or.inl ⟨rfl, 16, by decide +kernel, by decide⟩) (by decide +kernel) (by decide +kernel) rfl (gt_int 16) ⟨by decide, by decide, by decide⟩ rfl ⟨rfl, rfl⟩ (fun _ => ⟨rfl, rfl⟩) (by decide) ⟨by decide, by decide⟩ ?_
  refine g_arr (ci := 5) (q := ("CachedSpeakerModel", qF_Rf, 34)) (at0 := .int) (n := 16) C hm qf_Rf rfl (List.mem_cons_self) 96 2 43 27 0 16 (by decide +kernel) (Or.inl ⟨rfl, 16, by decide +kernel, by decide⟩) (by decide +kernel) (by decide +kernel) rfl (gt_int 16) ⟨by decide, by decide, by decide⟩ rfl ⟨rfl, rfl⟩ (fun _ => ⟨rfl, rfl⟩) (by decide) ⟨by decide, by decide⟩ ?_
  refine g_arr (ci := 5) (q := ("CachedSpeakerModel", qF_Rf, 34)) (at0 := .int) (n := 16) C hm qf_Rf rfl (List.mem_cons_self) 104 2 46 28 0 16 (by decide +kernel) (Or.inl ⟨rfl, 16, by decide +kernel, by decide⟩) (by decide +kernel) (by decide +kernel) rfl (gt_int 16) ⟨by decide, by decide, by decide⟩ rfl ⟨rfl, rfl⟩ (fun _ => ⟨rfl, rfl⟩) (by decide) ⟨by decide, by decide⟩ ?_
  refine g_arr (ci := 5) (q := ("CachedSpeakerModel", qF_Rf, 34)) (at0 := .int) (n := 16) C hm qf_Rf rfl (List.mem_cons_self) 112 2 49 29 0 16 (by decide +kernel) (Or.inl ⟨rfl, 16, by decide +kernel, by decide⟩) (by decide +kernel) (by decide +kernel) rfl (gt_int 16) ⟨by decide, by decide, by decide⟩ rfl ⟨rfl, rfl⟩ (fun _ => ⟨rfl, rfl⟩) (by decide) ⟨by decide, by decide⟩ ?_
  refine g_arr (ci := 5) (q := ("CachedSpeakerModel", qF_Rf, 34)) (at0 := .int) (n := 16) C hm qf_Rf rfl (List.mem_cons_self) 120 2 52 30 0 16 (by decide +kernel) (Or.inl ⟨rfl, 16, by decide +kernel, by decide⟩) (by decide +kernel) (by decide +kernel) rfl (gt_int 16) ⟨by decide, by decide, by decide⟩ rfl ⟨rfl, rfl⟩ (fun _ => ⟨rfl, rfl⟩) (by decide) ⟨by decide, by decide⟩ ?_
  refine g_arr (ci := 5) (q := ("CachedSpeakerModel", qF_Rf, 34)) (at0 := .int) (n := 12) C hm qf_Rf rfl (List.mem_cons_self) 128 2 55 31 0 12 (by decide +kernel) (Or.inl ⟨rfl, 12, by decide +kernel, by decide⟩) (by decide +kernel) (by decide +kernel) rfl (gt_int 12) ⟨by decide, by decide, by decide⟩ rfl ⟨rfl, rfl⟩ (fun _ => ⟨rfl, rfl⟩) (by decide) ⟨by decide, by decide⟩ ?_
  refine g_arr (ci := 5) (q := ("CachedSpeakerModel", qF_Rf, 34)) (at0 := .int) (n := 12) C hm qf_Rf rfl (List.mem_cons_self) 136 2 58 32 0 12 (by decide +kernel) (Or.inl ⟨rfl, 12, by decide +kernel, by decide⟩) (by decide +kernel) (by decide +kernel) rfl (gt_int 12) ⟨by decide, by decide, by decide⟩ rfl ⟨rfl, rfl⟩ (fun _ => ⟨rfl, rfl⟩) (by decide) ⟨by decide, by decide⟩ ?_
  exact ret 144 _ (by decide +kernel)
set_option maxRecDepth 100000 in
set_option maxHeartbeats 8000000 in
theorem g_Ru {l : Launch} (x : Nat) : g_CV l 0 59 528 y_Ru_init [.ref x] 4 (r_Ru x) := by
  refine g_CV.of (by decide +kernel) rfl rfl rfl (fun _ => Nat.le_refl _) ?_
  intro p e s m below meth c D tc o Q C hm ret
  refine g_aload (k := 0) (i := 0) (x := o) C (by decide +kernel) rfl (List.mem_cons_self) ?_
  refine g_obj (idx := 3) C (by decide +kernel) (by decide +kernel) wd_obj ?_
  refine g_aload (k := 0) (i := 0) (x := o) C (by decide +kernel) rfl (List.mem_cons_self) ?_
  refine g_pushW (w := 2) (n := 24) C (Or.inl ⟨rfl, 24, by decide +kernel, by decide⟩) ?_
  refine g_pushW (w := 2) (n := 8) C (Or.inl ⟨rfl, 8, by decide +kernel, by decide⟩) ?_
  refine g_mna (idx := 9) (N := 24) (K := 8) C (by decide +kernel) ⟨by decide +kernel, wd_arr.1⟩ ⟨by decide, by decide, by decide⟩ ⟨by decide, by decide, by decide⟩ ⟨by decide, by decide⟩ ?_
  refine g_put (j := 0) (ci := 4) (k := 1) (idx := 11) (q := ("CachedSpeaker$Run", qF_Ru, 15)) (fs := (g_bl 4)) C hm qf_Ru (by decide +kernel) rfl rfl ⟨rfl, rfl⟩ ⟨rfl, rfl⟩ rfl (by decide) ?_
  refine g_eq (es' := .inr (4, [.null, .ref (o + 1), .null, .null, .null, .int 0, .int 0, .int 0, .null, .null, .null, .null, .null, .null, .null]) :: (i9 tc (o + 1) :: List.replicate 24 (i8 tc 0 8))) rfl rfl ?_
  refine g_aload (k := 0) (i := 0) (x := o) C (by decide +kernel) rfl (List.mem_cons_self) ?_
  refine g_pushW (w := 2) (n := 24) C (Or.inl ⟨rfl, 24, by decide +kernel, by decide⟩) ?_
  refine g_pushW (w := 2) (n := 8) C (Or.inl ⟨rfl, 8, by decide +kernel, by decide⟩) ?_
  refine g_mna (idx := 9) (N := 24) (K := 8) C (by decide +kernel) ⟨by decide +kernel, wd_arr.1⟩ ⟨by decide, by decide, by decide⟩ ⟨by decide, by decide, by decide⟩ ⟨by decide, by decide⟩ ?_
  refine g_put (j := 0) (ci := 4) (k := 2) (idx := 16) (q := ("CachedSpeaker$Run", qF_Ru, 15)) (fs := [.null, .ref (o + 1), .null, .null, .null, .int 0, .int 0, .int 0, .null, .null, .null, .null, .null, .null, .null]) C hm qf_Ru (by decide +kernel) rfl rfl ⟨rfl, rfl⟩ ⟨rfl, rfl⟩ rfl (by decide) ?_
  refine g_eq (es' := .inr (4, [.null, .ref (o + 1), .ref (o + 26), .null, .null, .int 0, .int 0, .int 0, .null, .null, .null, .null, .null, .null, .null]) :: ((i9 tc (o + 1) :: List.replicate 24 (i8 tc 0 8)) ++ (i9 tc (o + 26) :: List.replicate 24 (i8 tc 0 8)))) rfl rfl ?_
  refine g_arr (ci := 4) (q := ("CachedSpeaker$Run", qF_Ru, 15)) (at0 := .int) (n := 12) C hm qf_Ru rfl (List.mem_cons_self) 28 2 19 3 0 12 (by decide +kernel) (Or.inl ⟨rfl, 12, by decide +kernel, by decide⟩) (by decide +kernel) (by decide +kernel) rfl (gt_int 12) ⟨by decide, by decide, by decide⟩ rfl ⟨rfl, rfl⟩ (fun _ => ⟨rfl, rfl⟩) (by decide) ⟨by decide, by decide⟩ ?_
  refine g_arr (ci := 4) (q := ("CachedSpeaker$Run", qF_Ru, 15)) (at0 := .int) (n := 16) C hm qf_Ru rfl (List.mem_cons_self) 36 2 23 4 0 16 (by decide +kernel) (Or.inl ⟨rfl, 16, by decide +kernel, by decide⟩) (by decide +kernel) (by decide +kernel) rfl (gt_int 16) ⟨by decide, by decide, by decide⟩ rfl ⟨rfl, rfl⟩ (fun _ => ⟨rfl, rfl⟩) (by decide) ⟨by decide, by decide⟩ ?_
  refine g_arr (ci := 4) (q := ("CachedSpeaker$Run", qF_Ru, 15)) (at0 := .int) (n := 8) C hm qf_Ru rfl (List.mem_cons_self) 44 2 26 8 0 8 (by decide +kernel) (Or.inl ⟨rfl, 8, by decide +kernel, by decide⟩) (by decide +kernel) (by decide +kernel) rfl (gt_int 8) ⟨by decide, by decide, by decide⟩ rfl ⟨rfl, rfl⟩ (fun _ => ⟨rfl, rfl⟩) (by decide) ⟨by decide, by decide⟩ ?_
  refine g_arr (ci := 4) (q := ("CachedSpeaker$Run", qF_Ru, 15)) (at0 := .int) (n := 8) C hm qf_Ru rfl (List.mem_cons_self) 52 2 29 9 0 8 (by decide +kernel) (Or.inl ⟨rfl, 8, by decide +kernel, by decide⟩) (by decide +kernel) (by decide +kernel) rfl (gt_int 8) ⟨by decide, by decide, by decide⟩ rfl ⟨rfl, rfl⟩ (fun _ => ⟨rfl, rfl⟩) (by decide) ⟨by decide, by decide⟩ ?_
  refine g_arr (ci := 4) (q := ("CachedSpeaker$Run", qF_Ru, 15)) (at0 := .int) (n := 8) C hm qf_Ru rfl (List.mem_cons_self) 60 2 32 10 0 8 (by decide +kernel) (Or.inl ⟨rfl, 8, by decide +kernel, by decide⟩) (by decide +kernel) (by decide +kernel) rfl (gt_int 8) ⟨by decide, by decide, by decide⟩ rfl ⟨rfl, rfl⟩ (fun _ => ⟨rfl, rfl⟩) (by decide) ⟨by decide, by decide⟩ ?_
  refine g_arr (ci := 4) (q := ("CachedSpeaker$Run", qF_Ru, 15)) (at0 := .int) (n := 8) C hm qf_Ru rfl (List.mem_cons_self) 68 2 35 11 0 8 (by decide +kernel) (Or.inl ⟨rfl, 8, by decide +kernel, by decide⟩) (by decide +kernel) (by decide +kernel) rfl (gt_int 8) ⟨by decide, by decide, by decide⟩ rfl ⟨rfl, rfl⟩ (fun _ => ⟨rfl, rfl⟩) (by decide) ⟨by decide, by decide⟩ ?_
  refine g_arr (ci := 4) (q := ("CachedSpeaker$Run", qF_Ru, 15)) (at0 := .int) (n := 8) C hm qf_Ru rfl (List.mem_cons_self) 76 2 38 12 0 8 (by decide +kernel) (Or.inl ⟨rfl, 8, by decide +kernel, by decide⟩) (by decide +kernel) (by decide +kernel) rfl (gt_int 8) ⟨by decide, by decide, by decide⟩ rfl ⟨rfl, rfl⟩ (fun _ => ⟨rfl, rfl⟩) (by decide) ⟨by decide, by decide⟩ ?_
  refine g_arr (ci := 4) (q := ("CachedSpeaker$Run", qF_Ru, 15)) (at0 := .int) (n := 16) C hm qf_Ru rfl (List.mem_cons_self) 84 2 41 13 0 16 (by decide +kernel) (Or.inl ⟨rfl, 16, by decide +kernel, by decide⟩) (by decide +kernel) (by decide +kernel) rfl (gt_int 16) ⟨by decide, by decide, by decide⟩ rfl ⟨rfl, rfl⟩ (fun _ => ⟨rfl, rfl⟩) (by decide) ⟨by decide, by decide⟩ ?_
  refine g_arr (ci := 4) (q := ("CachedSpeaker$Run", qF_Ru, 15)) (at0 := .int) (n := 12) C hm qf_Ru rfl (List.mem_cons_self) 92 2 44 14 0 12 (by decide +kernel) (Or.inl ⟨rfl, 12, by decide +kernel, by decide⟩) (by decide +kernel) (by decide +kernel) rfl (gt_int 12) ⟨by decide, by decide, by decide⟩ rfl ⟨rfl, rfl⟩ (fun _ => ⟨rfl, rfl⟩) (by decide) ⟨by decide, by decide⟩ ?_
  refine g_aload (k := 0) (i := 0) (x := o) C (by decide +kernel) rfl (List.mem_cons_self) ?_
  refine g_aload (k := 1) (i := 1) (x := x) C (by decide +kernel) rfl (List.mem_cons_of_mem _ List.mem_cons_self) ?_
  refine g_put (j := 0) (ci := 4) (k := 0) (idx := 47) (q := ("CachedSpeaker$Run", qF_Ru, 15)) (fs := [.null, .ref (o + 1), .ref (o + 26), .ref (o + 51), .ref (o + 52), .int 0, .int 0, .int 0, .ref (o + 53), .ref (o + 54), .ref (o + 55), .ref (o + 56), .ref (o + 57), .ref (o + 58), .ref (o + 59)]) C hm qf_Ru (by decide +kernel) rfl rfl ⟨rfl, rfl⟩ ⟨rfl, rfl⟩ rfl (by decide) ?_
  refine g_eq (es' := r_Ru x tc o) rfl rfl ?_
  exact ret 105 _ (by decide +kernel)
set_option maxRecDepth 100000 in
theorem lk_Im : g_lk y_Im_init 0 := ⟨by decide +kernel, by decide +kernel, by decide +kernel, rfl, rfl, by decide +kernel, by decide⟩
set_option maxRecDepth 100000 in
theorem lk_Mo : g_lk y_Mo_init 0 := ⟨by decide +kernel, by decide +kernel, by decide +kernel, rfl, rfl, by decide +kernel, by decide⟩
set_option maxRecDepth 100000 in
theorem lk_Pr : g_lk y_Pr_init 0 := ⟨by decide +kernel, by decide +kernel, by decide +kernel, rfl, rfl, by decide +kernel, by decide⟩
set_option maxRecDepth 100000 in
theorem lk_Ru : g_lk y_Ru_init 1 := ⟨by decide +kernel, by decide +kernel, by decide +kernel, rfl, rfl, by decide +kernel, by decide⟩
set_option maxRecDepth 100000 in
theorem lk_CS : g_lk y_CS_init 0 := ⟨by decide +kernel, by decide +kernel, by decide +kernel, rfl, rfl, by decide +kernel, by decide⟩
set_option maxRecDepth 100000 in
theorem lk_Rf : g_lk y_Rf_init 0 := ⟨by decide +kernel, by decide +kernel, by decide +kernel, rfl, rfl, by decide +kernel, by decide⟩
set_option maxRecDepth 100000 in
set_option maxHeartbeats 8000000 in
theorem g_CS {l : Launch} : g_CV l 1 68 3631 y_CS_init [] 0 r_CS := by
  refine g_CV.of (by decide +kernel) rfl rfl rfl (fun _ => Nat.le_refl _) ?_
  intro p e s m below meth c D tc o Q C hm ret
  refine g_aload (k := 0) (i := 0) (x := o) C (by decide +kernel) rfl (List.mem_cons_self) ?_
  refine g_obj (idx := 1) C (by decide +kernel) (by decide +kernel) wd_obj ?_
  refine g_aload (k := 0) (i := 0) (x := o) C (by decide +kernel) rfl (List.mem_cons_self) ?_
  refine g_new (ci := 1) (idx := 7) (q := ("CachedSpeaker$Image", qF_Im, 2)) C (by decide +kernel) rfl ⟨by decide +kernel, by decide +kernel, by decide +kernel⟩ ⟨by decide, by decide⟩ ?_
  refine g_dup C (by decide +kernel) ?_
  refine g_callI (idx := 9) (as := []) (rest := [.ref (o + 1), .ref o]) C lk_Im (Or.inr ⟨"CachedSpeaker", by decide +kernel⟩) rfl g_Im ⟨by decide, by decide⟩ ⟨by decide, by decide⟩ (by decide +kernel) (by decide) ?_
  refine g_put (j := 0) (ci := 0) (k := 0) (idx := 10) (q := ("CachedSpeaker", qF_CS, 4)) (fs := [.null, .null, .null, .null]) C hm qf_CS (by decide +kernel) rfl rfl ⟨rfl, rfl⟩ ⟨rfl, rfl⟩ rfl (by decide) ?_
  refine g_eq (es' := .inr (0, [.ref (o + 1), .null, .null, .null]) :: (r_Im tc (o + 1))) rfl rfl ?_
  refine g_aload (k := 0) (i := 0) (x := o) C (by decide +kernel) rfl (List.mem_cons_self) ?_
  refine g_new (ci := 2) (idx := 16) (q := ("CachedSpeaker$Model", qF_Mo, 18)) C (by decide +kernel) rfl ⟨by decide +kernel, by decide +kernel, by decide +kernel⟩ ⟨by decide, by decide⟩ ?_
  refine g_dup C (by decide +kernel) ?_
  refine g_callI (idx := 18) (as := []) (rest := [.ref (o + 3), .ref o]) C lk_Mo (Or.inr ⟨"CachedSpeaker", by decide +kernel⟩) rfl g_Mo ⟨by decide, by decide⟩ ⟨by decide, by decide⟩ (by decide +kernel) (by decide) ?_
  refine g_put (j := 0) (ci := 0) (k := 1) (idx := 19) (q := ("CachedSpeaker", qF_CS, 4)) (fs := [.ref (o + 1), .null, .null, .null]) C hm qf_CS (by decide +kernel) rfl rfl ⟨rfl, rfl⟩ ⟨rfl, rfl⟩ rfl (by decide) ?_
  refine g_eq (es' := .inr (0, [.ref (o + 1), .ref (o + 3), .null, .null]) :: (r_Im tc (o + 1) ++ r_Mo tc (o + 3))) rfl rfl ?_
  refine g_aload (k := 0) (i := 0) (x := o) C (by decide +kernel) rfl (List.mem_cons_self) ?_
  refine g_new (ci := 3) (idx := 23) (q := ("CachedSpeaker$Prompt", qF_Pr, 4)) C (by decide +kernel) rfl ⟨by decide +kernel, by decide +kernel, by decide +kernel⟩ ⟨by decide, by decide⟩ ?_
  refine g_dup C (by decide +kernel) ?_
  refine g_callI (idx := 25) (as := []) (rest := [.ref (o + 6), .ref o]) C lk_Pr (Or.inr ⟨"CachedSpeaker", by decide +kernel⟩) rfl g_Pr ⟨by decide, by decide⟩ ⟨by decide, by decide⟩ (by decide +kernel) (by decide) ?_
  refine g_put (j := 0) (ci := 0) (k := 2) (idx := 26) (q := ("CachedSpeaker", qF_CS, 4)) (fs := [.ref (o + 1), .ref (o + 3), .null, .null]) C hm qf_CS (by decide +kernel) rfl rfl ⟨rfl, rfl⟩ ⟨rfl, rfl⟩ rfl (by decide) ?_
  refine g_eq (es' := .inr (0, [.ref (o + 1), .ref (o + 3), .ref (o + 6), .null]) :: (r_Im tc (o + 1) ++ (r_Mo tc (o + 3) ++ r_Pr tc (o + 6)))) rfl rfl ?_
  refine g_aload (k := 0) (i := 0) (x := o) C (by decide +kernel) rfl (List.mem_cons_self) ?_
  refine g_new (ci := 4) (idx := 30) (q := ("CachedSpeaker$Run", qF_Ru, 15)) C (by decide +kernel) rfl ⟨by decide +kernel, by decide +kernel, by decide +kernel⟩ ⟨by decide, by decide⟩ ?_
  refine g_dup C (by decide +kernel) ?_
  refine g_aload (k := 0) (i := 0) (x := o) C (by decide +kernel) rfl (List.mem_cons_self) ?_
  refine g_get (j := 0) (ci := 0) (k := 1) (idx := 19) (q := ("CachedSpeaker", qF_CS, 4)) (fs := [.ref (o + 1), .ref (o + 3), .ref (o + 6), .null]) (v := .ref (o + 3)) C qf_CS (by decide +kernel) rfl rfl rfl rfl ?_
  refine g_callI (idx := 32) (as := [.ref (o + 3)]) (rest := [.ref (o + 9), .ref o]) C lk_Ru (Or.inl (by decide +kernel)) rfl (g_Ru (o + 3)) ⟨by decide, by decide⟩ ⟨by decide, by decide⟩ (by decide +kernel) (by decide) ?_
  refine g_put (j := 0) (ci := 0) (k := 3) (idx := 35) (q := ("CachedSpeaker", qF_CS, 4)) (fs := [.ref (o + 1), .ref (o + 3), .ref (o + 6), .null]) C hm qf_CS (by decide +kernel) rfl rfl ⟨rfl, rfl⟩ ⟨rfl, rfl⟩ rfl (by decide) ?_
  refine g_eq (es' := r_CS tc o) rfl rfl ?_
  exact ret 52 _ (by decide +kernel)
