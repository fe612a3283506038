/-! THE SPEAKER'S CONSTRUCTOR -/
set_option maxRecDepth 100000 in
theorem lk_Im : g_lk y_Im_init 0 := ⟨by decide +kernel, by decide +kernel, by decide +kernel, rfl, rfl, by decide +kernel, by decide⟩
set_option maxRecDepth 100000 in
theorem lk_Mo : g_lk y_Mo_init 0 := ⟨by decide +kernel, by decide +kernel, by decide +kernel, rfl, rfl, by decide +kernel, by decide⟩
set_option maxRecDepth 100000 in
theorem lk_Pr : g_lk y_Pr_init 0 := ⟨by decide +kernel, by decide +kernel, by decide +kernel, rfl, rfl, by decide +kernel, by decide⟩
set_option maxRecDepth 100000 in
theorem lk_Ru : g_lk y_Ru_init 1 := ⟨by decide +kernel, by decide +kernel, by decide +kernel, rfl, rfl, by decide +kernel, by decide⟩
set_option maxRecDepth 100000 in
theorem lk_CS : g_lk y_CS_init 0 := ⟨by decide +kernel, by decide +kernel, by decide +kernel, rfl, rfl, by decide +kernel, by decide⟩
set_option maxRecDepth 100000 in
theorem lk_Rf : g_lk y_Rf_init 0 := ⟨by decide +kernel, by decide +kernel, by decide +kernel, rfl, rfl, by decide +kernel, by decide⟩
set_option maxRecDepth 100000 in
set_option maxHeartbeats 8000000 in
theorem g_CS {l : Launch} : g_CV l 1 68 3631 y_CS_init [] 0 r_CS := by
  refine g_CV.of (by decide +kernel) rfl rfl rfl (fun _ => Nat.le_refl _) ?_
  intro p e s m below meth c D tc o Q C hm ret
  refine g_aload (k := 0) (i := 0) (x := o) C (by decide +kernel) rfl (List.mem_cons_self) ?_
  refine g_obj (idx := 1) C (by decide +kernel) (by decide +kernel) wd_obj ?_
  refine g_aload (k := 0) (i := 0) (x := o) C (by decide +kernel) rfl (List.mem_cons_self) ?_
  refine g_new (ci := 1) (idx := 7) (q := ("CachedSpeaker$Image", qF_Im, 2)) C (by decide +kernel) rfl ⟨by decide +kernel, by decide +kernel, by decide +kernel⟩ ⟨by decide, by decide⟩ ?_
  refine g_dup C (by decide +kernel) ?_
  refine g_callI (idx := 9) (as := []) (rest := [.ref (o + 1), .ref o]) C lk_Im (Or.inr ⟨"CachedSpeaker", by decide +kernel⟩) rfl g_Im ⟨by decide, by decide⟩ ⟨by decide, by decide⟩ (by decide +kernel) (Nat.le_of_ble_eq_true rfl) ?_
  refine g_put (j := 0) (ci := 0) (k := 0) (idx := 10) (q := ("CachedSpeaker", qF_CS, 4)) (fs := [.null, .null, .null, .null]) C hm qf_CS (by decide +kernel) rfl rfl ⟨rfl, rfl⟩ ⟨rfl, rfl⟩ rfl (Nat.le_of_ble_eq_true rfl) ?_
  refine g_eq (es' := .inr (0, [.ref (o + 1), .null, .null, .null]) :: (r_Im tc (o + 1))) rfl rfl ?_
  refine g_aload (k := 0) (i := 0) (x := o) C (by decide +kernel) rfl (List.mem_cons_self) ?_
  refine g_new (ci := 2) (idx := 16) (q := ("CachedSpeaker$Model", qF_Mo, 18)) C (by decide +kernel) rfl ⟨by decide +kernel, by decide +kernel, by decide +kernel⟩ ⟨by decide, by decide⟩ ?_
  refine g_dup C (by decide +kernel) ?_
  refine g_callI (idx := 18) (as := []) (rest := [.ref (o + 3), .ref o]) C lk_Mo (Or.inr ⟨"CachedSpeaker", by decide +kernel⟩) rfl g_Mo ⟨by decide, by decide⟩ ⟨by decide, by decide⟩ (by decide +kernel) (Nat.le_of_ble_eq_true rfl) ?_
  refine g_put (j := 0) (ci := 0) (k := 1) (idx := 19) (q := ("CachedSpeaker", qF_CS, 4)) (fs := [.ref (o + 1), .null, .null, .null]) C hm qf_CS (by decide +kernel) rfl rfl ⟨rfl, rfl⟩ ⟨rfl, rfl⟩ rfl (Nat.le_of_ble_eq_true rfl) ?_
  refine g_eq (es' := .inr (0, [.ref (o + 1), .ref (o + 3), .null, .null]) :: (r_Im tc (o + 1) ++ r_Mo tc (o + 3))) rfl rfl ?_
  refine g_aload (k := 0) (i := 0) (x := o) C (by decide +kernel) rfl (List.mem_cons_self) ?_
  refine g_new (ci := 3) (idx := 23) (q := ("CachedSpeaker$Prompt", qF_Pr, 4)) C (by decide +kernel) rfl ⟨by decide +kernel, by decide +kernel, by decide +kernel⟩ ⟨by decide, by decide⟩ ?_
  refine g_dup C (by decide +kernel) ?_
  refine g_callI (idx := 25) (as := []) (rest := [.ref (o + 6), .ref o]) C lk_Pr (Or.inr ⟨"CachedSpeaker", by decide +kernel⟩) rfl g_Pr ⟨by decide, by decide⟩ ⟨by decide, by decide⟩ (by decide +kernel) (Nat.le_of_ble_eq_true rfl) ?_
  refine g_put (j := 0) (ci := 0) (k := 2) (idx := 26) (q := ("CachedSpeaker", qF_CS, 4)) (fs := [.ref (o + 1), .ref (o + 3), .null, .null]) C hm qf_CS (by decide +kernel) rfl rfl ⟨rfl, rfl⟩ ⟨rfl, rfl⟩ rfl (Nat.le_of_ble_eq_true rfl) ?_
  refine g_eq (es' := .inr (0, [.ref (o + 1), .ref (o + 3), .ref (o + 6), .null]) :: (r_Im tc (o + 1) ++ (r_Mo tc (o + 3) ++ r_Pr tc (o + 6)))) rfl rfl ?_
  refine g_aload (k := 0) (i := 0) (x := o) C (by decide +kernel) rfl (List.mem_cons_self) ?_
  refine g_new (ci := 4) (idx := 30) (q := ("CachedSpeaker$Run", qF_Ru, 15)) C (by decide +kernel) rfl ⟨by decide +kernel, by decide +kernel, by decide +kernel⟩ ⟨by decide, by decide⟩ ?_
  refine g_dup C (by decide +kernel) ?_
  refine g_aload (k := 0) (i := 0) (x := o) C (by decide +kernel) rfl (List.mem_cons_self) ?_
  refine g_get (j := 0) (ci := 0) (k := 1) (idx := 19) (q := ("CachedSpeaker", qF_CS, 4)) (fs := [.ref (o + 1), .ref (o + 3), .ref (o + 6), .null]) (v := .ref (o + 3)) C qf_CS (by decide +kernel) rfl rfl rfl rfl ?_
  refine g_callI (idx := 32) (as := [.ref (o + 3)]) (rest := [.ref (o + 9), .ref o]) C lk_Ru (Or.inl (by decide +kernel)) rfl (g_Ru (o + 3)) ⟨by decide, by decide⟩ ⟨by decide, by decide⟩ (by decide +kernel) (Nat.le_of_ble_eq_true rfl) ?_
  refine g_put (j := 0) (ci := 0) (k := 3) (idx := 35) (q := ("CachedSpeaker", qF_CS, 4)) (fs := [.ref (o + 1), .ref (o + 3), .ref (o + 6), .null]) C hm qf_CS (by decide +kernel) rfl rfl ⟨rfl, rfl⟩ ⟨rfl, rfl⟩ rfl (Nat.le_of_ble_eq_true rfl) ?_
  refine g_eq (es' := r_CS tc o) rfl rfl ?_
  exact ret 52 _ (by decide +kernel)
