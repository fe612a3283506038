/-! THE RUN'S CONSTRUCTOR -/
set_option maxRecDepth 100000 in
set_option maxHeartbeats 8000000 in
theorem g_Ru {l : Launch} (x : Nat) : g_CV l 0 59 528 y_Ru_init [.ref x] 4 (r_Ru x) := by
  refine g_CV.of (by decide +kernel) rfl rfl rfl (fun _ => Nat.le_refl _) ?_
  intro p e s m below meth c D tc o Q C hm ret
  refine g_aload (k := 0) (i := 0) (x := o) C (by decide +kernel) rfl (List.mem_cons_self) ?_
  refine g_obj (idx := 3) C (by decide +kernel) (by decide +kernel) wd_obj ?_
  refine g_aload (k := 0) (i := 0) (x := o) C (by decide +kernel) rfl (List.mem_cons_self) ?_
  refine g_pushW (w := 2) (n := 24) C (Or.inl ⟨rfl, 24, by decide +kernel, by decide⟩) ?_
  refine g_pushW (w := 2) (n := 8) C (Or.inl ⟨rfl, 8, by decide +kernel, by decide⟩) ?_
  refine g_mna (idx := 9) (N := 24) (K := 8) C (by decide +kernel) ⟨by decide +kernel, wd_arr.1⟩ ⟨by decide, by decide, by decide⟩ ⟨by decide, by decide, by decide⟩ ⟨by decide, by decide⟩ ?_
  refine g_put (j := 0) (ci := 4) (k := 1) (idx := 11) (q := ("CachedSpeaker$Run", qF_Ru, 15)) (fs := (g_bl 4)) C hm qf_Ru (by decide +kernel) rfl rfl ⟨rfl, rfl⟩ ⟨rfl, rfl⟩ rfl (Nat.le_of_ble_eq_true rfl) ?_
  refine g_eq (es' := .inr (4, [.null, .ref (o + 1), .null, .null, .null, .int 0, .int 0, .int 0, .null, .null, .null, .null, .null, .null, .null]) :: (g_i9 tc (o + 1) :: List.replicate 24 (g_i8 tc 0 8))) rfl rfl ?_
  refine g_aload (k := 0) (i := 0) (x := o) C (by decide +kernel) rfl (List.mem_cons_self) ?_
  refine g_pushW (w := 2) (n := 24) C (Or.inl ⟨rfl, 24, by decide +kernel, by decide⟩) ?_
  refine g_pushW (w := 2) (n := 8) C (Or.inl ⟨rfl, 8, by decide +kernel, by decide⟩) ?_
  refine g_mna (idx := 9) (N := 24) (K := 8) C (by decide +kernel) ⟨by decide +kernel, wd_arr.1⟩ ⟨by decide, by decide, by decide⟩ ⟨by decide, by decide, by decide⟩ ⟨by decide, by decide⟩ ?_
  refine g_put (j := 0) (ci := 4) (k := 2) (idx := 16) (q := ("CachedSpeaker$Run", qF_Ru, 15)) (fs := [.null, .ref (o + 1), .null, .null, .null, .int 0, .int 0, .int 0, .null, .null, .null, .null, .null, .null, .null]) C hm qf_Ru (by decide +kernel) rfl rfl ⟨rfl, rfl⟩ ⟨rfl, rfl⟩ rfl (Nat.le_of_ble_eq_true rfl) ?_
  refine g_eq (es' := .inr (4, [.null, .ref (o + 1), .ref (o + 26), .null, .null, .int 0, .int 0, .int 0, .null, .null, .null, .null, .null, .null, .null]) :: ((g_i9 tc (o + 1) :: List.replicate 24 (g_i8 tc 0 8)) ++ (g_i9 tc (o + 26) :: List.replicate 24 (g_i8 tc 0 8)))) rfl rfl ?_
  refine g_arr (ci := 4) (q := ("CachedSpeaker$Run", qF_Ru, 15)) (at0 := .int) (n := 12) C hm qf_Ru rfl (List.mem_cons_self) 28 2 19 3 0 12 (by decide +kernel) (Or.inl ⟨rfl, 12, by decide +kernel, by decide⟩) (by decide +kernel) (by decide +kernel) rfl (gt_int 12) ⟨by decide, by decide, by decide⟩ rfl ⟨rfl, rfl⟩ (fun _ => ⟨rfl, rfl⟩) (Nat.le_of_ble_eq_true rfl) ⟨by decide, by decide⟩ ?_
  refine g_arr (ci := 4) (q := ("CachedSpeaker$Run", qF_Ru, 15)) (at0 := .int) (n := 16) C hm qf_Ru rfl (List.mem_cons_self) 36 2 23 4 0 16 (by decide +kernel) (Or.inl ⟨rfl, 16, by decide +kernel, by decide⟩) (by decide +kernel) (by decide +kernel) rfl (gt_int 16) ⟨by decide, by decide, by decide⟩ rfl ⟨rfl, rfl⟩ (fun _ => ⟨rfl, rfl⟩) (Nat.le_of_ble_eq_true rfl) ⟨by decide, by decide⟩ ?_
  refine g_arr (ci := 4) (q := ("CachedSpeaker$Run", qF_Ru, 15)) (at0 := .int) (n := 8) C hm qf_Ru rfl (List.mem_cons_self) 44 2 26 8 0 8 (by decide +kernel) (Or.inl ⟨rfl, 8, by decide +kernel, by decide⟩) (by decide +kernel) (by decide +kernel) rfl (gt_int 8) ⟨by decide, by decide, by decide⟩ rfl ⟨rfl, rfl⟩ (fun _ => ⟨rfl, rfl⟩) (Nat.le_of_ble_eq_true rfl) ⟨by decide, by decide⟩ ?_
  refine g_arr (ci := 4) (q := ("CachedSpeaker$Run", qF_Ru, 15)) (at0 := .int) (n := 8) C hm qf_Ru rfl (List.mem_cons_self) 52 2 29 9 0 8 (by decide +kernel) (Or.inl ⟨rfl, 8, by decide +kernel, by decide⟩) (by decide +kernel) (by decide +kernel) rfl (gt_int 8) ⟨by decide, by decide, by decide⟩ rfl ⟨rfl, rfl⟩ (fun _ => ⟨rfl, rfl⟩) (Nat.le_of_ble_eq_true rfl) ⟨by decide, by decide⟩ ?_
  refine g_arr (ci := 4) (q := ("CachedSpeaker$Run", qF_Ru, 15)) (at0 := .int) (n := 8) C hm qf_Ru rfl (List.mem_cons_self) 60 2 32 10 0 8 (by decide +kernel) (Or.inl ⟨rfl, 8, by decide +kernel, by decide⟩) (by decide +kernel) (by decide +kernel) rfl (gt_int 8) ⟨by decide, by decide, by decide⟩ rfl ⟨rfl, rfl⟩ (fun _ => ⟨rfl, rfl⟩) (Nat.le_of_ble_eq_true rfl) ⟨by decide, by decide⟩ ?_
  refine g_arr (ci := 4) (q := ("CachedSpeaker$Run", qF_Ru, 15)) (at0 := .int) (n := 8) C hm qf_Ru rfl (List.mem_cons_self) 68 2 35 11 0 8 (by decide +kernel) (Or.inl ⟨rfl, 8, by decide +kernel, by decide⟩) (by decide +kernel) (by decide +kernel) rfl (gt_int 8) ⟨by decide, by decide, by decide⟩ rfl ⟨rfl, rfl⟩ (fun _ => ⟨rfl, rfl⟩) (Nat.le_of_ble_eq_true rfl) ⟨by decide, by decide⟩ ?_
  refine g_arr (ci := 4) (q := ("CachedSpeaker$Run", qF_Ru, 15)) (at0 := .int) (n := 8) C hm qf_Ru rfl (List.mem_cons_self) 76 2 38 12 0 8 (by decide +kernel) (Or.inl ⟨rfl, 8, by decide +kernel, by decide⟩) (by decide +kernel) (by decide +kernel) rfl (gt_int 8) ⟨by decide, by decide, by decide⟩ rfl ⟨rfl, rfl⟩ (fun _ => ⟨rfl, rfl⟩) (Nat.le_of_ble_eq_true rfl) ⟨by decide, by decide⟩ ?_
  refine g_arr (ci := 4) (q := ("CachedSpeaker$Run", qF_Ru, 15)) (at0 := .int) (n := 16) C hm qf_Ru rfl (List.mem_cons_self) 84 2 41 13 0 16 (by decide +kernel) (Or.inl ⟨rfl, 16, by decide +kernel, by decide⟩) (by decide +kernel) (by decide +kernel) rfl (gt_int 16) ⟨by decide, by decide, by decide⟩ rfl ⟨rfl, rfl⟩ (fun _ => ⟨rfl, rfl⟩) (Nat.le_of_ble_eq_true rfl) ⟨by decide, by decide⟩ ?_
  refine g_arr (ci := 4) (q := ("CachedSpeaker$Run", qF_Ru, 15)) (at0 := .int) (n := 12) C hm qf_Ru rfl (List.mem_cons_self) 92 2 44 14 0 12 (by decide +kernel) (Or.inl ⟨rfl, 12, by decide +kernel, by decide⟩) (by decide +kernel) (by decide +kernel) rfl (gt_int 12) ⟨by decide, by decide, by decide⟩ rfl ⟨rfl, rfl⟩ (fun _ => ⟨rfl, rfl⟩) (Nat.le_of_ble_eq_true rfl) ⟨by decide, by decide⟩ ?_
  refine g_aload (k := 0) (i := 0) (x := o) C (by decide +kernel) rfl (List.mem_cons_self) ?_
  refine g_aload (k := 1) (i := 1) (x := x) C (by decide +kernel) rfl (List.mem_cons_of_mem _ List.mem_cons_self) ?_
  refine g_put (j := 0) (ci := 4) (k := 0) (idx := 47) (q := ("CachedSpeaker$Run", qF_Ru, 15)) (fs := [.null, .ref (o + 1), .ref (o + 26), .ref (o + 51), .ref (o + 52), .int 0, .int 0, .int 0, .ref (o + 53), .ref (o + 54), .ref (o + 55), .ref (o + 56), .ref (o + 57), .ref (o + 58), .ref (o + 59)]) C hm qf_Ru (by decide +kernel) rfl rfl ⟨rfl, rfl⟩ ⟨rfl, rfl⟩ rfl (Nat.le_of_ble_eq_true rfl) ?_
  refine g_eq (es' := r_Ru x tc o) rfl rfl ?_
  exact ret 105 _ (by decide +kernel)
