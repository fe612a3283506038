/-! THE REFERENCE: single numbers, norm, times, places -/
theorem r_floor (M : qM) (a b : Int32) (hb : ¬ b = 0) : q_CI TS CL SHP 0 y_Rf_floor [.int a, .int b] M (fun v M' => v = n_fl a b ∧ M' = M) := by
  refine q_CI.of f_Rf_floor [.int a, .int b, .null] rfl rfl (fun v M' _ => ⟨.int, rfl, rfl⟩) (fun S h => ?_)
  by_cases h1 : 0 ≤ a % b
  · exact p_Rf_floor_0_1 h ⟨hb, hb, h1, by unfold n_fl; rw [if_neg (n_nlt.mpr h1)], rfl⟩
  · exact p_Rf_floor_0_0 h ⟨hb, hb, h1, by unfold n_fl; rw [if_pos (n_nle.mp h1)], rfl⟩
theorem r_clamp (M : qM) (a : Int32) : q_CI TS CL SHP 0 y_Rf_clamp [.int a] M (fun v M' => v = n_cl a ∧ M' = M) := by
  refine q_CI.of f_Rf_clamp [.int a] rfl rfl (fun v M' _ => ⟨.int, rfl, rfl⟩) (fun S h => ?_)
  by_cases h1 : (-127) ≤ a
  · by_cases h2 : a ≤ 127
    · exact p_Rf_clamp_0_2 h ⟨h1, h2, by unfold n_cl; rw [if_neg (n_nlt.mpr h1), if_neg (n_nlt.mpr h2)], rfl⟩
    · exact p_Rf_clamp_0_1 h ⟨h1, h2, by unfold n_cl; rw [if_neg (n_nlt.mpr h1), if_pos (n_nle.mp h2)], rfl⟩
  · exact p_Rf_clamp_0_0 h ⟨h1, by unfold n_cl; rw [if_pos (n_nle.mp h1)], rfl⟩
theorem r_rootOf (M : qM) {n : Nat} (hn : n < 1073741824) : q_CI TS CL SHP 0 y_Rf_rootOf [.int (nI n)] M (fun v M' => v = n_rt (nI n) ∧ M' = M) := by
  refine q_CI.of f_Rf_rootOf [.int (nI n), .null] rfl rfl (fun v M' _ => ⟨.int, rfl, rfl⟩) (fun S h => ?_)
  have e : n_rt (nI n) = nI (n_rtN n) := by unfold n_rt; rw [nI_clamp (by omega)]
  have hr := n_rtN_ok n
  have hr2 : n_rtN n < 32768 := n_sq_lt (by omega)
  have loop : ∀ m r, r + m = n_rtN n → S 2 [.int (nI n), .int (nI r)] [] M := by
    intro m
    induction m with
    | zero =>
      intro r hk
      have : r = n_rtN n := by omega
      subst this
      refine p_Rf_rootOf_2_1 h ⟨?_, e.symm, rfl⟩
      rw [nI_1, nI_mul]
      have : (n_rtN n + 1) * (n_rtN n + 1) ≤ 32768 * 32768 := Nat.mul_le_mul (by omega) (by omega)
      exact nI_lt hr.2 (by omega)
    | succ m ih =>
      intro r hk
      have hle : (r + 1) * (r + 1) ≤ n_rtN n * n_rtN n := Nat.mul_le_mul (by omega) (by omega)
      refine p_Rf_rootOf_2_0 h ⟨?_, ?_⟩
      · rw [nI_1, nI_mul]; exact nI_nlt (by omega) (by omega)
      · rw [nI_1]; exact ih (r + 1) (by omega)
  exact p_Rf_rootOf_0_0 h (loop (n_rtN n) 0 (by omega))
theorem n_shl_ne : ∀ z, z < 31 → ¬ ((1 : Int32) <<< (nI z &&& 31)) = 0 := by decide +kernel
theorem r_fade (M : qM) {x : Int32} (hx : 0 ≤ x) : q_CI TS CL SHP 1 y_Rf_fade [.int x] M (fun v M' => v = n_fade x ∧ M' = M) := by
  refine q_CI.of f_Rf_fade [.int x, .null, .null] rfl rfl (fun v M' _ => ⟨.int, rfl, rfl⟩) (fun S h => ?_)
  have h11 : ¬ (11 : Int32) = 0 := by decide
  by_cases hq : x / 11 ≤ 10
  · obtain ⟨z, hz, ez⟩ := fade_q hx hq
    refine p_Rf_fade_0_1 h ⟨h11, h11, hq, 0, _, by decide, r_floor M _ _ (by rw [ez]; exact n_shl_ne z (by omega)), fun v M' hv => ⟨?_, hv.2⟩⟩
    rw [hv.1]; unfold n_fade; rw [if_neg (by rw [n_nlt]; exact hq)]
  · refine p_Rf_fade_0_0 h ⟨h11, h11, hq, ?_, rfl⟩
    unfold n_fade
    rw [if_pos (n_nle.mp hq)]
theorem r_bend (M : qM) (a : Int32) : q_CI TS CL SHP 1 y_Rf_bend [.int a] M (fun v M' => v = n_bend a ∧ M' = M) := by
  refine q_CI.of f_Rf_bend [.int a, .null] rfl rfl (fun v M' _ => ⟨.int, rfl, rfl⟩) (fun S h => ?_)
  have h96 : ¬ (96 : Int32) = 0 := by decide
  by_cases h1 : 0 ≤ a + 48
  · by_cases h2 : a + 48 ≤ 96
    · refine p_Rf_bend_0_2 h ⟨h1, h2, 0, _, by decide, r_floor M _ _ h96, fun v M' hv => ⟨?_, hv.2⟩⟩
      rw [hv.1]; unfold n_bend n_sl; rw [if_neg (n_nlt.mpr h1), if_neg (n_nlt.mpr h2)]
    · refine p_Rf_bend_0_1 h ⟨h1, h2, 0, _, by decide, r_floor M _ _ h96, fun v M' hv => ⟨?_, hv.2⟩⟩
      rw [hv.1]; unfold n_bend n_sl; rw [if_neg (n_nlt.mpr h1), if_pos (n_nle.mp h2)]
  · refine p_Rf_bend_0_0 h ⟨h1, 0, _, by decide, r_floor M _ _ h96, fun v M' hv => ⟨?_, hv.2⟩⟩
    rw [hv.1]; unfold n_bend n_sl; rw [if_pos (n_nle.mp h1)]
/-- the reference's own fields say the model c -/
def HR (c : Nat → Nat) (M : qM) : Prop := M.1 69 4 = nI (c 0) ∧ M.1 69 5 = nI (c 1) ∧ M.1 69 6 = nI (c 2) ∧ M.1 69 7 = nI (c 3) ∧ M.1 69 8 = nI (c 4) ∧ M.1 69 9 = nI (c 5) ∧ M.1 69 10 = nI (c 6) ∧ M.1 69 11 = nI (c 7)
theorem HR.to {c : Nat → Nat} {M M' : qM} (h : HR c M) (e : M'.1 69 = M.1 69) : HR c M' := by unfold HR at *; rw [e]; exact h
theorem n_ne0 {x : Int32} (h : 0 < x) : ¬ x = 0 := fun e => by rw [e, n_lt, n_0] at h; omega
set_option maxHeartbeats 1000000 in
theorem r_norm {M : qM} {c : Nat → Nat} {p g : Nat} (hc : cOk c) (hM : HR c M) (hp : p < 12) (hg : g + c 2 ≤ 1500) (hx : ∀ i, i < c 2 → bd 764 (M.1 77 (8 * p + i))) :
    q_CV TS CL SHP 1 y_Rf_norm [.ref 69, .int (nI p), .int (nI g)] M (fun M' => (∀ i, i < c 2 → M'.1 81 i = s_norm (c 2) (fun i => M.1 77 (8 * p + i)) (fun i => M.1 71 (g + i)) i) ∧ fr (fun x => x = 81) M M') := by
  have hw : c 2 = 4 ∨ c 2 = 8 := hc.2.2.1
  have ew : M.1 69 6 = nI (c 2) := hM.2.2.1
  have hwp : ¬ nI (c 2) = 0 := nI_ne0 (by omega) (by omega)
  obtain ⟨v, hv, ev⟩ := s_var_b (x := fun i => M.1 77 (8 * p + i)) hw hx
  have eI : ∀ k, (8 : Int32) * nI p + nI k = nI (8 * p + k) := fun k => by rw [show (8 : Int32) = nI 8 from rfl, nI_mul, nI_add]
  refine q_CV.of f_Rf_norm [.ref 69, .int (nI p), .int (nI g), .null, .null, .null, .null, .null, .null, .null, .null] rfl rfl rfl (fun S h => ?_)
  have loop3 : ∀ l3 l5 l6 m k M1, k + m = c 2 → (∀ r, r < k → M1.1 81 r = s_norm (c 2) (fun i => M.1 77 (8 * p + i)) (fun i => M.1 71 (g + i)) r) → fr (fun x => x = 81) M M1 → S 114 [.ref 69, .int (nI p), .int (nI g), .int l3, .int (s_mean (c 2) (fun i => M.1 77 (8 * p + i))), .int l5, .int l6, .int (n_rt (s_var (c 2) (fun i => M.1 77 (8 * p + i)))), .int (nI k), .null, .null] [] M1 := by
    intro l3 l5 l6 m
    induction m with
    | zero =>
      intro k M1 hk hv hf
      have e5 : M1.1 69 6 = nI (c 2) := by rw [hf.1 69 (by omega)]; exact ew
      exact p_Rf_norm_114_1 h ⟨by rw [e5]; exact nI_le (by omega) (by omega), fun i hi => hv i (by omega), hf⟩
    | succ m ih =>
      intro k M1 hk hv' hf
      have e5 : M1.1 69 6 = nI (c 2) := by rw [hf.1 69 (by omega)]; exact ew
      refine p_Rf_norm_114_0 h ⟨by rw [e5]; exact nI_ge (by omega) (by omega), by rw [eI]; exact ok_of (N := 96) rfl (by omega) (by decide), 0, _, by decide, r_floor M1 _ _ (by rw [ev]; exact n_ne0 (n_rt_pos hv)), fun v1 M2 h1 => ⟨0, _, by decide, r_clamp M2 _, fun v2 M3 h2 => ⟨by rw [nI_add]; exact ok_of (N := 1500) rfl (by omega) (by decide), 0, _, by decide, r_floor M3 _ 64 (by decide), fun v3 M4 h3 => ⟨0, _, by decide, r_clamp M4 _, fun v4 M5 h4 => ⟨ok_of (N := 16) rfl (by omega) (by decide), ?_⟩⟩⟩⟩⟩
      rw [h4.1, h4.2, h3.1, h3.2, h2.1, h2.2, h1.1, h1.2, nI_1, nI_add, eI, nI_clamp (by omega), nI_clamp (by omega), nI_clamp (by omega)]
      refine ih (k + 1) _ (by omega) (fun r hr => ?_) (hf.up rfl)
      by_cases hrk : r = k
      · subst hrk; rw [q_up_at, hf.1 71 (by omega), hf.1 77 (by omega)]; rfl
      · rw [q_up_oth hrk]; exact hv' r (by omega)
  have loop2 : ∀ l3 m k, k + m = c 2 → S 51 [.ref 69, .int (nI p), .int (nI g), .int l3, .int (s_mean (c 2) (fun i => M.1 77 (8 * p + i))), .int (n_sm (fun i => (M.1 77 (8 * p + i) - s_mean (c 2) (fun i => M.1 77 (8 * p + i))) * (M.1 77 (8 * p + i) - s_mean (c 2) (fun i => M.1 77 (8 * p + i)))) k), .int (nI k), .null, .null, .null, .null] [] M := by
    intro l3 m
    induction m with
    | zero =>
      intro k hk
      have : k = c 2 := by omega
      subst this
      refine p_Rf_norm_51_1 h ⟨by rw [ew]; exact nI_le (Nat.le_refl _) (by omega), 0, _, by decide, r_floor M _ _ (by rw [ew]; exact hwp), fun v1 M1 h1 => ?_⟩
      have e1 : v1 = nI v := by rw [h1.1, ew]; exact ev
      refine ⟨0, _, by decide, by rw [e1]; exact r_rootOf M1 hv, fun v2 M2 h2 => ?_⟩
      rw [h2.1, h2.2, h1.2, ← ev]
      exact loop3 _ _ _ (c 2) 0 M (by omega) (fun r hr => absurd hr (by omega)) (fr.rf M)
    | succ m ih =>
      intro k hk
      refine p_Rf_norm_51_0 h ⟨by rw [ew]; exact nI_ge (by omega) (by omega), by rw [eI]; exact ok_of (N := 96) rfl (by omega) (by decide), ?_⟩
      rw [nI_1, eI, nI_clamp (by omega)]
      exact ih (k + 1) (by omega)
  have loop1 : ∀ m k, k + m = c 2 → S 5 [.ref 69, .int (nI p), .int (nI g), .int (n_sm (fun i => M.1 77 (8 * p + i)) k), .int (nI k), .null, .null, .null, .null, .null, .null] [] M := by
    intro m
    induction m with
    | zero =>
      intro k hk
      have : k = c 2 := by omega
      subst this
      refine p_Rf_norm_5_1 h ⟨by rw [ew]; exact nI_le (Nat.le_refl _) (by omega), 0, _, by decide, r_floor M _ _ (by rw [ew]; exact hwp), fun v1 M1 h1 => ?_⟩
      rw [h1.1, h1.2, ew]
      exact loop2 _ (c 2) 0 (by omega)
    | succ m ih =>
      intro k hk
      refine p_Rf_norm_5_0 h ⟨by rw [ew]; exact nI_ge (by omega) (by omega), by rw [eI]; exact ok_of (N := 96) rfl (by omega) (by decide), ?_⟩
      rw [nI_1, eI, nI_clamp (by omega)]
      exact ih (k + 1) (by omega)
  exact p_Rf_norm_0_0 h (loop1 (c 2) 0 (by omega))
theorem r_times {M : qM} {c : Nat → Nat} {pos r n a N : Nat} (hc : cOk c) (hM : HR c M) (hp : pos + r * n + n ≤ 1500) (ha : SHP[a]? = some (.inr (0, N))) (hn : n ≤ N) (hN : N ≤ 2000) :
    q_CI TS CL SHP 1 y_Rf_times [.ref 69, .int (nI pos), .int (nI r), .int (nI n), .ref a] M (fun v M' => v = s_times (M.1 71) pos n (c 7) (M.1 a) r ∧ M' = M) := by
  have h7 : 1 ≤ c 7 ∧ c 7 ≤ 10 := by obtain ⟨-, -, -, -, -, -, -, -, -, h1, h2, -⟩ := hc; exact ⟨h1, h2⟩
  have hs : M.1 69 11 = nI (c 7) := hM.2.2.2.2.2.2.2
  have eI : ∀ k, nI pos + nI r * nI n + nI k = nI (pos + r * n + k) := fun k => by rw [nI_mul, nI_add, nI_add]
  refine q_CI.of f_Rf_times [.ref 69, .int (nI pos), .int (nI r), .int (nI n), .ref a, .null, .null] rfl rfl (fun v M' _ => ⟨.int, rfl, rfl⟩) (fun S h => ?_)
  have loop : ∀ m k, k + m = n → S 6 [.ref 69, .int (nI pos), .int (nI r), .int (nI n), .ref a, .int (n_sm (fun i => M.1 71 (pos + r * n + i) * M.1 a i) k), .int (nI k)] [] M := by
    intro m
    induction m with
    | zero =>
      intro k hk
      have : k = n := by omega
      subst this
      obtain ⟨j, hj⟩ : ∃ j, c 7 = j + 1 := ⟨c 7 - 1, by omega⟩
      refine p_Rf_times_6_1 h ⟨nI_le (Nat.le_refl _) (by omega), 0, _, by decide, r_floor M _ _ (by rw [hs]; exact n_shl_ne _ (by omega)), fun v1 M1 h1 => ⟨0, _, by decide, r_clamp M1 _, fun v2 M2 h2 => ⟨?_, h2.2.trans h1.2⟩⟩⟩
      rw [h2.1, h1.1, hs]
      unfold s_times s_dot
      rw [hj, nI_pred]
      rfl
    | succ m ih =>
      intro k hk
      refine p_Rf_times_6_0 h ⟨nI_ge (by omega) (by omega), by rw [eI]; exact ok_of (N := 1500) rfl (by omega) (by decide), ok_of ha (by omega) (by omega), ?_⟩
      rw [nI_1, eI, nI_clamp (by omega), nI_clamp (by omega)]
      exact ih (k + 1) (by omega)
  exact p_Rf_times_0_0 h (loop n 0 (by omega))
theorem r_meaningAt {M : qM} {c : Nat → Nat} {t : Nat} (hM : HR c M) : q_CI TS CL SHP 0 y_Rf_meaningAt [.ref 69, .int (nI t)] M (fun v M' => v = nI (cMean c + t * c 2) ∧ M' = M) := by
  refine q_CI.of f_Rf_meaningAt [.ref 69, .int (nI t)] rfl rfl (fun v M' _ => ⟨.int, rfl, rfl⟩) (fun S h => ?_)
  refine p_Rf_meaningAt_0_0 h ⟨?_, rfl⟩
  rw [hM.2.2.1, hM.2.2.2.2.2.1, show (9 : Int32) = nI 9 from rfl, show (2 : Int32) = nI 2 from rfl, nI_mul, nI_mul, nI_add, nI_add]
  rfl
theorem r_placeAt {M : qM} {c : Nat → Nat} {p : Nat} (hM : HR c M) : q_CI TS CL SHP 1 y_Rf_placeAt [.ref 69, .int (nI p)] M (fun v M' => v = nI (cPlace c + p * c 2) ∧ M' = M) := by
  refine q_CI.of f_Rf_placeAt [.ref 69, .int (nI p)] rfl rfl (fun v M' _ => ⟨.int, rfl, rfl⟩) (fun S h => ?_)
  have hm := r_meaningAt (t := 8 + c 5) hM
  rw [← nI_add, ← hM.2.2.2.2.2.1] at hm
  refine p_Rf_placeAt_0_0 h ⟨0, _, by decide, hm, fun v M' hv => ⟨?_, hv.2⟩⟩
  rw [hv.1, hv.2, hM.2.2.1, nI_mul, nI_add]
  rfl
theorem r_layerAt {M : qM} {c : Nat → Nat} {l : Nat} (hM : HR c M) : q_CI TS CL SHP 2 y_Rf_layerAt [.ref 69, .int (nI l)] M (fun v M' => v = nI (cPos c l) ∧ M' = M) := by
  refine q_CI.of f_Rf_layerAt [.ref 69, .int (nI l)] rfl rfl (fun v M' _ => ⟨.int, rfl, rfl⟩) (fun S h => ?_)
  have hm := r_placeAt (p := c 4) hM
  rw [← hM.2.2.2.2.1] at hm
  refine p_Rf_layerAt_0_0 h ⟨1, _, by decide, hm, fun v M' hv => ⟨?_, hv.2⟩⟩
  rw [hv.1, hv.2, hM.2.2.1, hM.2.2.2.1, show (4 : Int32) = nI 4 from rfl, show (2 : Int32) = nI 2 from rfl]
  simp only [nI_mul, nI_add]
  congr 1
  unfold cPos cFirst cLb
  have e1 : 4 * c 2 * c 2 = 4 * (c 2 * c 2) := Nat.mul_assoc _ _ _
  have e2 : 2 * c 3 * c 2 = 2 * (c 2 * c 3) := by rw [Nat.mul_assoc, Nat.mul_comm (c 3)]
  rw [e1, e2]
