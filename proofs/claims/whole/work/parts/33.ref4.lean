/-! THE REFERENCE: a layer -/
theorem n_m1 (x : Int32) : x + (-1) = x - 1 := by rw [Int32.sub_eq_add_neg]
theorem i8 (p i : Nat) : (8 : Int32) * nI p + nI i = nI (8 * p + i) := by rw [show (8 : Int32) = nI 8 from rfl, nI_mul, nI_add]
set_option maxHeartbeats 4000000 in
theorem r_layer {M : qM} {c : Nat → Nat} {l n : Nat} (hc : cOk c) (hM : HR c M) (hl : l < c 0) (ht : M.1 69 19 = nI n) (hn : n ≤ 12) (hx : ∀ p, p < n → ∀ i, i < c 2 → bd (256 + 254 * l) (M.1 77 (8 * p + i))) :
    q_CV TS CL SHP 4 y_Rf_layer [.ref 69, .int (nI l)] M (fun M' => (∀ p, p < n → ∀ i, i < c 2 → M'.1 77 (8 * p + i) = s_mlp (M.1 71) (cPos c l) (c 2) (c 3) (c 7) (s_att (M.1 71) (cPos c l) (c 2) (c 7) (c 2 / c 1) p (fun i => M.1 77 (8 * p + i)) (fun j => s_key (M.1 71) (cPos c l) (c 2) (c 7) (fun i => M.1 77 (8 * j + i))) (fun j => s_val (M.1 71) (cPos c l) (c 2) (c 7) (fun i => M.1 77 (8 * j + i)))) i) ∧
      (∀ p, p < n → ∀ i, i < c 2 → M'.1 78 (96 * l + 8 * p + i) = s_key (M.1 71) (cPos c l) (c 2) (c 7) (fun i => M.1 77 (8 * p + i)) i ∧ M'.1 79 (96 * l + 8 * p + i) = s_val (M.1 71) (cPos c l) (c 2) (c 7) (fun i => M.1 77 (8 * p + i)) i) ∧ (∀ k, ¬ (96 * l ≤ k ∧ k < 96 * l + 96) → M'.1 78 k = M.1 78 k ∧ M'.1 79 k = M.1 79 k) ∧ fr (fun x => (77 ≤ x ∧ x ≤ 79) ∨ (81 ≤ x ∧ x ≤ 86)) M M') := by
  obtain ⟨hpk, hlb, hl2⟩ := pos_ok hc hl
  obtain ⟨hw0, hwm, hw8, hh4, hw2, hw4⟩ := hw_ok hc
  have h3a : 4 ≤ c 3 := hc.2.2.2.1
  have h3b : c 3 ≤ 16 := hc.2.2.2.2.1
  have hh1 : 1 ≤ c 1 := by have := hc.2.1; omega
  have ecm : c 3 * c 2 = c 2 * c 3 := Nat.mul_comm _ _
  refine q_CV.of f_Rf_layer [.ref 69, .int (nI l), .null, .null, .null, .null, .null, .null, .null] rfl rfl rfl (fun S h => ?_)
  refine p_Rf_layer_0_0 h ⟨3, _, by decide, r_keep hc hM hl ht hn (fun p hp i hi => bd_mono (hx p hp i hi) (by omega)), fun Mk hk => ?_⟩
  obtain ⟨kv, ku, kf⟩ := hk
  have hMk : HR c Mk := hM.to (kf.1 69 (by omega))
  refine ⟨2, _, by decide, r_layerAt hMk, fun v1 M1 h1 => ?_⟩
  obtain ⟨rfl, e⟩ := h1; obtain rfl := e.symm
  have x0 : Mk.1 77 = M.1 77 := kf.1 77 (by omega)
  have b0 : Mk.1 71 = M.1 71 := kf.1 71 (by omega)
  have edv : nI (c 2) / nI (c 1) = nI (c 2 / c 1) := by
    have hh := hc.2.1
    have ww := hc.2.2.1
    rcases hh with e | e | e <;> rcases ww with f | f <;> rw [e, f] <;> decide
  refine ⟨by rw [hMk.2.1]; exact nI_ne0 (by omega) (by omega), ?_⟩
  rw [hMk.2.2.1, hMk.2.1, nI_mul, edv, kf.1 69 (by omega), ht]
  generalize hhw : c 2 / c 1 = hw at *
  have hdiv : ∀ i, i < c 2 → i / hw * hw + hw ≤ c 2 := fun i hi => by have := hw_div hc hi; rw [hhw] at this; exact this
  -- the keys and values that the heads see
  have bK : ∀ j, j < n → ∀ i, i < c 2 → bd 127 (rK Mk 78 l j i) := fun j hj i hi => by unfold rK; rw [(kv j hj i hi).1]; exact s_times_b _ _ _ _ _ _
  generalize hY : (fun p => s_mlp (M.1 71) (cPos c l) (c 2) (c 3) (c 7) (s_att (M.1 71) (cPos c l) (c 2) (c 7) hw p (fun i => M.1 77 (8 * p + i)) (rK Mk 78 l) (rK Mk 79 l))) = Y
  have outer : ∀ q M1, q ≤ n → (∀ p, p < q → ∀ i, i < c 2 → M1.1 77 (8 * p + i) = M.1 77 (8 * p + i)) → (∀ p, q ≤ p → p < n → ∀ i, i < c 2 → M1.1 77 (8 * p + i) = Y p i) → fr (fun x => x = 77 ∨ (81 ≤ x ∧ x ≤ 86)) Mk M1 → S 40 [.ref 69, .int (nI l), .int (nI (cPos c l)), .int (nI (c 2 * c 2)), .int (nI hw), .int (nI q - 1), .null, .null, .null] [] M1 := by
    intro q
    induction q with
    | zero =>
      intro M1 hq hlo hhi hf
      refine p_Rf_layer_40_1 h ⟨by decide, fun p hp i hi => ?_, fun p hp i hi => by rw [hf.1 78 (by omega), hf.1 79 (by omega)]; exact kv p hp i hi, fun k hk => by rw [hf.1 78 (by omega), hf.1 79 (by omega)]; exact ku k hk, (kf.mono (fun a ha => by omega)).trans (hf.mono (fun a ha => by omega))⟩
      rw [hhi p (by omega) hp i hi, ← hY]
      exact s_mlp_ext (fun i hi => s_att_ext hdiv (fun _ _ => rfl) (fun j hj i hi => (kv j (by omega) i hi).1) (fun j hj i hi => (kv j (by omega) i hi).2) hi) hi
    | succ p ih =>
      intro M1 hq hlo hhi hf
      rw [nI_pred]
      have hM1 : HR c M1 := hMk.to (hf.1 69 (by omega))
      have xp : ∀ i, i < c 2 → M1.1 77 (8 * p + i) = M.1 77 (8 * p + i) := fun i hi => hlo p (by omega) i hi
      have bx : ∀ i, i < c 2 → bd (256 + 254 * l) (M.1 77 (8 * p + i)) := fun i hi => hx p (by omega) i hi
      have F1 : ∀ x, ¬ (x = 77 ∨ x = 78 ∨ x = 79 ∨ (81 ≤ x ∧ x ≤ 86)) → M1.1 x = M.1 x := fun x hx => by rw [hf.1 x (by omega), kf.1 x (by omega)]
      refine p_Rf_layer_40_0 h ⟨nI_pos (by omega), 1, _, by decide, r_norm (g := cPos c l) hc hM1 (by omega) (by omega) (fun i hi => by rw [xp i hi]; exact bd_mono (bx i hi) (by omega)), fun M2 h2 => ?_⟩
      obtain ⟨n2, f2⟩ := h2
      have n2' : ∀ i, i < c 2 → M2.1 81 i = s_norm (c 2) (fun i => M.1 77 (8 * p + i)) (fun i => M.1 71 (cPos c l + i)) i := fun i hi => by
        rw [n2 i hi, F1 71 (by omega)]; exact s_norm_ext xp (fun _ _ => rfl) hi
      -- made rows down
      have loop6 : ∀ m k M7, k + m = c 2 → (∀ r, r < c 3 → M7.1 84 r = s_bent (M.1 71) (cPos c l) (c 2) (c 7) (s_att (M.1 71) (cPos c l) (c 2) (c 7) hw p (fun i => M.1 77 (8 * p + i)) (rK Mk 78 l) (rK Mk 79 l)) r) → (∀ i, i < k → M7.1 77 (8 * p + i) = Y p i) → (∀ i, k ≤ i → i < c 2 → M7.1 77 (8 * p + i) = s_att (M.1 71) (cPos c l) (c 2) (c 7) hw p (fun i => M.1 77 (8 * p + i)) (rK Mk 78 l) (rK Mk 79 l) i) → (∀ q, ¬ (8 * p ≤ q ∧ q < 8 * p + 8) → M7.1 77 q = M1.1 77 q) → fr (fun x => x = 77 ∨ (81 ≤ x ∧ x ≤ 86)) M1 M7 → S 285 [.ref 69, .int (nI l), .int (nI (cPos c l)), .int (nI (c 2 * c 2)), .int (nI hw), .int (nI p), .int (nI (cPos c l + 2 * c 2 + 4 * (c 2 * c 2))), .int (nI k), .null] [] M7 := by
        intro m
        induction m with
        | zero =>
          intro k M7 hk h84 hv hu ho hf7
          have hM7 : HR c M7 := hM1.to (hf7.1 69 (by omega))
          refine p_Rf_layer_285_1 h ⟨by rw [hM7.2.2.1]; exact nI_le (by omega) (by omega), ?_⟩
          rw [n_m1]
          refine ih M7 (by omega) (fun q hq i hi => by rw [ho _ (by omega)]; exact hlo q (by omega) i hi) (fun q hq1 hq2 i hi => ?_) (hf.trans hf7)
          by_cases hqp : q = p
          · subst hqp; exact hv i (by omega)
          · rw [ho _ (by omega)]; exact hhi q (by omega) hq2 i hi
        | succ m ih6 =>
          intro k M7 hk h84 hv hu ho hf7
          have hM7 : HR c M7 := hM1.to (hf7.1 69 (by omega))
          have kk : k * c 3 + c 3 ≤ c 2 * c 3 := by
            have := Nat.mul_le_mul_right (c 3) (show k + 1 ≤ c 2 by omega); rw [Nat.add_mul, Nat.one_mul] at this; exact this
          have t := r_times (M := M7) (pos := cPos c l + 2 * c 2 + 4 * (c 2 * c 2) + c 3 * c 2) (r := k) (n := c 3) (a := 84) (N := 16) hc hM7 (by omega) rfl (by omega) (by omega)
          rw [← nI_add (cPos c l + 2 * c 2 + 4 * (c 2 * c 2)), ← nI_mul (c 3) (c 2), ← hM7.2.2.2.1, ← hM7.2.2.1] at t
          refine p_Rf_layer_285_0 h ⟨by rw [hM7.2.2.1]; exact nI_ge (by omega) (by omega), by rw [i8]; exact ok_of (N := 96) rfl (by omega) (by decide), 1, _, by decide, t, fun v M8 h8 => ⟨by rw [i8]; exact ok_of (N := 96) rfl (by omega) (by decide), ?_⟩⟩
          rw [h8.1, h8.2, nI_1, i8, nI_clamp (by omega), hu k (Nat.le_refl _) (by omega), hf7.1 71 (by omega), F1 71 (by omega), s_times_ext h84]
          refine ih6 (k + 1) _ (by omega) (fun r hr => by rw [q_up_ne 84 (by decide)]; exact h84 r hr) (fun i hi => ?_) (fun i h1 h2 => by rw [q_up_oth (by omega)]; exact hu i (by omega) h2) (fun q hq => by rw [q_up_oth (by omega)]; exact ho q hq) (hf7.up (Or.inl rfl))
          by_cases hik : i = k
          · subst hik; rw [q_up_at, ← hY]; rfl
          · rw [q_up_oth (by omega)]; exact hv i (by omega)
      have loop5 : ∀ m k M6, k + m = c 3 → (∀ i, i < c 2 → M6.1 81 i = s_norm (c 2) (s_att (M.1 71) (cPos c l) (c 2) (c 7) hw p (fun i => M.1 77 (8 * p + i)) (rK Mk 78 l) (rK Mk 79 l)) (fun i => M.1 71 (cPos c l + c 2 + 4 * (c 2 * c 2) + i)) i) → (∀ r, r < k → M6.1 84 r = s_bent (M.1 71) (cPos c l) (c 2) (c 7) (s_att (M.1 71) (cPos c l) (c 2) (c 7) hw p (fun i => M.1 77 (8 * p + i)) (rK Mk 78 l) (rK Mk 79 l)) r) → (∀ i, i < c 2 → M6.1 77 (8 * p + i) = s_att (M.1 71) (cPos c l) (c 2) (c 7) hw p (fun i => M.1 77 (8 * p + i)) (rK Mk 78 l) (rK Mk 79 l) i) → (∀ q, ¬ (8 * p ≤ q ∧ q < 8 * p + 8) → M6.1 77 q = M1.1 77 q) → fr (fun x => x = 77 ∨ (81 ≤ x ∧ x ≤ 86)) M1 M6 → S 237 [.ref 69, .int (nI l), .int (nI (cPos c l)), .int (nI (c 2 * c 2)), .int (nI hw), .int (nI p), .int (nI (cPos c l + 2 * c 2 + 4 * (c 2 * c 2))), .int (nI k), .null] [] M6 := by
        intro m
        induction m with
        | zero =>
          intro k M6 hk h81 h84 hu ho hf6
          have hM6 : HR c M6 := hM1.to (hf6.1 69 (by omega))
          refine p_Rf_layer_237_1 h ⟨by rw [hM6.2.2.2.1]; exact nI_le (by omega) (by omega), ?_⟩
          exact loop6 (c 2) 0 M6 (by omega) (fun r hr => h84 r (by omega)) (fun i hi => absurd hi (by omega)) (fun i _ hi => hu i hi) ho hf6
        | succ m ih5 =>
          intro k M6 hk h81 h84 hu ho hf6
          have hM6 : HR c M6 := hM1.to (hf6.1 69 (by omega))
          have kk : k * c 2 + c 2 ≤ c 3 * c 2 := by
            have := Nat.mul_le_mul_right (c 2) (show k + 1 ≤ c 3 by omega); rw [Nat.add_mul, Nat.one_mul] at this; exact this
          have t := r_times (M := M6) (pos := cPos c l + 2 * c 2 + 4 * (c 2 * c 2)) (r := k) (n := c 2) (a := 81) (N := 16) hc hM6 (by omega) rfl (by omega) (by omega)
          rw [← hM6.2.2.1] at t
          refine p_Rf_layer_237_0 h ⟨by rw [hM6.2.2.2.1]; exact nI_ge (by omega) (by omega), 1, _, by decide, t, fun v M7 h7 => ⟨1, _, by decide, r_bend M7 _, fun v8 M8 h8 => ⟨ok_of (N := 16) rfl (by omega) (by decide), ?_⟩⟩⟩
          rw [h8.1, h8.2, h7.1, h7.2, nI_1, nI_clamp (by omega), hf6.1 71 (by omega), F1 71 (by omega), s_times_ext h81]
          refine ih5 (k + 1) _ (by omega) (fun i hi => by rw [q_up_ne 81 (by decide)]; exact h81 i hi) (fun r hr => ?_) (fun i hi => by rw [q_up_ne 77 (by decide)]; exact hu i hi) (fun q hq => by rw [q_up_ne 77 (by decide)]; exact ho q hq) (hf6.up (Or.inr (by omega)))
          by_cases hrk : r = k
          · subst hrk; rw [q_up_at]; rfl
          · rw [q_up_oth hrk]; exact h84 r (by omega)
      have loop4 : ∀ m k M5, k + m = c 2 → (∀ i, i < c 2 → M5.1 83 i = s_mix hw p (s_ask (M.1 71) (cPos c l) (c 2) (c 7) (fun i => M.1 77 (8 * p + i))) (rK Mk 78 l) (rK Mk 79 l) i) → (∀ i, i < k → M5.1 77 (8 * p + i) = s_att (M.1 71) (cPos c l) (c 2) (c 7) hw p (fun i => M.1 77 (8 * p + i)) (rK Mk 78 l) (rK Mk 79 l) i) → (∀ i, k ≤ i → i < c 2 → M5.1 77 (8 * p + i) = M.1 77 (8 * p + i)) → (∀ q, ¬ (8 * p ≤ q ∧ q < 8 * p + 8) → M5.1 77 q = M1.1 77 q) → fr (fun x => x = 77 ∨ (81 ≤ x ∧ x ≤ 86)) M1 M5 → S 138 [.ref 69, .int (nI l), .int (nI (cPos c l)), .int (nI (c 2 * c 2)), .int (nI hw), .int (nI p), .int (nI k), .null, .null] [] M5 := by
        intro m
        induction m with
        | zero =>
          intro k M5 hk h83 hv hu ho hf5
          have hM5 : HR c M5 := hM1.to (hf5.1 69 (by omega))
          have hv' : ∀ i, i < c 2 → M5.1 77 (8 * p + i) = s_att (M.1 71) (cPos c l) (c 2) (c 7) hw p (fun i => M.1 77 (8 * p + i)) (rK Mk 78 l) (rK Mk 79 l) i := fun i hi => hv i (by omega)
          have nn := r_norm (M := M5) (c := c) (p := p) (g := cPos c l + c 2 + 4 * (c 2 * c 2)) hc hM5 (by omega) (by omega) (fun i hi => by rw [hv' i hi]; exact bd_mono (s_att_b (B := 256 + 254 * l) (by omega) (bx i hi)) (by omega))
          rw [← nI_add (cPos c l + c 2), ← nI_add (cPos c l), ← nI_mul 4, ← hM5.2.2.1] at nn
          refine p_Rf_layer_138_1 h ⟨by rw [hM5.2.2.1]; exact nI_le (by omega) (by omega), 1, _, by decide, nn, fun M6 h6 => ?_⟩
          obtain ⟨n6, f6⟩ := h6
          have hM6 : HR c M6 := hM5.to (f6.1 69 (by omega))
          rw [hM6.2.2.1, show (2 : Int32) = nI 2 from rfl, show (4 : Int32) = nI 4 from rfl, nI_mul, nI_mul, nI_add, nI_add]
          refine loop5 (c 3) 0 M6 (by omega) (fun i hi => ?_) (fun r hr => absurd hr (by omega)) (fun i hi => by rw [f6.1 77 (by omega)]; exact hv' i hi) (fun q hq => by rw [f6.1 77 (by omega)]; exact ho q hq) (hf5.trans (f6.mono (fun a ha => by omega)))
          rw [n6 i hi, hf5.1 71 (by omega), F1 71 (by omega)]
          exact s_norm_ext hv' (fun _ _ => rfl) hi
        | succ m ih4 =>
          intro k M5 hk h83 hv hu ho hf5
          have hM5 : HR c M5 := hM1.to (hf5.1 69 (by omega))
          have kk : k * c 2 + c 2 ≤ c 2 * c 2 := by
            have := Nat.mul_le_mul_right (c 2) (show k + 1 ≤ c 2 by omega); rw [Nat.add_mul, Nat.one_mul] at this; exact this
          have t := r_times (M := M5) (pos := cPos c l + c 2 + 3 * (c 2 * c 2)) (r := k) (n := c 2) (a := 83) (N := 16) hc hM5 (by omega) rfl (by omega) (by omega)
          rw [← nI_add (cPos c l + c 2), ← nI_add (cPos c l), ← nI_mul 3, ← hM5.2.2.1] at t
          refine p_Rf_layer_138_0 h ⟨by rw [hM5.2.2.1]; exact nI_ge (by omega) (by omega), by rw [i8]; exact ok_of (N := 96) rfl (by omega) (by decide), 1, _, by decide, t, fun v M6 h6 => ⟨by rw [i8]; exact ok_of (N := 96) rfl (by omega) (by decide), ?_⟩⟩
          rw [h6.1, h6.2, nI_1, i8, nI_clamp (by omega), hu k (Nat.le_refl _) (by omega), hf5.1 71 (by omega), F1 71 (by omega), s_times_ext h83]
          refine ih4 (k + 1) _ (by omega) (fun i hi => by rw [q_up_ne 83 (by decide)]; exact h83 i hi) (fun i hi => ?_) (fun i h1 h2 => by rw [q_up_oth (by omega)]; exact hu i (by omega) h2) (fun q hq => by rw [q_up_oth (by omega)]; exact ho q hq) (hf5.up (Or.inl rfl))
          by_cases hik : i = k
          · subst hik; rw [q_up_at]; rfl
          · rw [q_up_oth (by omega)]; exact hv i (by omega)
      have loop3 : ∀ m k M4, k + m = c 1 → (∀ i, i < c 2 → M4.1 82 i = s_ask (M.1 71) (cPos c l) (c 2) (c 7) (fun i => M.1 77 (8 * p + i)) i) → (∀ i, i < k * hw → M4.1 83 i = s_mix hw p (s_ask (M.1 71) (cPos c l) (c 2) (c 7) (fun i => M.1 77 (8 * p + i))) (rK Mk 78 l) (rK Mk 79 l) i) → M4.1 77 = M1.1 77 → fr (fun x => x = 77 ∨ (81 ≤ x ∧ x ≤ 86)) M1 M4 → S 100 [.ref 69, .int (nI l), .int (nI (cPos c l)), .int (nI (c 2 * c 2)), .int (nI hw), .int (nI p), .int (nI k), .null, .null] [] M4 := by
        intro m
        induction m with
        | zero =>
          intro k M4 hk h82 h83 h77 hf4
          have hM4 : HR c M4 := hM1.to (hf4.1 69 (by omega))
          have : k = c 1 := by omega
          subst this
          rw [hwm] at h83
          refine p_Rf_layer_100_1 h ⟨by rw [hM4.2.1]; exact nI_le (Nat.le_refl _) (by omega), ?_⟩
          exact loop4 (c 2) 0 M4 (by omega) h83 (fun i hi => absurd hi (by omega)) (fun i _ hi => by rw [h77]; exact xp i hi) (fun q _ => by rw [h77]) hf4
        | succ m ih3 =>
          intro k M4 hk h82 h83 h77 hf4
          have hM4 : HR c M4 := hM1.to (hf4.1 69 (by omega))
          have hkh : k * hw + hw ≤ c 2 := by
            have := Nat.mul_le_mul_right hw (show k + 1 ≤ c 1 by omega)
            rw [Nat.add_mul, Nat.one_mul, hwm] at this; exact this
          have e78 : rK M4 78 l = rK Mk 78 l := by funext j i; unfold rK; rw [hf4.1 78 (by omega), hf.1 78 (by omega)]
          have e79 : rK M4 79 l = rK Mk 79 l := by funext j i; unfold rK; rw [hf4.1 79 (by omega), hf.1 79 (by omega)]
          have at1 := r_attend (M := M4) (l := l) (p := p) (a := k * hw) (hw := hw) hl2 (by omega) (by omega) (fun i hi => by rw [h82 i (by omega)]; exact s_times_b _ _ _ _ _ _) (fun j hj i hi => by rw [e78]; exact bK j (by omega) i (by omega))
          rw [← nI_add (k * hw), ← nI_mul k hw] at at1
          refine p_Rf_layer_100_0 h ⟨by rw [hM4.2.1]; exact nI_ge (by omega) (by omega), 2, _, by decide, at1, fun M5 h5 => ?_⟩
          obtain ⟨n5, u5, f5⟩ := h5
          rw [nI_1]
          refine ih3 (k + 1) M5 (by omega) (fun i hi => by rw [f5.1 82 (by omega)]; exact h82 i hi) (fun i hi => ?_) (by rw [f5.1 77 (by omega)]; exact h77) (hf4.trans (f5.mono (fun a ha => by omega)))
          rw [Nat.add_mul, Nat.one_mul] at hi
          by_cases hik : i < k * hw
          · rw [u5 i (by omega)]; exact h83 i hik
          · rw [n5 i (by omega) hi, e78, e79]
            unfold s_mix
            have hdv : i / hw * hw = k * hw := by
              have : i / hw = k := by rw [Nat.div_eq_iff hw0]; omega
              rw [this]
            rw [hdv, n_sm_congr (p + 1) (fun j hj => ?_)]
            rw [s_wt_ext (fun i hi => h82 i (by omega)) (fun _ _ _ _ => rfl) (by omega)]
      have loop2 : ∀ m k M3, k + m = c 2 → (∀ i, i < k → M3.1 82 i = s_ask (M.1 71) (cPos c l) (c 2) (c 7) (fun i => M.1 77 (8 * p + i)) i) → fr (fun x => x = 82) M2 M3 → S 55 [.ref 69, .int (nI l), .int (nI (cPos c l)), .int (nI (c 2 * c 2)), .int (nI hw), .int (nI p), .int (nI k), .null, .null] [] M3 := by
        intro m
        induction m with
        | zero =>
          intro k M3 hk h82 hf3
          have hM3 : HR c M3 := hM1.to ((hf3.1 69 (by omega)).trans (f2.1 69 (by omega)))
          refine p_Rf_layer_55_1 h ⟨by rw [hM3.2.2.1]; exact nI_le (by omega) (by omega), ?_⟩
          exact loop3 (c 1) 0 M3 (by omega) (fun i hi => h82 i (by omega)) (fun i hi => absurd hi (by omega)) (by rw [hf3.1 77 (by omega), f2.1 77 (by omega)]) ((f2.mono (fun a ha => by omega)).trans (hf3.mono (fun a ha => by omega)))
        | succ m ih2 =>
          intro k M3 hk h82 hf3
          have hM3 : HR c M3 := hM1.to ((hf3.1 69 (by omega)).trans (f2.1 69 (by omega)))
          have kk : k * c 2 + c 2 ≤ c 2 * c 2 := by
            have := Nat.mul_le_mul_right (c 2) (show k + 1 ≤ c 2 by omega); rw [Nat.add_mul, Nat.one_mul] at this; exact this
          have t := r_times (M := M3) (pos := cPos c l + c 2) (r := k) (n := c 2) (a := 81) (N := 16) hc hM3 (by omega) rfl (by omega) (by omega)
          rw [← nI_add (cPos c l), ← hM3.2.2.1] at t
          refine p_Rf_layer_55_0 h ⟨by rw [hM3.2.2.1]; exact nI_ge (by omega) (by omega), 1, _, by decide, t, fun v M4 h4 => ⟨ok_of (N := 16) rfl (by omega) (by decide), ?_⟩⟩
          rw [h4.1, h4.2, nI_1, nI_clamp (by omega), hf3.1 71 (by omega), f2.1 71 (by omega), F1 71 (by omega), hf3.1 81 (by omega), s_times_ext n2']
          refine ih2 (k + 1) _ (by omega) (fun i hi => ?_) (hf3.up rfl)
          by_cases hik : i = k
          · subst hik; rw [q_up_at]; rfl
          · rw [q_up_oth hik]; exact h82 i (by omega)
      exact loop2 (c 2) 0 M2 (by omega) (fun i hi => absurd hi (by omega)) (fr.rf M2)
  exact outer n Mk (Nat.le_refl _) (fun p _ i _ => by rw [x0]) (fun p h1 h2 => absurd h2 (by omega)) (fr.rf Mk)
