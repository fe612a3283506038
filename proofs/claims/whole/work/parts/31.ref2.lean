/-! THE REFERENCE: keys and values kept, one head -/
theorem i96 (l p i : Nat) : (96 : Int32) * nI l + 8 * nI p + nI i = nI (96 * l + 8 * p + i) := by rw [show (96 : Int32) = nI 96 from rfl, show (8 : Int32) = nI 8 from rfl, nI_mul, nI_mul, nI_add, nI_add]
set_option maxHeartbeats 2000000 in
theorem r_keep {M : qM} {c : Nat → Nat} {l n : Nat} (hc : cOk c) (hM : HR c M) (hl : l < c 0) (ht : M.1 69 19 = nI n) (hn : n ≤ 12) (hx : ∀ p, p < n → ∀ i, i < c 2 → bd 764 (M.1 77 (8 * p + i))) :
    q_CV TS CL SHP 3 y_Rf_keep [.ref 69, .int (nI l)] M (fun M' => (∀ p, p < n → ∀ i, i < c 2 → M'.1 78 (96 * l + 8 * p + i) = s_key (M.1 71) (cPos c l) (c 2) (c 7) (fun i => M.1 77 (8 * p + i)) i ∧ M'.1 79 (96 * l + 8 * p + i) = s_val (M.1 71) (cPos c l) (c 2) (c 7) (fun i => M.1 77 (8 * p + i)) i) ∧ (∀ k, ¬ (96 * l ≤ k ∧ k < 96 * l + 96) → M'.1 78 k = M.1 78 k ∧ M'.1 79 k = M.1 79 k) ∧ fr (fun x => x = 78 ∨ x = 79 ∨ x = 81) M M') := by
  obtain ⟨hpk, hlb, hl2⟩ := pos_ok hc hl
  obtain ⟨-, -, -, -, hw2, hw4⟩ := hw_ok hc
  refine q_CV.of f_Rf_keep [.ref 69, .int (nI l), .null, .null, .null, .null] rfl rfl rfl (fun S h => ?_)
  refine p_Rf_keep_0_0 h ⟨2, _, by decide, r_layerAt hM, fun v1 M1 h1 => ?_⟩
  obtain ⟨rfl, e⟩ := h1; obtain rfl := e.symm
  rw [hM.2.2.1, nI_mul]
  -- all that is kept between the loops
  have loop : ∀ m p M1, p + m = n → (∀ q, q < p → ∀ i, i < c 2 → M1.1 78 (96 * l + 8 * q + i) = s_key (M.1 71) (cPos c l) (c 2) (c 7) (fun i => M.1 77 (8 * q + i)) i ∧ M1.1 79 (96 * l + 8 * q + i) = s_val (M.1 71) (cPos c l) (c 2) (c 7) (fun i => M.1 77 (8 * q + i)) i) → (∀ k, ¬ (96 * l ≤ k ∧ k < 96 * l + 96) → M1.1 78 k = M.1 78 k ∧ M1.1 79 k = M.1 79 k) → fr (fun x => x = 78 ∨ x = 79 ∨ x = 81) M M1 → S 19 [.ref 69, .int (nI l), .int (nI (cPos c l)), .int (nI (c 2 * c 2)), .int (nI p), .null] [] M1 := by
    intro m
    induction m with
    | zero =>
      intro p M1 hk hv hu hf
      refine p_Rf_keep_19_1 h ⟨by rw [hf.1 69 (by omega), ht]; exact nI_le (by omega) (by omega), fun q hq => hv q (by omega), hu, hf⟩
    | succ m ih =>
      intro p M1 hk hv hu hf
      have hM1 : HR c M1 := hM.to (hf.1 69 (by omega))
      have x1 : M1.1 77 = M.1 77 := hf.1 77 (by omega)
      refine p_Rf_keep_19_0 h ⟨by rw [hf.1 69 (by omega), ht]; exact nI_ge (by omega) (by omega), 1, _, by decide, r_norm (g := cPos c l) hc hM1 (by omega) (by omega) (fun i hi => by rw [x1]; exact hx p (by omega) i hi), fun M2 h2 => ?_⟩
      obtain ⟨n2, f2⟩ := h2
      have hf2 : fr (fun x => x = 78 ∨ x = 79 ∨ x = 81) M M2 := hf.trans (f2.mono (fun a ha => by omega))
      have H2 : ∀ i, i < c 2 → M2.1 81 i = s_norm (c 2) (fun i => M.1 77 (8 * p + i)) (fun i => M.1 71 (cPos c l + i)) i := fun i hi => by rw [n2 i hi, x1, hf.1 71 (by omega)]
      have inner : ∀ m2 k M3, k + m2 = c 2 → (∀ q, q < p → ∀ i, i < c 2 → M3.1 78 (96 * l + 8 * q + i) = s_key (M.1 71) (cPos c l) (c 2) (c 7) (fun i => M.1 77 (8 * q + i)) i ∧ M3.1 79 (96 * l + 8 * q + i) = s_val (M.1 71) (cPos c l) (c 2) (c 7) (fun i => M.1 77 (8 * q + i)) i) → (∀ i, i < k → M3.1 78 (96 * l + 8 * p + i) = s_key (M.1 71) (cPos c l) (c 2) (c 7) (fun i => M.1 77 (8 * p + i)) i ∧ M3.1 79 (96 * l + 8 * p + i) = s_val (M.1 71) (cPos c l) (c 2) (c 7) (fun i => M.1 77 (8 * p + i)) i) → (∀ k, ¬ (96 * l ≤ k ∧ k < 96 * l + 96) → M3.1 78 k = M.1 78 k ∧ M3.1 79 k = M.1 79 k) → fr (fun x => x = 78 ∨ x = 79) M2 M3 → S 38 [.ref 69, .int (nI l), .int (nI (cPos c l)), .int (nI (c 2 * c 2)), .int (nI p), .int (nI k)] [] M3 := by
        intro m2
        induction m2 with
        | zero =>
          intro k M3 hk2 hv3 hw3 hu3 hf3
          have hM3 : HR c M3 := hM1.to ((hf3.1 69 (by omega)).trans (f2.1 69 (by omega)))
          refine p_Rf_keep_38_1 h ⟨by rw [hM3.2.2.1]; exact nI_le (by omega) (by omega), ?_⟩
          rw [nI_1]
          refine ih (p + 1) M3 (by omega) (fun q hq i hi => ?_) hu3 (hf2.trans (hf3.mono (fun a ha => by omega)))
          by_cases hqp : q = p
          · subst hqp; exact hw3 i (by omega)
          · exact hv3 q (by omega) i hi
        | succ m2 ih2 =>
          intro k M3 hk2 hv3 hw3 hu3 hf3
          have hM3 : HR c M3 := hM1.to ((hf3.1 69 (by omega)).trans (f2.1 69 (by omega)))
          have kk : k * c 2 + c 2 ≤ c 2 * c 2 := by
            have := Nat.mul_le_mul_right (c 2) (show k + 1 ≤ c 2 by omega); rw [Nat.add_mul, Nat.one_mul] at this; exact this
          have t1 := r_times (M := M3) (pos := cPos c l + c 2 + c 2 * c 2) (r := k) (n := c 2) (a := 81) (N := 16) hc hM3 (by omega) rfl (by omega) (by omega)
          rw [← nI_add, ← nI_add, ← hM3.2.2.1] at t1
          refine p_Rf_keep_38_0 h ⟨by rw [hM3.2.2.1]; exact nI_ge (by omega) (by omega), 1, _, by decide, t1, fun v4 M4 h4 => ?_⟩
          obtain ⟨rfl, e⟩ := h4; obtain rfl := e.symm
          rw [i96]
          refine ⟨ok_of (N := 192) rfl (by omega) (by decide), ?_⟩
          rw [nI_clamp (show 96 * l + 8 * p + k < 2 ^ 31 by omega)]
          generalize hM5 : q_up M3 78 (96 * l + 8 * p + k) (s_times (M3.1 71) (cPos c l + c 2 + c 2 * c 2) (c 2) (c 7) (M3.1 81) k) = M5
          have g5 : ∀ a, a ≠ 78 → M5.1 a = M3.1 a := fun a ha => by rw [← hM5]; exact q_up_ne a ha
          have hM5' : HR c M5 := hM3.to (g5 69 (by omega))
          have t2 := r_times (M := M5) (pos := cPos c l + c 2 + 2 * (c 2 * c 2)) (r := k) (n := c 2) (a := 81) (N := 16) hc hM5' (by omega) rfl (by omega) (by omega)
          rw [← nI_add, ← nI_add, ← nI_mul 2 (c 2 * c 2), ← hM5'.2.2.1] at t2
          refine ⟨1, _, by decide, t2, fun v6 M6 h6 => ?_⟩
          obtain ⟨rfl, e⟩ := h6; obtain rfl := e.symm
          refine ⟨ok_of (N := 192) rfl (by omega) (by decide), ?_⟩
          rw [nI_1]
          have b3 : M3.1 71 = M.1 71 := by rw [hf3.1 71 (by omega), f2.1 71 (by omega), hf.1 71 (by omega)]
          have b5 : M5.1 71 = M.1 71 := (g5 71 (by omega)).trans b3
          have y3 : M3.1 81 = M2.1 81 := hf3.1 81 (by omega)
          have y5 : M5.1 81 = M2.1 81 := (g5 81 (by omega)).trans y3
          have c78 : ∀ j, j ≠ 96 * l + 8 * p + k → (q_up M5 79 (96 * l + 8 * p + k) (s_times (M5.1 71) (cPos c l + c 2 + 2 * (c 2 * c 2)) (c 2) (c 7) (M5.1 81) k)).1 78 j = M3.1 78 j := fun j hj => by
            rw [q_up_ne 78 (by decide), ← hM5, q_up_oth hj]
          have c79 : ∀ j, j ≠ 96 * l + 8 * p + k → (q_up M5 79 (96 * l + 8 * p + k) (s_times (M5.1 71) (cPos c l + c 2 + 2 * (c 2 * c 2)) (c 2) (c 7) (M5.1 81) k)).1 79 j = M3.1 79 j := fun j hj => by
            rw [q_up_oth hj, g5 79 (by decide)]
          refine ih2 (k + 1) _ (by omega) (fun q hq i hi => ?_) (fun i hi => ?_) (fun j hj => ?_) ?_
          · rw [c78 _ (by omega), c79 _ (by omega)]; exact hv3 q hq i hi
          · by_cases hik : i = k
            · subst hik
              refine ⟨?_, ?_⟩
              · rw [q_up_ne 78 (by decide), ← hM5, q_up_at, b3, y3]
                exact s_times_ext (fun r hr => H2 r hr)
              · rw [q_up_at, b5, y5]
                exact s_times_ext (fun r hr => H2 r hr)
            · rw [c78 _ (by omega), c79 _ (by omega)]; exact hw3 i (by omega)
          · rw [c78 _ (by omega), c79 _ (by omega)]; exact hu3 j hj
          · exact ⟨fun a ha => by rw [q_up_ne a (by omega), g5 a (by omega)]; exact hf3.1 a ha, by rw [← hf3.2, ← hM5]; rfl⟩
      exact inner (c 2) 0 M2 (by omega) (fun q hq i hi => by rw [f2.1 78 (by omega), f2.1 79 (by omega)]; exact hv q hq i hi) (fun i hi => absurd hi (by omega)) (fun k hk => by rw [f2.1 78 (by omega), f2.1 79 (by omega)]; exact hu k hk) (fr.rf M2)
  exact loop n 0 M (by omega) (fun q hq => absurd hq (by omega)) (fun _ _ => ⟨rfl, rfl⟩) (fr.rf M)
