/-! CONTRACTS: the arithmetic on single numbers (Math.floorDiv, Whole) -/
theorem n_nlt {a b : Int32} : ¬ a < b ↔ b ≤ a := by rw [n_lt, n_le]; omega
theorem n_nle {a b : Int32} : ¬ a ≤ b ↔ b < a := by rw [n_lt, n_le]; omega
theorem c_floorDiv (M : qM) (a b : Int32) (hb : ¬ b = 0) : q_CI TS CL SHP 0 y_Ma_floorDiv [.int a, .int b] M (fun v M' => v = n_fd a b ∧ M' = M) := by
  refine q_CI.of f_Ma_floorDiv [.int a, .int b, .null] rfl rfl (fun v M' _ => ⟨.int, rfl, rfl⟩) (fun S h => ?_)
  by_cases h1 : 0 ≤ a ^^^ b
  · exact p_Ma_floorDiv_0_2 h ⟨hb, h1, by unfold n_fd; rw [if_neg (n_nlt.mpr h1)], rfl⟩
  · have h2 := n_nle.mp h1
    by_cases h3 : a / b * b = a
    · exact p_Ma_floorDiv_0_1 h ⟨hb, h1, h3, by unfold n_fd; rw [if_pos h2, if_pos h3], rfl⟩
    · exact p_Ma_floorDiv_0_0 h ⟨hb, h1, h3, by unfold n_fd; rw [if_pos h2, if_neg h3], rfl⟩
theorem c_floor (M : qM) (a b : Int32) (hb : 0 < b) : q_CI TS CL SHP 1 y_Wh_floor [.int a, .int b] M (fun v M' => v = n_fl a b ∧ M' = M) := by
  refine q_CI.of f_Wh_floor [.int a, .int b] rfl rfl (fun v M' _ => ⟨.int, rfl, rfl⟩) (fun S h => ?_)
  have hb' : 0 < b.toInt := by rw [n_lt, n_0] at hb; exact hb
  refine p_Wh_floor_0_1 h ⟨hb, 0, _, by decide, c_floorDiv M a b (fun z => by rw [z, n_0] at hb'; omega), fun v M' hv => ?_⟩
  exact ⟨by rw [hv.1, n_fd_fl hb'], hv.2⟩
theorem c_clamp (M : qM) (a : Int32) : q_CI TS CL SHP 0 y_Wh_clamp [.int a] M (fun v M' => v = n_cl a ∧ M' = M) := by
  refine q_CI.of f_Wh_clamp [.int a] rfl rfl (fun v M' _ => ⟨.int, rfl, rfl⟩) (fun S h => ?_)
  exact p_Wh_clamp_0_0 h ⟨n_cl_mm a, rfl⟩
theorem n_half : ∀ k, k < 15 → nI (2 ^ k) >>> ((1 : Int32) &&& 31) = nI (2 ^ k / 2) := by decide +kernel
theorem nI_mul (a b : Nat) : nI a * nI b = nI (a * b) := (Int32.ofNat_mul a b).symm
theorem root_loop {S : Nat → List Value → List Value → qM → Prop} {Rt : Option Int32 → qM → Prop} {d : Nat} {sc : Nat × (Nat → Int32)} (h : q_Mach TS CL TY SHP sc E_Wh t_Wh_root d S Rt) {M : qM} {n : Nat} (hn : n < 1073741824) (kx : Rt (some (nI (n_rtN n))) M) :
    ∀ (k r : Nat), k < 15 → r * r ≤ n → n < (r + 2 ^ (k + 1)) * (r + 2 ^ (k + 1)) → r + 2 ^ (k + 1) ≤ 32768 → S 6 [.int (nI n), .int (nI r), .int (nI (2 ^ k)), .null] [] M := by
  intro k
  induction k with
  | zero =>
    intro r hk h1 h2 h3
    have hl : ¬ nI (2 ^ 0) ≤ 0 := nI_nle (by decide) (by decide)
    have hc : nI r + nI (2 ^ 0) = nI (r + 1) := nI_add _ _
    have hz : nI (2 ^ 0) >>> ((1 : Int32) &&& 31) = nI 0 := n_half 0 (by decide)
    have hsq : (r + 1) * (r + 1) < 2 ^ 31 := by
      have := Nat.mul_le_mul (show r + 1 ≤ 32768 by omega) (show r + 1 ≤ 32768 by omega); omega
    have fin : ∀ r', r' * r' ≤ n → n < (r' + 1) * (r' + 1) → S 6 [.int (nI n), .int (nI r'), .int (nI 0), .null] [] M := fun r' g1 g2 => by
      refine p_Wh_root_6_2 h ⟨by rw [nI_0]; decide, ?_⟩
      rw [← n_rtN_uniq g1 g2]; exact kx
    by_cases hb : n < (r + 1) * (r + 1)
    · refine p_Wh_root_6_1 h ⟨hl, ?_, ?_⟩
      · rw [hc, nI_mul]; exact nI_lt hb hsq
      · rw [hz]; exact fin r h1 hb
    · refine p_Wh_root_6_0 h ⟨hl, ?_, ?_⟩
      · rw [hc, nI_mul]; exact nI_nlt (by omega) (by omega)
      · rw [hz, hc]; exact fin (r + 1) (by omega) (by simpa using h2)
  | succ k ih =>
    intro r hk h1 h2 h3
    have hp : 2 ^ (k + 1 + 1) = 2 * 2 ^ (k + 1) := by rw [Nat.pow_succ]; omega
    have h2k : 0 < 2 ^ (k + 1) := Nat.pos_of_ne_zero (by simp)
    have hl : ¬ nI (2 ^ (k + 1)) ≤ 0 := nI_nle h2k (by omega)
    have hc : nI r + nI (2 ^ (k + 1)) = nI (r + 2 ^ (k + 1)) := nI_add _ _
    have hz : nI (2 ^ (k + 1)) >>> ((1 : Int32) &&& 31) = nI (2 ^ k) := by
      rw [n_half (k + 1) hk]; congr 1; rw [Nat.pow_succ]; omega
    generalize hQ : 2 ^ (k + 1) = w at *
    have hsq : (r + w) * (r + w) < 2 ^ 31 := by
      have := Nat.mul_le_mul (show r + w ≤ 32768 by omega) (show r + w ≤ 32768 by omega); omega
    by_cases hb : n < (r + w) * (r + w)
    · refine p_Wh_root_6_1 h ⟨hl, ?_, ?_⟩
      · rw [hc, nI_mul]; exact nI_lt hb hsq
      · rw [hz]; exact ih r (by omega) h1 hb (by omega)
    · refine p_Wh_root_6_0 h ⟨hl, ?_, ?_⟩
      · rw [hc, nI_mul]; exact nI_nlt (by omega) (by omega)
      · rw [hz, hc]; exact ih (r + w) (by omega) (by omega) (by rw [Nat.add_assoc, show w + w = 2 ^ (k + 1 + 1) by omega]; exact h2) (by omega)
theorem c_root (M : qM) {n : Nat} (hn : n < 1073741824) : q_CI TS CL SHP 0 y_Wh_root [.int (nI n)] M (fun v M' => v = n_rt (nI n) ∧ M' = M) := by
  refine q_CI.of f_Wh_root [.int (nI n), .null, .null, .null] rfl rfl (fun v M' _ => ⟨.int, rfl, rfl⟩) (fun S h => ?_)
  refine p_Wh_root_0_0 h ?_
  have e : n_rt (nI n) = nI (n_rtN n) := by unfold n_rt; rw [nI_clamp (by omega)]
  exact root_loop h hn ⟨e.symm, rfl⟩ 14 0 (by decide) (by omega) (by show n < _; omega) (by decide)
theorem n_11 : (11 : Int32).toInt = 11 := by decide
theorem fade_q {x : Int32} (hx : 0 ≤ x) (h : x / 11 ≤ 10) : ∃ z, z ≤ 10 ∧ x / 11 = nI z := by
  rw [n_le, n_0] at hx
  have e := n_div (a := x) (b := 11) (by decide)
  rw [n_11, Int.tdiv_eq_ediv_of_nonneg hx] at e
  rw [n_le, e, show (10 : Int32).toInt = 10 by decide] at h
  refine ⟨(x.toInt / 11).toNat, by omega, ?_⟩
  rw [n_eq, e, nI_toInt (by omega)]
  omega
theorem c_fade (M : qM) {x : Int32} (hx : 0 ≤ x) : q_CI TS CL SHP 0 y_Wh_fade [.int x] M (fun v M' => v = n_fade x ∧ M' = M) := by
  refine q_CI.of f_Wh_fade [.int x, .null, .null] rfl rfl (fun v M' _ => ⟨.int, rfl, rfl⟩) (fun S h => ?_)
  have h11 : ¬ (11 : Int32) = 0 := by decide
  by_cases hq : x / 11 ≤ 10
  · refine p_Wh_fade_0_1 h ⟨h11, h11, hq, ?_, rfl⟩
    obtain ⟨z, hz, ez⟩ := fade_q hx hq
    unfold n_fade
    rw [if_neg (by rw [n_nlt]; exact hq), ez, n_shr_fl (by omega)]
  · refine p_Wh_fade_0_0 h ⟨h11, h11, hq, ?_, rfl⟩
    unfold n_fade
    rw [if_pos (n_nle.mp hq)]
theorem n_sl_mm (a : Int32) : (if (0 : Int32) < (if a + 48 < 96 then a + 48 else 96) then (if a + 48 < 96 then a + 48 else 96) else 0) = n_sl a := by
  have e2 : (96 : Int32).toInt = 96 := by decide
  unfold n_sl
  generalize a + 48 = z
  simp only [n_lt, n_0, e2]
  split <;> split <;> split <;> first | rfl | (simp only [n_eq, n_0, e2]; omega) | (split <;> first | rfl | (simp only [n_eq, n_0, e2]; omega))
theorem c_bend (M : qM) (a : Int32) : q_CI TS CL SHP 2 y_Wh_bend [.int a] M (fun v M' => v = n_bend a ∧ M' = M) := by
  refine q_CI.of f_Wh_bend [.int a, .null] rfl rfl (fun v M' _ => ⟨.int, rfl, rfl⟩) (fun S h => ?_)
  refine p_Wh_bend_0_0 h ⟨1, _, by decide, c_floor M _ 96 (by decide), fun v M' hv => ?_⟩
  exact ⟨by rw [hv.1, n_sl_mm]; rfl, hv.2⟩
