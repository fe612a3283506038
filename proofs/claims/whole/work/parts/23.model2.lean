/-! the rest of Model: places, tokens' sums -/
theorem c_left {M : qM} {j : Nat} (hj : j < 8) : q_CI TS CL SHP 0 y_Mo_left [.ref 3, .int (nI j)] M (fun v M' => v = M.1 4 (9 + 2 * j) ∧ M' = M) := by
  refine q_CI.of f_Mo_left [.ref 3, .int (nI j)] rfl rfl (fun v M' _ => ⟨.int, rfl, rfl⟩) (fun S h => ?_)
  have e : (9 : Int32) + 2 * nI j = nI (9 + 2 * j) := by rw [show (2 : Int32) = nI 2 from rfl, show (9 : Int32) = nI 9 from rfl, nI_mul, nI_add]
  refine p_Mo_left_0_0 h ⟨by rw [e]; exact ok_of (N := 1500) rfl (by omega) (by decide), ?_, rfl⟩
  rw [e, nI_clamp (by omega)]
theorem c_right {M : qM} {j : Nat} (hj : j < 8) : q_CI TS CL SHP 0 y_Mo_right [.ref 3, .int (nI j)] M (fun v M' => v = M.1 4 (10 + 2 * j) ∧ M' = M) := by
  refine q_CI.of f_Mo_right [.ref 3, .int (nI j)] rfl rfl (fun v M' _ => ⟨.int, rfl, rfl⟩) (fun S h => ?_)
  have e : (9 : Int32) + 2 * nI j + 1 = nI (10 + 2 * j) := by rw [show (2 : Int32) = nI 2 from rfl, show (9 : Int32) = nI 9 from rfl, nI_mul, nI_add, nI_1]; congr 1; omega
  refine p_Mo_right_0_0 h ⟨by rw [e]; exact ok_of (N := 1500) rfl (by omega) (by decide), ?_, rfl⟩
  rw [e, nI_clamp (by omega)]
theorem c_firstOf {M : qM} {c : Nat → Nat} {l : Nat} (hM : HC c M) : q_CI TS CL SHP 0 y_Mo_firstOf [.ref 3, .int (nI l)] M (fun v M' => v = nI (cFirst c + l * cLb c) ∧ M' = M) := by
  refine q_CI.of f_Mo_firstOf [.ref 3, .int (nI l)] rfl rfl (fun v M' _ => ⟨.int, rfl, rfl⟩) (fun S h => ?_)
  obtain ⟨-, -, -, -, -, -, -, -, -, -, -, -, h15, h16, -⟩ := hM
  exact p_Mo_firstOf_0_0 h ⟨by rw [h15, h16, nI_mul, nI_add], rfl⟩
theorem c_squareOf {M : qM} {c : Nat → Nat} {l w : Nat} (hM : HC c M) : q_CI TS CL SHP 1 y_Mo_squareOf [.ref 3, .int (nI l), .int (nI w)] M (fun v M' => v = nI (cFirst c + l * cLb c + c 2 + w * (c 2 * c 2)) ∧ M' = M) := by
  refine q_CI.of f_Mo_squareOf [.ref 3, .int (nI l), .int (nI w)] rfl rfl (fun v M' _ => ⟨.int, rfl, rfl⟩) (fun S h => ?_)
  refine p_Mo_squareOf_0_0 h ⟨0, _, by decide, c_firstOf hM, fun v M' hv => ⟨?_, hv.2⟩⟩
  rw [hv.1, hv.2, hM.2.2.1, nI_mul, nI_mul, nI_add, nI_add, Nat.mul_assoc]
theorem c_secondOf {M : qM} {c : Nat → Nat} {l : Nat} (hM : HC c M) : q_CI TS CL SHP 2 y_Mo_secondOf [.ref 3, .int (nI l)] M (fun v M' => v = nI (cFirst c + l * cLb c + c 2 + 4 * (c 2 * c 2)) ∧ M' = M) := by
  refine q_CI.of f_Mo_secondOf [.ref 3, .int (nI l)] rfl rfl (fun v M' _ => ⟨.int, rfl, rfl⟩) (fun S h => ?_)
  exact p_Mo_secondOf_0_0 h ⟨1, _, by decide, c_squareOf (w := 4) hM, fun v M' hv => hv⟩
theorem nI_sub {a b : Nat} (h : b ≤ a) : nI a - nI b = nI (a - b) := by
  obtain ⟨k, rfl⟩ : ∃ k, a = b + k := ⟨a - b, by omega⟩
  rw [← nI_add, Nat.add_sub_cancel_left]
  refine Int32.toBitVec_inj.mp ?_
  rw [Int32.toBitVec_sub, Int32.toBitVec_add, BitVec.add_comm, BitVec.add_sub_cancel]
theorem c_downOf {M : qM} {c : Nat → Nat} {l : Nat} (hM : HC c M) : q_CI TS CL SHP 1 y_Mo_downOf [.ref 3, .int (nI l)] M (fun v M' => v = nI (cFirst c + l * cLb c + 2 * c 2 + 4 * (c 2 * c 2) + c 3 * c 2) ∧ M' = M) := by
  refine q_CI.of f_Mo_downOf [.ref 3, .int (nI l)] rfl rfl (fun v M' _ => ⟨.int, rfl, rfl⟩) (fun S h => ?_)
  refine p_Mo_downOf_0_0 h ⟨0, _, by decide, c_firstOf hM, fun v M' hv => ⟨?_, hv.2⟩⟩
  obtain ⟨-, -, h5, h6, -, -, -, -, -, -, -, -, -, h16, -⟩ := hM
  have e : c 2 * c 3 = c 3 * c 2 := Nat.mul_comm _ _
  rw [hv.1, hv.2, h5, h6, h16, nI_add, nI_mul, nI_sub (by unfold cLb; omega)]
  congr 1
  unfold cLb
  omega
theorem c_upOf {M : qM} {c : Nat → Nat} {l : Nat} (hM : HC c M) : q_CI TS CL SHP 2 y_Mo_upOf [.ref 3, .int (nI l)] M (fun v M' => v = nI (cFirst c + l * cLb c + 2 * c 2 + 4 * (c 2 * c 2)) ∧ M' = M) := by
  refine q_CI.of f_Mo_upOf [.ref 3, .int (nI l)] rfl rfl (fun v M' _ => ⟨.int, rfl, rfl⟩) (fun S h => ?_)
  refine p_Mo_upOf_0_0 h ⟨1, _, by decide, c_downOf hM, fun v M' hv => ⟨?_, hv.2⟩⟩
  obtain ⟨-, -, h5, h6, -⟩ := hM
  rw [hv.1, hv.2, h5, h6, nI_mul, nI_sub (by omega)]
  congr 1
  omega
theorem c_knows {M : qM} {c : Nat → Nat} {t : Int32} (hM : M.1 3 9 = nI (8 + c 5)) (h8 : c 5 ≤ 8) : q_CI TS CL SHP 0 y_Mo_knows [.ref 3, .int t] M (fun v M' => ((v = 1 ∧ ∃ n, n < 8 + c 5 ∧ t = nI n) ∨ (v = 0 ∧ (t < 0 ∨ nI (8 + c 5) ≤ t))) ∧ M' = M) := by
  refine q_CI.of f_Mo_knows [.ref 3, .int t] rfl rfl (fun v M' hv => ⟨.boolean, rfl, by rcases hv.1 with z | z <;> rw [z.1] <;> rfl⟩) (fun S h => ?_)
  by_cases h1 : t < 0
  · exact p_Mo_knows_0_2 h ⟨h1, Or.inr ⟨rfl, Or.inl h1⟩, rfl⟩
  · by_cases h2 : M.1 3 9 ≤ t
    · exact p_Mo_knows_0_1 h ⟨h1, h2, Or.inr ⟨rfl, Or.inr (hM ▸ h2)⟩, rfl⟩
    · refine p_Mo_knows_0_0 h ⟨h1, h2, Or.inl ⟨rfl, ?_⟩, rfl⟩
      obtain ⟨n, hn, rfl⟩ := nI_of h1
      rw [hM, nI_leI (by omega) hn] at h2
      exact ⟨n, by omega, rfl⟩
theorem c_addMP {M : qM} {c : Nat → Nat} {t p a N : Nat} (hc : cOk c) (hM : HC c M) (ht : t < 8 + c 5) (hp : p < c 4) (ha : SHP[a]? = some (.inr (0, N))) (hN : c 2 ≤ N) (hN2 : N ≤ 2000) :
    q_CV TS CL SHP 0 y_Mo_addMeaningAndPlace [.ref 3, .int (nI t), .int (nI p), .ref a] M (fun M' => (∀ i, i < c 2 → M'.1 a i = M.1 4 (cMean c + t * c 2 + i) + M.1 4 (cPlace c + p * c 2 + i)) ∧ fr (fun x => x = a) M M') := by
  have a3 : a ≠ 3 := fun z => by subst z; simp [SHP] at ha
  have a4 : a ≠ 4 := fun z => by subst z; simp [SHP] at ha
  have hw : c 2 = 4 ∨ c 2 = 8 := hc.2.2.1
  have hlast : cLast c + c 2 ≤ 1500 := hc.2.2.2.2.2.2.2.2.2.2.2
  have t1 : t * c 2 + c 2 ≤ (8 + c 5) * c 2 := by
    have := Nat.mul_le_mul_right (c 2) (show t + 1 ≤ 8 + c 5 by omega); rw [Nat.add_mul, Nat.one_mul] at this; exact this
  have t2 : p * c 2 + c 2 ≤ c 4 * c 2 := by
    have := Nat.mul_le_mul_right (c 2) (show p + 1 ≤ c 4 by omega); rw [Nat.add_mul, Nat.one_mul] at this; exact this
  have b1 : cMean c + t * c 2 + c 2 ≤ 1500 := by unfold cLast cFirst cPlace at hlast; omega
  have b2 : cPlace c + p * c 2 + c 2 ≤ 1500 := by unfold cLast cFirst at hlast; omega
  refine q_CV.of f_Mo_addMeaningAndPlace [.ref 3, .int (nI t), .int (nI p), .ref a, .null] rfl rfl rfl (fun S h => ?_)
  have loop : ∀ m k M1, k + m = c 2 → (∀ i, i < k → M1.1 a i = M.1 4 (cMean c + t * c 2 + i) + M.1 4 (cPlace c + p * c 2 + i)) → fr (fun x => x = a) M M1 → S 3 [.ref 3, .int (nI t), .int (nI p), .ref a, .int (nI k)] [] M1 := by
    intro m
    induction m with
    | zero =>
      intro k M1 hk hv hf
      have hM1 : HC c M1 := hM.to (hf.1 3 (fun z => a3 z.symm))
      exact p_Mo_addMeaningAndPlace_3_1 h ⟨by rw [hM1.2.2.1]; exact nI_le (by omega) (by omega), fun i hi => hv i (by omega), hf⟩
    | succ m ih =>
      intro k M1 hk hv hf
      have hM1 : HC c M1 := hM.to (hf.1 3 (fun z => a3 z.symm))
      have e4 := hf.1 4 (fun z => a4 z.symm)
      obtain ⟨-, -, h5, -, -, -, -, -, -, -, h13, h14, -⟩ := hM1
      have e1 : M1.1 3 13 + nI t * M1.1 3 5 + nI k = nI (cMean c + t * c 2 + k) := by rw [h13, h5, nI_mul, nI_add, nI_add]
      have e2 : M1.1 3 14 + nI p * M1.1 3 5 + nI k = nI (cPlace c + p * c 2 + k) := by rw [h14, h5, nI_mul, nI_add, nI_add]
      refine p_Mo_addMeaningAndPlace_3_0 h ⟨by rw [h5]; exact nI_ge (by omega) (by omega), by rw [e1]; exact ok_of (N := 1500) rfl (by omega) (by decide), by rw [e2]; exact ok_of (N := 1500) rfl (by omega) (by decide), ok_of ha (by omega) (by omega), ?_⟩
      rw [e1, e2, nI_1, nI_clamp (by omega), nI_clamp (by omega), nI_clamp (by omega), e4]
      refine ih (k + 1) _ (by omega) (fun i hi => ?_) (hf.up rfl)
      by_cases hik : i = k
      · subst hik; rw [q_up_at]
      · rw [q_up_oth hik]; exact hv i (by omega)
  exact p_Mo_addMeaningAndPlace_0_0 h (loop (c 2) 0 M (by omega) (fun i hi => absurd hi (by omega)) (fr.rf M))
theorem c_sumUp {M : qM} {c : Nat → Nat} {a o N O : Nat} (hc : cOk c) (hM : HC c M) (ha : SHP[a]? = some (.inr (0, N))) (hN : c 2 ≤ N) (hN2 : N ≤ 2000) (ho : SHP[o]? = some (.inr (0, O))) (hO : 16 ≤ O) (hO2 : O ≤ 2000) (hne : o ≠ a) :
    q_CV TS CL SHP 1 y_Mo_sumUp [.ref 3, .ref a, .ref o] M (fun M' => (∀ t, t < 8 + c 5 → M'.1 o t = s_dot (M.1 4) (cMean c + t * c 2) (c 2) (M.1 a)) ∧ fr (fun x => x = o) M M') := by
  have o3 : o ≠ 3 := fun z => by subst z; simp [SHP] at ho
  have o4 : o ≠ 4 := fun z => by subst z; simp [SHP] at ho
  have hw : c 2 = 4 ∨ c 2 = 8 := hc.2.2.1
  have h8 : c 5 ≤ 8 := hc.2.2.2.2.2.2.2.1
  have hlast : cLast c + c 2 ≤ 1500 := hc.2.2.2.2.2.2.2.2.2.2.2
  refine q_CV.of f_Mo_sumUp [.ref 3, .ref a, .ref o, .null] rfl rfl rfl (fun S h => ?_)
  have loop : ∀ m k M1, k + m = 8 + c 5 → (∀ t, t < k → M1.1 o t = s_dot (M.1 4) (cMean c + t * c 2) (c 2) (M.1 a)) → fr (fun x => x = o) M M1 → S 2 [.ref 3, .ref a, .ref o, .int (nI k)] [] M1 := by
    intro m
    induction m with
    | zero =>
      intro k M1 hk hv hf
      have hM1 : HC c M1 := hM.to (hf.1 3 (fun z => o3 z.symm))
      exact p_Mo_sumUp_2_1 h ⟨by rw [hM1.2.2.2.2.2.2.1]; exact nI_le (by omega) (by omega), fun i hi => hv i (by omega), hf⟩
    | succ m ih =>
      intro k M1 hk hv hf
      have hM1 : HC c M1 := hM.to (hf.1 3 (fun z => o3 z.symm))
      have e4 := hf.1 4 (fun z => o4 z.symm)
      have ea := hf.1 a (fun z => hne z.symm)
      have t1 : k * c 2 + c 2 ≤ (8 + c 5) * c 2 := by
        have := Nat.mul_le_mul_right (c 2) (show k + 1 ≤ 8 + c 5 by omega); rw [Nat.add_mul, Nat.one_mul] at this; exact this
      obtain ⟨-, -, h5, -, -, -, h9, -, -, -, h13, -⟩ := hM1
      have hp1 := c_product (M := M1) (row := cMean c + k * c 2) (n := c 2) (by unfold cLast cFirst cPlace at hlast; omega) ha hN hN2
      have e1 : M1.1 3 13 + nI k * M1.1 3 5 = nI (cMean c + k * c 2) := by rw [h13, h5, nI_mul, nI_add]
      rw [← e1, ← h5] at hp1
      refine p_Mo_sumUp_2_0 h ⟨by rw [h9]; exact nI_ge (by omega) (by omega), 0, _, by decide, hp1, fun v M2 h1 => ⟨ok_of ho (by omega) (by omega), ?_⟩⟩
      rw [h1.1, h1.2, nI_1, nI_clamp (by omega)]
      refine ih (k + 1) _ (by omega) (fun i hi => ?_) (hf.up rfl)
      by_cases hik : i = k
      · subst hik; rw [q_up_at, e4, ea]
      · rw [q_up_oth hik]; exact hv i (by omega)
  exact p_Mo_sumUp_0_0 h (loop (8 + c 5) 0 M (by omega) (fun i hi => absurd hi (by omega)) (fr.rf M))
