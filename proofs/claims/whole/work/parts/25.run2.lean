/-! RUN: blends, changes, a layer, a token taken in -/
theorem c_blend {M : qM} {l a hw p : Nat} (hM : M.1 3 11 = nI hw) (hpos : M.1 9 5 = nI p) (hl : l < 2) (hp : p < 12) (ha : a + hw ≤ 8) :
    q_CV TS CL SHP 2 y_Ru_blendValues [.ref 9, .int (nI l), .int (nI a)] M (fun M' => (∀ i, a ≤ i → i < a + hw → M'.1 17 i = n_fl (n_sm (fun j => M.1 20 j * M.1 (45 + (l * 12 + j)) i) (p + 1) + 128) 256) ∧ (∀ i, ¬ (a ≤ i ∧ i < a + hw) → M'.1 17 i = M.1 17 i) ∧ fr (fun x => x = 17) M M') := by
  refine q_CV.of f_Ru_blendValues [.ref 9, .int (nI l), .int (nI a), .null, .null, .null] rfl rfl rfl (fun S h => ?_)
  have keep : ∀ M1, fr (fun x => x = 17) M M1 → M1.1 3 11 = nI hw ∧ M1.1 9 5 = nI p ∧ M1.1 20 = M.1 20 ∧ ∀ j, M1.1 (45 + (l * 12 + j)) = M.1 (45 + (l * 12 + j)) := fun M1 hf =>
    ⟨by rw [hf.1 3 (by omega)]; exact hM, by rw [hf.1 9 (by omega)]; exact hpos, hf.1 20 (by omega), fun j => hf.1 _ (by omega)⟩
  have outer : ∀ m k M1, k + m = hw → (∀ i, a ≤ i → i < a + k → M1.1 17 i = n_fl (n_sm (fun j => M.1 20 j * M.1 (45 + (l * 12 + j)) i) (p + 1) + 128) 256) → (∀ i, ¬ (a ≤ i ∧ i < a + k) → M1.1 17 i = M.1 17 i) → fr (fun x => x = 17) M M1 → S 2 [.ref 9, .int (nI l), .int (nI a), .int (nI (a + k)), .null, .null] [] M1 := by
    intro m
    induction m with
    | zero =>
      intro k M1 hk hv hu hf
      have : k = hw := by omega
      subst this
      exact p_Ru_blendValues_2_1 h ⟨by rw [(keep M1 hf).1, nI_add]; exact nI_le (Nat.le_refl _) (by omega), hv, hu, hf⟩
    | succ m ih =>
      intro k M1 hk hv hu hf
      obtain ⟨e11, e5, e20, e45⟩ := keep M1 hf
      refine p_Ru_blendValues_2_0 h ⟨by rw [e11, nI_add]; exact nI_ge (by omega) (by omega), ?_⟩
      have inner : ∀ m2 k2, k2 + m2 = p + 1 → S 21 [.ref 9, .int (nI l), .int (nI a), .int (nI (a + k)), .int (n_sm (fun j => M.1 20 j * M.1 (45 + (l * 12 + j)) (a + k)) k2), .int (nI k2)] [] M1 := by
        intro m2
        induction m2 with
        | zero =>
          intro k2 hk2
          have : k2 = p + 1 := by omega
          subst this
          refine p_Ru_blendValues_21_1 h ⟨by rw [e5]; exact nI_lt (by omega) (by omega), 1, _, by decide, c_floor M1 _ 256 (by decide), fun v M2 h2 => ⟨ok_of (N := 8) rfl (by omega) (by decide), ?_⟩⟩
          rw [h2.1, h2.2, nI_1, nI_clamp (by omega)]
          refine ih (k + 1) _ (by omega) (fun i h1 h2 => ?_) (fun i hi => ?_) (hf.up rfl)
          · by_cases hik : i = a + k
            · subst hik; rw [q_up_at]
            · rw [q_up_oth hik]; exact hv i h1 (by omega)
          · rw [q_up_oth (by omega)]; exact hu i (by omega)
        | succ m2 ih2 =>
          intro k2 hk2
          have hr : l * 12 + k2 < 24 := by omega
          refine p_Ru_blendValues_21_0 h ⟨by rw [e5]; exact nI_nlt (by omega) (by omega), ok_of (N := 12) rfl (by omega) (by decide), 0, _, by decide, c_keptRow, fun v M2 h2 => ⟨by rw [h2.1]; exact vp_in_nI hr (by decide), by rw [h2.1, nI_clamp (by omega)]; exact ok_of (vr_ok _ hr) (by omega) (by decide), ?_⟩⟩
          rw [h2.1, h2.2, nI_1, nI_clamp (by omega), nI_clamp (by omega), nI_clamp (by omega), e20, e45]
          exact ih2 (k2 + 1) (by omega)
      exact inner (p + 1) 0 (by omega)
  exact p_Ru_blendValues_0_0 h (outer hw 0 M (by omega) (fun i h1 h2 => absurd h2 (by omega)) (fun _ _ => rfl) (fr.rf M))
theorem c_addChange {M : qM} {c : Nat → Nat} (hc : cOk c) (hM : HC c M) : q_CV TS CL SHP 0 y_Ru_addChange [.ref 9] M (fun M' => (∀ i, i < c 2 → M'.1 14 i = M.1 14 i + M.1 18 i) ∧ fr (fun x => x = 14) M M') := by
  have hw : c 2 = 4 ∨ c 2 = 8 := hc.2.2.1
  refine q_CV.of f_Ru_addChange [.ref 9, .null] rfl rfl rfl (fun S h => ?_)
  have loop : ∀ m k M1, k + m = c 2 → (∀ i, i < k → M1.1 14 i = M.1 14 i + M.1 18 i) → (∀ i, k ≤ i → M1.1 14 i = M.1 14 i) → fr (fun x => x = 14) M M1 → S 2 [.ref 9, .int (nI k)] [] M1 := by
    intro m
    induction m with
    | zero =>
      intro k M1 hk hv hu hf
      have e5 : M1.1 3 5 = nI (c 2) := by rw [hf.1 3 (by omega)]; exact hM.2.2.1
      exact p_Ru_addChange_2_1 h ⟨by rw [e5]; exact nI_le (by omega) (by omega), fun i hi => hv i (by omega), hf⟩
    | succ m ih =>
      intro k M1 hk hv hu hf
      have e5 : M1.1 3 5 = nI (c 2) := by rw [hf.1 3 (by omega)]; exact hM.2.2.1
      refine p_Ru_addChange_2_0 h ⟨by rw [e5]; exact nI_ge (by omega) (by omega), ok_of (N := 8) rfl (by omega) (by decide), ok_of (N := 8) rfl (by omega) (by decide), ok_of (N := 8) rfl (by omega) (by decide), ?_⟩
      rw [nI_1, nI_clamp (by omega), hu k (Nat.le_refl _), hf.1 18 (by omega)]
      refine ih (k + 1) _ (by omega) (fun i hi => ?_) (fun i hi => by rw [q_up_oth (by omega)]; exact hu i (by omega)) (hf.up rfl)
      by_cases hik : i = k
      · subst hik; rw [q_up_at]
      · rw [q_up_oth hik]; exact hv i (by omega)
  exact p_Ru_addChange_0_0 h (loop (c 2) 0 M (by omega) (fun i hi => absurd hi (by omega)) (fun _ _ => rfl) (fr.rf M))
theorem n_sm_ext {f g : Nat → Int32} {n : Nat} (h : ∀ i, i < n → f i = g i) : n_sm f n = n_sm g n := n_sm_congr n h
theorem s_dot_ext {b : Nat → Int32} {pos n : Nat} {v v' : Nat → Int32} (h : ∀ i, i < n → v i = v' i) : s_dot b pos n v = s_dot b pos n v' := n_sm_congr n (fun i hi => by rw [h i hi])
theorem s_times_ext {b : Nat → Int32} {pos n sh r : Nat} {v v' : Nat → Int32} (h : ∀ i, i < n → v i = v' i) : s_times b pos n sh v r = s_times b pos n sh v' r := by unfold s_times; rw [s_dot_ext h]
theorem s_mean_ext {w : Nat} {x x' : Nat → Int32} (h : ∀ i, i < w → x i = x' i) : s_mean w x = s_mean w x' := by unfold s_mean; rw [n_sm_congr w h]
theorem s_var_ext {w : Nat} {x x' : Nat → Int32} (h : ∀ i, i < w → x i = x' i) : s_var w x = s_var w x' := by
  unfold s_var; rw [s_mean_ext h, n_sm_congr w (fun i hi => by rw [h i hi])]
theorem s_norm_ext {w : Nat} {x x' g g' : Nat → Int32} (h : ∀ i, i < w → x i = x' i) (hg : ∀ i, i < w → g i = g' i) {i : Nat} (hi : i < w) : s_norm w x g i = s_norm w x' g' i := by
  unfold s_norm; rw [s_mean_ext h, s_var_ext h, h i hi, hg i hi]
theorem s_near_ext {hw a : Nat} {ask ask' : Nat → Int32} {K K' : Nat → Nat → Int32} {j : Nat} (h1 : ∀ i, i < a + hw → ask i = ask' i) (h2 : ∀ i, i < a + hw → K j i = K' j i) : s_near hw a ask K j = s_near hw a ask' K' j := by
  unfold s_near; rw [n_sm_congr hw (fun i hi => by rw [h1 _ (by omega), h2 _ (by omega)])]
theorem s_max_ext {f g : Nat → Int32} : ∀ p, (∀ j, j ≤ p → f j = g j) → s_max f p = s_max g p := by
  intro p
  induction p with
  | zero => intro h; exact h 0 (Nat.le_refl _)
  | succ p ih => intro h; simp only [s_max]; rw [ih (fun j hj => h j (by omega)), h (p + 1) (Nat.le_refl _)]
theorem s_wt_ext {hw a p : Nat} {ask ask' : Nat → Int32} {K K' : Nat → Nat → Int32} (h1 : ∀ i, i < a + hw → ask i = ask' i) (h2 : ∀ j, j ≤ p → ∀ i, i < a + hw → K j i = K' j i) {j : Nat} (hj : j ≤ p) : s_wt hw a p ask K j = s_wt hw a p ask' K' j := by
  have e1 : ∀ j, j ≤ p → s_near hw a ask K j = s_near hw a ask' K' j := fun j hj => s_near_ext h1 (h2 j hj)
  have e2 : ∀ j, j ≤ p → s_part hw a p ask K j = s_part hw a p ask' K' j := fun j hj => by unfold s_part; rw [s_max_ext p e1, e1 j hj]
  unfold s_wt
  rw [e2 j hj, n_sm_congr (p + 1) (fun i hi => e2 i (by omega))]
theorem s_mix_ext {hw p : Nat} {ask ask' : Nat → Int32} {K K' V V' : Nat → Nat → Int32} {w : Nat} (hdiv : ∀ i, i < w → i / hw * hw + hw ≤ w) (h1 : ∀ i, i < w → ask i = ask' i) (h2 : ∀ j, j ≤ p → ∀ i, i < w → K j i = K' j i) (h3 : ∀ j, j ≤ p → ∀ i, i < w → V j i = V' j i) {i : Nat} (hi : i < w) : s_mix hw p ask K V i = s_mix hw p ask' K' V' i := by
  unfold s_mix
  have hd := hdiv i hi
  rw [n_sm_congr (p + 1) (fun j hj => by rw [s_wt_ext (fun i hi => h1 i (by omega)) (fun j hj i hi => h2 j hj i (by omega)) (by omega), h3 j (by omega) i hi])]
theorem s_times_b (b : Nat → Int32) (pos n sh : Nat) (v : Nat → Int32) (r : Nat) : bd 127 (s_times b pos n sh v r) := n_cl_b _
theorem hw_ok {c : Nat → Nat} (hc : cOk c) : 0 < c 2 / c 1 ∧ c 1 * (c 2 / c 1) = c 2 ∧ c 2 / c 1 ≤ 8 ∧ c 1 ≤ 4 ∧ c 2 ≤ 8 ∧ 4 ≤ c 2 := by
  obtain ⟨-, h1, h2, -⟩ := hc
  rcases h1 with e | e | e <;> rcases h2 with f | f <;> rw [e, f] <;> decide
theorem hw_div {c : Nat → Nat} (hc : cOk c) {i : Nat} (hi : i < c 2) : i / (c 2 / c 1) * (c 2 / c 1) + c 2 / c 1 ≤ c 2 := by
  obtain ⟨h1, h2, -⟩ := hw_ok hc
  generalize c 2 / c 1 = hw at *
  have : i / hw < c 1 := by rw [Nat.div_lt_iff_lt_mul h1, h2]; exact hi
  have := Nat.mul_le_mul_right hw (show i / hw + 1 ≤ c 1 by omega)
  rw [Nat.add_mul, Nat.one_mul, h2] at this; exact this
