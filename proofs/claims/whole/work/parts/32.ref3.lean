/-! THE REFERENCE: one head; a layer -/
def rK (M : qM) (h l : Nat) (j i : Nat) : Int32 := M.1 h (96 * l + 8 * j + i)
set_option maxHeartbeats 2000000 in
theorem r_attend {M : qM} {l p a hw : Nat} (hl : l < 2) (hp : p < 12) (ha : a + hw ≤ 8) (h1 : ∀ i, i < a + hw → bd 127 (M.1 82 i)) (h2 : ∀ j, j ≤ p → ∀ i, i < a + hw → bd 127 (rK M 78 l j i)) :
    q_CV TS CL SHP 2 y_Rf_attend [.ref 69, .int (nI l), .int (nI p), .int (nI a), .int (nI (a + hw))] M (fun M' => (∀ i, a ≤ i → i < a + hw → M'.1 83 i = n_fl (n_sm (fun j => s_wt hw a p (M.1 82) (rK M 78 l) j * rK M 79 l j i) (p + 1) + 128) 256) ∧ (∀ i, ¬ (a ≤ i ∧ i < a + hw) → M'.1 83 i = M.1 83 i) ∧ fr (fun x => x = 83 ∨ x = 85 ∨ x = 86) M M') := by
  refine q_CV.of f_Rf_attend [.ref 69, .int (nI l), .int (nI p), .int (nI a), .int (nI (a + hw)), .null, .null, .null, .null, .null] rfl rfl rfl (fun S h => ?_)
  generalize hnear : s_near hw a (M.1 82) (rK M 78 l) = near
  generalize hpart : s_part hw a p (M.1 82) (rK M 78 l) = part
  have epart : ∀ j, part j = n_fade (s_max near p - near j) := fun j => by rw [← hpart, ← hnear]; rfl
  have hpb : ∀ j, j ≤ p → 0 ≤ (s_max near p - near j).toInt ∧ 0 ≤ (part j).toInt ∧ (part j).toInt ≤ 1024 := fun j hj => by rw [← hpart, ← hnear]; exact s_part_b ha h1 h2 hj
  have hall : 0 < n_sm part (p + 1) := by rw [← hpart]; exact s_all_pos ha hp h1 h2
  -- the last loop: what is mixed
  have loop3 : ∀ l5 m k M1, k + m = hw → (∀ i, a ≤ i → i < a + k → M1.1 83 i = n_fl (n_sm (fun j => s_wt hw a p (M.1 82) (rK M 78 l) j * rK M 79 l j i) (p + 1) + 128) 256) → (∀ i, ¬ (a ≤ i ∧ i < a + k) → M1.1 83 i = M.1 83 i) → (∀ j, j ≤ p → M1.1 86 j = part j) → fr (fun x => x = 83 ∨ x = 85 ∨ x = 86) M M1 → S 166 [.ref 69, .int (nI l), .int (nI p), .int (nI a), .int (nI (a + hw)), .int l5, .int (n_sm part (p + 1)), .int (nI (a + k)), .null, .null] [] M1 := by
    intro l5 m
    induction m with
    | zero =>
      intro k M1 hk hv hu hq hf
      have : k = hw := by omega
      subst this
      exact p_Rf_attend_166_1 h ⟨nI_le (Nat.le_refl _) (by omega), hv, hu, hf⟩
    | succ m ih =>
      intro k M1 hk hv hu hq hf
      refine p_Rf_attend_166_0 h ⟨nI_ge (by omega) (by omega), ?_⟩
      have inner : ∀ m2 k2, k2 + m2 = p + 1 → S 179 [.ref 69, .int (nI l), .int (nI p), .int (nI a), .int (nI (a + hw)), .int l5, .int (n_sm part (p + 1)), .int (nI (a + k)), .int (n_sm (fun j => s_wt hw a p (M.1 82) (rK M 78 l) j * rK M 79 l j (a + k)) k2), .int (nI k2)] [] M1 := by
        intro m2
        induction m2 with
        | zero =>
          intro k2 hk2
          have : k2 = p + 1 := by omega
          subst this
          refine p_Rf_attend_179_1 h ⟨nI_lt (by omega) (by omega), 0, _, by decide, r_floor M1 _ 256 (by decide), fun v M2 h2 => ⟨ok_of (N := 16) rfl (by omega) (by decide), ?_⟩⟩
          rw [h2.1, h2.2, nI_1, nI_clamp (by omega)]
          refine ih (k + 1) _ (by omega) (fun i g1 g2 => ?_) (fun i hi => ?_) (fun j hj => by rw [q_up_ne 86 (by decide)]; exact hq j hj) (hf.up (Or.inl rfl))
          · by_cases hik : i = a + k
            · subst hik; rw [q_up_at]
            · rw [q_up_oth hik]; exact hv i g1 (by omega)
          · rw [q_up_oth (by omega)]; exact hu i (by omega)
        | succ m2 ih2 =>
          intro k2 hk2
          refine p_Rf_attend_179_0 h ⟨nI_nlt (by omega) (by omega), ok_of (N := 12) rfl (by omega) (by decide), 0, _, by decide, r_floor M1 _ _ (n_ne0 hall), fun v M2 h2 => ⟨by rw [i96]; exact ok_of (N := 192) rfl (by omega) (by decide), ?_⟩⟩
          rw [h2.1, h2.2, nI_1, i96, nI_clamp (by omega), nI_clamp (by omega), hq k2 (by omega), hf.1 79 (by omega)]
          have := ih2 (k2 + 1) (by omega)
          have e : n_fl (256 * part k2) (n_sm part (p + 1)) = s_wt hw a p (M.1 82) (rK M 78 l) k2 := by rw [← hpart]; rfl
          rw [e]
          exact this
      exact inner (p + 1) 0 (by omega)
  have loop2 : ∀ m k M1, k + m = p + 1 → (∀ j, j < k → M1.1 86 j = part j) → (∀ j, j ≤ p → M1.1 85 j = near j) → M1.1 83 = M.1 83 → fr (fun x => x = 83 ∨ x = 85 ∨ x = 86) M M1 → S 119 [.ref 69, .int (nI l), .int (nI p), .int (nI a), .int (nI (a + hw)), .int (s_max near p), .int (n_sm part k), .int (nI k), .null, .null] [] M1 := by
    intro m
    induction m with
    | zero =>
      intro k M1 hk hv hu h83 hf
      have : k = p + 1 := by omega
      subst this
      refine p_Rf_attend_119_1 h ⟨nI_lt (by omega) (by omega), ?_⟩
      exact loop3 _ hw 0 M1 (by omega) (fun i g1 g2 => absurd g2 (by omega)) (fun i _ => by rw [h83]) (fun j hj => hv j (by omega)) hf
    | succ m ih =>
      intro k M1 hk hv hu h83 hf
      have hkk := hpb k (by omega)
      refine p_Rf_attend_119_0 h ⟨nI_nlt (by omega) (by omega), ok_of (N := 12) rfl (by omega) (by decide), 1, _, by decide, r_fade M1 (x := s_max near p - M1.1 85 (nI k).toNatClampNeg) (by rw [nI_clamp (by omega), hu k (by omega), n_le, n_0]; exact hkk.1), fun v M2 hv2 => ⟨ok_of (N := 12) rfl (by omega) (by decide), ok_of (N := 12) rfl (by omega) (by decide), ?_⟩⟩
      rw [hv2.1, hv2.2, nI_1, nI_clamp (by omega), hu k (by omega), q_up_at, ← epart k]
      refine ih (k + 1) _ (by omega) (fun j hj => ?_) (fun j hj => by rw [q_up_ne 85 (by decide)]; exact hu j hj) (by rw [q_up_ne 83 (by decide)]; exact h83) (hf.up (Or.inr (Or.inr rfl)))
      by_cases hjk : j = k
      · subst hjk; rw [q_up_at]
      · rw [q_up_oth hjk]; exact hv j (by omega)
  have loop1 : ∀ m k M1 g, k + m = p + 1 → (0 < k → g = s_max near (k - 1)) → (∀ j, j < k → M1.1 85 j = near j) → fr (fun x => x = 85) M M1 → S 6 [.ref 69, .int (nI l), .int (nI p), .int (nI a), .int (nI (a + hw)), .int g, .int (nI k), .null, .null, .null] [] M1 := by
    intro m
    induction m with
    | zero =>
      intro k M1 g hk hg hv hf
      have : k = p + 1 := by omega
      subst this
      have hg := hg (by omega)
      rw [Nat.add_sub_cancel] at hg
      subst hg
      refine p_Rf_attend_6_1 h ⟨nI_lt (by omega) (by omega), ?_⟩
      exact loop2 (p + 1) 0 M1 (by omega) (fun j hj => absurd hj (by omega)) (fun j hj => hv j (by omega)) (hf.1 83 (by omega)) (hf.mono (fun a ha => by omega))
    | succ m ih =>
      intro k M1 g hk hg hv hf
      refine p_Rf_attend_6_0 h ⟨nI_nlt (by omega) (by omega), ?_⟩
      have e82 : M1.1 82 = M.1 82 := hf.1 82 (by omega)
      have e78 : M1.1 78 = M.1 78 := hf.1 78 (by omega)
      have inner : ∀ m2 k2, k2 + m2 = hw → S 18 [.ref 69, .int (nI l), .int (nI p), .int (nI a), .int (nI (a + hw)), .int g, .int (nI k), .int (n_sm (fun i => M.1 82 (a + i) * rK M 78 l k (a + i)) k2), .int (nI (a + k2)), .null] [] M1 := by
        intro m2
        induction m2 with
        | zero =>
          intro k2 hk2
          have : k2 = hw := by omega
          subst this
          refine p_Rf_attend_18_1 h ⟨nI_le (Nat.le_refl _) (by omega), 0, _, by decide, r_floor M1 _ 16 (by decide), fun v M2 h2 => ⟨ok_of (N := 12) rfl (by omega) (by decide), ?_⟩⟩
          rw [h2.1, h2.2, nI_clamp (by omega)]
          have en : n_fl (n_sm (fun i => M.1 82 (a + i) * rK M 78 l k (a + i)) k2) 16 = near k := by rw [← hnear]; rfl
          rw [en]
          have go : ∀ g', (g' = s_max near k) → S 6 [.ref 69, .int (nI l), .int (nI p), .int (nI a), .int (nI (a + k2)), .int g', .int (nI (k + 1)), .null, .null, .null] [] (q_up M1 85 k (near k)) := fun g' hg' => by
            refine ih (k + 1) _ g' (by omega) (fun _ => hg') (fun j hj => ?_) (hf.up rfl)
            by_cases hjk : j = k
            · subst hjk; rw [q_up_at]
            · rw [q_up_oth hjk]; exact hv j (by omega)
          by_cases hk0 : k = 0
          · subst hk0
            refine p_Rf_attend_78_2 h ⟨rfl, ok_of (N := 12) rfl (by omega) (by decide), ?_⟩
            rw [nI_1, nI_clamp (by omega), q_up_at]
            exact go _ rfl
          · have hg0 := hg (by omega)
            obtain ⟨k', rfl⟩ : ∃ k', k = k' + 1 := ⟨k - 1, by omega⟩
            rw [Nat.add_sub_cancel] at hg0
            have e85 : (q_up M1 85 (k' + 1) (near (k' + 1))).1 85 (nI (k' + 1)).toNatClampNeg = near (k' + 1) := by rw [nI_clamp (by omega), q_up_at]
            by_cases hc : near (k' + 1) ≤ g
            · refine p_Rf_attend_78_1 h ⟨nI_ne0 (by omega) (by omega), ok_of (N := 12) rfl (by omega) (by decide), by rw [e85]; exact hc, ?_⟩
              rw [nI_1]
              refine go _ ?_
              simp only [s_max]
              rw [if_neg (by rw [← hg0]; exact n_nlt.mpr hc)]; exact hg0
            · refine p_Rf_attend_78_0 h ⟨nI_ne0 (by omega) (by omega), ok_of (N := 12) rfl (by omega) (by decide), by rw [e85]; exact hc, ok_of (N := 12) rfl (by omega) (by decide), ?_⟩
              rw [nI_1, e85]
              refine go _ ?_
              simp only [s_max]
              rw [if_pos (by rw [← hg0]; exact n_nle.mp hc)]
        | succ m2 ih2 =>
          intro k2 hk2
          refine p_Rf_attend_18_0 h ⟨nI_ge (by omega) (by omega), ok_of (N := 16) rfl (by omega) (by decide), by rw [i96]; exact ok_of (N := 192) rfl (by omega) (by decide), ?_⟩
          rw [nI_1, i96, nI_clamp (by omega), nI_clamp (by omega), e82, e78]
          exact ih2 (k2 + 1) (by omega)
      exact inner hw 0 (by omega)
  exact p_Rf_attend_0_0 h (loop1 (p + 1) 0 M 0 (by omega) (fun hh => absurd hh (by omega)) (fun j hj => absurd hj (by omega)) (fr.rf M))
