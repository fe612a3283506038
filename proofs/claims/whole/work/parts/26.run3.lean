/-! RUN: a layer -/
def cPos (c : Nat → Nat) (l : Nat) : Nat := cFirst c + l * cLb c
theorem pos_ok {c : Nat → Nat} (hc : cOk c) {l : Nat} (hl : l < c 0) : cPos c l + cLb c ≤ 1500 ∧ cLb c = 2 * c 2 + 4 * (c 2 * c 2) + 2 * (c 2 * c 3) ∧ l < 2 := by
  have hlast : cLast c + c 2 ≤ 1500 := hc.2.2.2.2.2.2.2.2.2.2.2
  have h := Nat.mul_le_mul_right (cLb c) (show l + 1 ≤ c 0 by omega)
  rw [Nat.add_mul, Nat.one_mul] at h
  have h0 := hc.1
  refine ⟨?_, rfl, by omega⟩
  unfold cPos; unfold cLast at hlast; omega
/-- the cells that a layer's work may change -/
def lyr (l p : Nat) (x : Nat) : Prop := (14 ≤ x ∧ x ≤ 20) ∨ x = 21 + (l * 12 + p) ∨ x = 45 + (l * 12 + p)
set_option maxHeartbeats 2000000 in
theorem c_attend {M : qM} {c : Nat → Nat} {l p : Nat} (hc : cOk c) (hM : HC c M) (hl : l < c 0) (hpos : M.1 9 5 = nI p) (hp : p < c 4) (hx : ∀ i, i < c 2 → bd 764 (M.1 14 i)) (hK : ∀ j, j < p → ∀ i, i < c 2 → bd 127 (M.1 (21 + (l * 12 + j)) i)) :
    q_CV TS CL SHP 3 y_Ru_attend [.ref 9, .int (nI l)] M (fun M' => (∀ i, i < c 2 → M'.1 (21 + (l * 12 + p)) i = s_key (M.1 4) (cPos c l) (c 2) (c 7) (M.1 14) i) ∧ (∀ i, i < c 2 → M'.1 (45 + (l * 12 + p)) i = s_val (M.1 4) (cPos c l) (c 2) (c 7) (M.1 14) i) ∧
      (∀ i, i < c 2 → M'.1 14 i = s_att (M.1 4) (cPos c l) (c 2) (c 7) (c 2 / c 1) p (M.1 14) (fun j => M'.1 (21 + (l * 12 + j))) (fun j => M'.1 (45 + (l * 12 + j))) i) ∧ fr (lyr l p) M M') := by
  obtain ⟨hpk, hlb, hl2⟩ := pos_ok hc hl
  obtain ⟨hw0, hwm, hw8, hh4, hw2, hw4⟩ := hw_ok hc
  have h4 : c 4 ≤ 12 := hc.2.2.2.2.2.2.1
  have hr : l * 12 + p < 24 := by omega
  have ew : M.1 3 5 = nI (c 2) := hM.2.2.1
  refine q_CV.of f_Ru_attend [.ref 9, .int (nI l), .null, .null, .null, .null] rfl rfl rfl (fun S h => ?_)
  have hk1 := c_keptRow (M := M) (l := l) (j := p)
  rw [← hpos] at hk1
  refine p_Ru_attend_0_0 h ⟨0, _, by decide, hk1, fun v1 M1 h1 => ?_⟩
  obtain ⟨rfl, e⟩ := h1; obtain rfl := e.symm
  refine ⟨0, _, by decide, c_firstOf hM, fun v2 M2 h2 => ?_⟩
  obtain ⟨rfl, e⟩ := h2; obtain rfl := e.symm
  refine ⟨2, _, by decide, c_norm (g := cPos c l) hc hM (by omega) (N := 8) rfl (by omega) (by omega) (o := 15) (O := 8) rfl (by omega) (by omega) (by decide) hx, fun M3 h3 => ?_⟩
  obtain ⟨n3, f3⟩ := h3
  have hM3 : HC c M3 := hM.to (f3.1 3 (by omega))
  refine ⟨1, _, by decide, c_squareOf (w := 0) hM3, fun v4 M4 h4' => ?_⟩
  obtain ⟨rfl, e⟩ := h4'; obtain rfl := e.symm
  have t5 := c_times (M := M3) (pos := cPos c l + c 2 + 0 * (c 2 * c 2)) (rows := c 2) (n := c 2) (a := 15) (o := 16) (N := 8) (O := 8) hc hM3 (by omega) rfl (by omega) (by omega) rfl (by omega) (by omega) (by decide)
  rw [← ew] at t5
  refine ⟨1, _, by decide, t5, fun M5 h5 => ?_⟩
  obtain ⟨n5, f5⟩ := h5
  have hM5 : HC c M5 := hM3.to (f5.1 3 (by omega))
  refine ⟨1, _, by decide, c_squareOf (w := 1) hM5, fun v6 M6 h6 => ?_⟩
  obtain ⟨rfl, e⟩ := h6; obtain rfl := e.symm
  rw [nI_clamp (show l * 12 + p < 2 ^ 31 by omega)]
  have t7 := c_times (M := M5) (pos := cPos c l + c 2 + 1 * (c 2 * c 2)) (rows := c 2) (n := c 2) (a := 15) (o := 21 + (l * 12 + p)) (N := 8) (O := 8) hc hM5 (by omega) rfl (by omega) (by omega) (kr_ok _ hr) (by omega) (by omega) (by omega)
  rw [← ew] at t7
  refine ⟨vp_in_nI hr (by decide), 1, _, by decide, t7, fun M7 h7 => ?_⟩
  obtain ⟨n7, f7⟩ := h7
  have hM7 : HC c M7 := hM5.to (f7.1 3 (by omega))
  refine ⟨1, _, by decide, c_squareOf (w := 2) hM7, fun v8 M8 h8 => ?_⟩
  obtain ⟨rfl, e⟩ := h8; obtain rfl := e.symm
  have t9 := c_times (M := M7) (pos := cPos c l + c 2 + 2 * (c 2 * c 2)) (rows := c 2) (n := c 2) (a := 15) (o := 45 + (l * 12 + p)) (N := 8) (O := 8) hc hM7 (by omega) rfl (by omega) (by omega) (vr_ok _ hr) (by omega) (by omega) (by omega)
  rw [← ew] at t9
  refine ⟨vp_in_nI hr (by decide), 1, _, by decide, t9, fun M9 h9 => ?_⟩
  obtain ⟨n9, f9⟩ := h9
  have hM9 : HC c M9 := hM7.to (f9.1 3 (by omega))
  -- what stands in M9
  have F9 : fr (lyr l p) M M9 := ((f3.mono (fun a ha => Or.inl (by omega))).trans (f5.mono (fun a ha => Or.inl (by omega)))).trans ((f7.mono (fun a ha => Or.inr (Or.inl ha))).trans (f9.mono (fun a ha => Or.inr (Or.inr ha))))
  have b5 : M3.1 4 = M.1 4 := f3.1 4 (by omega)
  have b7 : M5.1 4 = M.1 4 := (f5.1 4 (by omega)).trans b5
  have b9 : M7.1 4 = M.1 4 := (f7.1 4 (by omega)).trans b7
  have x5 : M5.1 15 = M3.1 15 := f5.1 15 (by omega)
  have x7 : M7.1 15 = M3.1 15 := (f7.1 15 (by omega)).trans x5
  have v16 : ∀ i, i < c 2 → M9.1 16 i = s_ask (M.1 4) (cPos c l) (c 2) (c 7) (M.1 14) i := fun i hi => by
    rw [f9.1 16 (by omega), f7.1 16 (by omega), n5 i hi, b5, Nat.zero_mul, Nat.add_zero]
    exact s_times_ext (fun r hr => n3 r hr)
  have vk : ∀ i, i < c 2 → M9.1 (21 + (l * 12 + p)) i = s_key (M.1 4) (cPos c l) (c 2) (c 7) (M.1 14) i := fun i hi => by
    rw [f9.1 (21 + (l * 12 + p)) (by omega), n7 i hi, b7, x5, Nat.one_mul]
    exact s_times_ext (fun r hr => n3 r hr)
  have vv : ∀ i, i < c 2 → M9.1 (45 + (l * 12 + p)) i = s_val (M.1 4) (cPos c l) (c 2) (c 7) (M.1 14) i := fun i hi => by
    rw [n9 i hi, b9, x7]
    exact s_times_ext (fun r hr => n3 r hr)
  have x14 : M9.1 14 = M.1 14 := by rw [f9.1 14 (by omega), f7.1 14 (by omega), f5.1 14 (by omega), f3.1 14 (by omega)]
  have p9 : M9.1 9 5 = nI p := by rw [F9.1 9 (by unfold lyr; omega)]; exact hpos
  have bk : ∀ j, j ≤ p → ∀ i, i < c 2 → bd 127 (M9.1 (21 + (l * 12 + j)) i) := fun j hj i hi => by
    by_cases hjp : j = p
    · subst hjp; rw [vk i hi]; exact s_times_b _ _ _ _ _ _
    · rw [F9.1 (21 + (l * 12 + j)) (by unfold lyr; omega)]; exact hK j (by omega) i hi
  generalize hhw : c 2 / c 1 = hw at *
  have e11 : ∀ M1, fr (fun x => x = 17 ∨ x = 20) M9 M1 → M1.1 3 11 = nI hw ∧ M1.1 9 5 = nI p ∧ M1.1 3 4 = nI (c 1) := fun M1 hf => by
    rw [hf.1 3 (by omega), hf.1 9 (by omega)]
    exact ⟨by rw [hM9.2.2.2.2.2.2.2.2.1, hhw], p9, hM9.2.1⟩
  -- the heads
  have loop : ∀ m k M1, k + m = c 1 → (∀ i, i < k * hw → M1.1 17 i = s_mix hw p (M9.1 16) (fun j => M9.1 (21 + (l * 12 + j))) (fun j => M9.1 (45 + (l * 12 + j))) i) → fr (fun x => x = 17 ∨ x = 20) M9 M1 → S 125 [.ref 9, .int (nI l), .int (nI (c 2)), .int (nI (l * 12 + p)), .int (nI k), .null] [] M1 := by
    intro m
    induction m with
    | zero =>
      intro k M1 hk hv hf
      have : k = c 1 := by omega
      subst this
      rw [hwm] at hv
      have hM1 : HC c M1 := hM9.to (hf.1 3 (by omega))
      refine p_Ru_attend_125_1 h ⟨by rw [(e11 M1 hf).2.2]; exact nI_le (Nat.le_refl _) (by omega), 1, _, by decide, c_squareOf (w := 3) hM1, fun v2 M2 h2 => ?_⟩
      obtain ⟨rfl, e⟩ := h2; obtain rfl := e.symm
      refine ⟨1, _, by decide, c_times (M := M1) (pos := cPos c l + c 2 + 3 * (c 2 * c 2)) (rows := c 2) (n := c 2) (a := 17) (o := 18) (N := 8) (O := 8) hc hM1 (by omega) rfl (by omega) (by omega) rfl (by omega) (by omega) (by decide), fun M3 h3 => ?_⟩
      obtain ⟨n3, f3⟩ := h3
      have hM3 : HC c M3 := hM1.to (f3.1 3 (by omega))
      refine ⟨0, _, by decide, c_addChange hc hM3, fun M4 h4 => ?_⟩
      obtain ⟨n4, f4⟩ := h4
      have G : ∀ x, ¬ (x = 14 ∨ x = 17 ∨ x = 18 ∨ x = 20) → M4.1 x = M9.1 x := fun x hx => by rw [f4.1 x (by omega), f3.1 x (by omega), hf.1 x (by omega)]
      have ek : ∀ j, M4.1 (21 + (l * 12 + j)) = M9.1 (21 + (l * 12 + j)) := fun j => G _ (by omega)
      have ev : ∀ j, M4.1 (45 + (l * 12 + j)) = M9.1 (45 + (l * 12 + j)) := fun j => G _ (by omega)
      refine ⟨fun i hi => by rw [ek]; exact vk i hi, fun i hi => by rw [ev]; exact vv i hi, fun i hi => ?_, F9.trans ⟨fun a ha => G a (fun z => ha (Or.inl (by omega))), by rw [f4.2, f3.2, hf.2]⟩⟩
      rw [n4 i hi, f3.1 14 (by omega), hf.1 14 (by omega), x14, n3 i hi, hf.1 4 (by omega), F9.1 4 (by unfold lyr; omega)]
      unfold s_att
      rw [show (fun j => M4.1 (21 + (l * 12 + j))) = fun j => M9.1 (21 + (l * 12 + j)) from funext ek, show (fun j => M4.1 (45 + (l * 12 + j))) = fun j => M9.1 (45 + (l * 12 + j)) from funext ev]
      rw [s_times_ext (v' := s_mix hw p (s_ask (M.1 4) (cPos c l) (c 2) (c 7) (M.1 14)) (fun j => M9.1 (21 + (l * 12 + j))) (fun j => M9.1 (45 + (l * 12 + j)))) (fun r hr => ?_)]
      rw [hv r hr]
      exact s_mix_ext (w := c 2) (fun i hi => by have := hw_div hc hi; rw [hhw] at this; exact this) v16 (fun _ _ _ _ => rfl) (fun _ _ _ _ => rfl) hr
    | succ m ih =>
      intro k M1 hk hv hf
      have hM1 : HC c M1 := hM9.to (hf.1 3 (by omega))
      obtain ⟨q11, q5, q4⟩ := e11 M1 hf
      have hkh : k * hw + hw ≤ c 2 := by
        have := Nat.mul_le_mul_right hw (show k + 1 ≤ c 1 by omega)
        rw [Nat.add_mul, Nat.one_mul, hwm] at this; exact this
      have ek : ∀ j, M1.1 (21 + (l * 12 + j)) = M9.1 (21 + (l * 12 + j)) := fun j => hf.1 _ (by omega)
      have hwg := c_weigh (M := M1) (l := l) (a := k * hw) (hw := hw) (p := p) q11 q5 hl2 (by omega) (by omega) (fun i hi => by rw [hf.1 16 (by omega), v16 i (by omega)]; exact s_times_b _ _ _ _ _ _) (fun j hj i hi => by rw [ek]; exact bk j hj i (by omega))
      rw [← nI_mul, ← q11] at hwg
      refine p_Ru_attend_125_0 h ⟨by rw [q4]; exact nI_ge (by omega) (by omega), 2, _, by decide, hwg, fun M2 h2 => ?_⟩
      obtain ⟨n2, f2⟩ := h2
      have q11' : M2.1 3 11 = nI hw := by rw [f2.1 3 (by omega)]; exact q11
      have hbl := c_blend (M := M2) (l := l) (a := k * hw) (hw := hw) (p := p) q11' (by rw [f2.1 9 (by omega)]; exact q5) hl2 (by omega) (by omega)
      rw [← nI_mul, ← q11] at hbl
      refine ⟨2, _, by decide, hbl, fun M3 h3 => ?_⟩
      obtain ⟨n3, u3, f3⟩ := h3
      rw [nI_1]
      refine ih (k + 1) M3 (by omega) (fun i hi => ?_) (hf.trans ((f2.mono (fun a ha => Or.inr ha)).trans (f3.mono (fun a ha => Or.inl ha))))
      rw [Nat.add_mul, Nat.one_mul] at hi
      by_cases hik : i < k * hw
      · rw [u3 i (by omega), f2.1 17 (by omega)]; exact hv i hik
      · rw [n3 i (by omega) hi]
        unfold s_mix
        have hdv : i / hw * hw = k * hw := by
          have : i / hw = k := by
            rw [Nat.div_eq_iff hw0]; omega
          rw [this]
        rw [hdv]
        rw [n_sm_congr (p + 1) (fun j hj => ?_)]
        rw [n2 j (by omega), f2.1 (45 + (l * 12 + j)) (by omega), hf.1 (45 + (l * 12 + j)) (by omega), hf.1 16 (by omega), show (fun j => M1.1 (21 + (l * 12 + j))) = fun j => M9.1 (21 + (l * 12 + j)) from funext ek]
  rw [ew]
  exact loop (c 1) 0 M9 (by omega) (fun i hi => absurd hi (by omega)) (fr.rf M9)
