/-! RUN: mixing, and a token taken in -/
set_option maxHeartbeats 2000000 in
theorem c_mix {M : qM} {c : Nat → Nat} {l : Nat} (hc : cOk c) (hM : HC c M) (hl : l < c 0) (hx : ∀ i, i < c 2 → bd 764 (M.1 14 i)) :
    q_CV TS CL SHP 3 y_Ru_mix [.ref 9, .int (nI l)] M (fun M' => (∀ i, i < c 2 → M'.1 14 i = s_mlp (M.1 4) (cPos c l) (c 2) (c 3) (c 7) (M.1 14) i) ∧ fr (fun x => 14 ≤ x ∧ x ≤ 20) M M') := by
  obtain ⟨hpk, hlb, hl2⟩ := pos_ok hc hl
  obtain ⟨-, -, -, -, hw2, hw4⟩ := hw_ok hc
  have h3a : 4 ≤ c 3 := hc.2.2.2.1
  have h3b : c 3 ≤ 16 := hc.2.2.2.2.1
  have ecm : c 3 * c 2 = c 2 * c 3 := Nat.mul_comm _ _
  refine q_CV.of f_Ru_mix [.ref 9, .int (nI l), .null] rfl rfl rfl (fun S h => ?_)
  refine p_Ru_mix_0_0 h ⟨2, _, by decide, c_secondOf hM, fun v1 M1 h1 => ?_⟩
  obtain ⟨rfl, e⟩ := h1; obtain rfl := e.symm
  refine ⟨2, _, by decide, c_norm (g := cPos c l + c 2 + 4 * (c 2 * c 2)) hc hM (by omega) (N := 8) rfl (by omega) (by omega) (o := 15) (O := 8) rfl (by omega) (by omega) (by decide) hx, fun M2 h2 => ?_⟩
  obtain ⟨n2, f2⟩ := h2
  have hM2 : HC c M2 := hM.to (f2.1 3 (by omega))
  refine ⟨2, _, by decide, c_upOf hM2, fun v3 M3 h3 => ?_⟩
  obtain ⟨rfl, e⟩ := h3; obtain rfl := e.symm
  have t4 := c_times (M := M2) (pos := cPos c l + 2 * c 2 + 4 * (c 2 * c 2)) (rows := c 3) (n := c 2) (a := 15) (o := 19) (N := 8) (O := 16) hc hM2 (by omega) rfl (by omega) (by omega) rfl (by omega) (by omega) (by decide)
  rw [← hM2.2.2.1, ← hM2.2.2.2.1] at t4
  refine ⟨1, _, by decide, t4, fun M4 h4 => ?_⟩
  obtain ⟨n4, f4⟩ := h4
  have hM4 : HC c M4 := hM2.to (f4.1 3 (by omega))
  have F4 : fr (fun x => 14 ≤ x ∧ x ≤ 20) M M4 := (f2.mono (fun a ha => by omega)).trans (f4.mono (fun a ha => by omega))
  have v19 : ∀ r, r < c 3 → M4.1 19 r = s_times (M.1 4) (cPos c l + 2 * c 2 + 4 * (c 2 * c 2)) (c 2) (c 7) (s_norm (c 2) (M.1 14) (fun i => M.1 4 (cPos c l + c 2 + 4 * (c 2 * c 2) + i))) r := fun r hr => by
    rw [n4 r hr, f2.1 4 (by omega)]
    exact s_times_ext (fun i hi => n2 i hi)
  have loop : ∀ m k M1, k + m = c 3 → (∀ r, r < k → M1.1 19 r = s_bent (M.1 4) (cPos c l) (c 2) (c 7) (M.1 14) r) → (∀ r, k ≤ r → M1.1 19 r = M4.1 19 r) → fr (fun x => x = 19) M4 M1 → S 62 [.ref 9, .int (nI l), .int (nI k)] [] M1 := by
    intro m
    induction m with
    | zero =>
      intro k M1 hk hv hu hf
      have hM1 : HC c M1 := hM4.to (hf.1 3 (by omega))
      refine p_Ru_mix_62_1 h ⟨by rw [hM1.2.2.2.1]; exact nI_le (by omega) (by omega), 1, _, by decide, c_downOf hM1, fun v2 M2 h2 => ?_⟩
      obtain ⟨rfl, e⟩ := h2; obtain rfl := e.symm
      have t6 := c_times (M := M1) (pos := cPos c l + 2 * c 2 + 4 * (c 2 * c 2) + c 3 * c 2) (rows := c 2) (n := c 3) (a := 19) (o := 18) (N := 16) (O := 8) hc hM1 (by omega) rfl (by omega) (by omega) rfl (by omega) (by omega) (by decide)
      rw [← hM1.2.2.1, ← hM1.2.2.2.1] at t6
      refine ⟨1, _, by decide, t6, fun M3 h3 => ?_⟩
      obtain ⟨n3, f3⟩ := h3
      have hM3 : HC c M3 := hM1.to (f3.1 3 (by omega))
      refine ⟨0, _, by decide, c_addChange hc hM3, fun M5 h5 => ?_⟩
      obtain ⟨n5, f5⟩ := h5
      refine ⟨fun i hi => ?_, F4.trans (((hf.mono (fun a ha => by omega)).trans (f3.mono (fun a ha => by omega))).trans (f5.mono (fun a ha => by omega)))⟩
      rw [n5 i hi, f3.1 14 (by omega), hf.1 14 (by omega), f4.1 14 (by omega), f2.1 14 (by omega), n3 i hi, hf.1 4 (by omega), F4.1 4 (by omega)]
      unfold s_mlp
      rw [s_times_ext (v' := s_bent (M.1 4) (cPos c l) (c 2) (c 7) (M.1 14)) (fun r hr => hv r (by omega))]
    | succ m ih =>
      intro k M1 hk hv hu hf
      have hM1 : HC c M1 := hM4.to (hf.1 3 (by omega))
      refine p_Ru_mix_62_0 h ⟨by rw [hM1.2.2.2.1]; exact nI_ge (by omega) (by omega), ok_of (N := 16) rfl (by omega) (by decide), 2, _, by decide, c_bend M1 _, fun v M2 h2 => ⟨ok_of (N := 16) rfl (by omega) (by decide), ?_⟩⟩
      rw [h2.1, h2.2, nI_1, nI_clamp (by omega), hu k (Nat.le_refl _), v19 k (by omega)]
      refine ih (k + 1) _ (by omega) (fun r hr => ?_) (fun r hr => by rw [q_up_oth (by omega)]; exact hu r (by omega)) (hf.up rfl)
      by_cases hrk : r = k
      · subst hrk; rw [q_up_at]; rfl
      · rw [q_up_oth hrk]; exact hv r (by omega)
  exact loop (c 3) 0 M4 (by omega) (fun r hr => absurd hr (by omega)) (fun _ _ => rfl) (fr.rf M4)
/-- the numbers of position p behind l layers, of the model c, bytes b, tokens t -/
def sX (c : Nat → Nat) (b : Nat → Int32) (t : Nat → Nat) (l p : Nat) : Nat → Int32 := s_x b (c 2) (c 3) (c 7) (c 2 / c 1) (cMean c) (cPlace c) (cFirst c) (cLb c) t l p
def sK (c : Nat → Nat) (b : Nat → Int32) (t : Nat → Nat) (l p : Nat) : Nat → Int32 := s_key b (cPos c l) (c 2) (c 7) (sX c b t l p)
def sV (c : Nat → Nat) (b : Nat → Int32) (t : Nat → Nat) (l p : Nat) : Nat → Int32 := s_val b (cPos c l) (c 2) (c 7) (sX c b t l p)
theorem sX_0 (c : Nat → Nat) (b : Nat → Int32) (t : Nat → Nat) (p i : Nat) : sX c b t 0 p i = b (cMean c + t p * c 2 + i) + b (cPlace c + p * c 2 + i) := rfl
theorem sX_s (c : Nat → Nat) (b : Nat → Int32) (t : Nat → Nat) (l p i : Nat) : sX c b t (l + 1) p i = s_mlp b (cPos c l) (c 2) (c 3) (c 7) (s_att b (cPos c l) (c 2) (c 7) (c 2 / c 1) p (sX c b t l p) (sK c b t l) (sV c b t l)) i := rfl
theorem n_add_b {x y : Int32} {A B : Int} (hA : A ≤ 1000000) (hB : B ≤ 1000000) (hx : bd A x) (hy : bd B y) : bd (A + B) (x + y) := by
  unfold bd at *
  rw [n_add (by omega) (by omega)]; omega
theorem s_att_b {b : Nat → Int32} {pos w sh hw p : Nat} {x : Nat → Int32} {K V : Nat → Nat → Int32} {i : Nat} {B : Int} (hB : B ≤ 1000000) (h : bd B (x i)) : bd (B + 127) (s_att b pos w sh hw p x K V i) := n_add_b hB (by omega) h (s_times_b _ _ _ _ _ _)
theorem s_mlp_b {b : Nat → Int32} {pos w inner sh : Nat} {x : Nat → Int32} {i : Nat} {B : Int} (hB : B ≤ 1000000) (h : bd B (x i)) : bd (B + 127) (s_mlp b pos w inner sh x i) := n_add_b hB (by omega) h (s_times_b _ _ _ _ _ _)
theorem bd_mono {A B : Int} {x : Int32} (h : bd A x) (hAB : A ≤ B) : bd B x := by unfold bd at *; omega
theorem sX_b {c : Nat → Nat} {b : Nat → Int32} {t : Nat → Nat} (hb : ∀ i, bd 128 (b i)) : ∀ (l p i : Nat), l ≤ 2 → bd (256 + 254 * l) (sX c b t l p i) := by
  intro l
  induction l with
  | zero => intro p i _; rw [sX_0]; exact bd_mono (n_add_b (by omega) (by omega) (hb _) (hb _)) (by omega)
  | succ l ih =>
    intro p i hl
    rw [sX_s]
    exact bd_mono (s_mlp_b (B := 256 + 254 * l + 127) (by omega) (s_att_b (B := 256 + 254 * l) (by omega) (ih p i (by omega)))) (by omega)
theorem s_att_ext {b : Nat → Int32} {pos w sh hw p : Nat} {x x' : Nat → Int32} {K K' V V' : Nat → Nat → Int32} (hdiv : ∀ i, i < w → i / hw * hw + hw ≤ w) (hx : ∀ i, i < w → x i = x' i) (hK : ∀ j, j ≤ p → ∀ i, i < w → K j i = K' j i) (hV : ∀ j, j ≤ p → ∀ i, i < w → V j i = V' j i) {i : Nat} (hi : i < w) : s_att b pos w sh hw p x K V i = s_att b pos w sh hw p x' K' V' i := by
  unfold s_att
  have e : ∀ i, i < w → s_ask b pos w sh x i = s_ask b pos w sh x' i := fun i hi => by unfold s_ask; exact s_times_ext (fun r hr => s_norm_ext hx (fun _ _ => rfl) hr)
  rw [hx i hi, s_times_ext (fun r hr => s_mix_ext hdiv e hK hV hr)]
theorem s_mlp_ext {b : Nat → Int32} {pos w inner sh : Nat} {x x' : Nat → Int32} (hx : ∀ i, i < w → x i = x' i) {i : Nat} (hi : i < w) : s_mlp b pos w inner sh x i = s_mlp b pos w inner sh x' i := by
  unfold s_mlp
  rw [hx i hi, s_times_ext (v := s_bent b pos w sh x) (v' := s_bent b pos w sh x') (fun r hr => by unfold s_bent; rw [s_times_ext (v' := s_norm w x' (fun i => b (pos + w + 4 * (w * w) + i))) (fun k hk => s_norm_ext hx (fun _ _ => rfl) hk)])]
theorem s_key_ext {b : Nat → Int32} {pos w sh : Nat} {x x' : Nat → Int32} (hx : ∀ i, i < w → x i = x' i) (i : Nat) : s_key b pos w sh x i = s_key b pos w sh x' i := by unfold s_key; exact s_times_ext (fun r hr => s_norm_ext hx (fun _ _ => rfl) hr)
theorem s_val_ext {b : Nat → Int32} {pos w sh : Nat} {x x' : Nat → Int32} (hx : ∀ i, i < w → x i = x' i) (i : Nat) : s_val b pos w sh x i = s_val b pos w sh x' i := by unfold s_val; exact s_times_ext (fun r hr => s_norm_ext hx (fun _ _ => rfl) hr)
/-- the class's rows hold the keys and values of the first n positions -/
def rowsC (c : Nat → Nat) (b : Nat → Int32) (t : Nat → Nat) (n : Nat) (M : qM) : Prop := ∀ l, l < c 0 → ∀ j, j < n → ∀ i, i < c 2 → M.1 (21 + (l * 12 + j)) i = sK c b t l j i ∧ M.1 (45 + (l * 12 + j)) i = sV c b t l j i
/-- the sums behind position p -/
def sS (c : Nat → Nat) (b : Nat → Int32) (t : Nat → Nat) (p tt : Nat) : Int32 := s_dot b (cMean c + tt * c 2) (c 2) (s_norm (c 2) (sX c b t (c 0) p) (fun i => b (cLast c + i)))
set_option maxHeartbeats 2000000 in
theorem c_takeIn {M : qM} {c : Nat → Nat} {t : Nat → Nat} {p : Nat} (hc : cOk c) (hM : HC c M) (hb : ∀ i, bd 128 (M.1 4 i)) (hpos : M.1 9 5 = nI p) (hp : p < c 4) (ht : t p < 8 + c 5) (hrows : rowsC c (M.1 4) t p M) :
    q_CV TS CL SHP 4 y_Ru_takeIn [.ref 9, .int (nI (t p))] M (fun M' => rowsC c (M.1 4) t (p + 1) M' ∧ (∀ tt, tt < 8 + c 5 → M'.1 13 tt = sS c (M.1 4) t p tt) ∧ M'.1 9 5 = nI (p + 1) ∧ (∀ k, k ≠ 5 → M'.1 9 k = M.1 9 k) ∧ fr (fun x => x = 9 ∨ (13 ≤ x ∧ x ≤ 68)) M M') := by
  obtain ⟨hw0, hwm, hw8, hh4, hw2, hw4⟩ := hw_ok hc
  have h4 : c 4 ≤ 12 := hc.2.2.2.2.2.2.1
  have h0 := hc.1
  have hlast : cLast c + c 2 ≤ 1500 := hc.2.2.2.2.2.2.2.2.2.2.2
  generalize hbb : M.1 4 = b at *
  refine q_CV.of f_Ru_takeIn [.ref 9, .int (nI (t p)), .null] rfl rfl rfl (fun S h => ?_)
  have ha := c_addMP (M := M) (c := c) (t := t p) (p := p) (a := 14) (N := 8) hc hM ht hp rfl (by omega) (by omega)
  rw [← hpos] at ha
  refine p_Ru_takeIn_0_0 h ⟨0, _, by decide, ha, fun M1 h1 => ?_⟩
  obtain ⟨n1, f1⟩ := h1
  have loop : ∀ m l M1, l + m = c 0 → (∀ i, i < c 2 → M1.1 14 i = sX c b t l p i) → (∀ l', l' < c 0 → ∀ j, j < p → ∀ i, i < c 2 → M1.1 (21 + (l' * 12 + j)) i = sK c b t l' j i ∧ M1.1 (45 + (l' * 12 + j)) i = sV c b t l' j i) → (∀ l', l' < l → ∀ i, i < c 2 → M1.1 (21 + (l' * 12 + p)) i = sK c b t l' p i ∧ M1.1 (45 + (l' * 12 + p)) i = sV c b t l' p i) → fr (fun x => 14 ≤ x ∧ x ≤ 68) M M1 → S 18 [.ref 9, .int (nI (t p)), .int (nI l)] [] M1 := by
    intro m
    induction m with
    | zero =>
      intro l M1 hk hx hr1 hr2 hf
      have : l = c 0 := by omega
      subst this
      have hM1 : HC c M1 := hM.to (hf.1 3 (by omega))
      have hn := c_norm (M := M1) (c := c) (a := 14) (g := cLast c) (o := 15) (N := 8) (O := 8) hc hM1 (by omega) rfl (by omega) (by omega) rfl (by omega) (by omega) (by decide) (fun i hi => by rw [hx i hi]; exact bd_mono (sX_b hb _ _ _ (by omega)) (by omega))
      rw [← hM1.2.2.2.2.2.2.2.2.2.2.2.2.2.2] at hn
      refine p_Ru_takeIn_18_1 h ⟨by rw [hM1.1]; exact nI_le (Nat.le_refl _) (by omega), 2, _, by decide, hn, fun M2 h2 => ?_⟩
      obtain ⟨n2, f2⟩ := h2
      have hM2 : HC c M2 := hM1.to (f2.1 3 (by omega))
      refine ⟨1, _, by decide, c_sumUp (a := 15) (o := 13) (N := 8) (O := 16) hc hM2 rfl (by omega) (by omega) rfl (by omega) (by omega) (by decide), fun M3 h3 => ?_⟩
      obtain ⟨n3, f3⟩ := h3
      have G : ∀ x, ¬ (x = 9 ∨ x = 13 ∨ x = 15) → (q_up M3 9 5 (M3.1 9 5 + 1)).1 x = M1.1 x := fun x hx => by rw [q_up_ne x (by omega), f3.1 x (by omega), f2.1 x (by omega)]
      have e9 : M3.1 9 = M.1 9 := by rw [f3.1 9 (by omega), f2.1 9 (by omega), hf.1 9 (by omega)]
      have b2 : M2.1 4 = b := by rw [f2.1 4 (by omega), hf.1 4 (by omega)]; exact hbb
      refine ⟨fun l' hl' j hj i hi => ?_, fun tt htt => ?_, ?_, fun k hk => ?_, ?_⟩
      · rw [G _ (by omega), G _ (by omega)]
        by_cases hjp : j = p
        · subst hjp; exact hr2 l' hl' i hi
        · exact hr1 l' hl' j (by omega) i hi
      · rw [q_up_ne 13 (by decide), n3 tt htt, b2]
        unfold sS
        refine s_dot_ext (fun i hi => ?_)
        rw [n2 i hi]
        exact s_norm_ext hx (fun i _ => by rw [hf.1 4 (by omega), hbb]) hi
      · rw [q_up_at, e9, hpos, nI_1]
      · rw [q_up_oth hk, e9]
      · exact ⟨fun x hx => by rw [G x (by omega), hf.1 x (by omega)], by show M3.2 = _; rw [f3.2, f2.2, hf.2]⟩
    | succ m ih =>
      intro l M1 hk hx hr1 hr2 hf
      have hM1 : HC c M1 := hM.to (hf.1 3 (by omega))
      have hl : l < c 0 := by omega
      have b1 : M1.1 4 = b := by rw [hf.1 4 (by omega)]; exact hbb
      have bx : ∀ i, i < c 2 → bd (256 + 254 * l) (M1.1 14 i) := fun i hi => by rw [hx i hi]; exact sX_b hb _ _ _ (by omega)
      refine p_Ru_takeIn_18_0 h ⟨by rw [hM1.1]; exact nI_ge (by omega) (by omega), 3, _, by decide, c_attend (p := p) hc hM1 hl (by rw [hf.1 9 (by omega)]; exact hpos) hp (fun i hi => bd_mono (bx i hi) (by omega)) (fun j hj i hi => by rw [(hr1 l hl j hj i hi).1]; exact s_times_b _ _ _ _ _ _), fun M2 h2 => ?_⟩
      obtain ⟨k2, v2, x2, f2⟩ := h2
      rw [b1] at k2 v2 x2
      have f2' : fr (fun x => 14 ≤ x ∧ x ≤ 68) M1 M2 := f2.mono (fun a ha => by unfold lyr at ha; omega)
      have hM2 : HC c M2 := hM1.to (f2'.1 3 (by omega))
      have K2 : ∀ i, i < c 2 → M2.1 (21 + (l * 12 + p)) i = sK c b t l p i := fun i hi => by rw [k2 i hi]; exact s_key_ext hx i
      have V2 : ∀ i, i < c 2 → M2.1 (45 + (l * 12 + p)) i = sV c b t l p i := fun i hi => by rw [v2 i hi]; exact s_val_ext hx i
      have R2 : ∀ l' j, l' < c 0 → j < p → ∀ i, i < c 2 → M2.1 (21 + (l' * 12 + j)) i = sK c b t l' j i ∧ M2.1 (45 + (l' * 12 + j)) i = sV c b t l' j i := fun l' j hl' hj i hi => by
        rw [f2.1 (21 + (l' * 12 + j)) (by unfold lyr; omega), f2.1 (45 + (l' * 12 + j)) (by unfold lyr; omega)]; exact hr1 l' hl' j hj i hi
      have X2 : ∀ i, i < c 2 → M2.1 14 i = s_att b (cPos c l) (c 2) (c 7) (c 2 / c 1) p (sX c b t l p) (sK c b t l) (sV c b t l) i := fun i hi => by
        rw [x2 i hi]
        refine s_att_ext (fun i hi => hw_div hc hi) hx (fun j hj i hi => ?_) (fun j hj i hi => ?_) hi
        · by_cases hjp : j = p
          · subst hjp; exact K2 i hi
          · exact (R2 l j hl (by omega) i hi).1
        · by_cases hjp : j = p
          · subst hjp; exact V2 i hi
          · exact (R2 l j hl (by omega) i hi).2
      refine ⟨3, _, by decide, c_mix hc hM2 hl (fun i hi => by rw [X2 i hi]; exact bd_mono (s_att_b (B := 256 + 254 * l) (by omega) (sX_b hb _ _ _ (by omega))) (by omega)), fun M3 h3 => ?_⟩
      obtain ⟨x3, f3⟩ := h3
      rw [nI_1]
      refine ih (l + 1) M3 (by omega) (fun i hi => ?_) (fun l' hl' j hj i hi => ?_) (fun l' hl' i hi => ?_) ((hf.trans f2').trans (f3.mono (fun a ha => by omega)))
      · rw [x3 i hi, f2'.1 4 (by omega), b1, sX_s]
        exact s_mlp_ext X2 hi
      · rw [f3.1 (21 + (l' * 12 + j)) (by omega), f3.1 (45 + (l' * 12 + j)) (by omega)]; exact R2 l' j hl' hj i hi
      · rw [f3.1 (21 + (l' * 12 + p)) (by omega), f3.1 (45 + (l' * 12 + p)) (by omega)]
        by_cases hll : l' = l
        · subst hll; exact ⟨K2 i hi, V2 i hi⟩
        · rw [f2.1 (21 + (l' * 12 + p)) (by unfold lyr; omega), f2.1 (45 + (l' * 12 + p)) (by unfold lyr; omega)]; exact hr2 l' (by omega) i hi
  refine loop (c 0) 0 M1 (by omega) (fun i hi => ?_) (fun l' hl' j hj i hi => ?_) (fun l' hl' => absurd hl' (by omega)) (f1.mono (fun a ha => by omega))
  · rw [n1 i hi, sX_0, hbb]
  · rw [f1.1 (21 + (l' * 12 + j)) (by omega), f1.1 (45 + (l' * 12 + j)) (by omega)]; exact hrows l' hl' j hj i hi
