/-! THE REFERENCE: all of a run's numbers anew -/
/-- the reference's rows hold the keys and values of the first n positions -/
def rowsR (c : Nat → Nat) (b : Nat → Int32) (t : Nat → Nat) (n : Nat) (M : qM) : Prop := ∀ l, l < c 0 → ∀ p, p < n → ∀ i, i < c 2 → M.1 78 (96 * l + 8 * p + i) = sK c b t l p i ∧ M.1 79 (96 * l + 8 * p + i) = sV c b t l p i
set_option maxHeartbeats 4000000 in
theorem r_work {M : qM} {c : Nat → Nat} {t : Nat → Nat} {n : Nat} (hc : cOk c) (hM : HR c M) (hb : ∀ i, bd 128 (M.1 71 i)) (hn1 : 1 ≤ n) (hn : n ≤ c 4) (ht : M.1 69 19 = nI n) (htk : ∀ p, p < n → M.1 75 p = nI (t p) ∧ t p < 8 + c 5) :
    q_CV TS CL SHP 5 y_Rf_work [.ref 69] M (fun M' => rowsR c (M.1 71) t n M' ∧ (∀ tt, tt < 8 + c 5 → M'.1 80 tt = sS c (M.1 71) t (n - 1) tt) ∧ fr (fun x => 77 ≤ x ∧ x ≤ 86) M M') := by
  obtain ⟨hw0, hwm, hw8, hh4, hw2, hw4⟩ := hw_ok hc
  have h4 : c 4 ≤ 12 := hc.2.2.2.2.2.2.1
  have h5 : c 5 ≤ 8 := hc.2.2.2.2.2.2.2.1
  have h0 := hc.1
  have hlast : cLast c + c 2 ≤ 1500 := hc.2.2.2.2.2.2.2.2.2.2.2
  generalize hbb : M.1 71 = b at *
  refine q_CV.of f_Rf_work [.ref 69, .null, .null, .null, .null] rfl rfl rfl (fun S h => ?_)
  have loopS : ∀ m k M1, k + m = 8 + c 5 → (∀ i, i < c 2 → M1.1 81 i = s_norm (c 2) (sX c b t (c 0) (n - 1)) (fun i => b (cLast c + i)) i) → rowsR c b t n M1 → (∀ tt, tt < k → M1.1 80 tt = sS c b t (n - 1) tt) → fr (fun x => 77 ≤ x ∧ x ≤ 86) M M1 → S 123 [.ref 69, .int (nI k), .null, .null, .null] [] M1 := by
    intro m
    induction m with
    | zero =>
      intro k M1 hk h81 hr hs hf
      have hM1 : HR c M1 := hM.to (hf.1 69 (by omega))
      refine p_Rf_work_123_1 h ⟨by rw [hM1.2.2.2.2.2.1, show (8 : Int32) = nI 8 from rfl, nI_add]; exact nI_le (by omega) (by omega), hr, fun tt htt => hs tt (by omega), hf⟩
    | succ m ih =>
      intro k M1 hk h81 hr hs hf
      have hM1 : HR c M1 := hM.to (hf.1 69 (by omega))
      have t1 : k * c 2 + c 2 ≤ (8 + c 5) * c 2 := by
        have := Nat.mul_le_mul_right (c 2) (show k + 1 ≤ 8 + c 5 by omega); rw [Nat.add_mul, Nat.one_mul] at this; exact this
      have bnd : cMean c + k * c 2 + c 2 ≤ 1500 := by unfold cLast cFirst cPlace at hlast; omega
      refine p_Rf_work_123_0 h ⟨by rw [hM1.2.2.2.2.2.1, show (8 : Int32) = nI 8 from rfl, nI_add]; exact nI_ge (by omega) (by omega), 0, _, by decide, r_meaningAt hM1, fun v M2 h2 => ?_⟩
      obtain ⟨rfl, e⟩ := h2; obtain rfl := e.symm
      have inner : ∀ m2 j, j + m2 = c 2 → S 145 [.ref 69, .int (nI k), .int (n_sm (fun i => b (cMean c + k * c 2 + i) * M1.1 81 i) j), .int (nI (cMean c + k * c 2)), .int (nI j)] [] M1 := by
        intro m2
        induction m2 with
        | zero =>
          intro j hj
          have : j = c 2 := by omega
          subst this
          refine p_Rf_work_145_1 h ⟨by rw [hM1.2.2.1]; exact nI_le (Nat.le_refl _) (by omega), ok_of (N := 16) rfl (by omega) (by decide), ?_⟩
          rw [nI_1, nI_clamp (by omega)]
          refine ih (k + 1) _ (by omega) (fun i hi => by rw [q_up_ne 81 (by decide)]; exact h81 i hi) (fun l hl p hp i hi => by rw [q_up_ne 78 (by decide), q_up_ne 79 (by decide)]; exact hr l hl p hp i hi) (fun tt htt => ?_) (hf.up (by omega))
          by_cases hk2 : tt = k
          · subst hk2
            rw [q_up_at]
            exact n_sm_congr (c 2) (fun i hi => by rw [h81 i hi])
          · rw [q_up_oth hk2]; exact hs tt (by omega)
        | succ m2 ih2 =>
          intro j hj
          refine p_Rf_work_145_0 h ⟨by rw [hM1.2.2.1]; exact nI_ge (by omega) (by omega), by rw [nI_add]; exact ok_of (N := 1500) rfl (by omega) (by decide), ok_of (N := 16) rfl (by omega) (by decide), ?_⟩
          rw [nI_1, nI_add, nI_clamp (by omega), nI_clamp (by omega), hf.1 71 (by omega), hbb]
          exact ih2 (j + 1) (by omega)
      exact inner (c 2) 0 (by omega)
  have loopL : ∀ m l M1, l + m = c 0 → (∀ p, p < n → ∀ i, i < c 2 → M1.1 77 (8 * p + i) = sX c b t l p i) → (∀ l', l' < l → ∀ p, p < n → ∀ i, i < c 2 → M1.1 78 (96 * l' + 8 * p + i) = sK c b t l' p i ∧ M1.1 79 (96 * l' + 8 * p + i) = sV c b t l' p i) → fr (fun x => 77 ≤ x ∧ x ≤ 86) M M1 → S 84 [.ref 69, .int (nI l), .null, .null, .null] [] M1 := by
    intro m
    induction m with
    | zero =>
      intro l M1 hl hx hr hf
      have hM1 : HR c M1 := hM.to (hf.1 69 (by omega))
      have : l = c 0 := by omega
      subst this
      have la := r_layerAt (M := M1) (c := c) (l := c 0) hM1
      rw [← hM1.1] at la
      refine p_Rf_work_84_1 h ⟨by rw [hM1.1]; exact nI_le (Nat.le_refl _) (by omega), 2, _, by decide, la, fun v M2 h2 => ?_⟩
      obtain ⟨rfl, e⟩ := h2; obtain rfl := e.symm
      have e19 : M1.1 69 19 - 1 = nI (n - 1) := by
        rw [hf.1 69 (by omega), ht]
        obtain ⟨k, rfl⟩ : ∃ k, n = k + 1 := ⟨n - 1, by omega⟩
        rw [nI_pred, Nat.add_sub_cancel]
      have nn := r_norm (M := M1) (c := c) (p := n - 1) (g := cPos c (c 0)) hc hM1 (by omega) (show cLast c + c 2 ≤ 1500 from hlast) (fun i hi => by rw [hx (n - 1) (by omega) i hi]; exact bd_mono (sX_b hb _ _ _ (by omega)) (by omega))
      rw [← e19] at nn
      refine ⟨1, _, by decide, nn, fun M3 h3 => ?_⟩
      obtain ⟨n3, f3⟩ := h3
      refine loopS (8 + c 5) 0 M3 (by omega) (fun i hi => ?_) (fun l hl p hp i hi => by rw [f3.1 78 (by omega), f3.1 79 (by omega)]; exact hr l hl p hp i hi) (fun tt htt => absurd htt (by omega)) (hf.trans (f3.mono (fun a ha => by omega)))
      rw [n3 i hi, hf.1 71 (by omega), hbb]
      exact s_norm_ext (fun i hi => hx (n - 1) (by omega) i hi) (fun _ _ => rfl) hi
    | succ m ih =>
      intro l M1 hl hx hr hf
      have hM1 : HR c M1 := hM.to (hf.1 69 (by omega))
      have b1 : M1.1 71 = b := by rw [hf.1 71 (by omega)]; exact hbb
      refine p_Rf_work_84_0 h ⟨by rw [hM1.1]; exact nI_ge (by omega) (by omega), 4, _, by decide, r_layer (n := n) hc hM1 (by omega) (by rw [hf.1 69 (by omega)]; exact ht) (by omega) (fun p hp i hi => by rw [hx p hp i hi]; exact sX_b hb _ _ _ (by omega)), fun M2 h2 => ?_⟩
      obtain ⟨x2, k2, u2, f2⟩ := h2
      rw [b1] at x2 k2
      rw [nI_1]
      have ek : ∀ p, p < n → ∀ i, i < c 2 → s_key b (cPos c l) (c 2) (c 7) (fun i => M1.1 77 (8 * p + i)) i = sK c b t l p i := fun p hp i hi => s_key_ext (fun i hi => hx p hp i hi) i
      have ev : ∀ p, p < n → ∀ i, i < c 2 → s_val b (cPos c l) (c 2) (c 7) (fun i => M1.1 77 (8 * p + i)) i = sV c b t l p i := fun p hp i hi => s_val_ext (fun i hi => hx p hp i hi) i
      refine ih (l + 1) M2 (by omega) (fun p hp i hi => ?_) (fun l' hl' p hp i hi => ?_) (hf.trans (f2.mono (fun a ha => by omega)))
      · rw [x2 p hp i hi, sX_s]
        exact s_mlp_ext (fun i hi => s_att_ext (fun i hi => hw_div hc hi) (fun i hi => hx p hp i hi) (fun j hj i hi => ek j (by omega) i hi) (fun j hj i hi => ev j (by omega) i hi) hi) hi
      · by_cases hll : l' = l
        · subst hll
          have := k2 p hp i hi
          rw [ek p hp i hi, ev p hp i hi] at this
          exact this
        · have := u2 (96 * l' + 8 * p + i) (by omega)
          rw [this.1, this.2]
          exact hr l' (by omega) p hp i hi
  have loopX : ∀ m p M1, p + m = n → (∀ q, q < p → ∀ i, i < c 2 → M1.1 77 (8 * q + i) = sX c b t 0 q i) → fr (fun x => x = 77) M M1 → S 2 [.ref 69, .int (nI p), .null, .null, .null] [] M1 := by
    intro m
    induction m with
    | zero =>
      intro p M1 hp hx hf
      refine p_Rf_work_2_1 h ⟨by rw [hf.1 69 (by omega), ht]; exact nI_le (by omega) (by omega), ?_⟩
      exact loopL (c 0) 0 M1 (by omega) (fun q hq i hi => hx q (by omega) i hi) (fun l' hl' => absurd hl' (by omega)) (hf.mono (fun a ha => by omega))
    | succ m ih =>
      intro p M1 hp hx hf
      have hM1 : HR c M1 := hM.to (hf.1 69 (by omega))
      obtain ⟨etk, htk2⟩ := htk p (by omega)
      have e75 : M1.1 75 (nI p).toNatClampNeg = nI (t p) := by rw [nI_clamp (by omega), hf.1 75 (by omega)]; exact etk
      have t1 : t p * c 2 + c 2 ≤ (8 + c 5) * c 2 := by
        have := Nat.mul_le_mul_right (c 2) (show t p + 1 ≤ 8 + c 5 by omega); rw [Nat.add_mul, Nat.one_mul] at this; exact this
      have t2 : p * c 2 + c 2 ≤ c 4 * c 2 := by
        have := Nat.mul_le_mul_right (c 2) (show p + 1 ≤ c 4 by omega); rw [Nat.add_mul, Nat.one_mul] at this; exact this
      have bn1 : cMean c + t p * c 2 + c 2 ≤ 1500 := by unfold cLast cFirst cPlace at hlast; omega
      have bn2 : cPlace c + p * c 2 + c 2 ≤ 1500 := by unfold cLast cFirst at hlast; omega
      have mm := r_meaningAt (M := M1) (c := c) (t := t p) hM1
      rw [← e75] at mm
      refine p_Rf_work_2_0 h ⟨by rw [hf.1 69 (by omega), ht]; exact nI_ge (by omega) (by omega), ok_of (N := 12) rfl (by omega) (by decide), 0, _, by decide, mm, fun v M2 h2 => ?_⟩
      obtain ⟨rfl, e⟩ := h2; obtain rfl := e.symm
      refine ⟨1, _, by decide, r_placeAt hM1, fun v M3 h3 => ?_⟩
      obtain ⟨rfl, e⟩ := h3; obtain rfl := e.symm
      have inner : ∀ m2 k M3, k + m2 = c 2 → (∀ q, q < p → ∀ i, i < c 2 → M3.1 77 (8 * q + i) = sX c b t 0 q i) → (∀ i, i < k → M3.1 77 (8 * p + i) = sX c b t 0 p i) → fr (fun x => x = 77) M M3 → S 30 [.ref 69, .int (nI p), .int (nI (cMean c + t p * c 2)), .int (nI (cPlace c + p * c 2)), .int (nI k)] [] M3 := by
        intro m2
        induction m2 with
        | zero =>
          intro k M3 hk hx3 hy3 hf3
          have hM3 : HR c M3 := hM.to (hf3.1 69 (by omega))
          refine p_Rf_work_30_1 h ⟨by rw [hM3.2.2.1]; exact nI_le (by omega) (by omega), ?_⟩
          rw [nI_1]
          refine ih (p + 1) M3 (by omega) (fun q hq i hi => ?_) hf3
          by_cases hqp : q = p
          · subst hqp; exact hy3 i (by omega)
          · exact hx3 q (by omega) i hi
        | succ m2 ih2 =>
          intro k M3 hk hx3 hy3 hf3
          have hM3 : HR c M3 := hM.to (hf3.1 69 (by omega))
          refine p_Rf_work_30_0 h ⟨by rw [hM3.2.2.1]; exact nI_ge (by omega) (by omega), by rw [nI_add]; exact ok_of (N := 1500) rfl (by omega) (by decide), by rw [nI_add]; exact ok_of (N := 1500) rfl (by omega) (by decide), by rw [i8]; exact ok_of (N := 96) rfl (by omega) (by decide), ?_⟩
          rw [nI_1, i8, nI_add, nI_add, nI_clamp (by omega), nI_clamp (by omega), nI_clamp (by omega), hf3.1 71 (by omega), hbb]
          refine ih2 (k + 1) _ (by omega) (fun q hq i hi => by rw [q_up_oth (by omega)]; exact hx3 q hq i hi) (fun i hi => ?_) (hf3.up rfl)
          by_cases hik : i = k
          · subst hik; rw [q_up_at, sX_0]
          · rw [q_up_oth (by omega)]; exact hy3 i (by omega)
      exact inner (c 2) 0 M1 (by omega) hx (fun i hi => absurd hi (by omega)) hf
  exact p_Rf_work_0_0 h (loopX n 0 M (by omega) (fun q hq => absurd hq (by omega)) (fr.rf M))
