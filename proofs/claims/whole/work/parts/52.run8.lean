/-! THE REFERENCE: begin, output .. kept -/
theorem r_begin0 {M : qM} (h0 : M.1 69 3 = 0) : q_CI TS CL SHP 7 y_Rf_begin [.ref 69] M (fun v M' => v = 0 ∧ M' = q_up M 69 33 1) := by
  refine q_CI.of f_Rf_begin [.ref 69, .null] rfl rfl (fun _ _ _ => ⟨.int, rfl, rfl⟩) (fun S h => ?_)
  refine p_Rf_begin_0_1 h ⟨h0, p_Rf_begin_16_1 h ⟨by rw [q_up_at]; decide, p_Rf_begin_55_0 h ⟨by rw [q_up_at]; decide, rfl, rfl⟩⟩⟩
theorem r_begin2 {M : qM} {c : Nat → Nat} {xs : List Nat} (hc : cOk c) (hL : LR c M) (hB : ∀ x ∈ xs, x < 8) (hx : at_ (M.1 72) 0 xs) (hn : M.1 69 12 = nI xs.length) (h24 : xs.length ≤ 24) (h12 : (toks (M.1 71) (c 5) xs).length < 1 ∨ c 4 < (toks (M.1 71) (c 5) xs).length) :
    q_CI TS CL SHP 7 y_Rf_begin [.ref 69] M (fun v M' => v = 0 ∧ M'.1 69 33 = 2 ∧ (∀ k, k ≠ 14 → k ≠ 33 → M'.1 69 k = M.1 69 k) ∧ fr (fun x => x = 69 ∨ x = 73) M M') := by
  refine q_CI.of f_Rf_begin [.ref 69, .null] rfl rfl (fun _ _ _ => ⟨.int, rfl, rfl⟩) (fun S h => ?_)
  have h4 : c 4 ≤ 12 := hc.2.2.2.2.2.2.1
  have hlen : (toks (M.1 71) (c 5) xs).length ≤ 24 := Nat.le_trans (m_from_len _ _ _) h24
  have hL2 : LR c (q_up M 69 33 0) := hL.up
  have ft := r_findTokens (M := q_up M 69 33 0) (m := c 5) (xs := xs) hL2.2.2 hc.2.2.2.2.2.2.2.1 hL2.1.2.2.2.2.2.1 hB (by rw [q_up_ne 72 (by decide)]; exact hx) (by rw [q33 (by decide)]; exact hn) h24
  rw [q_up_ne 71 (by decide)] at ft
  refine p_Rf_begin_0_0 h ⟨by rw [hL.2.1]; exact n_ne10, p_Rf_begin_16_0 h ⟨by rw [q_up_at], 3, _, by decide, ft, fun M1 g => ?_⟩⟩
  obtain ⟨x1, x2, x3, x4⟩ := g
  have fin : S 55 [.ref 69, .null] [] (q_up M1 69 33 2) := p_Rf_begin_55_0 h ⟨by rw [q_up_at]; decide, rfl, q_up_at, fun k k1 k2 => by rw [q33 k2, x3 k k1, q33 k2], (((fr.rf M).up (by omega)).trans x4).up (by omega)⟩
  by_cases g1 : (toks (M.1 71) (c 5) xs).length < 1
  · exact p_Rf_begin_33_2 h ⟨by rw [x2]; exact nI_lt (b := 1) g1 (by decide), fin⟩
  · refine p_Rf_begin_33_0 h ⟨by rw [x2]; exact nI_nlt (b := 1) (by omega) (by omega), ?_, fin⟩
    rw [x2, x3 8 (by decide), q33 (by decide), hL.1.2.2.2.2.1]
    exact nI_ge (h12.resolve_left g1) (by omega)
set_option maxHeartbeats 1000000 in
theorem r_begin1 {M : qM} {c : Nat → Nat} {xs : List Nat} (hc : cOk c) (hL : LR c M) (hb : ∀ i, bd 128 (M.1 71 i)) (hB : ∀ x ∈ xs, x < 8) (hx : at_ (M.1 72) 0 xs) (hn : M.1 69 12 = nI xs.length) (h24 : xs.length ≤ 24) (h1 : 1 ≤ (toks (M.1 71) (c 5) xs).length) (h2 : (toks (M.1 71) (c 5) xs).length ≤ c 4) :
    q_CI TS CL SHP 7 y_Rf_begin [.ref 69] M (fun v M' => v = nI (toks (M.1 71) (c 5) xs).length ∧ rsR c (M.1 71) ((toks (M.1 71) (c 5) xs).length, 0, tkF (toks (M.1 71) (c 5) xs), fun _ => 0, true) M' ∧ M'.1 69 33 = 0 ∧ (∀ k, k ≠ 14 → k ≠ 17 → k ≠ 18 → k ≠ 19 → k ≠ 21 → k ≠ 33 → M'.1 69 k = M.1 69 k) ∧ fr (fun x => x = 69 ∨ x = 73 ∨ (75 ≤ x ∧ x ≤ 86)) M M') := by
  refine q_CI.of f_Rf_begin [.ref 69, .null] rfl rfl (fun _ _ _ => ⟨.int, rfl, rfl⟩) (fun S h => ?_)
  have h4 : c 4 ≤ 12 := hc.2.2.2.2.2.2.1
  have h5 : c 5 ≤ 8 := hc.2.2.2.2.2.2.2.1
  have hbd : ∀ x ∈ toks (M.1 71) (c 5) xs, x < 8 + (0 + c 5) := m_from_bd (c 5) 0 xs hB
  have hL2 : LR c (q_up M 69 33 0) := hL.up
  have ft := r_findTokens (M := q_up M 69 33 0) (m := c 5) (xs := xs) hL2.2.2 h5 hL2.1.2.2.2.2.2.1 hB (by rw [q_up_ne 72 (by decide)]; exact hx) (by rw [q33 (by decide)]; exact hn) h24
  rw [q_up_ne 71 (by decide)] at ft
  refine p_Rf_begin_0_0 h ⟨by rw [hL.2.1]; exact n_ne10, p_Rf_begin_16_0 h ⟨by rw [q_up_at], 3, _, by decide, ft, fun M1 g => ?_⟩⟩
  generalize hts : toks (M.1 71) (c 5) xs = ts at *
  obtain ⟨x1, x2, x3, x4⟩ := g
  have x3' : ∀ k, k ≠ 14 → k ≠ 33 → M1.1 69 k = M.1 69 k := fun k k1 k2 => by rw [x3 k k1, q33 k2]
  have f1 : fr (fun x => x = 69 ∨ x = 73 ∨ (75 ≤ x ∧ x ≤ 86)) M M1 := ((fr.rf M).up (by omega)).trans (x4.mono (fun a ha => by omega))
  refine p_Rf_begin_33_1 h ⟨by rw [x2]; exact nI_nlt (b := 1) (by omega) (by omega), by rw [x2, x3' 8 (by decide) (by decide), hL.1.2.2.2.2.1]; exact nI_le h2 (by omega), ?_⟩
  refine p_Rf_begin_55_1 h ⟨by rw [q_up_at]; decide, p_Rf_begin_72_0 h ?_⟩
  rw [q33 (by decide), x2]
  generalize hN : q_up (q_up M1 69 33 0) 69 19 (nI ts.length) = N
  have n14 : N.1 69 14 = nI ts.length := by rw [← hN, q_up_oth (by decide), q33 (by decide)]; exact x2
  have n19 : N.1 69 19 = nI ts.length := by rw [← hN, q_up_at]
  have n33 : N.1 69 33 = 0 := by rw [← hN, q_up_oth (by decide), q_up_at]
  have nk : ∀ k, k ≠ 14 → k ≠ 17 → k ≠ 18 → k ≠ 19 → k ≠ 21 → k ≠ 33 → N.1 69 k = M.1 69 k := fun k k1 k2 k3 k4 k5 k6 => by rw [← hN, q_up_oth k4, q33 k6, x3' k k1 k6]
  have n73 : N.1 73 = M1.1 73 := by rw [← hN, q_up_ne 73 (by decide), q_up_ne 73 (by decide)]
  have nf : fr (fun x => x = 69 ∨ x = 73 ∨ (75 ≤ x ∧ x ≤ 86)) M N := by rw [← hN]; exact (f1.up (by omega)).up (by omega)
  have loop : ∀ m p M2, p + m = ts.length → (∀ q, q < p → M2.1 75 q = nI (tkF ts q)) → fr (fun x => x = 75) N M2 → S 74 [.ref 69, .int (nI p)] [] M2 := by
    intro m
    induction m with
    | zero =>
      intro p M2 hp hv hf
      have : p = ts.length := by omega
      subst this
      have e69 : M2.1 69 = N.1 69 := hf.1 69 (by omega)
      refine p_Rf_begin_74_1 h ⟨by rw [e69, n14]; exact nI_le (Nat.le_refl _) (by omega), ⟨rfl, rfl⟩, p_Rf_begin_105_0 h ⟨⟨rfl, rfl⟩, p_Rf_begin_110_0 h ?_⟩⟩
      generalize hP : q_up (q_up (q_up M2 69 17 1) 69 18 0) 69 21 0 = P
      have pk : ∀ k, k ≠ 17 → k ≠ 18 → k ≠ 21 → P.1 69 k = N.1 69 k := fun k k1 k2 k3 => by rw [← hP, q_up_oth k3, q_up_oth k2, q_up_oth k1, e69]
      have p17 : P.1 69 17 = 1 := by rw [← hP, q_up_oth (by decide), q_up_oth (by decide), q_up_at]
      have p18 : P.1 69 18 = 0 := by rw [← hP, q_up_oth (by decide), q_up_at]
      have p21 : P.1 69 21 = 0 := by rw [← hP, q_up_at]
      have px : ∀ x, x ≠ 69 → P.1 x = M2.1 x := fun x hx => by rw [← hP, q_up_ne x hx, q_up_ne x hx, q_up_ne x hx]
      have pf : fr (fun x => x = 69 ∨ x = 73 ∨ (75 ≤ x ∧ x ≤ 86)) M P := by rw [← hP]; exact (((nf.trans (hf.mono (fun a ha => by omega))).up (by omega)).up (by omega)).up (by omega)
      have p71 : P.1 71 = M.1 71 := pf.1 71 (by omega)
      have pHR : HR c P := by
        obtain ⟨a1, a2, a3, a4, a5, a6, a7, a8⟩ := hL.1
        refine ⟨?_, ?_, ?_, ?_, ?_, ?_, ?_, ?_⟩ <;> (rw [pk _ (by decide) (by decide) (by decide), nk _ (by decide) (by decide) (by decide) (by decide) (by decide) (by decide)]; assumption)
      have wk := r_work (M := P) (c := c) (t := tkF ts) (n := ts.length) hc pHR (by rw [p71]; exact hb) h1 h2 (by rw [pk 19 (by decide) (by decide) (by decide)]; exact n19) (fun p hp => ⟨by rw [px 75 (by decide)]; exact hv p hp, by
        have := hbd (tkF ts p) (by unfold tkF; rw [List.getD_eq_getElem?_getD, List.getElem?_eq_getElem hp]; exact List.getElem_mem hp)
        omega⟩)
      rw [p71] at wk
      refine p_Rf_begin_115_0 h ⟨5, _, by decide, wk, fun M3 g => ?_⟩
      obtain ⟨y1, y2, y3⟩ := g
      have z69 : M3.1 69 = P.1 69 := y3.1 69 (by omega)
      have z19 : M3.1 69 19 = nI ts.length := by rw [z69, pk 19 (by decide) (by decide) (by decide)]; exact n19
      refine ⟨z19, ⟨by rw [z69]; exact p17, by rw [z69]; exact p18, z19, by rw [z69]; exact p21, fun p hp => by rw [y3.1 75 (by omega), px 75 (by decide)]; exact hv p hp, y1, y2, fun k hk => absurd hk (by dsimp only; omega)⟩, by rw [z69, pk 33 (by decide) (by decide) (by decide)]; exact n33, fun k k1 k2 k3 k4 k5 k6 => by rw [z69, pk k k2 k3 k5]; exact nk k k1 k2 k3 k4 k5 k6, pf.trans (y3.mono (fun a ha => by omega))⟩
    | succ m ih =>
      intro p M2 hp hv hf
      refine p_Rf_begin_74_0 h ⟨by rw [hf.1 69 (by omega), n14]; exact nI_ge (by omega) (by omega), ok_of (N := 24) rfl (by omega) (by decide), ok_of (N := 12) rfl (by omega) (by decide), ?_⟩
      rw [nI_1, nI_clamp (by omega), hf.1 73 (by omega), n73, at_get x1 (show p < ts.length by omega)]
      refine ih (p + 1) _ (by omega) (fun q hq => ?_) (hf.up rfl)
      by_cases hqp : q = p
      · subst hqp; rw [q_up_at]; rfl
      · rw [q_up_oth hqp]; exact hv q (by omega)
  exact loop ts.length 0 N (by omega) (fun q hq => absurd hq (by omega)) (fr.rf N)
theorem r_output0 {M : qM} (h0 : M.1 69 17 = 0) (i : Int32) : q_CI TS CL SHP 0 y_Rf_output [.ref 69, .int i] M (fun v M' => v = NONE ∧ M' = q_up M 69 33 0) :=
  q_CI.of f_Rf_output [.ref 69, .int i] rfl rfl (fun _ _ _ => ⟨.int, rfl, rfl⟩) (fun _ h => p_Rf_output_0_3 h ⟨by rw [q33 (by decide)]; exact h0, rfl, rfl⟩)
theorem r_output1 {M : qM} {o : Nat} {f : Nat → Nat} (h1 : M.1 69 17 = 1) (ho : o ≤ 12) (h6 : M.1 69 21 = nI o) (hf : ∀ k, k < o → M.1 76 k = nI (f k)) (i : Int32) : q_CI TS CL SHP 0 y_Rf_output [.ref 69, .int i] M (fun v M' => v = s_out o f i ∧ M' = q_up M 69 33 0) := by
  refine q_CI.of f_Rf_output [.ref 69, .int i] rfl rfl (fun _ _ _ => ⟨.int, rfl, rfl⟩) (fun S h => ?_)
  unfold s_out at h
  have g0 : ¬ (q_up M 69 33 0).1 69 17 = 0 := by rw [q33 (by decide), h1]; exact n_ne10
  have e21 : (q_up M 69 33 0).1 69 21 = nI o := by rw [q33 (by decide)]; exact h6
  by_cases g1 : i < 0
  · exact p_Rf_output_0_2 h ⟨g0, g1, by rw [if_neg (fun z => z.1 g1)]; rfl, rfl⟩
  by_cases g2 : i < nI o
  · obtain ⟨n, hn, rfl⟩ := nI_of g1
    have g3 := g2
    rw [nI_ltI hn (by omega)] at g3
    refine p_Rf_output_0_0 h ⟨g0, g1, by rw [e21]; exact n_nle.mpr g2, ok_of (N := 16) rfl (by omega) (by decide), ?_, rfl⟩
    rw [if_pos ⟨g1, g2⟩, nI_clamp hn, q_up_ne 76 (by decide)]; exact hf n g3
  · exact p_Rf_output_0_1 h ⟨g0, g1, by rw [e21]; exact n_nlt.mp g2, by rw [if_neg (fun z => g2 z.2)]; rfl, rfl⟩
theorem r_taken0 {M : qM} (h0 : M.1 69 17 = 0) : q_CI TS CL SHP 0 y_Rf_taken [.ref 69] M (fun v M' => v = 0 ∧ M' = q_up M 69 33 0) :=
  q_CI.of f_Rf_taken [.ref 69] rfl rfl (fun _ _ _ => ⟨.int, rfl, rfl⟩) (fun _ h => p_Rf_taken_0_1 h ⟨by rw [q33 (by decide)]; exact h0, rfl, rfl⟩)
theorem r_taken1 {M : qM} (h1 : M.1 69 17 = 1) : q_CI TS CL SHP 0 y_Rf_taken [.ref 69] M (fun v M' => v = M.1 69 19 ∧ M' = q_up M 69 33 0) :=
  q_CI.of f_Rf_taken [.ref 69] rfl rfl (fun _ _ _ => ⟨.int, rfl, rfl⟩) (fun _ h => p_Rf_taken_0_0 h ⟨by rw [q33 (by decide), h1]; exact n_ne10, q33 (by decide), rfl⟩)
theorem r_running0 {M : qM} (h0 : M.1 69 17 = 0) : q_CI TS CL SHP 0 y_Rf_running [.ref 69] M (fun v M' => v = 0 ∧ M' = q_up M 69 33 0) :=
  q_CI.of f_Rf_running [.ref 69] rfl rfl (fun v M' hv => ⟨.boolean, rfl, by rw [hv.1]; rfl⟩) (fun _ h => p_Rf_running_0_2 h ⟨by rw [q33 (by decide)]; exact h0, rfl, rfl⟩)
theorem r_running1 {M : qM} {g : Bool} (h1 : M.1 69 17 = 1) (h2 : M.1 69 18 = n_tf (!g)) : q_CI TS CL SHP 0 y_Rf_running [.ref 69] M (fun v M' => v = n_tf g ∧ M' = q_up M 69 33 0) := by
  refine q_CI.of f_Rf_running [.ref 69] rfl rfl (fun v M' hv => ⟨.boolean, rfl, by rw [hv.1]; exact n_tf_nar _⟩) (fun _ h => ?_)
  have g0 : ¬ (q_up M 69 33 0).1 69 17 = 0 := by rw [q33 (by decide), h1]; exact n_ne10
  cases g with
  | true => exact p_Rf_running_0_0 h ⟨g0, by rw [q33 (by decide), h2]; rfl, rfl, rfl⟩
  | false => exact p_Rf_running_0_1 h ⟨g0, by rw [q33 (by decide), h2]; exact n_ne10, rfl, rfl⟩
theorem r_sum0 {M : qM} (h0 : M.1 69 17 = 0) (t : Int32) : q_CI TS CL SHP 0 y_Rf_sum [.ref 69, .int t] M (fun v M' => v = NONE ∧ M' = q_up M 69 33 0) :=
  q_CI.of f_Rf_sum [.ref 69, .int t] rfl rfl (fun _ _ _ => ⟨.int, rfl, rfl⟩) (fun _ h => p_Rf_sum_0_3 h ⟨by rw [q33 (by decide)]; exact h0, rfl, rfl⟩)
theorem r_sum1 {M : qM} {c : Nat → Nat} {s : Nat → Int32} (hc : cOk c) (hM : HR c M) (h1 : M.1 69 17 = 1) (hs : ∀ tt, tt < 8 + c 5 → M.1 80 tt = s tt) (t : Int32) : q_CI TS CL SHP 0 y_Rf_sum [.ref 69, .int t] M (fun v M' => v = s_sum (c 5) s t ∧ M' = q_up M 69 33 0) := by
  refine q_CI.of f_Rf_sum [.ref 69, .int t] rfl rfl (fun _ _ _ => ⟨.int, rfl, rfl⟩) (fun _ h => ?_)
  have h8 : c 5 ≤ 8 := hc.2.2.2.2.2.2.2.1
  have g0 : ¬ (q_up M 69 33 0).1 69 17 = 0 := by rw [q33 (by decide), h1]; exact n_ne10
  have e9 : (8 : Int32) + (q_up M 69 33 0).1 69 9 = nI (8 + c 5) := by rw [q33 (by decide), hM.2.2.2.2.2.1]; exact nI_add 8 _
  unfold s_sum at h
  by_cases g1 : t < 0
  · exact p_Rf_sum_0_2 h ⟨g0, g1, by rw [if_neg (fun z => z.1 g1)]; rfl, rfl⟩
  by_cases g2 : t < nI (8 + c 5)
  · obtain ⟨n, hn, rfl⟩ := nI_of g1
    have g3 := g2
    rw [nI_ltI hn (by omega)] at g3
    refine p_Rf_sum_0_0 h ⟨g0, g1, by rw [e9]; exact n_nle.mpr g2, ok_of (N := 16) rfl (by omega) (by decide), ?_, rfl⟩
    rw [if_pos ⟨g1, g2⟩, nI_clamp hn, q_up_ne 80 (by decide)]; exact hs n g3
  · exact p_Rf_sum_0_1 h ⟨g0, g1, by rw [e9]; exact n_nlt.mp g2, by rw [if_neg (fun z => g2 z.2)]; rfl, rfl⟩
theorem r_kept0 {M : qM} (h0 : M.1 69 17 = 0) (l p w i : Int32) : q_CI TS CL SHP 0 y_Rf_kept [.ref 69, .int l, .int p, .int w, .int i] M (fun v M' => v = NONE ∧ M' = q_up M 69 33 0) :=
  q_CI.of f_Rf_kept [.ref 69, .int l, .int p, .int w, .int i, .null, .null] rfl rfl (fun _ _ _ => ⟨.int, rfl, rfl⟩) (fun _ h => p_Rf_kept_0_10 h ⟨by rw [q33 (by decide)]; exact h0, rfl, rfl, rfl⟩)
theorem r_kept1 {M : qM} {c : Nat → Nat} {b : Nat → Int32} {t : Nat → Nat} {n : Nat} (hc : cOk c) (hM : HR c M) (h17 : M.1 69 17 = 1) (hn : M.1 69 19 = nI n) (h12 : n ≤ 12) (hr : rowsR c b t n M) (l p w i : Int32) : q_CI TS CL SHP 0 y_Rf_kept [.ref 69, .int l, .int p, .int w, .int i] M (fun v M' => v = s_kept c n (sK c b t) (sV c b t) l p w i ∧ M' = q_up M 69 33 0) := by
  obtain ⟨hw0, hwm, hw8, hh4, hw2, hw4⟩ := hw_ok hc
  have hc0 := hc.1
  refine q_CI.of f_Rf_kept [.ref 69, .int l, .int p, .int w, .int i, .null, .null] rfl rfl (fun _ _ _ => ⟨.int, rfl, rfl⟩) (fun S h => ?_)
  have no : ¬ s_kOk c n l p w i → (-1000000000 : Int32) = s_kept c n (sK c b t) (sV c b t) l p w i := fun z => by unfold s_kept; rw [if_neg z]; rfl
  have g0 : ¬ (q_up M 69 33 0).1 69 17 = 0 := by rw [q33 (by decide), h17]; exact n_ne10
  have e4 : (q_up M 69 33 0).1 69 4 = nI (c 0) := by rw [q33 (by decide)]; exact hM.1
  have e6 : (q_up M 69 33 0).1 69 6 = nI (c 2) := by rw [q33 (by decide)]; exact hM.2.2.1
  have e19 : (q_up M 69 33 0).1 69 19 = nI n := by rw [q33 (by decide)]; exact hn
  by_cases g1 : l < 0
  · exact p_Rf_kept_0_9 h ⟨g0, g1, rfl, no (fun z => z.1.1 g1), rfl⟩
  by_cases g2 : nI (c 0) ≤ l
  · exact p_Rf_kept_0_8 h ⟨g0, g1, by rw [e4]; exact g2, rfl, no (fun z => n_nlt.mpr g2 z.1.2), rfl⟩
  by_cases g3 : p < 0
  · exact p_Rf_kept_0_7 h ⟨g0, g1, by rw [e4]; exact g2, g3, rfl, no (fun z => z.2.1.1 g3), rfl⟩
  by_cases g4 : nI n ≤ p
  · exact p_Rf_kept_0_6 h ⟨g0, g1, by rw [e4]; exact g2, g3, by rw [e19]; exact g4, rfl, no (fun z => n_nlt.mpr g4 z.2.1.2), rfl⟩
  by_cases g7 : i < 0
  · exact p_Rf_kept_0_5 h ⟨g0, g1, by rw [e4]; exact g2, g3, by rw [e19]; exact g4, g7, rfl, no (fun z => z.2.2.2.1 g7), rfl⟩
  by_cases g8 : nI (c 2) ≤ i
  · exact p_Rf_kept_0_4 h ⟨g0, g1, by rw [e4]; exact g2, g3, by rw [e19]; exact g4, g7, by rw [e6]; exact g8, rfl, no (fun z => n_nlt.mpr g8 z.2.2.2.2), rfl⟩
  by_cases g5 : w < 0
  · exact p_Rf_kept_0_3 h ⟨g0, g1, by rw [e4]; exact g2, g3, by rw [e19]; exact g4, g7, by rw [e6]; exact g8, by decide, g5, no (fun z => z.2.2.1.1 g5), rfl⟩
  by_cases g6 : 1 < w
  · exact p_Rf_kept_0_0 h ⟨g0, g1, by rw [e4]; exact g2, g3, by rw [e19]; exact g4, g7, by rw [e6]; exact g8, by decide, g5, n_nle.mpr g6, no (fun z => z.2.2.1.2 g6), rfl⟩
  have hok : s_kOk c n l p w i := ⟨⟨g1, n_nle.mp g2⟩, ⟨g3, n_nle.mp g4⟩, ⟨g5, g6⟩, ⟨g7, n_nle.mp g8⟩⟩
  obtain ⟨ln, hln, rfl⟩ := nI_of g1
  obtain ⟨pn, hpn, rfl⟩ := nI_of g3
  obtain ⟨jn, hjn, rfl⟩ := nI_of g7
  have a1 : ln < c 0 := (nI_ltI hln (by omega)).mp hok.1.2
  have a2 : pn < n := (nI_ltI hpn (by omega)).mp hok.2.1.2
  have a3 : jn < c 2 := (nI_ltI hjn (by omega)).mp hok.2.2.2.2
  obtain ⟨k1, k2⟩ := hr ln a1 pn a2 jn a3
  by_cases g9 : w = 0
  · refine p_Rf_kept_0_1 h ⟨g0, g1, by rw [e4]; exact g2, g3, by rw [e19]; exact g4, g7, by rw [e6]; exact g8, by decide, g5, n_nlt.mp g6, g9, by rw [i96]; exact ok_of (N := 192) rfl (by omega) (by decide), ?_, rfl⟩
    unfold s_kept
    rw [if_pos hok, if_pos g9, i96, nI_clamp (by omega), nI_clamp hjn, nI_clamp hln, nI_clamp hpn, q_up_ne 78 (by decide)]; exact k1
  · refine p_Rf_kept_0_2 h ⟨g0, g1, by rw [e4]; exact g2, g3, by rw [e19]; exact g4, g7, by rw [e6]; exact g8, by decide, g5, n_nlt.mp g6, g9, by rw [i96]; exact ok_of (N := 192) rfl (by omega) (by decide), ?_, rfl⟩
    unfold s_kept
    rw [if_pos hok, if_neg g9, i96, nI_clamp (by omega), nI_clamp hjn, nI_clamp hln, nI_clamp hpn, q_up_ne 79 (by decide)]; exact k2
