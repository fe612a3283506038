/-! WHAT LOAD ANSWERS, on both sides -/
theorem i32_want (f : Nat → Int32) : (9 + 2 * f 6) + (((8 + f 6) + f 5) + 1) * f 3 + f 1 * ((2 * f 3 + (4 * f 3) * f 3) + (2 * f 3) * f 4) = s_want f := by
  unfold s_want
  have e : (((8 + f 6) + f 5) + 1) * f 3 = ((8 + f 6) + f 5) * f 3 + f 3 := by rw [Int32.add_mul, Int32.one_mul]
  rw [e]
  generalize f 1 * ((2 * f 3 + (4 * f 3) * f 3) + (2 * f 3) * f 4) = z
  generalize ((8 + f 6) + f 5) * f 3 = y
  generalize 9 + 2 * f 6 = x
  generalize f 3 = w
  rw [← Int32.add_assoc x y w, Int32.add_assoc, Int32.add_assoc (x + y) z w, Int32.add_comm w z]
theorem c_saidLength (M : qM) : q_CI TS CL SHP 1 y_Im_saidLength [.ref 1] M (fun v M' => v = s_want (M.1 2) ∧ M' = M) := by
  refine q_CI.of f_Im_saidLength [.ref 1, .null, .null] rfl rfl (fun v M' _ => ⟨.int, rfl, rfl⟩) (fun S h => ?_)
  have ok : ∀ i, i < 9 → q_ok SHP 1 2 (nI i) := fun i hi => ok_of (N := 1500) rfl (by omega) (by decide)
  have bl : ∀ a b, q_CI TS CL SHP 0 y_Mo_bytesOfLayer [.int a, .int b] M (fun v M' => v = ((2 * a) + ((4 * a) * a)) + ((2 * a) * b) ∧ M' = M) := fun a b => by
    refine q_CI.of f_Mo_bytesOfLayer [.int a, .int b] rfl rfl (fun v M' _ => ⟨.int, rfl, rfl⟩) (fun S h => ?_)
    exact p_Mo_bytesOfLayer_0_0 h ⟨rfl, rfl⟩
  refine p_Im_saidLength_0_0 h ⟨ok 6 (by decide), ok 5 (by decide), ok 3 (by decide), ok 1 (by decide), ok 3 (by decide), ok 4 (by decide), 0, _, by decide, bl _ _, fun v M1 h1 => ?_⟩
  obtain ⟨rfl, e⟩ := h1; obtain rfl := e.symm
  exact ⟨i32_want (M.1 2), rfl⟩
theorem r_wanted (M : qM) : q_CI TS CL SHP 0 y_Rf_wanted [.ref 69] M (fun v M' => v = s_want (M.1 70) ∧ M' = M) := by
  refine q_CI.of f_Rf_wanted [.ref 69, .null, .null] rfl rfl (fun v M' _ => ⟨.int, rfl, rfl⟩) (fun S h => ?_)
  have ok : ∀ i, i < 9 → q_ok SHP 0 70 (nI i) := fun i hi => ok_of (N := 1500) rfl (by omega) (by decide)
  exact p_Rf_wanted_0_0 h ⟨ok 3 (by decide), ok 4 (by decide), ok 6 (by decide), ok 6 (by decide), ok 5 (by decide), ok 1 (by decide), rfl, rfl⟩
theorem n_half2 {k : Nat} (hk : k < 1000) : nI k / 2 = nI (k / 2) := by
  rw [n_eq, n_div (by decide), nI_toInt (by omega), nI_toInt (by omega), show (2 : Int32).toInt = 2 from rfl]
  rw [Int.tdiv_eq_ediv_of_nonneg (by omega)]
  omega
theorem n_87 {k : Nat} {w : Int32} (hk : k < 1000) : w ≤ 7 + nI k / 2 ↔ w < 8 + nI k / 2 := by
  rw [n_half2 hk, show (7 : Int32) = nI 7 from rfl, show (8 : Int32) = nI 8 from rfl, nI_add, nI_add, n_le, n_lt, nI_toInt (by omega), nI_toInt (by omega)]
  omega
theorem c_pairsHold {M : qM} {m : Nat} (hm : M.1 2 6 = nI m) (h8 : m ≤ 8) : q_CI TS CL SHP 0 y_Im_pairsHold [.ref 1] M (fun v M' => v = n_tf (s_pairs (M.1 2) (2 * m) 0) ∧ M' = M) := by
  refine q_CI.of f_Im_pairsHold [.ref 1, .null, .null] rfl rfl (fun v M' hv => ⟨.boolean, rfl, by rw [hv.1]; exact n_tf_nar _⟩) (fun S h => ?_)
  have ok : ∀ i, i < 100 → q_ok SHP 1 2 (nI i) := fun i hi => ok_of (N := 1500) rfl (by omega) (by decide)
  have e6 : (2 : Int32) * M.1 2 (6 : Int32).toNatClampNeg = nI (2 * m) := by
    show (2 : Int32) * M.1 2 6 = _
    rw [hm, show (2 : Int32) = nI 2 from rfl, nI_mul]
  have e9 : ∀ k, (9 : Int32) + nI k = nI (9 + k) := fun k => by rw [show (9 : Int32) = nI 9 from rfl, nI_add]
  have loop : ∀ n k, k + n = 2 * m → s_pairs (M.1 2) n k = s_pairs (M.1 2) (2 * m) 0 → S 2 [.ref 1, .int (nI k), .null] [] M := by
    intro n
    induction n with
    | zero =>
      intro k hk hv
      refine p_Im_pairsHold_2_3 h ⟨ok 6 (by decide), by rw [e6]; exact nI_le (by omega) (by omega), ?_, rfl⟩
      rw [← hv]; rfl
    | succ n ih =>
      intro k hk hv
      have o9 : q_ok SHP 1 2 (9 + nI k) := by rw [e9]; exact ok _ (by omega)
      have c9 : (9 + nI k).toNatClampNeg = 9 + k := by rw [e9, nI_clamp (by omega)]
      have g0 : ¬ (2 : Int32) * M.1 2 (6 : Int32).toNatClampNeg ≤ nI k := by rw [e6]; exact nI_ge (by omega) (by omega)
      by_cases g1 : M.1 2 (9 + k) < 0
      · refine p_Im_pairsHold_2_2 h ⟨ok 6 (by decide), g0, o9, by rw [c9]; exact g1, ?_, rfl⟩
        rw [← hv]; simp only [s_pairs]; rw [decide_eq_false (fun z => z.1 g1)]; rfl
      · by_cases g2 : M.1 2 (9 + k) < 8 + nI k / 2
        · refine p_Im_pairsHold_2_1 h ⟨ok 6 (by decide), g0, o9, by rw [c9]; exact g1, by decide, by rw [c9]; exact g2, ?_⟩
          rw [nI_1]
          refine ih (k + 1) (by omega) ?_
          rw [← hv]
          conv => rhs; simp only [s_pairs]
          rw [decide_eq_true ⟨g1, g2⟩]
        · refine p_Im_pairsHold_2_0 h ⟨ok 6 (by decide), g0, o9, by rw [c9]; exact g1, by decide, by rw [c9]; exact g2, ?_, rfl⟩
          rw [← hv]; simp only [s_pairs]; rw [decide_eq_false (fun z => g2 z.2)]; rfl
  exact p_Im_pairsHold_0_0 h (loop (2 * m) 0 (by omega) rfl)
theorem s_good6 {f : Nat → Int32} (h : s_good f 6 = true) : ∃ m, m ≤ 8 ∧ f 6 = nI m := by
  obtain ⟨h1, h2⟩ := of_decide_eq_true h
  exact nI_of2 (M := 8) rfl h1 (n_nlt.mp h2)
theorem s_bad_none {f : Nat → Int32} : ∀ n k, s_bad f n k = none → ∀ i, k ≤ i → i < k + n → s_good f i = true := by
  intro n
  induction n with
  | zero => intro k _ i h1 h2; omega
  | succ n ih =>
    intro k hb i h1 h2
    simp only [s_bad] at hb
    split at hb
    · rename_i e
      by_cases hik : i = k
      · subst hik; exact e
      · exact ih (k + 1) hb i (by omega) (by omega)
    · cases hb
theorem c_fault {M : qM} (hb : bd 128 (M.1 2 6)) : q_CI TS CL SHP 2 y_Im_fault [.ref 1] M (fun v M' => v = s_fault (M.1 2) (M.1 1 1) ∧ M' = M) := by
  refine q_CI.of f_Im_fault [.ref 1, .null] rfl rfl (fun v M' _ => ⟨.int, rfl, rfl⟩) (fun S h => ?_)
  by_cases hl : 9 ≤ M.1 1 1
  · have es : s_fault (M.1 2) (M.1 1 1) = (match s_bad (M.1 2) 9 0 with
      | some k => -1 - nI k
      | none => if 9 + 2 * M.1 2 6 ≤ M.1 1 1 then (match s_pairs (M.1 2) (2 * (M.1 2 6).toNatClampNeg) 0 with
        | true => if M.1 1 1 = s_want (M.1 2) then 0 else -11
        | false => -10) else -11) := by unfold s_fault; rw [if_pos hl]; rfl
    have loop : ∀ n k, k + n = 9 → s_bad (M.1 2) n k = s_bad (M.1 2) 9 0 → S 14 [.ref 1, .int (nI k)] [] M := by
      intro n
      induction n with
      | zero =>
        intro k hk hv
        have : k = 9 := by omega
        subst this
        have hv' : s_bad (M.1 2) 9 0 = none := by rw [← hv]; rfl
        obtain ⟨m, hm, e6⟩ := s_good6 (s_bad_none 9 0 hv' 6 (by omega) (by omega))
        have o6 : q_ok SHP 1 2 (6 : Int32) := ok_of (N := 1500) (i := 6) rfl (by omega) (by decide)
        rw [hv'] at es
        dsimp only at es
        by_cases g : 9 + 2 * M.1 2 6 ≤ M.1 1 1
        · rw [if_pos g, e6, nI_clamp (by omega)] at es
          refine p_Im_fault_14_2 h ⟨by decide, o6, g, 0, _, by decide, c_pairsHold e6 hm, fun v M1 h1 => ?_⟩
          obtain ⟨rfl, e⟩ := h1; obtain rfl := e.symm
          cases hp : s_pairs (M.1 2) (2 * m) 0 with
          | false =>
            rw [hp] at es
            exact p_Im_fault_64_0 h ⟨rfl, es.symm, rfl⟩
          | true =>
            rw [hp] at es
            dsimp only at es
            refine p_Im_fault_64_1 h ⟨by decide, 1, _, by decide, c_saidLength M, fun v M1 h1 => ?_⟩
            obtain ⟨rfl, e⟩ := h1; obtain rfl := e.symm
            by_cases g2 : M.1 1 1 = s_want (M.1 2)
            · rw [if_pos g2] at es
              exact p_Im_fault_78_0 h ⟨g2, es.symm, rfl⟩
            · rw [if_neg g2] at es
              exact p_Im_fault_78_1 h ⟨g2, es.symm, rfl⟩
        · rw [if_neg g] at es
          exact p_Im_fault_14_1 h ⟨by decide, o6, g, es.symm, rfl⟩
      | succ n ih =>
        intro k hk hv
        refine p_Im_fault_14_0 h ⟨nI_ge (show k < 9 by omega) (by decide), 0, _, by decide, c_beginningHolds (k := k) (by omega) hb, fun v M1 h1 => ?_⟩
        obtain ⟨rfl, e⟩ := h1; obtain rfl := e.symm
        cases hg : s_good (M.1 2) k with
        | false =>
          refine p_Im_fault_25_0 h ⟨rfl, ?_, rfl⟩
          rw [es, ← hv]
          simp only [s_bad]
          rw [hg]
        | true =>
          refine p_Im_fault_25_1 h ⟨by decide, ?_⟩
          rw [nI_1]
          refine ih (k + 1) (by omega) ?_
          rw [← hv]
          conv => rhs; simp only [s_bad]
          rw [hg]
    exact p_Im_fault_0_1 h ⟨hl, loop 9 0 (by omega) rfl⟩
  · exact p_Im_fault_0_0 h ⟨hl, by unfold s_fault; rw [if_neg hl], rfl⟩
theorem r_faultOf (M : qM) : q_CI TS CL SHP 2 y_Rf_faultOf [.ref 69] M (fun v M' => v = s_fault (M.1 70) (M.1 69 1) ∧ M' = M) := by
  refine q_CI.of f_Rf_faultOf [.ref 69, .null, .null] rfl rfl (fun v M' _ => ⟨.int, rfl, rfl⟩) (fun S h => ?_)
  by_cases hl : 9 ≤ M.1 69 1
  · have es : s_fault (M.1 70) (M.1 69 1) = (match s_bad (M.1 70) 9 0 with
      | some k => -1 - nI k
      | none => if 9 + 2 * M.1 70 6 ≤ M.1 69 1 then (match s_pairs (M.1 70) (2 * (M.1 70 6).toNatClampNeg) 0 with
        | true => if M.1 69 1 = s_want (M.1 70) then 0 else -11
        | false => -10) else -11) := by unfold s_fault; rw [if_pos hl]; rfl
    have o6 : q_ok SHP 0 70 (6 : Int32) := ok_of (N := 1500) (i := 6) rfl (by omega) (by decide)
    have loop : ∀ n k, k + n = 9 → s_bad (M.1 70) n k = s_bad (M.1 70) 9 0 → S 14 [.ref 69, .int (nI k), .null] [] M := by
      intro n
      induction n with
      | zero =>
        intro k hk hv
        have : k = 9 := by omega
        subst this
        have hv' : s_bad (M.1 70) 9 0 = none := by rw [← hv]; rfl
        obtain ⟨m, hm, e6⟩ := s_good6 (s_bad_none 9 0 hv' 6 (by omega) (by omega))
        rw [hv'] at es
        dsimp only at es
        by_cases g : 9 + 2 * M.1 70 6 ≤ M.1 69 1
        · rw [if_pos g, e6, nI_clamp (by omega)] at es
          have e62 : (2 : Int32) * M.1 70 (6 : Int32).toNatClampNeg = nI (2 * m) := by
            show (2 : Int32) * M.1 70 6 = _
            rw [e6, show (2 : Int32) = nI 2 from rfl, nI_mul]
          have e9 : ∀ k, (9 : Int32) + nI k = nI (9 + k) := fun k => by rw [show (9 : Int32) = nI 9 from rfl, nI_add]
          have ploop : ∀ n k, k + n = 2 * m → s_pairs (M.1 70) n k = s_pairs (M.1 70) (2 * m) 0 → S 62 [.ref 69, .int (nI k), .null] [] M := by
            intro n
            induction n with
            | zero =>
              intro k hk hv
              refine p_Rf_faultOf_62_3 h ⟨o6, by rw [e62]; exact nI_le (by omega) (by omega), 0, _, by decide, r_wanted M, fun v M1 h1 => ?_⟩
              obtain ⟨rfl, e⟩ := h1; obtain rfl := e.symm
              have hp : s_pairs (M.1 70) (2 * m) 0 = true := by rw [← hv]; rfl
              rw [hp] at es
              dsimp only at es
              by_cases g2 : M.1 69 1 = s_want (M.1 70)
              · rw [if_pos g2] at es
                exact p_Rf_faultOf_116_0 h ⟨g2, es.symm, rfl⟩
              · rw [if_neg g2] at es
                exact p_Rf_faultOf_116_1 h ⟨g2, es.symm, rfl⟩
            | succ n ih =>
              intro k hk hv
              have o9 : q_ok SHP 0 70 (9 + nI k) := by rw [e9]; exact ok_of (N := 1500) rfl (by omega) (by decide)
              have c9 : (9 + nI k).toNatClampNeg = 9 + k := by rw [e9, nI_clamp (by omega)]
              have g0 : ¬ (2 : Int32) * M.1 70 (6 : Int32).toNatClampNeg ≤ nI k := by rw [e62]; exact nI_ge (by omega) (by omega)
              by_cases g1 : M.1 70 (9 + k) < 0
              · refine p_Rf_faultOf_62_2 h ⟨o6, g0, o9, by rw [c9]; exact g1, ?_, rfl⟩
                have hp : s_pairs (M.1 70) (2 * m) 0 = false := by rw [← hv]; simp only [s_pairs]; rw [decide_eq_false (fun z => z.1 g1)]
                rw [es, hp]
              · by_cases g2 : M.1 70 (9 + k) < 8 + nI k / 2
                · refine p_Rf_faultOf_62_1 h ⟨o6, g0, o9, by rw [c9]; exact g1, by decide, by rw [c9]; exact (n_87 (by omega)).mpr g2, ?_⟩
                  rw [nI_1]
                  refine ih (k + 1) (by omega) ?_
                  rw [← hv]
                  conv => rhs; simp only [s_pairs]
                  rw [decide_eq_true ⟨g1, g2⟩]
                · refine p_Rf_faultOf_62_0 h ⟨o6, g0, o9, by rw [c9]; exact g1, by decide, by rw [c9]; exact fun z => g2 ((n_87 (by omega)).mp z), ?_, rfl⟩
                  have hp : s_pairs (M.1 70) (2 * m) 0 = false := by rw [← hv]; simp only [s_pairs]; rw [decide_eq_false (fun z => g2 z.2)]
                  rw [es, hp]
          exact p_Rf_faultOf_14_2 h ⟨by decide, o6, g, ploop (2 * m) 0 (by omega) rfl⟩
        · rw [if_neg g] at es
          exact p_Rf_faultOf_14_1 h ⟨by decide, o6, g, es.symm, rfl⟩
      | succ n ih =>
        intro k hk hv
        refine p_Rf_faultOf_14_0 h ⟨nI_ge (show k < 9 by omega) (by decide), 0, _, by decide, r_isGood (k := k) (by omega), fun v M1 h1 => ?_⟩
        obtain ⟨rfl, e⟩ := h1; obtain rfl := e.symm
        cases hg : s_good (M.1 70) k with
        | false =>
          refine p_Rf_faultOf_25_0 h ⟨rfl, ?_, rfl⟩
          rw [es, ← hv]
          simp only [s_bad]
          rw [hg]
        | true =>
          refine p_Rf_faultOf_25_1 h ⟨by decide, ?_⟩
          rw [nI_1]
          refine ih (k + 1) (by omega) ?_
          rw [← hv]
          conv => rhs; simp only [s_bad]
          rw [hg]
    exact p_Rf_faultOf_0_1 h ⟨hl, loop 9 0 (by omega) rfl⟩
  · exact p_Rf_faultOf_0_0 h ⟨hl, by unfold s_fault; rw [if_neg hl], rfl⟩
