/-! THE REFERENCE: begin, step, next, go; output .. kept -/
theorem rowsR_ext {c : Nat → Nat} {b : Nat → Int32} {t t' : Nat → Nat} {n : Nat} {M : qM} (hc : cOk c) (h : ∀ q, q < n → t q = t' q) (hr : rowsR c b t n M) : rowsR c b t' n M := fun l hl j hj i hi => by
  obtain ⟨h1, h2⟩ := hr l hl j hj i hi
  exact ⟨h1.trans (sK_ext hc (fun q hq => h q (by omega))), h2.trans (sV_ext hc (fun q hq => h q (by omega)))⟩
set_option maxHeartbeats 4000000 in
theorem r_step {M : qM} {c : Nat → Nat} {r : RS} (hc : cOk c) (hM : HR c M) (hb : ∀ i, bd 128 (M.1 71 i)) (hr : rsR c (M.1 71) r M) (ho : rsOk c r) (hg : r.2.2.2.2 = true) :
    q_CI TS CL SHP 6 y_Rf_step [.ref 69] M (fun v M' => v = nI (rsBest c (M.1 71) r) ∧ rsR c (M.1 71) (rsStep c (M.1 71) r) M' ∧ (∀ k, k ≠ 18 → k ≠ 19 → k ≠ 21 → M'.1 69 k = M.1 69 k) ∧ fr (fun x => x = 69 ∨ (75 ≤ x ∧ x ≤ 86)) M M') := by
  have h4 : c 4 ≤ 12 := hc.2.2.2.2.2.2.1
  have h5 : c 5 ≤ 8 := hc.2.2.2.2.2.2.2.1
  have h6 : c 6 < 8 + c 5 := hc.2.2.2.2.2.2.2.2.1
  obtain ⟨o1, o2, o3, o4, o5⟩ := ho
  have o4 := o4 hg
  obtain ⟨r1, r2, r3, r4, r5, r6, r7, r8⟩ := hr
  refine q_CI.of f_Rf_step [.ref 69, .null, .null] rfl rfl (fun _ _ _ => ⟨.int, rfl, rfl⟩) (fun S h => ?_)
  generalize hbest : rsBest c (M.1 71) r = best at *
  have hbl : best < 8 + c 5 := by rw [← hbest]; exact rsBest_lt
  have ebest : s_best (M.1 80) (7 + c 5) = best := by
    rw [← hbest]
    exact s_best_ext _ (fun i hi => r7 i (by omega))
  have e89 : (8 : Int32) + M.1 69 9 = nI (8 + c 5) := by rw [hM.2.2.2.2.2.1]; exact nI_add 8 _
  have fin : S 4 [.ref 69, .int (nI best), .int (nI (8 + c 5))] [] M := by
    have g0 : 8 + M.1 69 9 ≤ nI (8 + c 5) := by rw [e89]; exact nI_le (Nat.le_refl _) (by omega)
    have o76 : q_ok SHP 0 76 (M.1 69 21) := by rw [r4]; exact ok_of (N := 16) rfl (by omega) (by decide)
    have e1 : (q_up M 76 (M.1 69 21).toNatClampNeg (nI best)).1 69 21 + 1 = nI (r.2.1 + 1) := by rw [q_up_ne 69 (by decide), r4, nI_1]
    have e2 : (M.1 69 21).toNatClampNeg = r.2.1 := by rw [r4, nI_clamp (by omega)]
    generalize hN : q_up (q_up M 76 r.2.1 (nI best)) 69 21 (nI (r.2.1 + 1)) = N
    have nk : ∀ k, k ≠ 21 → N.1 69 k = M.1 69 k := fun k hk => by rw [← hN, q_up_oth hk, q_up_ne 69 (by decide)]
    have nx : ∀ x, x ≠ 69 → x ≠ 76 → N.1 x = M.1 x := fun x h1 h2 => by rw [← hN, q_up_ne x h1, q_up_ne x h2]
    have n21 : N.1 69 21 = nI (r.2.1 + 1) := by rw [← hN, q_up_at]
    have n76 : ∀ k, k < r.2.1 + 1 → N.1 76 k = nI (rsUp r.2.2.2.1 r.2.1 best k) := fun k hk => by
      rw [← hN, q_up_ne 76 (by decide)]
      unfold rsUp
      by_cases q : k = r.2.1
      · rw [q, q_up_at, if_pos rfl]
      · rw [q_up_oth q, if_neg q]; exact r8 k (by omega)
    have nf : fr (fun x => x = 69 ∨ (75 ≤ x ∧ x ≤ 86)) M N := by rw [← hN]; exact ((fr.rf M).up (by omega)).up (by omega)
    have stop3 : N.1 69 10 = nI (c 6) := by rw [nk 10 (by decide)]; exact hM.2.2.2.2.2.2.1
    have ctx3 : N.1 69 8 = nI (c 4) := by rw [nk 8 (by decide)]; exact hM.2.2.2.2.1
    have n19 : N.1 69 19 = nI r.1 := by rw [nk 19 (by decide)]; exact r3
    have ended : (best = c 6 ∨ r.1 = c 4) → (nI best = nI best ∧ rsR c (M.1 71) (rsStep c (M.1 71) r) (q_up N 69 18 1) ∧ (∀ k, k ≠ 18 → k ≠ 19 → k ≠ 21 → (q_up N 69 18 1).1 69 k = M.1 69 k) ∧ fr (fun x => x = 69 ∨ (75 ≤ x ∧ x ≤ 86)) M (q_up N 69 18 1)) := fun he => by
      have hE : rsEnd c (M.1 71) r = true := decide_eq_true (by rw [hbest]; exact he)
      refine ⟨rfl, ?_, fun k k1 k2 k3 => by rw [q_up_oth k1, nk k k3], nf.up (by omega)⟩
      unfold rsStep
      rw [hE]
      dsimp only
      rw [hbest]
      refine ⟨by rw [q_up_oth (by decide), nk 17 (by decide)]; exact r1, q_up_at, by rw [q_up_oth (by decide)]; exact n19, by rw [q_up_oth (by decide)]; exact n21, fun p hp => by rw [q_up_ne 75 (by decide), nx 75 (by decide) (by decide)]; exact r5 p hp, fun l hl j hj i hi => ?_, fun tt htt => by rw [q_up_ne 80 (by decide), nx 80 (by decide) (by decide)]; exact r7 tt htt, fun k hk => by rw [q_up_ne 76 (by decide)]; exact n76 k hk⟩
      rw [q_up_ne 78 (by decide), q_up_ne 79 (by decide), nx 78 (by decide) (by decide), nx 79 (by decide) (by decide)]; exact r6 l hl j hj i hi
    by_cases q1 : best = c 6
    · refine p_Rf_step_4_7 h ⟨g0, o76, ?_, ⟨rfl, rfl⟩, ?_, ?_⟩
      · rw [e1, e2, hN, stop3, q1]
      · rw [q_up_at]; decide
      · rw [e1, e2, hN]; exact ended (Or.inl q1)
    · by_cases q2 : r.1 = c 4
      · refine p_Rf_step_4_3 h ⟨g0, o76, ?_, ?_, ⟨rfl, rfl⟩, ?_, ?_⟩
        · rw [e1, e2, hN, stop3, nI_eq (by omega) (by omega)]; exact q1
        · rw [e1, e2, hN, n19, ctx3, q2]
        · rw [q_up_at]; decide
        · rw [e1, e2, hN]; exact ended (Or.inr q2)
      · have hE : rsEnd c (M.1 71) r = false := decide_eq_false (by rw [hbest]; exact fun z => z.elim q1 q2)
        have w19 : (q_up N 69 18 0).1 69 19 = nI r.1 := by rw [q_up_oth (by decide)]; exact n19
        generalize hP : q_up (q_up (q_up N 69 18 0) 75 r.1 (nI best)) 69 19 (nI (r.1 + 1)) = P
        have pk : ∀ k, k ≠ 18 → k ≠ 19 → k ≠ 21 → P.1 69 k = M.1 69 k := fun k k1 k2 k3 => by rw [← hP, q_up_oth k2, q_up_ne 69 (by decide), q_up_oth k1, nk k k3]
        have p18 : P.1 69 18 = 0 := by rw [← hP, q_up_oth (by decide), q_up_ne 69 (by decide), q_up_at]
        have p19 : P.1 69 19 = nI (r.1 + 1) := by rw [← hP, q_up_at]
        have p21 : P.1 69 21 = nI (r.2.1 + 1) := by rw [← hP, q_up_oth (by decide), q_up_ne 69 (by decide), q_up_oth (by decide)]; exact n21
        have p71 : P.1 71 = M.1 71 := by rw [← hP, q_up_ne 71 (by decide), q_up_ne 71 (by decide), q_up_ne 71 (by decide)]; exact nx 71 (by decide) (by decide)
        have p76 : P.1 76 = N.1 76 := by rw [← hP, q_up_ne 76 (by decide), q_up_ne 76 (by decide), q_up_ne 76 (by decide)]
        have p75 : ∀ p, p < r.1 + 1 → P.1 75 p = nI (rsUp r.2.2.1 r.1 best p) ∧ rsUp r.2.2.1 r.1 best p < 8 + c 5 := fun p hp => by
          rw [← hP, q_up_ne 75 (by decide)]
          unfold rsUp
          by_cases q : p = r.1
          · rw [q, q_up_at, if_pos rfl]; exact ⟨rfl, hbl⟩
          · rw [q_up_oth q, q_up_ne 75 (by decide), nx 75 (by decide) (by decide), if_neg q]; exact ⟨r5 p (by omega), o5 p (by omega)⟩
        have pf : fr (fun x => x = 69 ∨ (75 ≤ x ∧ x ≤ 86)) M P := by rw [← hP]; exact ((nf.up (by omega)).up (by omega)).up (by omega)
        have pHR : HR c P := by
          obtain ⟨a1, a2, a3, a4, a5, a6, a7, a8⟩ := hM
          refine ⟨?_, ?_, ?_, ?_, ?_, ?_, ?_, ?_⟩ <;> (rw [pk _ (by decide) (by decide) (by decide)]; assumption)
        have wk := r_work (M := P) (c := c) (t := rsUp r.2.2.1 r.1 best) (n := r.1 + 1) hc pHR (by rw [p71]; exact hb) (by omega) (by omega) p19 p75
        rw [p71] at wk
        refine p_Rf_step_4_4 h ⟨g0, o76, ?_, ?_, ⟨rfl, rfl⟩, ?_, ?_, 5, (fun M' => rowsR c (M.1 71) (rsUp r.2.2.1 r.1 best) (r.1 + 1) M' ∧ (∀ tt, tt < 8 + c 5 → M'.1 80 tt = sS c (M.1 71) (rsUp r.2.2.1 r.1 best) (r.1 + 1 - 1) tt) ∧ fr (fun x => 77 ≤ x ∧ x ≤ 86) P M'), by decide, ?_, fun M2 h2 => ?_⟩
        · rw [e1, e2, hN, stop3, nI_eq (by omega) (by omega)]; exact q1
        · rw [e1, e2, hN, n19, ctx3, nI_eq (by omega) (by omega)]; exact q2
        · rw [q_up_at]
        · rw [e1, e2, hN, w19]; exact ok_of (N := 12) rfl (by omega) (by decide)
        · rw [e1, e2, hN, w19, nI_clamp (by omega), q_up_ne (M := q_up N 69 18 0) (h := 75) 69 (by decide), w19, nI_1, hP]
          exact wk
        · obtain ⟨x1, x2, x3⟩ := h2
          have e69 : M2.1 69 = P.1 69 := x3.1 69 (by omega)
          refine ⟨rfl, ?_, fun k k1 k2 k3 => by rw [e69]; exact pk k k1 k2 k3, pf.trans (x3.mono (fun a ha => by omega))⟩
          unfold rsStep
          rw [hE]
          dsimp only
          rw [hbest]
          exact ⟨by rw [e69, pk 17 (by decide) (by decide) (by decide)]; exact r1, by rw [e69]; exact p18, by rw [e69]; exact p19, by rw [e69]; exact p21, fun p hp => by rw [x3.1 75 (by omega)]; exact (p75 p hp).1, x1, x2, fun k hk => by rw [x3.1 76 (by omega), p76]; exact n76 k hk⟩
  have loop : ∀ m k, k + m = 7 + c 5 → S 4 [.ref 69, .int (nI (s_best (M.1 80) k)), .int (nI (k + 1))] [] M := by
    intro m
    induction m with
    | zero =>
      intro k hk
      have : k = 7 + c 5 := by omega
      subst this
      rw [ebest, show 7 + c 5 + 1 = 8 + c 5 by omega]
      exact fin
    | succ m ih =>
      intro k hk
      have hbk := s_best_le (M.1 80) k
      have g0 : ¬ 8 + M.1 69 9 ≤ nI (k + 1) := by rw [e89]; exact nI_ge (by omega) (by omega)
      have a1 : q_ok SHP 0 80 (nI (k + 1)) := ok_of (N := 16) rfl (by omega) (by decide)
      have a2 : q_ok SHP 0 80 (nI (s_best (M.1 80) k)) := ok_of (N := 16) rfl (by omega) (by decide)
      have hi := ih (k + 1) (by omega)
      rw [s_best] at hi
      by_cases q : M.1 80 (s_best (M.1 80) k) < M.1 80 (k + 1)
      · rw [if_pos q] at hi
        refine p_Rf_step_4_0 h ⟨g0, a1, a2, ?_, by rw [nI_1]; exact hi⟩
        rw [nI_clamp (by omega), nI_clamp (by omega)]; exact n_nle.mpr q
      · rw [if_neg q] at hi
        refine p_Rf_step_4_1 h ⟨g0, a1, a2, ?_, by rw [nI_1]; exact hi⟩
        rw [nI_clamp (by omega), nI_clamp (by omega)]; exact n_nlt.mp q
  exact p_Rf_step_0_0 h (loop (7 + c 5) 0 (by omega))
theorem rsR.up {c : Nat → Nat} {b : Nat → Int32} {r : RS} {M : qM} {v : Int32} (h : rsR c b r M) : rsR c b r (q_up M 69 33 v) := by
  obtain ⟨r1, r2, r3, r4, r5, r6, r7, r8⟩ := h
  refine ⟨by rw [q33 (by decide)]; exact r1, by rw [q33 (by decide)]; exact r2, by rw [q33 (by decide)]; exact r3, by rw [q33 (by decide)]; exact r4, by rw [q_up_ne 75 (by decide)]; exact r5, fun l hl p hp i hi => by rw [q_up_ne 78 (by decide), q_up_ne 79 (by decide)]; exact r6 l hl p hp i hi, by rw [q_up_ne 80 (by decide)]; exact r7, by rw [q_up_ne 76 (by decide)]; exact r8⟩
theorem HR.up {c : Nat → Nat} {M : qM} {v : Int32} (h : HR c M) : HR c (q_up M 69 33 v) := by
  obtain ⟨a1, a2, a3, a4, a5, a6, a7, a8⟩ := h
  refine ⟨?_, ?_, ?_, ?_, ?_, ?_, ?_, ?_⟩ <;> (rw [q33 (by decide)]; assumption)
theorem r_next1 {M : qM} {c : Nat → Nat} {r : RS} (hc : cOk c) (hM : HR c M) (hb : ∀ i, bd 128 (M.1 71 i)) (hr : rsR c (M.1 71) r M) (ho : rsOk c r) (hg : r.2.2.2.2 = true) :
    q_CI TS CL SHP 7 y_Rf_next [.ref 69] M (fun v M' => v = nI (rsBest c (M.1 71) r) ∧ rsR c (M.1 71) (rsStep c (M.1 71) r) M' ∧ M'.1 69 33 = 0 ∧ (∀ k, k ≠ 18 → k ≠ 19 → k ≠ 21 → k ≠ 33 → M'.1 69 k = M.1 69 k) ∧ fr (fun x => x = 69 ∨ (75 ≤ x ∧ x ≤ 86)) M M') := by
  refine q_CI.of f_Rf_next [.ref 69] rfl rfl (fun _ _ _ => ⟨.int, rfl, rfl⟩) (fun S h => ?_)
  have e71 : (q_up M 69 33 0).1 71 = M.1 71 := q_up_ne 71 (by decide)
  have st := r_step (M := q_up M 69 33 0) (c := c) (r := r) hc hM.up (by rw [e71]; exact hb) (by rw [e71]; exact hr.up) ho hg
  rw [e71] at st
  refine p_Rf_next_0_1 h ⟨by rw [hr.1]; exact n_ne10, by rw [hr.2.1, hg]; rfl, by rw [q_up_at]; decide, 6, _, by decide, st, fun v M1 g => ?_⟩
  obtain ⟨x1, x2, x3, x4⟩ := g
  exact ⟨x1, x2, by rw [x3 33 (by decide) (by decide) (by decide), q_up_at], fun k k1 k2 k3 k4 => by rw [x3 k k1 k2 k3, q33 k4], ((fr.rf M).up (by omega)).trans x4⟩
theorem r_next0 {M : qM} (h0 : M.1 69 17 = 0 ∨ (¬ M.1 69 17 = 0 ∧ ¬ M.1 69 18 = 0)) : q_CI TS CL SHP 7 y_Rf_next [.ref 69] M (fun v M' => v = 0 ∧ M' = q_up M 69 33 1) := by
  refine q_CI.of f_Rf_next [.ref 69] rfl rfl (fun _ _ _ => ⟨.int, rfl, rfl⟩) (fun S h => ?_)
  rcases h0 with h0 | ⟨h1, h2⟩
  · exact p_Rf_next_0_4 h ⟨h0, by rw [q_up_at]; decide, rfl, rfl⟩
  · exact p_Rf_next_0_2 h ⟨h1, h2, by rw [q_up_at]; decide, rfl, rfl⟩
theorem r_go0 {M : qM} {a : Int32} (ha : a < 1 ∨ 20 < a) : q_CI TS CL SHP 7 y_Rf_go [.ref 69, .int a] M (fun v M' => v = 0 ∧ M' = q_up M 69 33 1) := by
  refine q_CI.of f_Rf_go [.ref 69, .int a, .null, .null] rfl rfl (fun _ _ _ => ⟨.int, rfl, rfl⟩) (fun S h => ?_)
  have e : S 40 [.ref 69, .int a, .int 0, .null] [] (q_up M 69 33 1) := p_Rf_go_40_3 h ⟨by rw [q_up_at]; decide, rfl, rfl⟩
  by_cases g : a < 1
  · exact p_Rf_go_0_4 h ⟨g, e⟩
  · exact p_Rf_go_0_0 h ⟨g, n_nle.mpr (ha.resolve_left g), e⟩
theorem r_go2 {M : qM} {a : Int32} (ha : ¬ a < 1) (hb : a ≤ 20) (h0 : M.1 69 17 = 0 ∨ (¬ M.1 69 17 = 0 ∧ ¬ M.1 69 18 = 0)) : q_CI TS CL SHP 7 y_Rf_go [.ref 69, .int a] M (fun v M' => v = 0 ∧ M' = q_up M 69 33 2) := by
  refine q_CI.of f_Rf_go [.ref 69, .int a, .null, .null] rfl rfl (fun _ _ _ => ⟨.int, rfl, rfl⟩) (fun S h => ?_)
  have e : S 40 [.ref 69, .int a, .int 0, .null] [] (q_up M 69 33 2) := p_Rf_go_40_3 h ⟨by rw [q_up_at]; decide, rfl, rfl⟩
  rcases h0 with h0 | ⟨h1, h2⟩
  · exact p_Rf_go_0_3 h ⟨ha, hb, h0, e⟩
  · exact p_Rf_go_0_2 h ⟨ha, hb, h1, h2, e⟩
theorem r_go1 {M : qM} {c : Nat → Nat} {r : RS} {n : Nat} (hc : cOk c) (hM : HR c M) (hb : ∀ i, bd 128 (M.1 71 i)) (hr : rsR c (M.1 71) r M) (ho : rsOk c r) (hg : r.2.2.2.2 = true) (hn1 : 1 ≤ n) (hn : n ≤ 20) :
    q_CI TS CL SHP 7 y_Rf_go [.ref 69, .int (nI n)] M (fun v M' => v = nI (rsGo c (M.1 71) n r).1 ∧ rsR c (M.1 71) (rsGo c (M.1 71) n r).2 M' ∧ M'.1 69 33 = 0 ∧ (∀ k, k ≠ 18 → k ≠ 19 → k ≠ 21 → k ≠ 33 → M'.1 69 k = M.1 69 k) ∧ fr (fun x => x = 69 ∨ (75 ≤ x ∧ x ≤ 86)) M M') := by
  refine q_CI.of f_Rf_go [.ref 69, .int (nI n), .null, .null] rfl rfl (fun _ _ _ => ⟨.int, rfl, rfl⟩) (fun S h => ?_)
  have h5 : c 5 ≤ 8 := hc.2.2.2.2.2.2.2.1
  have loop : ∀ k m0 r1 M1, m0 + k = n → m0 + (rsGo c (M.1 71) k r1).1 = (rsGo c (M.1 71) n r).1 → (rsGo c (M.1 71) k r1).2 = (rsGo c (M.1 71) n r).2 → rsOk c r1 → rsR c (M.1 71) r1 M1 → M1.1 69 33 = 0 → (∀ k, k ≠ 18 → k ≠ 19 → k ≠ 21 → k ≠ 33 → M1.1 69 k = M.1 69 k) → fr (fun x => x = 69 ∨ (75 ≤ x ∧ x ≤ 86)) M M1 → S 40 [.ref 69, .int (nI n), .int (nI m0), .null] [] M1 := by
    intro k
    induction k with
    | zero =>
      intro m0 r1 M1 h1 h2 h3 h4 h5 h33 hu hf
      exact p_Rf_go_40_2 h ⟨h33, nI_le (by omega) (by omega), by rw [← h2]; rfl, by rw [← h3]; exact h5, h33, hu, hf⟩
    | succ k ih =>
      intro m0 r1 M1 h1 h2 h3 h4 h5 h33 hu hf
      have g0 : ¬ nI n ≤ nI m0 := nI_ge (by omega) (by omega)
      cases hg1 : r1.2.2.2.2 with
      | false =>
        rw [rsGo, hg1] at h2 h3
        exact p_Rf_go_40_1 h ⟨h33, g0, by rw [h5.2.1, hg1]; exact n_ne10, by rw [← h2]; rfl, by rw [← h3]; exact h5, h33, hu, hf⟩
      | true =>
        rw [rsGo, hg1] at h2 h3
        have e71 : M1.1 71 = M.1 71 := hf.1 71 (by omega)
        have hR1 : HR c M1 := by
          obtain ⟨a1, a2, a3, a4, a5, a6, a7, a8⟩ := hM
          refine ⟨?_, ?_, ?_, ?_, ?_, ?_, ?_, ?_⟩ <;> (rw [hu _ (by decide) (by decide) (by decide) (by decide)]; assumption)
        have st := r_step (M := M1) (c := c) (r := r1) hc hR1 (by rw [e71]; exact hb) (by rw [e71]; exact h5) h4 hg1
        rw [e71] at st
        refine p_Rf_go_40_0 h ⟨h33, g0, by rw [h5.2.1, hg1]; rfl, 6, _, by decide, st, fun v M2 g => ?_⟩
        obtain ⟨x1, x2, x3, x4⟩ := g
        have hv : ¬ v < 0 := by
          have := @rsBest_lt c (M.1 71) r1
          rw [x1]; exact nI_pos (by omega)
        refine p_Rf_go_65_0 h ⟨hv, ?_⟩
        rw [nI_1]
        exact ih (m0 + 1) _ M2 (by omega) (by rw [← h2]; dsimp only; omega) h3 (rsStep_ok h4 hg1) x2 (by rw [x3 33 (by decide) (by decide) (by decide)]; exact h33) (fun k k1 k2 k3 k4 => by rw [x3 k k1 k2 k3]; exact hu k k1 k2 k3 k4) (hf.trans x4)
  refine p_Rf_go_0_1 h ⟨nI_nlt (b := 1) (by omega) (by omega), nI_le (b := 20) (by omega) (by omega), by rw [hr.1]; exact n_ne10, by rw [hr.2.1, hg]; rfl, ?_⟩
  exact loop n 0 r _ (by omega) (by omega) rfl ho hr.up q_up_at (fun k _ _ _ k4 => q33 k4) ((fr.rf M).up (by omega))
