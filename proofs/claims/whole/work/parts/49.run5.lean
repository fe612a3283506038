/-! A RUN: what a step makes of it, on both sides -/
theorem sX_ext {c : Nat → Nat} {b : Nat → Int32} {t t' : Nat → Nat} (hc : cOk c) : ∀ (l p : Nat), (∀ q, q ≤ p → t q = t' q) → ∀ i, i < c 2 → sX c b t l p i = sX c b t' l p i := by
  intro l
  induction l with
  | zero => intro p h i hi; rw [sX_0, sX_0, h p (Nat.le_refl _)]
  | succ l ih =>
    intro p h i hi
    rw [sX_s, sX_s]
    exact s_mlp_ext (fun i hi => s_att_ext (fun i hi => hw_div hc hi) (fun i hi => ih p h i hi) (fun j hj i hi => s_key_ext (fun i hi => ih j (fun q hq => h q (by omega)) i hi) i) (fun j hj i hi => s_val_ext (fun i hi => ih j (fun q hq => h q (by omega)) i hi) i) hi) hi
theorem sK_ext {c : Nat → Nat} {b : Nat → Int32} {t t' : Nat → Nat} (hc : cOk c) {l p i : Nat} (h : ∀ q, q ≤ p → t q = t' q) : sK c b t l p i = sK c b t' l p i := s_key_ext (fun i hi => sX_ext hc l p h i hi) i
theorem sV_ext {c : Nat → Nat} {b : Nat → Int32} {t t' : Nat → Nat} (hc : cOk c) {l p i : Nat} (h : ∀ q, q ≤ p → t q = t' q) : sV c b t l p i = sV c b t' l p i := s_val_ext (fun i hi => sX_ext hc l p h i hi) i
theorem rowsC_ext {c : Nat → Nat} {b : Nat → Int32} {t t' : Nat → Nat} {n : Nat} {M : qM} (hc : cOk c) (h : ∀ q, q < n → t q = t' q) (hr : rowsC c b t n M) : rowsC c b t' n M := fun l hl j hj i hi => by
  obtain ⟨h1, h2⟩ := hr l hl j hj i hi
  exact ⟨h1.trans (sK_ext hc (fun q hq => h q (by omega))), h2.trans (sV_ext hc (fun q hq => h q (by omega)))⟩
/-- the least of the greatest among 0 .. k -/
def s_best (s : Nat → Int32) : Nat → Nat
  | 0 => 0
  | k + 1 => if s (s_best s k) < s (k + 1) then k + 1 else s_best s k
theorem s_best_le (s : Nat → Int32) : ∀ k, s_best s k ≤ k := by
  intro k
  induction k with
  | zero => exact Nat.le_refl _
  | succ k ih => rw [s_best]; split <;> omega
theorem s_best_ext {s s' : Nat → Int32} : ∀ k, (∀ i, i ≤ k → s i = s' i) → s_best s k = s_best s' k := by
  intro k
  induction k with
  | zero => intro _; rfl
  | succ k ih =>
    intro h
    have := s_best_le s' k
    rw [s_best, s_best, ih (fun i hi => h i (by omega)), h (k + 1) (Nat.le_refl _), h (s_best s' k) (by omega)]
/-- a run: positions, outputs so far, tokens, outputs, does it go on -/
abbrev RS : Type := Nat × Nat × (Nat → Nat) × (Nat → Nat) × Bool
def rsBest (c : Nat → Nat) (b : Nat → Int32) (r : RS) : Nat := s_best (sS c b r.2.2.1 (r.1 - 1)) (7 + c 5)
def rsEnd (c : Nat → Nat) (b : Nat → Int32) (r : RS) : Bool := decide (rsBest c b r = c 6 ∨ r.1 = c 4)
def rsUp (f : Nat → Nat) (k v : Nat) : Nat → Nat := fun i => if i = k then v else f i
def rsStep (c : Nat → Nat) (b : Nat → Int32) (r : RS) : RS := match rsEnd c b r with
  | true => (r.1, r.2.1 + 1, r.2.2.1, rsUp r.2.2.2.1 r.2.1 (rsBest c b r), false)
  | false => (r.1 + 1, r.2.1 + 1, rsUp r.2.2.1 r.1 (rsBest c b r), rsUp r.2.2.2.1 r.2.1 (rsBest c b r), true)
def rsOk (c : Nat → Nat) (r : RS) : Prop := 1 ≤ r.1 ∧ r.1 ≤ c 4 ∧ r.2.1 ≤ r.1 ∧ (r.2.2.2.2 = true → r.2.1 + 1 ≤ r.1) ∧ ∀ p, p < r.1 → r.2.2.1 p < 8 + c 5
theorem rsBest_lt {c : Nat → Nat} {b : Nat → Int32} {r : RS} : rsBest c b r < 8 + c 5 := by
  have := s_best_le (sS c b r.2.2.1 (r.1 - 1)) (7 + c 5)
  unfold rsBest; omega
theorem rsStep_ok {c : Nat → Nat} {b : Nat → Int32} {r : RS} (h : rsOk c r) (hg : r.2.2.2.2 = true) : rsOk c (rsStep c b r) := by
  obtain ⟨h1, h2, h3, h4, h5⟩ := h
  have h4 := h4 hg
  unfold rsStep
  cases he : rsEnd c b r with
  | true => exact ⟨h1, h2, by dsimp only; omega, fun z => (Bool.noConfusion z), h5⟩
  | false =>
    have := of_decide_eq_false he
    refine ⟨by dsimp only; omega, by dsimp only; omega, by dsimp only; omega, fun _ => by dsimp only; omega, fun p hp => ?_⟩
    dsimp only at hp ⊢
    unfold rsUp
    split
    · exact rsBest_lt
    · exact h5 p (by omega)
def rsC (c : Nat → Nat) (b : Nat → Int32) (r : RS) (M : qM) : Prop := M.1 9 5 = nI r.1 ∧ M.1 9 6 = nI r.2.1 ∧ M.1 9 7 = n_tf r.2.2.2.2 ∧ rowsC c b r.2.2.1 r.1 M ∧ (∀ tt, tt < 8 + c 5 → M.1 13 tt = sS c b r.2.2.1 (r.1 - 1) tt) ∧ ∀ k, k < r.2.1 → M.1 12 k = nI (r.2.2.2.1 k)
def rsR (c : Nat → Nat) (b : Nat → Int32) (r : RS) (M : qM) : Prop := M.1 69 17 = 1 ∧ M.1 69 18 = n_tf (!r.2.2.2.2) ∧ M.1 69 19 = nI r.1 ∧ M.1 69 21 = nI r.2.1 ∧ (∀ p, p < r.1 → M.1 75 p = nI (r.2.2.1 p)) ∧ rowsR c b r.2.2.1 r.1 M ∧ (∀ tt, tt < 8 + c 5 → M.1 80 tt = sS c b r.2.2.1 (r.1 - 1) tt) ∧ ∀ k, k < r.2.1 → M.1 76 k = nI (r.2.2.2.1 k)
theorem c_start {M : qM} {c : Nat → Nat} {t : Nat → Nat} {n : Nat} (hc : cOk c) (hM : HC c M) (hb : ∀ i, bd 128 (M.1 4 i)) (hn1 : 1 ≤ n) (hn : n ≤ c 4) (ht : ∀ p, p < n → M.1 8 p = nI (t p) ∧ t p < 8 + c 5) :
    q_CV TS CL SHP 5 y_Ru_start [.ref 9, .ref 8, .int (nI n)] M (fun M' => rsC c (M.1 4) (n, 0, t, fun _ => 0, true) M' ∧ fr (fun x => x = 9 ∨ (13 ≤ x ∧ x ≤ 68)) M M') := by
  have h4 : c 4 ≤ 12 := hc.2.2.2.2.2.2.1
  refine q_CV.of f_Ru_start [.ref 9, .ref 8, .int (nI n), .null] rfl rfl rfl (fun S h => ?_)
  have loop : ∀ m p M1, p + m = n → M1.1 9 5 = nI p → M1.1 9 6 = 0 → rowsC c (M.1 4) t p M1 → (0 < p → ∀ tt, tt < 8 + c 5 → M1.1 13 tt = sS c (M.1 4) t (p - 1) tt) → fr (fun x => x = 9 ∨ (13 ≤ x ∧ x ≤ 68)) M M1 → S 6 [.ref 9, .ref 8, .int (nI n), .int (nI p)] [] M1 := by
    intro m
    induction m with
    | zero =>
      intro p M1 hp h5 h6 hr hs hf
      have : p = n := by omega
      subst this
      refine p_Ru_start_6_1 h ⟨nI_le (Nat.le_refl _) (by omega), ⟨rfl, rfl⟩, ⟨by rw [q_up_oth (by decide)]; exact h5, by rw [q_up_oth (by decide)]; exact h6, q_up_at, fun l hl j hj i hi => ?_, fun tt htt => ?_, fun k hk => absurd hk (by dsimp only; omega)⟩, hf.up (by omega)⟩
      · have h4' : j < 12 := by dsimp only at hj; omega
        rw [q_up_ne _ (by omega), q_up_ne _ (by omega)]; exact hr l hl j hj i hi
      · rw [q_up_ne 13 (by decide)]; exact hs (by omega) tt htt
    | succ m ih =>
      intro p M1 hp h5 h6 hr hs hf
      have e4 : M1.1 4 = M.1 4 := hf.1 4 (by omega)
      obtain ⟨t1, t2⟩ := ht p (by omega)
      have tk := c_takeIn (M := M1) (c := c) (t := t) (p := p) hc (hM.to (hf.1 3 (by omega))) (by rw [e4]; exact hb) h5 (by omega) t2 (by rw [e4]; exact hr)
      have e8 : M1.1 8 (nI p).toNatClampNeg = nI (t p) := by rw [nI_clamp (by omega), hf.1 8 (by omega)]; exact t1
      rw [← e8, e4] at tk
      refine p_Ru_start_6_0 h ⟨nI_ge (by omega) (by omega), ok_of (N := 24) rfl (by omega) (by decide), 4, _, by decide, tk, fun M2 h2 => ?_⟩
      obtain ⟨x1, x2, x3, x4, x5⟩ := h2
      rw [nI_1]
      exact ih (p + 1) M2 (by omega) x3 (by rw [x4 6 (by decide)]; exact h6) x1 (fun _ => x2) (hf.trans x5)
  refine p_Ru_start_0_0 h ⟨0, _, by decide, c_drop M, fun M1 h1 => ?_⟩
  subst h1
  refine loop n 0 _ (by omega) (by rw [q_up_oth (by decide), q_up_oth (by decide), q_up_at]; rfl) (by rw [q_up_oth (by decide), q_up_at]) (fun l hl j hj => absurd hj (by omega)) (fun z => absurd z (by omega)) ((((fr.rf M).up (by omega)).up (by omega)).up (by omega))
theorem n_tf0 : n_tf false = 0 := rfl
theorem n_tf1 : n_tf true = 1 := rfl
set_option maxHeartbeats 2000000 in
theorem c_step {M : qM} {c : Nat → Nat} {r : RS} (hc : cOk c) (hM : HC c M) (hb : ∀ i, bd 128 (M.1 4 i)) (hr : rsC c (M.1 4) r M) (ho : rsOk c r) (hg : r.2.2.2.2 = true) :
    q_CI TS CL SHP 5 y_Ru_step [.ref 9] M (fun v M' => v = nI (rsBest c (M.1 4) r) ∧ rsC c (M.1 4) (rsStep c (M.1 4) r) M' ∧ fr (fun x => x = 9 ∨ (12 ≤ x ∧ x ≤ 68)) M M') := by
  have h4 : c 4 ≤ 12 := hc.2.2.2.2.2.2.1
  have h5 : c 5 ≤ 8 := hc.2.2.2.2.2.2.2.1
  have h6 : c 6 < 8 + c 5 := hc.2.2.2.2.2.2.2.2.1
  obtain ⟨o1, o2, o3, o4, o5⟩ := ho
  have o4 := o4 hg
  obtain ⟨r1, r2, r3, r4, r5, r6⟩ := hr
  refine q_CI.of f_Ru_step [.ref 9, .null, .null] rfl rfl (fun _ _ _ => ⟨.int, rfl, rfl⟩) (fun S h => ?_)
  generalize hbest : rsBest c (M.1 4) r = best at *
  have hbl : best < 8 + c 5 := by rw [← hbest]; exact rsBest_lt
  have ebest : s_best (M.1 13) (7 + c 5) = best := by
    rw [← hbest]
    exact s_best_ext _ (fun i hi => r5 i (by omega))
  have fin : S 4 [.ref 9, .int (nI best), .int (nI (8 + c 5))] [] M := by
    have g0 : M.1 3 9 ≤ nI (8 + c 5) := by rw [hM.2.2.2.2.2.2.1]; exact nI_le (Nat.le_refl _) (by omega)
    have o12 : q_ok SHP 0 12 (M.1 9 6) := by rw [r2]; exact ok_of (N := 12) rfl (by omega) (by decide)
    have e1 : (q_up M 12 (M.1 9 6).toNatClampNeg (nI best)).1 9 6 + 1 = nI (r.2.1 + 1) := by rw [q_up_ne 9 (by decide), r2, nI_1]
    have e2 : (M.1 9 6).toNatClampNeg = r.2.1 := by rw [r2, nI_clamp (by omega)]
    generalize hN : q_up (q_up M 12 r.2.1 (nI best)) 9 6 (nI (r.2.1 + 1)) = N
    have n3 : N.1 3 = M.1 3 := by rw [← hN, q_up_ne 3 (by decide), q_up_ne 3 (by decide)]
    have n4 : N.1 4 = M.1 4 := by rw [← hN, q_up_ne 4 (by decide), q_up_ne 4 (by decide)]
    have n13 : N.1 13 = M.1 13 := by rw [← hN, q_up_ne 13 (by decide), q_up_ne 13 (by decide)]
    have n95 : N.1 9 5 = nI r.1 := by rw [← hN, q_up_oth (by decide), q_up_ne 9 (by decide)]; exact r1
    have n96 : N.1 9 6 = nI (r.2.1 + 1) := by rw [← hN, q_up_at]
    have n97 : N.1 9 7 = 1 := by rw [← hN, q_up_oth (by decide), q_up_ne 9 (by decide), r3, hg]; rfl
    have n12 : ∀ k, k < r.2.1 + 1 → N.1 12 k = nI (rsUp r.2.2.2.1 r.2.1 best k) := fun k hk => by
      rw [← hN, q_up_ne 12 (by decide)]
      unfold rsUp
      by_cases q : k = r.2.1
      · rw [q, q_up_at, if_pos rfl]
      · rw [q_up_oth q, if_neg q]; exact r6 k (by omega)
    have nr : rowsC c (M.1 4) r.2.2.1 r.1 N := fun l hl j hj i hi => by
      rw [← hN, q_up_ne _ (by omega), q_up_ne _ (by omega), q_up_ne _ (by omega), q_up_ne _ (by omega)]; exact r4 l hl j hj i hi
    have nf : fr (fun x => x = 9 ∨ (12 ≤ x ∧ x ≤ 68)) M N := by rw [← hN]; exact ((fr.rf M).up (by omega)).up (by omega)
    have stop3 : N.1 3 10 = nI (c 6) := by rw [n3]; exact hM.2.2.2.2.2.2.2.1
    have ctx3 : N.1 3 7 = nI (c 4) := by rw [n3]; exact hM.2.2.2.2.1
    have ended : (best = c 6 ∨ r.1 = c 4) → (nI best = nI best ∧ rsC c (M.1 4) (rsStep c (M.1 4) r) (q_up N 9 7 0) ∧ fr (fun x => x = 9 ∨ (12 ≤ x ∧ x ≤ 68)) M (q_up N 9 7 0)) := fun he => by
      have hE : rsEnd c (M.1 4) r = true := decide_eq_true (by rw [hbest]; exact he)
      refine ⟨rfl, ?_, nf.up (by omega)⟩
      unfold rsStep
      rw [hE]
      dsimp only
      rw [hbest]
      refine ⟨by rw [q_up_oth (by decide)]; exact n95, by rw [q_up_oth (by decide)]; exact n96, q_up_at, fun l hl j hj i hi => ?_, fun tt htt => by rw [q_up_ne 13 (by decide), n13]; exact r5 tt htt, fun k hk => by rw [q_up_ne 12 (by decide)]; exact n12 k hk⟩
      have hj' : j < 12 := Nat.lt_of_lt_of_le hj (by dsimp only; omega)
      rw [q_up_ne _ (by omega), q_up_ne _ (by omega)]; exact nr l hl j hj i hi
    by_cases q1 : best = c 6
    · refine p_Ru_step_4_4 h ⟨g0, o12, ?_, ⟨rfl, rfl⟩, ?_⟩
      · rw [e1, e2, hN, stop3, q1]
      · rw [e1, e2, hN]; exact ended (Or.inl q1)
    · by_cases q2 : r.1 = c 4
      · refine p_Ru_step_4_2 h ⟨g0, o12, ?_, ?_, ⟨rfl, rfl⟩, ?_⟩
        · rw [e1, e2, hN, stop3, nI_eq (by omega) (by omega)]; exact q1
        · rw [e1, e2, hN, n95, ctx3]; exact nI_nlt (by omega) (by omega)
        · rw [e1, e2, hN]; exact ended (Or.inr q2)
      · have hE : rsEnd c (M.1 4) r = false := decide_eq_false (by rw [hbest]; exact fun z => z.elim q1 q2)
        have tk := c_takeIn (M := N) (c := c) (t := rsUp r.2.2.1 r.1 best) (p := r.1) hc (hM.to n3) (by rw [n4]; exact hb) n95 (by omega) (by unfold rsUp; rw [if_pos rfl]; exact hbl) (by rw [n4]; exact rowsC_ext hc (fun q hq => by unfold rsUp; rw [if_neg (by omega)]) nr)
        rw [show rsUp r.2.2.1 r.1 best r.1 = best from by unfold rsUp; rw [if_pos rfl], n4] at tk
        rw [← hN] at tk
        refine p_Ru_step_4_3 h ⟨g0, o12, ?_, ?_, 4, (fun M2 => rowsC c (M.1 4) (rsUp r.2.2.1 r.1 best) (r.1 + 1) M2 ∧ (∀ tt, tt < 8 + c 5 → M2.1 13 tt = sS c (M.1 4) (rsUp r.2.2.1 r.1 best) r.1 tt) ∧ M2.1 9 5 = nI (r.1 + 1) ∧ (∀ k, k ≠ 5 → M2.1 9 k = N.1 9 k) ∧ fr (fun x => x = 9 ∨ (13 ≤ x ∧ x ≤ 68)) N M2), by decide, ?_, fun M2 h2 => ?_⟩
        · rw [e1, e2, hN, stop3, nI_eq (by omega) (by omega)]; exact q1
        · rw [e1, e2, hN, n95, ctx3]; exact nI_lt (by omega) (by omega)
        · rw [e1, e2]; rw [← hN]; exact tk
        · obtain ⟨x1, x2, x3, x4, x5⟩ := h2
          refine ⟨rfl, ?_, nf.trans (x5.mono (fun a ha => by omega))⟩
          unfold rsStep
          rw [hE]
          dsimp only
          rw [hbest]
          exact ⟨x3, by rw [x4 6 (by decide)]; exact n96, by rw [x4 7 (by decide)]; exact n97, x1, x2, fun k hk => by rw [x5.1 12 (by omega)]; exact n12 k hk⟩
  have loop : ∀ m k, k + m = 7 + c 5 → S 4 [.ref 9, .int (nI (s_best (M.1 13) k)), .int (nI (k + 1))] [] M := by
    intro m
    induction m with
    | zero =>
      intro k hk
      have : k = 7 + c 5 := by omega
      subst this
      rw [ebest, show 7 + c 5 + 1 = 8 + c 5 by omega]
      exact fin
    | succ m ih =>
      intro k hk
      have hbk := s_best_le (M.1 13) k
      have g0 : ¬ M.1 3 9 ≤ nI (k + 1) := by rw [hM.2.2.2.2.2.2.1]; exact nI_ge (by omega) (by omega)
      have a1 : q_ok SHP 0 13 (nI (k + 1)) := ok_of (N := 16) rfl (by omega) (by decide)
      have a2 : q_ok SHP 0 13 (nI (s_best (M.1 13) k)) := ok_of (N := 16) rfl (by omega) (by decide)
      have hi := ih (k + 1) (by omega)
      rw [s_best] at hi
      by_cases q : M.1 13 (s_best (M.1 13) k) < M.1 13 (k + 1)
      · rw [if_pos q] at hi
        refine p_Ru_step_4_0 h ⟨g0, a1, a2, ?_, by rw [nI_1]; exact hi⟩
        rw [nI_clamp (by omega), nI_clamp (by omega)]; exact n_nle.mpr q
      · rw [if_neg q] at hi
        refine p_Ru_step_4_1 h ⟨g0, a1, a2, ?_, by rw [nI_1]; exact hi⟩
        rw [nI_clamp (by omega), nI_clamp (by omega)]; exact n_nlt.mp q
  exact p_Ru_step_0_0 h (loop (7 + c 5) 0 (by omega))
