/-! THE CLASS: begin, next, go where they answer; output .. kept -/
def tkF (xs : List Nat) : Nat → Nat := fun p => xs.getD p 0
theorem c_begin1 {M : qM} {c : Nat → Nat} {xs : List Nat} (hc : cOk c) (hL : LC c M) (hb : ∀ i, bd 128 (M.1 4 i)) (hB : ∀ x ∈ xs, x < 8) (hx : at_ (M.1 7) 0 xs) (hn : M.1 6 1 = nI xs.length) (h24 : xs.length ≤ 24) (h1 : 1 ≤ (toks (M.1 4) (c 5) xs).length) (h2 : (toks (M.1 4) (c 5) xs).length ≤ c 4) :
    q_CI TS CL SHP 6 y_CS_begin [.ref 0] M (fun v M' => v = nI (toks (M.1 4) (c 5) xs).length ∧ rsC c (M.1 4) ((toks (M.1 4) (c 5) xs).length, 0, tkF (toks (M.1 4) (c 5) xs), fun _ => 0, true) M' ∧ (∀ k, k ≠ 3 → M'.1 6 k = M.1 6 k) ∧ fr (fun x => x = 6 ∨ x = 8 ∨ x = 9 ∨ (13 ≤ x ∧ x ≤ 68)) M M') := by
  refine q_CI.of f_CS_begin [.ref 0] rfl rfl (fun _ _ _ => ⟨.int, rfl, rfl⟩) (fun S h => ?_)
  have h5 : c 5 ≤ 8 := hc.2.2.2.2.2.2.2.1
  have h4 : c 4 ≤ 12 := hc.2.2.2.2.2.2.1
  have hbd : ∀ x ∈ toks (M.1 4) (c 5) xs, x < 8 + (0 + c 5) := m_from_bd (c 5) 0 xs hB
  refine p_CS_begin_0_1 h ⟨by rw [hL.2.1]; exact n_ne10, 1, _, by decide, c_mergeBy hL.2.2.1 h5 hL.1.2.2.2.2.2.1 hB hx hn h24, fun M1 g => ?_⟩
  generalize hts : toks (M.1 4) (c 5) xs = ts at *
  obtain ⟨x1, x2, x3, x4⟩ := g
  have e4 : M1.1 4 = M.1 4 := x4.1 4 (by omega)
  have hH : HC c M1 := hL.1.to (x4.1 3 (by omega))
  have st := c_start (M := M1) (c := c) (t := tkF ts) (n := ts.length) hc hH (by rw [e4]; exact hb) h1 h2 (fun p hp => ⟨at_get x1 hp, by
    have := hbd (tkF ts p) (by unfold tkF; rw [List.getD_eq_getElem?_getD, List.getElem?_eq_getElem hp]; exact List.getElem_mem hp)
    omega⟩)
  rw [e4, ← x2] at st
  refine p_CS_begin_39_1 h ⟨?_, ?_, 5, _, by decide, st, fun M2 g => ?_⟩
  · rw [x2]; exact nI_nlt (b := 1) (by omega) (by omega)
  · rw [x2, hH.2.2.2.2.1]; exact nI_le h2 (by omega)
  · obtain ⟨y1, y2⟩ := g
    exact ⟨y1.1, y1, fun k hk => by rw [y2.1 6 (by omega)]; exact x3 k hk, (x4.mono (fun a ha => by omega)).trans (y2.mono (fun a ha => by omega))⟩
theorem c_next1 {M : qM} {c : Nat → Nat} {r : RS} (hc : cOk c) (hM : HC c M) (hb : ∀ i, bd 128 (M.1 4 i)) (hr : rsC c (M.1 4) r M) (ho : rsOk c r) (hg : r.2.2.2.2 = true) :
    q_CI TS CL SHP 6 y_CS_next [.ref 0] M (fun v M' => v = nI (rsBest c (M.1 4) r) ∧ rsC c (M.1 4) (rsStep c (M.1 4) r) M' ∧ fr (fun x => x = 9 ∨ (12 ≤ x ∧ x ≤ 68)) M M') := by
  refine q_CI.of f_CS_next [.ref 0] rfl rfl (fun _ _ _ => ⟨.int, rfl, rfl⟩) (fun S h => ?_)
  exact p_CS_next_0_1 h ⟨by rw [hr.2.2.1, hg]; exact n_ne10, 5, _, by decide, c_step hc hM hb hr ho hg, fun v M1 g => g⟩
def rsGo (c : Nat → Nat) (b : Nat → Int32) : Nat → RS → Nat × RS
  | 0, r => (0, r)
  | k + 1, r => match r.2.2.2.2 with
    | true => ((rsGo c b k (rsStep c b r)).1 + 1, (rsGo c b k (rsStep c b r)).2)
    | false => (0, r)
theorem rsGo_le {c : Nat → Nat} {b : Nat → Int32} : ∀ k r, (rsGo c b k r).1 ≤ k := by
  intro k
  induction k with
  | zero => intro r; exact Nat.le_refl _
  | succ k ih =>
    intro r
    rw [rsGo]
    split
    · exact Nat.succ_le_succ (ih _)
    · exact Nat.zero_le _
theorem rsGo_ok {c : Nat → Nat} {b : Nat → Int32} : ∀ k r, rsOk c r → rsOk c (rsGo c b k r).2 := by
  intro k
  induction k with
  | zero => intro r h; exact h
  | succ k ih =>
    intro r h
    rw [rsGo]
    split
    · rename_i e; exact ih _ (rsStep_ok h e)
    · exact h
theorem c_go1 {M : qM} {c : Nat → Nat} {r : RS} {n : Nat} (hc : cOk c) (hM : HC c M) (hb : ∀ i, bd 128 (M.1 4 i)) (hr : rsC c (M.1 4) r M) (ho : rsOk c r) (hg : r.2.2.2.2 = true) (hn1 : 1 ≤ n) (hn : n ≤ 20) :
    q_CI TS CL SHP 6 y_CS_go [.ref 0, .int (nI n)] M (fun v M' => v = nI (rsGo c (M.1 4) n r).1 ∧ rsC c (M.1 4) (rsGo c (M.1 4) n r).2 M' ∧ fr (fun x => x = 9 ∨ (12 ≤ x ∧ x ≤ 68)) M M') := by
  refine q_CI.of f_CS_go [.ref 0, .int (nI n), .null] rfl rfl (fun _ _ _ => ⟨.int, rfl, rfl⟩) (fun S h => ?_)
  have loop : ∀ k m0 r1 M1, m0 + k = n → m0 + (rsGo c (M.1 4) k r1).1 = (rsGo c (M.1 4) n r).1 → (rsGo c (M.1 4) k r1).2 = (rsGo c (M.1 4) n r).2 → rsOk c r1 → rsC c (M.1 4) r1 M1 → fr (fun x => x = 9 ∨ (12 ≤ x ∧ x ≤ 68)) M M1 → S 43 [.ref 0, .int (nI n), .int (nI m0)] [] M1 := by
    intro k
    induction k with
    | zero =>
      intro m0 r1 M1 h1 h2 h3 h4 h5 hf
      exact p_CS_go_43_2 h ⟨nI_le (by omega) (by omega), by rw [← h2]; rfl, by rw [← h3]; exact h5, hf⟩
    | succ k ih =>
      intro m0 r1 M1 h1 h2 h3 h4 h5 hf
      have g0 : ¬ nI n ≤ nI m0 := nI_ge (by omega) (by omega)
      cases hg1 : r1.2.2.2.2 with
      | false =>
        rw [rsGo, hg1] at h2 h3
        exact p_CS_go_43_1 h ⟨g0, by rw [h5.2.2.1, hg1]; rfl, by rw [← h2]; rfl, by rw [← h3]; exact h5, hf⟩
      | true =>
        rw [rsGo, hg1] at h2 h3
        have e4 : M1.1 4 = M.1 4 := hf.1 4 (by omega)
        have st := c_step (M := M1) (c := c) (r := r1) hc (hM.to (hf.1 3 (by omega))) (by rw [e4]; exact hb) (by rw [e4]; exact h5) h4 hg1
        rw [e4] at st
        refine p_CS_go_43_0 h ⟨g0, by rw [h5.2.2.1, hg1]; exact n_ne10, 5, _, by decide, st, fun v M2 g => ?_⟩
        obtain ⟨-, x2, x3⟩ := g
        rw [nI_1]
        exact ih (m0 + 1) _ M2 (by omega) (by rw [← h2]; dsimp only; omega) h3 (rsStep_ok h4 hg1) x2 (hf.trans x3)
  refine p_CS_go_0_2 h ⟨nI_nlt (b := 1) (by omega) (by omega), nI_le (b := 20) (by omega) (by omega), by rw [hr.2.2.1, hg]; exact n_ne10, ?_⟩
  exact loop n 0 r M (by omega) (by omega) rfl ho hr (fr.rf M)
/-- an output: the i-th of o -/
def s_out (o : Nat) (f : Nat → Nat) (i : Int32) : Int32 := if ¬ i < 0 ∧ i < nI o then nI (f i.toNatClampNeg) else NONE
theorem c_output {M : qM} {o : Nat} {f : Nat → Nat} (ho : o ≤ 12) (h6 : M.1 9 6 = nI o) (hf : ∀ k, k < o → M.1 12 k = nI (f k)) (i : Int32) : q_CI TS CL SHP 0 y_CS_output [.ref 0, .int i] M (fun v M' => v = s_out o f i ∧ M' = M) := by
  refine q_CI.of f_CS_output [.ref 0, .int i] rfl rfl (fun _ _ _ => ⟨.int, rfl, rfl⟩) (fun S h => ?_)
  unfold s_out at h
  by_cases g1 : i < 0
  · exact p_CS_output_0_2 h ⟨g1, by rw [if_neg (fun z => z.1 g1)]; rfl, rfl⟩
  by_cases g2 : i < nI o
  · obtain ⟨n, hn, rfl⟩ := nI_of g1
    have g3 := g2
    rw [nI_ltI hn (by omega)] at g3
    refine p_CS_output_0_1 h ⟨g1, by rw [h6]; exact g2, ok_of (N := 12) rfl (by omega) (by decide), ?_, rfl⟩
    rw [if_pos ⟨g1, g2⟩, nI_clamp hn]; exact hf n g3
  · exact p_CS_output_0_0 h ⟨g1, by rw [h6]; exact g2, by rw [if_neg (fun z => g2 z.2)]; rfl, rfl⟩
theorem c_taken (M : qM) : q_CI TS CL SHP 0 y_CS_taken [.ref 0] M (fun v M' => v = M.1 9 5 ∧ M' = M) :=
  q_CI.of f_CS_taken [.ref 0] rfl rfl (fun _ _ _ => ⟨.int, rfl, rfl⟩) (fun _ h => p_CS_taken_0_0 h ⟨rfl, rfl⟩)
theorem c_running {M : qM} {g : Bool} (hg : M.1 9 7 = n_tf g) : q_CI TS CL SHP 0 y_CS_running [.ref 0] M (fun v M' => v = n_tf g ∧ M' = M) :=
  q_CI.of f_CS_running [.ref 0] rfl rfl (fun v M' hv => ⟨.boolean, rfl, by rw [hv.1]; exact n_tf_nar _⟩) (fun _ h => p_CS_running_0_0 h ⟨hg, rfl⟩)
theorem c_stands {M : qM} {n : Nat} (hn : M.1 9 5 = nI n) (h12 : n ≤ 12) : q_CI TS CL SHP 0 y_Ru_stands [.ref 9] M (fun v M' => v = n_tf (decide (0 < n)) ∧ M' = M) := by
  refine q_CI.of f_Ru_stands [.ref 9] rfl rfl (fun v M' hv => ⟨.boolean, rfl, by rw [hv.1]; exact n_tf_nar _⟩) (fun S h => ?_)
  by_cases q : 0 < n
  · exact p_Ru_stands_0_0 h ⟨by rw [hn]; exact nI_nle q (by omega), tf1 q, rfl⟩
  · have : n = 0 := by omega
    subst this
    exact p_Ru_stands_0_1 h ⟨by rw [hn]; decide, tf0 q, rfl⟩
theorem c_sum0 {M : qM} (hn : M.1 9 5 = nI 0) (t : Int32) : q_CI TS CL SHP 1 y_CS_sum [.ref 0, .int t] M (fun v M' => v = NONE ∧ M' = M) := by
  refine q_CI.of f_CS_sum [.ref 0, .int t] rfl rfl (fun _ _ _ => ⟨.int, rfl, rfl⟩) (fun S h => ?_)
  refine p_CS_sum_0_0 h ⟨0, _, by decide, c_stands hn (by omega), fun v M1 h1 => ?_⟩
  obtain ⟨rfl, e⟩ := h1; obtain rfl := e.symm
  exact p_CS_sum_7_1 h ⟨rfl, rfl, rfl⟩
def s_sum (m : Nat) (s : Nat → Int32) (t : Int32) : Int32 := if ¬ t < 0 ∧ t < nI (8 + m) then s t.toNatClampNeg else NONE
theorem c_sum1 {M : qM} {c : Nat → Nat} {n : Nat} {s : Nat → Int32} (hc : cOk c) (hM : HC c M) (hn : M.1 9 5 = nI n) (hn1 : 1 ≤ n) (h12 : n ≤ 12) (hs : ∀ tt, tt < 8 + c 5 → M.1 13 tt = s tt) (t : Int32) : q_CI TS CL SHP 1 y_CS_sum [.ref 0, .int t] M (fun v M' => v = s_sum (c 5) s t ∧ M' = M) := by
  refine q_CI.of f_CS_sum [.ref 0, .int t] rfl rfl (fun _ _ _ => ⟨.int, rfl, rfl⟩) (fun S h => ?_)
  have h8 : c 5 ≤ 8 := hc.2.2.2.2.2.2.2.1
  refine p_CS_sum_0_0 h ⟨0, _, by decide, c_stands hn h12, fun v M1 h1 => ?_⟩
  obtain ⟨rfl, e⟩ := h1; obtain rfl := e.symm
  refine p_CS_sum_7_0 h ⟨by rw [decide_eq_true (show 0 < n by omega)]; exact n_ne10, 0, _, by decide, c_knows hM.2.2.2.2.2.2.1 h8, fun v M1 h1 => ?_⟩
  obtain ⟨h1, e⟩ := h1; obtain rfl := e.symm
  unfold s_sum at h
  rcases h1 with ⟨rfl, k, hk, rfl⟩ | ⟨rfl, hno⟩
  · refine p_CS_sum_18_1 h ⟨by decide, ok_of (N := 16) rfl (by omega) (by decide), ?_, rfl⟩
    rw [if_pos ⟨nI_pos (by omega), nI_lt hk (by omega)⟩, nI_clamp (by omega)]; exact hs k hk
  · refine p_CS_sum_18_0 h ⟨rfl, ?_, rfl⟩
    rw [if_neg (fun z => hno.elim z.1 (fun q => n_nlt.mpr q z.2))]; rfl
abbrev s_kOk (c : Nat → Nat) (n : Nat) (l p w i : Int32) : Prop := (¬ l < 0 ∧ l < nI (c 0)) ∧ (¬ p < 0 ∧ p < nI n) ∧ (¬ w < 0 ∧ ¬ 1 < w) ∧ (¬ i < 0 ∧ i < nI (c 2))
def s_kept (c : Nat → Nat) (n : Nat) (K V : Nat → Nat → Nat → Int32) (l p w i : Int32) : Int32 := if s_kOk c n l p w i then (if w = 0 then K l.toNatClampNeg p.toNatClampNeg i.toNatClampNeg else V l.toNatClampNeg p.toNatClampNeg i.toNatClampNeg) else NONE
theorem c_kept0 {M : qM} (hn : M.1 9 5 = 0) (l p w i : Int32) : q_CI TS CL SHP 1 y_CS_kept [.ref 0, .int l, .int p, .int w, .int i] M (fun v M' => v = NONE ∧ M' = M) := by
  refine q_CI.of f_CS_kept [.ref 0, .int l, .int p, .int w, .int i, .null] rfl rfl (fun _ _ _ => ⟨.int, rfl, rfl⟩) (fun S h => ?_)
  by_cases g1 : l < 0
  · exact p_CS_kept_0_8 h ⟨g1, rfl, rfl⟩
  by_cases g2 : M.1 3 3 ≤ l
  · exact p_CS_kept_0_7 h ⟨g1, g2, rfl, rfl⟩
  by_cases g3 : p < 0
  · exact p_CS_kept_0_6 h ⟨g1, g2, g3, rfl, rfl⟩
  · exact p_CS_kept_0_0 h ⟨g1, g2, g3, by rw [hn]; exact g3, rfl, rfl⟩
theorem c_kept1 {M : qM} {c : Nat → Nat} {b : Nat → Int32} {t : Nat → Nat} {n : Nat} (hc : cOk c) (hM : HC c M) (hn : M.1 9 5 = nI n) (h12 : n ≤ 12) (hr : rowsC c b t n M) (l p w i : Int32) : q_CI TS CL SHP 1 y_CS_kept [.ref 0, .int l, .int p, .int w, .int i] M (fun v M' => v = s_kept c n (sK c b t) (sV c b t) l p w i ∧ M' = M) := by
  obtain ⟨hw0, hwm, hw8, hh4, hw2, hw4⟩ := hw_ok hc
  have hc0 := hc.1
  refine q_CI.of f_CS_kept [.ref 0, .int l, .int p, .int w, .int i, .null] rfl rfl (fun _ _ _ => ⟨.int, rfl, rfl⟩) (fun S h => ?_)
  have no : ¬ s_kOk c n l p w i → (-1000000000 : Int32) = s_kept c n (sK c b t) (sV c b t) l p w i := fun z => by unfold s_kept; rw [if_neg z]; rfl
  by_cases g1 : l < 0
  · exact p_CS_kept_0_8 h ⟨g1, no (fun z => z.1.1 g1), rfl⟩
  by_cases g2 : M.1 3 3 ≤ l
  · exact p_CS_kept_0_7 h ⟨g1, g2, no (fun z => n_nlt.mpr g2 (by rw [hM.1]; exact z.1.2)), rfl⟩
  by_cases g3 : p < 0
  · exact p_CS_kept_0_6 h ⟨g1, g2, g3, no (fun z => z.2.1.1 g3), rfl⟩
  by_cases g4 : p < M.1 9 5
  · by_cases g5 : w < 0
    · exact p_CS_kept_0_5 h ⟨g1, g2, g3, g4, g5, no (fun z => z.2.2.1.1 g5), rfl⟩
    by_cases g6 : 1 < w
    · exact p_CS_kept_0_4 h ⟨g1, g2, g3, g4, g5, g6, no (fun z => z.2.2.1.2 g6), rfl⟩
    by_cases g7 : i < 0
    · exact p_CS_kept_0_3 h ⟨g1, g2, g3, g4, g5, g6, g7, no (fun z => z.2.2.2.1 g7), rfl⟩
    by_cases g8 : i < M.1 3 5
    · have hok : s_kOk c n l p w i := ⟨⟨g1, by rw [← hM.1]; exact n_nle.mp g2⟩, ⟨g3, by rw [← hn]; exact g4⟩, ⟨g5, g6⟩, ⟨g7, by rw [← hM.2.2.1]; exact g8⟩⟩
      obtain ⟨ln, hln, rfl⟩ := nI_of g1
      obtain ⟨pn, hpn, rfl⟩ := nI_of g3
      obtain ⟨jn, hjn, rfl⟩ := nI_of g7
      have a1 : ln < c 0 := (nI_ltI hln (by omega)).mp hok.1.2
      have a2 : pn < n := (nI_ltI hpn (by omega)).mp hok.2.1.2
      have a3 : jn < c 2 := (nI_ltI hjn (by omega)).mp hok.2.2.2.2
      obtain ⟨k1, k2⟩ := hr ln a1 pn a2 jn a3
      refine p_CS_kept_0_2 h ⟨g1, g2, g3, g4, g5, g6, g7, g8, 0, _, by decide, c_keptRow, fun v M1 h1 => ?_⟩
      obtain ⟨rfl, e⟩ := h1; obtain rfl := e.symm
      have ev : vp_in (nI (ln * 12 + pn)) 24 := vp_in_nI (by omega) (by decide)
      have ec : (nI (ln * 12 + pn)).toNatClampNeg = ln * 12 + pn := nI_clamp (by omega)
      have sh1 : SHP[21 + (ln * 12 + pn)]? = some (.inr (0, 8)) := kr_ok _ (by omega)
      have sh2 : SHP[45 + (ln * 12 + pn)]? = some (.inr (0, 8)) := vr_ok _ (by omega)
      by_cases g9 : w = 0
      · refine p_CS_kept_70_0 h ⟨g9, ev, by rw [ec]; exact ok_of sh1 (by omega) (by decide), ?_, rfl⟩
        unfold s_kept
        rw [if_pos hok, if_pos g9, ec, nI_clamp hjn, nI_clamp hln, nI_clamp hpn]; exact k1
      · refine p_CS_kept_70_1 h ⟨g9, ev, by rw [ec]; exact ok_of sh2 (by omega) (by decide), ?_, rfl⟩
        unfold s_kept
        rw [if_pos hok, if_neg g9, ec, nI_clamp hjn, nI_clamp hln, nI_clamp hpn]; exact k2
    · exact p_CS_kept_0_1 h ⟨g1, g2, g3, g4, g5, g6, g7, g8, no (fun z => g8 (by rw [hM.2.2.1]; exact z.2.2.2.2)), rfl⟩
  · exact p_CS_kept_0_0 h ⟨g1, g2, g3, g4, no (fun z => g4 (by rw [hn]; exact z.2.1.2)), rfl⟩
