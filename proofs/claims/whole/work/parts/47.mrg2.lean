/-! MERGING by the reference: the least pair again and again -/
def n_jo (o : Option Nat) : Int32 := match o with
  | some j => nI j
  | none => -1
set_option maxHeartbeats 1000000 in
theorem r_leastPair {M : qM} {m : Nat} {xs : List Nat} (hp : prs (M.1 71) m) (hm : m ≤ 8) (h9 : M.1 69 9 = nI m) (hB : ∀ x ∈ xs, x < 100) (hx : at_ (M.1 73) 0 xs) (hn : M.1 69 14 = nI xs.length) (h24 : xs.length ≤ 24) :
    q_CI TS CL SHP 2 y_Rf_leastPair [.ref 69] M (fun v M' => v = n_jo (m_least (pL (M.1 71)) (pR (M.1 71)) m 0 xs) ∧ M' = M) := by
  refine q_CI.of f_Rf_leastPair [.ref 69, .null, .null] rfl rfl (fun v M' _ => ⟨.int, rfl, rfl⟩) (fun S h => ?_)
  have loop : ∀ n j, j + n = m → m_least (pL (M.1 71)) (pR (M.1 71)) n j xs = m_least (pL (M.1 71)) (pR (M.1 71)) m 0 xs → S 2 [.ref 69, .int (nI j), .null] [] M := by
    intro n
    induction n with
    | zero =>
      intro j hj he
      refine p_Rf_leastPair_2_1 h ⟨by rw [h9]; exact nI_le (by omega) (by omega), ?_, rfl⟩
      rw [← he]; rfl
    | succ n ih =>
      intro j hj he
      rw [m_least] at he
      have inner : ∀ k ys p, ys.length ≤ k → p + ys.length = xs.length → (∀ x ∈ ys, x < 100) → at_ (M.1 73) p ys → m_adj (pL (M.1 71) j) (pR (M.1 71) j) ys = m_adj (pL (M.1 71) j) (pR (M.1 71) j) xs → S 12 [.ref 69, .int (nI j), .int (nI p)] [] M := by
        intro k
        induction k with
        | zero =>
          intro ys p h1 h2 hb hy ha
          have : ys = [] := List.eq_nil_of_length_eq_zero (by omega)
          subst this
          simp only [List.length_nil, Nat.add_zero] at h2
          refine p_Rf_leastPair_12_1 h ⟨by rw [hn, nI_1]; exact nI_le (by omega) (by omega), ?_⟩
          rw [nI_1]
          refine ih (j + 1) (by omega) ?_
          rw [← he, ← ha]; rfl
        | succ k ih2 =>
          intro ys p h1 h2 hb hy ha
          match ys, h1, h2, hb, hy, ha with
          | [], h1, h2, hb, hy, ha => exact ih2 [] p (by simp) h2 hb hy ha
          | [a], h1, h2, hb, hy, ha =>
            simp only [List.length_cons, List.length_nil] at h2
            refine p_Rf_leastPair_12_1 h ⟨by rw [hn, nI_1]; exact nI_le (by omega) (by omega), ?_⟩
            rw [nI_1]
            refine ih (j + 1) (by omega) ?_
            rw [← he, ← ha]; rfl
          | a :: b :: ys, h1, h2, hb, hy, ha =>
            have h2' := h2
            simp only [List.length_cons] at h2 h1
            refine p_Rf_leastPair_12_0 h ⟨by rw [hn, nI_1]; exact nI_ge (by omega) (by omega), 1, _, by decide, r_stands hp (by omega) hm hn h2' h24 hy hb, fun v M1 g => ?_⟩
            obtain ⟨rfl, e⟩ := g; obtain rfl := e.symm
            by_cases q : a = pL (M.1 71) j ∧ b = pR (M.1 71) j
            · rw [show m_hd (pL (M.1 71) j) (pR (M.1 71) j) (a :: b :: ys) = true from decide_eq_true q]
              refine p_Rf_leastPair_28_0 h ⟨by decide, ?_, rfl⟩
              rw [m_adj, if_pos q] at ha
              rw [← ha] at he
              rw [← he]; rfl
            · rw [show m_hd (pL (M.1 71) j) (pR (M.1 71) j) (a :: b :: ys) = false from decide_eq_false q]
              refine p_Rf_leastPair_28_1 h ⟨rfl, ?_⟩
              rw [nI_1]
              rw [m_adj, if_neg q] at ha
              exact ih2 (b :: ys) (p + 1) (by simp only [List.length_cons]; omega) (by simp only [List.length_cons]; omega) (fun x hx => hb x (List.mem_cons_of_mem _ hx)) (at_tl hy) ha
      refine p_Rf_leastPair_2_0 h ⟨by rw [h9]; exact nI_ge (by omega) (by omega), ?_⟩
      exact inner xs.length xs 0 (Nat.le_refl _) (by omega) hB hx rfl
  exact p_Rf_leastPair_0_0 h (loop m 0 (by omega) rfl)
set_option maxHeartbeats 1000000 in
theorem r_merge {M : qM} {m j : Nat} {xs : List Nat} (hp : prs (M.1 71) m) (hj : j < m) (hm : m ≤ 8) (hB : ∀ x ∈ xs, x < 100) (hx : at_ (M.1 73) 0 xs) (hn : M.1 69 14 = nI xs.length) (h24 : xs.length ≤ 24) :
    q_CV TS CL SHP 2 y_Rf_merge [.ref 69, .int (nI j)] M (fun M' => at_ (M'.1 73) 0 (m_pass (pL (M.1 71) j) (pR (M.1 71) j) (8 + j) xs) ∧ M'.1 69 14 = nI (m_pass (pL (M.1 71) j) (pR (M.1 71) j) (8 + j) xs).length ∧ (∀ k, k ≠ 14 → M'.1 69 k = M.1 69 k) ∧ fr (fun x => x = 69 ∨ x = 73) M M') := by
  generalize hl : pL (M.1 71) j = l
  generalize hr : pR (M.1 71) j = r
  refine q_CV.of f_Rf_merge [.ref 69, .int (nI j), .null, .null, .null, .null] rfl rfl rfl (fun S h => ?_)
  have loop : ∀ n ys rd zs M1, ys.length ≤ n → zs.length ≤ rd → rd + ys.length = xs.length → (∀ x ∈ ys, x < 100) → at_ (M1.1 73) 0 zs → at_ (M1.1 73) rd ys → zs ++ m_pass l r (8 + j) ys = m_pass l r (8 + j) xs → fr (fun x => x = 73) M M1 → S 4 [.ref 69, .int (nI j), .int (nI zs.length), .int (nI rd), .null, .null] [] M1 := by
    intro n
    induction n with
    | zero =>
      intro ys rd zs M1 h1 h2 h3 hb hz hy he hf
      have : ys = [] := List.eq_nil_of_length_eq_zero (by omega)
      subst this
      rw [m_pass, List.append_nil] at he
      subst he
      simp only [List.length_nil, Nat.add_zero] at h3
      refine p_Rf_merge_4_1 h ⟨by rw [hf.1 69 (by omega), hn]; exact nI_le (by omega) (by omega), by rw [q_up_ne 73 (by decide)]; exact hz, q_up_at, fun k hk => by rw [q_up_oth hk, hf.1 69 (by omega)], (hf.mono (fun a ha => Or.inr ha)).up (by omega)⟩
    | succ n ih =>
      intro ys rd zs M1 h1 h2 h3 hb hz hy he hf
      have e69 : M1.1 69 14 = nI xs.length := by rw [hf.1 69 (by omega)]; exact hn
      have e71 : M1.1 71 = M.1 71 := hf.1 71 (by omega)
      have hp1 : prs (M1.1 71) m := by rw [e71]; exact hp
      match ys, h1, h3, hb, hy, he with
      | [], h1, h3, hb, hy, he => exact ih [] rd zs M1 (by simp) h2 h3 hb hz hy he hf
      | a :: ys, h1, h3, hb, hy, he =>
        have h3' := h3
        simp only [List.length_cons] at h3 h1
        refine p_Rf_merge_4_0 h ⟨by rw [e69]; exact nI_ge (by omega) (by omega), 1, _, by decide, r_stands hp1 hj hm e69 h3' h24 hy hb, fun v M2 g => ?_⟩
        obtain ⟨rfl, e⟩ := g; obtain rfl := e.symm
        rw [e71, hl, hr]
        have o1 : q_ok SHP 0 73 (nI rd) := ok_of (N := 24) rfl (by omega) (by decide)
        have o3 : q_ok SHP 0 73 (nI zs.length) := ok_of (N := 24) rfl (by omega) (by decide)
        have v1 : M1.1 73 (nI rd).toNatClampNeg = nI a := by rw [nI_clamp (by omega)]; exact at_hd hy
        have goOn : m_pass l r (8 + j) (a :: ys) = a :: m_pass l r (8 + j) ys → S 4 [.ref 69, .int (nI j), .int (nI zs.length + 1), .int (nI rd + 1), .null, .null] [] (q_up M1 73 (nI zs.length).toNatClampNeg (M1.1 73 (nI rd).toNatClampNeg)) := fun hne => by
          rw [nI_1, nI_1, v1, nI_clamp (by omega)]
          have := ih ys (rd + 1) (zs ++ [a]) (q_up M1 73 zs.length (nI a)) (by omega) (by simp; omega) (by omega) (fun x hx => hb x (List.mem_cons_of_mem _ hx)) (at_snoc hz) (at_up (at_tl hy) (by omega)) (by rw [← he, hne]; simp) (hf.up rfl)
          simpa using this
        cases ys with
        | nil => exact p_Rf_merge_22_3 h ⟨rfl, o1, rfl, o3, goOn rfl⟩
        | cons b ys =>
          simp only [List.length_cons] at h3 h1
          by_cases q : a = l ∧ b = r
          · rw [show m_hd l r (a :: b :: ys) = true from decide_eq_true q]
            refine p_Rf_merge_22_0 h ⟨by decide, by decide, o3, ?_⟩
            rw [nI_1, nI_clamp (by omega), show nI rd + 2 = nI (rd + 2) from nI_add rd 2, show (8 : Int32) + nI j = nI (8 + j) from nI_add 8 j]
            have := ih ys (rd + 2) (zs ++ [8 + j]) (q_up M1 73 zs.length (nI (8 + j))) (by omega) (by simp; omega) (by omega) (fun x hx => hb x (by simp [hx])) (at_snoc hz) (at_up (at_tl (at_tl hy)) (by omega)) (by rw [← he, m_pass_y q.1 q.2]; simp) (hf.up rfl)
            simpa using this
          · rw [show m_hd l r (a :: b :: ys) = false from decide_eq_false q]
            exact p_Rf_merge_22_3 h ⟨rfl, o1, rfl, o3, goOn (m_pass_n q)⟩
  refine p_Rf_merge_0_0 h ?_
  exact loop xs.length xs 0 [] M (Nat.le_refl _) (by simp) (by omega) hB at_nil hx (by simp) (fr.rf M)
theorem prs_lt {f : Nat → Int32} {m : Nat} (hp : prs f m) : ∀ i, i < m → pL f i < 8 + i ∧ pR f i < 8 + i := fun i hi => ⟨(hp i hi).2.1, (hp i hi).2.2.2⟩
set_option maxHeartbeats 1000000 in
theorem r_findTokens {M : qM} {m : Nat} {xs : List Nat} (hp : prs (M.1 71) m) (hm : m ≤ 8) (h9 : M.1 69 9 = nI m) (hB : ∀ x ∈ xs, x < 8) (hx : at_ (M.1 72) 0 xs) (hn : M.1 69 12 = nI xs.length) (h24 : xs.length ≤ 24) :
    q_CV TS CL SHP 3 y_Rf_findTokens [.ref 69] M (fun M' => at_ (M'.1 73) 0 (toks (M.1 71) m xs) ∧ M'.1 69 14 = nI (toks (M.1 71) m xs).length ∧ (∀ k, k ≠ 14 → M'.1 69 k = M.1 69 k) ∧ fr (fun x => x = 69 ∨ x = 73) M M') := by
  refine q_CV.of f_Rf_findTokens [.ref 69, .null] rfl rfl rfl (fun S h => ?_)
  generalize hf0 : M.1 71 = f at *
  have loop : ∀ n j ys M1, j + n ≤ m → m ≤ j + n → (∀ i, i < j → m_adj (pL f i) (pR f i) ys = false) → (∀ x ∈ ys, x < 100) → ys.length ≤ 24 → at_ (M1.1 73) 0 ys → M1.1 69 14 = nI ys.length → m_from (pL f) (pR f) n j ys = toks f m xs → (∀ k, k ≠ 14 → M1.1 69 k = M.1 69 k) → fr (fun x => x = 69 ∨ x = 73) M M1 → S 41 [.ref 69, .int (n_jo (m_least (pL f) (pR f) m 0 ys))] [] M1 := by
    intro n
    induction n using Nat.strongRecOn with
    | ind n ih =>
      intro j ys M1 hj hj2 hno hb hl ha hs he hk hf
      have e71 : M1.1 71 = f := by rw [hf.1 71 (by omega)]; exact hf0
      have hp1 : prs (M1.1 71) m := by rw [e71]; exact hp
      cases hq : m_least (pL f) (pR f) m 0 ys with
      | none =>
        have e1 := m_least_none m 0 hq
        have e2 := m_from_skip (L := pL f) (R := pR f) (xs := ys) n j (fun i g1 g2 => e1 i (by omega) (by omega)) 0
        rw [Nat.add_zero, he, m_from] at e2
        rw [← e2] at ha hs
        exact p_Rf_findTokens_41_1 h ⟨by decide, ha, hs, hk, hf⟩
      | some k =>
        obtain ⟨r1, r2, r3, r4⟩ := m_round (n := n) (prs_lt hp) (by omega) hno hq
        have mk := r_merge hp1 r2 hm hb ha hs hl
        rw [e71] at mk
        refine p_Rf_findTokens_41_0 h ⟨nI_pos (by omega), 2, _, by decide, mk, fun M2 h2 => ?_⟩
        obtain ⟨x1, x2, x3, x4⟩ := h2
        have e72 : M2.1 71 = f := by rw [x4.1 71 (by omega)]; exact e71
        have hb2 := m_pass_bd (l := pL f k) (r := pR f k) (t := 8 + k) (B := 100) (by omega) ys hb
        have hl2 := Nat.le_trans (m_pass_len (l := pL f k) (r := pR f k) (t := 8 + k) ys) hl
        have lp := r_leastPair (M := M2) (m := m) (by rw [e72]; exact hp) hm (by rw [x3 9 (by decide), hk 9 (by decide)]; exact h9) hb2 x1 x2 hl2
        rw [e72] at lp
        refine ⟨2, _, by decide, lp, fun v M3 h3 => ?_⟩
        obtain ⟨rfl, e⟩ := h3; obtain rfl := e.symm
        exact ih (m - (k + 1)) (by omega) (k + 1) _ M2 (by omega) (by omega) r4 hb2 hl2 x1 x2 (by rw [← r3]; exact he) (fun i hi => (x3 i hi).trans (hk i hi)) (hf.trans x4)
  have cp : ∀ n k M1, k + n = xs.length → (∀ i v, i < k → xs[i]? = some v → M1.1 73 i = nI v) → M1.1 69 14 = nI xs.length → (∀ k, k ≠ 14 → M1.1 69 k = M.1 69 k) → fr (fun x => x = 69 ∨ x = 73) M M1 → S 10 [.ref 69, .int (nI k)] [] M1 := by
    intro n
    induction n with
    | zero =>
      intro k M1 hk hv hs hu hf
      have e71 : M1.1 71 = f := by rw [hf.1 71 (by omega)]; exact hf0
      have ha : at_ (M1.1 73) 0 xs := fun i v hi => by
        have hl : i < xs.length := by
          by_cases z : i < xs.length
          · exact z
          · rw [List.getElem?_eq_none (by omega)] at hi; cases hi
        rw [Nat.zero_add]; exact hv i v (by omega) hi
      have lp := r_leastPair (M := M1) (m := m) (by rw [e71]; exact hp) hm (by rw [hu 9 (by decide)]; exact h9) (fun x hx => Nat.lt_of_lt_of_le (hB x hx) (by omega)) ha hs h24
      rw [e71] at lp
      refine p_Rf_findTokens_10_1 h ⟨by rw [hu 12 (by decide), hn]; exact nI_le (by omega) (by omega), 2, _, by decide, lp, fun v M3 h3 => ?_⟩
      obtain ⟨rfl, e⟩ := h3; obtain rfl := e.symm
      exact loop m 0 xs M1 (by omega) (by omega) (fun i hi => absurd hi (by omega)) (fun x hx => Nat.lt_of_lt_of_le (hB x hx) (by omega)) h24 ha hs rfl hu hf
    | succ n ih =>
      intro k M1 hk hv hs hu hf
      refine p_Rf_findTokens_10_0 h ⟨by rw [hu 12 (by decide), hn]; exact nI_ge (by omega) (by omega), ok_of (N := 24) rfl (by omega) (by decide), ok_of (N := 24) rfl (by omega) (by decide), ?_⟩
      rw [nI_1, nI_clamp (by omega), hf.1 72 (by omega)]
      refine ih (k + 1) _ (by omega) (fun i v hi hiv => ?_) (by rw [q_up_ne 69 (by decide)]; exact hs) (fun i hi => by rw [q_up_ne 69 (by decide)]; exact hu i hi) (hf.up (by omega))
      by_cases hik : i = k
      · subst hik; rw [q_up_at]; have := hx i v hiv; rw [Nat.zero_add] at this; exact this
      · rw [q_up_oth hik]; exact hv i v (by omega) hiv
  refine p_Rf_findTokens_0_0 h ?_
  exact cp xs.length 0 _ (by omega) (fun i v hi => absurd hi (by omega)) (by rw [q_up_at]; exact hn) (fun k hk => q_up_oth hk) ((fr.rf M).up (by omega))
