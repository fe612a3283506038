/-! MERGING, on both sides -/
/-- the numbers of ys stand in f from p on -/
def at_ (f : Nat → Int32) (p : Nat) (ys : List Nat) : Prop := ∀ k v, ys[k]? = some v → f (p + k) = nI v
theorem at_nil {f : Nat → Int32} {p : Nat} : at_ f p [] := fun k v h => by simp at h
theorem at_hd {f : Nat → Int32} {p a : Nat} {ys : List Nat} (h : at_ f p (a :: ys)) : f p = nI a := h 0 a rfl
theorem at_tl {f : Nat → Int32} {p a : Nat} {ys : List Nat} (h : at_ f p (a :: ys)) : at_ f (p + 1) ys := fun k v hk => by
  have := h (k + 1) v (by simpa using hk)
  rw [show p + 1 + k = p + (k + 1) by omega]; exact this
theorem at_up {M : qM} {a i p : Nat} {v : Int32} {ys : List Nat} (h : at_ (M.1 a) p ys) (hi : i < p) : at_ ((q_up M a i v).1 a) p ys := fun k w hk => by
  rw [q_up_oth (by omega)]; exact h k w hk
theorem at_snoc {M : qM} {a t : Nat} {zs : List Nat} (h : at_ (M.1 a) 0 zs) : at_ ((q_up M a zs.length (nI t)).1 a) 0 (zs ++ [t]) := fun k w hk => by
  rw [List.getElem?_append] at hk
  split at hk
  · rename_i hl
    rw [q_up_oth (by omega)]; exact h k w hk
  · rename_i hl
    by_cases hz : k = zs.length
    · subst hz
      rw [Nat.sub_self] at hk
      simp at hk
      subst hk
      rw [Nat.zero_add, q_up_at]
    · rw [List.getElem?_eq_none (by simp; omega)] at hk; cases hk
theorem at_ext {f g : Nat → Int32} {p : Nat} {ys : List Nat} (h : at_ f p ys) (e : ∀ k, k < ys.length → g (p + k) = f (p + k)) : at_ g p ys := fun k v hk => by
  have hl : k < ys.length := by
    by_cases z : k < ys.length
    · exact z
    · rw [List.getElem?_eq_none (by omega)] at hk; cases hk
  rw [e k hl]; exact h k v hk
theorem m_pass_n {l r t a b : Nat} {xs : List Nat} (h : ¬ (a = l ∧ b = r)) : m_pass l r t (a :: b :: xs) = a :: m_pass l r t (b :: xs) := by rw [m_pass, if_neg h]
theorem m_pass_y {l r t a b : Nat} {xs : List Nat} (h1 : a = l) (h2 : b = r) : m_pass l r t (a :: b :: xs) = t :: m_pass l r t xs := by rw [m_pass, if_pos ⟨h1, h2⟩]
set_option maxHeartbeats 1000000 in
theorem c_mergePair {M : qM} {xs : List Nat} {l r t : Nat} (hl : l < 100) (hr : r < 100) (hB : ∀ x ∈ xs, x < 100) (hx : at_ (M.1 8) 0 xs) (hn : M.1 6 3 = nI xs.length) (h24 : xs.length ≤ 24) :
    q_CV TS CL SHP 0 y_Pr_mergePair [.ref 6, .int (nI l), .int (nI r), .int (nI t)] M (fun M' => at_ (M'.1 8) 0 (m_pass l r t xs) ∧ M'.1 6 3 = nI (m_pass l r t xs).length ∧ (∀ k, k ≠ 3 → M'.1 6 k = M.1 6 k) ∧ fr (fun x => x = 6 ∨ x = 8) M M') := by
  refine q_CV.of f_Pr_mergePair [.ref 6, .int (nI l), .int (nI r), .int (nI t), .null, .null, .null] rfl rfl rfl (fun S h => ?_)
  have loop : ∀ n ys rd zs M1, ys.length ≤ n → zs.length ≤ rd → rd + ys.length = xs.length → (∀ x ∈ ys, x < 100) → at_ (M1.1 8) 0 zs → at_ (M1.1 8) rd ys → zs ++ m_pass l r t ys = m_pass l r t xs → fr (fun x => x = 8) M M1 → S 6 [.ref 6, .int (nI l), .int (nI r), .int (nI t), .int (nI zs.length), .int (nI rd), .null] [] M1 := by
    intro n
    induction n with
    | zero =>
      intro ys rd zs M1 h1 h2 h3 hb hz hy he hf
      have : ys = [] := List.eq_nil_of_length_eq_zero (by omega)
      subst this
      rw [m_pass, List.append_nil] at he
      subst he
      simp only [List.length_nil, Nat.add_zero] at h3
      refine p_Pr_mergePair_6_4 h ⟨by rw [hf.1 6 (by omega), hn]; exact nI_le (by omega) (by omega), by rw [q_up_ne 8 (by decide)]; exact hz, q_up_at, fun k hk => by rw [q_up_oth hk, hf.1 6 (by omega)], (hf.mono (fun a ha => Or.inr ha)).up (by omega)⟩
    | succ n ih =>
      intro ys rd zs M1 h1 h2 h3 hb hz hy he hf
      have e6 : M1.1 6 3 = nI xs.length := by rw [hf.1 6 (by omega)]; exact hn
      match ys, h1, h3, hb, hy, he with
      | [], h1, h3, hb, hy, he => exact ih [] rd zs M1 (by simp) h2 h3 hb hz hy he hf
      | [a], h1, h3, hb, hy, he =>
        simp only [List.length_cons, List.length_nil] at h3
        refine p_Pr_mergePair_6_3 h ⟨by rw [e6]; exact nI_ge (by omega) (by omega), by rw [e6, nI_1]; exact nI_le (by omega) (by omega), rfl, ok_of (N := 24) rfl (by omega) (by decide), ok_of (N := 24) rfl (by omega) (by decide), rfl, ?_⟩
        rw [nI_1, nI_1, nI_clamp (by omega), nI_clamp (by omega), at_hd hy]
        have := ih [] (rd + 1) (zs ++ [a]) (q_up M1 8 zs.length (nI a)) (by simp) (by simp; omega) (by simp; omega) (fun x hx => by cases hx) (at_snoc hz) at_nil (by rw [← he]; simp [m_pass]) (hf.up rfl)
        simpa using this
      | a :: b :: ys, h1, h3, hb, hy, he =>
        simp only [List.length_cons] at h3 h1
        have ha : a < 100 := hb a (by simp)
        have hb2 : b < 100 := hb b (by simp)
        have g1 : ¬ M1.1 6 3 ≤ nI rd := by rw [e6]; exact nI_ge (by omega) (by omega)
        have g2 : ¬ M1.1 6 3 ≤ nI rd + 1 := by rw [e6, nI_1]; exact nI_ge (by omega) (by omega)
        have o1 : q_ok SHP 0 8 (nI rd) := ok_of (N := 24) rfl (by omega) (by decide)
        have o2 : q_ok SHP 0 8 (nI rd + 1) := by rw [nI_1]; exact ok_of (N := 24) rfl (by omega) (by decide)
        have o3 : q_ok SHP 0 8 (nI zs.length) := ok_of (N := 24) rfl (by omega) (by decide)
        have v1 : M1.1 8 (nI rd).toNatClampNeg = nI a := by rw [nI_clamp (by omega)]; exact at_hd hy
        have v2 : M1.1 8 (nI rd + 1).toNatClampNeg = nI b := by rw [nI_1, nI_clamp (by omega)]; exact at_hd (at_tl hy)
        have goOn : ¬ (a = l ∧ b = r) → S 6 [.ref 6, .int (nI l), .int (nI r), .int (nI t), .int (nI zs.length + 1), .int (nI rd + 1), .null] [] (q_up M1 8 (nI zs.length).toNatClampNeg (M1.1 8 (nI rd).toNatClampNeg)) := fun hne => by
          rw [nI_1, nI_1, v1, nI_clamp (by omega)]
          have := ih (b :: ys) (rd + 1) (zs ++ [a]) (q_up M1 8 zs.length (nI a)) (by simp only [List.length_cons]; omega) (by simp; omega) (by simp; omega) (fun x hx => hb x (List.mem_cons_of_mem _ hx)) (at_snoc hz) (at_up (at_tl hy) (by omega)) (by rw [← he, m_pass_n hne]; simp) (hf.up rfl)
          simpa using this
        by_cases q1 : a = l
        · have w1 : M1.1 8 (nI rd).toNatClampNeg = nI l := by rw [v1, q1]
          by_cases q2 : b = r
          · have w2 : M1.1 8 (nI rd + 1).toNatClampNeg = nI r := by rw [v2, q2]
            refine p_Pr_mergePair_6_0 h ⟨g1, g2, o1, w1, o2, w2, by decide, o3, by decide, ?_⟩
            rw [nI_1, nI_clamp (by omega), show nI rd + 2 = nI (rd + 2) from nI_add rd 2]
            have := ih ys (rd + 2) (zs ++ [t]) (q_up M1 8 zs.length (nI t)) (by omega) (by simp; omega) (by omega) (fun x hx => hb x (by simp [hx])) (at_snoc hz) (at_up (at_tl (at_tl hy)) (by omega)) (by rw [← he, m_pass_y q1 q2]; simp) (hf.up rfl)
            simpa using this
          · refine p_Pr_mergePair_6_1 h ⟨g1, g2, o1, w1, o2, ?_, rfl, o1, o3, rfl, goOn (fun z => q2 z.2)⟩
            rw [v2, nI_eq (by omega) (by omega)]; exact q2
        · refine p_Pr_mergePair_6_2 h ⟨g1, g2, o1, ?_, rfl, o1, o3, rfl, goOn (fun z => q1 z.1)⟩
          rw [v1, nI_eq (by omega) (by omega)]; exact q1
  refine p_Pr_mergePair_0_0 h ?_
  exact loop xs.length xs 0 [] M (Nat.le_refl _) (by simp) (by omega) hB at_nil hx (by simp) (fr.rf M)
/-- the row of tokens of the symbols xs -/
def toks (f : Nat → Int32) (m : Nat) (xs : List Nat) : List Nat := m_from (pL f) (pR f) m 0 xs
theorem c_mergeBy {M : qM} {m : Nat} {xs : List Nat} (hp : prs (M.1 4) m) (hm : m ≤ 8) (h8 : M.1 3 8 = nI m) (hB : ∀ x ∈ xs, x < 8) (hx : at_ (M.1 7) 0 xs) (hn : M.1 6 1 = nI xs.length) (h24 : xs.length ≤ 24) :
    q_CV TS CL SHP 1 y_Pr_mergeBy [.ref 6, .ref 3] M (fun M' => at_ (M'.1 8) 0 (toks (M.1 4) m xs) ∧ M'.1 6 3 = nI (toks (M.1 4) m xs).length ∧ (∀ k, k ≠ 3 → M'.1 6 k = M.1 6 k) ∧ fr (fun x => x = 6 ∨ x = 8) M M') := by
  refine q_CV.of f_Pr_mergeBy [.ref 6, .ref 3, .null] rfl rfl rfl (fun S h => ?_)
  refine p_Pr_mergeBy_0_0 h ⟨⟨24, 24, rfl, rfl, by decide, by decide, by rw [hn]; exact nI_pos (by omega), ?_, ?_, fun i _ => rfl⟩, ?_⟩
  · rw [hn, nI_clamp (by omega), show (0 : Int32).toNatClampNeg = 0 from rfl]; omega
  · rw [hn, nI_clamp (by omega), show (0 : Int32).toNatClampNeg = 0 from rfl]; omega
  rw [hn, nI_clamp (by omega), show (0 : Int32).toNatClampNeg = 0 from rfl, cp_ne (by decide), hn]
  have loop : ∀ n j ys M1, j + n = m → (∀ x ∈ ys, x < 8 + j) → ys.length ≤ 24 → at_ (M1.1 8) 0 ys → M1.1 6 3 = nI ys.length → m_from (pL (M.1 4)) (pR (M.1 4)) n j ys = toks (M.1 4) m xs → (∀ k, k ≠ 3 → M1.1 6 k = M.1 6 k) → fr (fun x => x = 6 ∨ x = 8) M M1 → S 27 [.ref 6, .ref 3, .int (nI j)] [] M1 := by
    intro n
    induction n with
    | zero =>
      intro j ys M1 hj hb hl ha hs he hk hf
      rw [m_from] at he
      subst he
      exact p_Pr_mergeBy_27_1 h ⟨by rw [hf.1 3 (by omega), h8]; exact nI_le (by omega) (by omega), ha, hs, hk, hf⟩
    | succ n ih =>
      intro j ys M1 hj hb hl ha hs he hk hf
      have e4 : M1.1 4 = M.1 4 := hf.1 4 (by omega)
      have hp1 : prs (M1.1 4) m := by rw [e4]; exact hp
      obtain ⟨-, a1, -, a2⟩ := hp j (by omega)
      refine p_Pr_mergeBy_27_0 h ⟨by rw [hf.1 3 (by omega), h8]; exact nI_ge (by omega) (by omega), 0, _, by decide, c_leftP hp1 (by omega) hm, fun v M2 g2 => ?_⟩
      obtain ⟨rfl, e⟩ := g2; obtain rfl := e.symm
      refine ⟨0, _, by decide, c_rightP hp1 (by omega) hm, fun v M2 g2 => ?_⟩
      obtain ⟨rfl, e⟩ := g2; obtain rfl := e.symm
      rw [e4, show (8 : Int32) + nI j = nI (8 + j) from nI_add 8 j]
      refine ⟨0, _, by decide, c_mergePair (by omega) (by omega) (fun x hx => Nat.lt_of_lt_of_le (hb x hx) (by omega)) ha hs hl, fun M3 h3 => ?_⟩
      obtain ⟨x1, x2, x3, x4⟩ := h3
      rw [nI_1]
      exact ih (j + 1) _ M3 (by omega) (m_pass_bd (by omega) ys (fun y hy => Nat.lt_of_lt_of_le (hb y hy) (by omega))) (Nat.le_trans (m_pass_len ys) hl) x1 x2 he (fun k hk2 => (x3 k hk2).trans (hk k hk2)) (hf.trans x4)
  refine loop m 0 xs _ (by omega) (fun x hx => by have := hB x hx; omega) h24 ?_ q_up_at rfl (fun k hk => by rw [q_up_oth hk, cp_ne (by decide)]) ⟨fun x hx => by rw [q_up_ne x (by omega), cp_ne (by omega)], rfl⟩
  rw [q_up_ne 8 (by decide), cp_at]
  refine at_ext hx (fun k hk => ?_)
  show (if 0 + k < xs.length then _ else _) = _
  rw [if_pos (by omega)]
theorem r_left {M : qM} {m j : Nat} (hp : prs (M.1 71) m) (hj : j < m) (hm : m ≤ 8) : q_CI TS CL SHP 0 y_Rf_left [.ref 69, .int (nI j)] M (fun v M' => v = nI (pL (M.1 71) j) ∧ M' = M) := by
  refine q_CI.of f_Rf_left [.ref 69, .int (nI j)] rfl rfl (fun v M' _ => ⟨.int, rfl, rfl⟩) (fun S h => ?_)
  have e : (9 : Int32) + 2 * nI j = nI (9 + 2 * j) := by rw [show (9 : Int32) = nI 9 from rfl, show (2 : Int32) = nI 2 from rfl, nI_mul, nI_add]
  refine p_Rf_left_0_0 h ⟨by rw [e]; exact ok_of (N := 1500) rfl (by omega) (by decide), ?_, rfl⟩
  rw [e, nI_clamp (by omega)]; exact (hp j hj).1
theorem r_right {M : qM} {m j : Nat} (hp : prs (M.1 71) m) (hj : j < m) (hm : m ≤ 8) : q_CI TS CL SHP 0 y_Rf_right [.ref 69, .int (nI j)] M (fun v M' => v = nI (pR (M.1 71) j) ∧ M' = M) := by
  refine q_CI.of f_Rf_right [.ref 69, .int (nI j)] rfl rfl (fun v M' _ => ⟨.int, rfl, rfl⟩) (fun S h => ?_)
  have e : (10 : Int32) + 2 * nI j = nI (9 + 2 * j + 1) := by rw [show (10 : Int32) = nI 10 from rfl, show (2 : Int32) = nI 2 from rfl, nI_mul, nI_add]; congr 1; omega
  refine p_Rf_right_0_0 h ⟨by rw [e]; exact ok_of (N := 1500) rfl (by omega) (by decide), ?_, rfl⟩
  rw [e, nI_clamp (by omega)]; exact (hp j hj).2.2.1
/-- does the pair stand at the head -/
def m_hd (l r : Nat) : List Nat → Bool
  | a :: b :: _ => decide (a = l ∧ b = r)
  | _ => false
theorem r_stands {M : qM} {m j p L : Nat} {ys : List Nat} (hp : prs (M.1 71) m) (hj : j < m) (hm : m ≤ 8) (hn : M.1 69 14 = nI L) (hL : p + ys.length = L) (h24 : L ≤ 24) (hy : at_ (M.1 73) p ys) (hB : ∀ x ∈ ys, x < 100) :
    q_CI TS CL SHP 1 y_Rf_stands [.ref 69, .int (nI j), .int (nI p)] M (fun v M' => v = n_tf (m_hd (pL (M.1 71) j) (pR (M.1 71) j) ys) ∧ M' = M) := by
  refine q_CI.of f_Rf_stands [.ref 69, .int (nI j), .int (nI p)] rfl rfl (fun v M' hv => ⟨.boolean, rfl, by rw [hv.1]; exact n_tf_nar _⟩) (fun S h => ?_)
  obtain ⟨-, a1, -, a2⟩ := hp j hj
  match ys, hL, hy, hB with
  | [], hL, hy, hB =>
    simp only [List.length_nil] at hL
    exact p_Rf_stands_0_1 h ⟨by rw [hn, nI_1]; exact nI_le (by omega) (by omega), rfl, rfl⟩
  | [a], hL, hy, hB =>
    simp only [List.length_cons, List.length_nil] at hL
    exact p_Rf_stands_0_1 h ⟨by rw [hn, nI_1]; exact nI_le (by omega) (by omega), rfl, rfl⟩
  | a :: b :: ys, hL, hy, hB =>
    simp only [List.length_cons] at hL
    have ha : a < 100 := hB a (by simp)
    have hb2 : b < 100 := hB b (by simp)
    refine p_Rf_stands_0_0 h ⟨by rw [hn, nI_1]; exact nI_ge (by omega) (by omega), ok_of (N := 24) rfl (by omega) (by decide), 0, _, by decide, r_left hp hj hm, fun v M1 h1 => ?_⟩
    obtain ⟨rfl, e⟩ := h1; obtain rfl := e.symm
    rw [nI_clamp (by omega), at_hd hy]
    by_cases q1 : a = pL (M.1 71) j
    · refine p_Rf_stands_21_0 h ⟨by rw [q1], by rw [nI_1]; exact ok_of (N := 24) rfl (by omega) (by decide), 0, _, by decide, r_right hp hj hm, fun v M1 h1 => ?_⟩
      obtain ⟨rfl, e⟩ := h1; obtain rfl := e.symm
      rw [nI_1, nI_clamp (by omega), at_hd (at_tl hy)]
      by_cases q2 : b = pR (M.1 71) j
      · exact p_Rf_stands_37_0 h ⟨by rw [q2], tf1 ⟨q1, q2⟩, rfl⟩
      · exact p_Rf_stands_37_1 h ⟨by rw [nI_eq (by omega) (by omega)]; exact q2, tf0 (fun z => q2 z.2), rfl⟩
    · exact p_Rf_stands_21_1 h ⟨by rw [nI_eq (by omega) (by omega)]; exact q1, tf0 (fun z => q1 z.1), rfl⟩
