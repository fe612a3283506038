/-! TOKENS, TOKEN, SPELL on both sides -/
def NONE : Int32 := -1000000000
/-- the class's model is loaded: c -/
def LC (c : Nat → Nat) (M : qM) : Prop := HC c M ∧ M.1 3 2 = 1 ∧ prs (M.1 4) (c 5) ∧ isSz (M.1 4) (c 5) (M.1 5)
def LR (c : Nat → Nat) (M : qM) : Prop := HR c M ∧ M.1 69 3 = 1 ∧ prs (M.1 71) (c 5)
def s_tok (xs : List Nat) (a : Int32) : Int32 := if ¬ a < 0 ∧ a < nI xs.length then nI (xs.getD a.toNatClampNeg 0) else NONE
theorem at_get {f : Nat → Int32} {xs : List Nat} {k : Nat} (h : at_ f 0 xs) (hk : k < xs.length) : f k = nI (xs.getD k 0) := by
  have := h k xs[k] (List.getElem?_eq_getElem hk)
  rw [Nat.zero_add] at this
  rw [this, List.getD_eq_getElem?_getD, List.getElem?_eq_getElem hk]
  rfl
theorem c_tokens0 {M : qM} (h0 : M.1 3 2 = 0) : q_CI TS CL SHP 2 y_CS_tokens [.ref 0] M (fun v M' => v = NONE ∧ M' = M) :=
  q_CI.of f_CS_tokens [.ref 0] rfl rfl (fun _ _ _ => ⟨.int, rfl, rfl⟩) (fun _ h => p_CS_tokens_0_0 h ⟨h0, rfl, rfl⟩)
theorem n_ne10 : ¬ (1 : Int32) = 0 := by decide
theorem c_tokens1 {M : qM} {c : Nat → Nat} {xs : List Nat} (hc : cOk c) (hL : LC c M) (hB : ∀ x ∈ xs, x < 8) (hx : at_ (M.1 7) 0 xs) (hn : M.1 6 1 = nI xs.length) (h24 : xs.length ≤ 24) :
    q_CI TS CL SHP 2 y_CS_tokens [.ref 0] M (fun v M' => v = nI (toks (M.1 4) (c 5) xs).length ∧ (∀ k, k ≠ 3 → M'.1 6 k = M.1 6 k) ∧ fr (fun x => x = 6 ∨ x = 8) M M') := by
  refine q_CI.of f_CS_tokens [.ref 0] rfl rfl (fun _ _ _ => ⟨.int, rfl, rfl⟩) (fun S h => ?_)
  refine p_CS_tokens_0_1 h ⟨by rw [hL.2.1]; exact n_ne10, 1, _, by decide, c_mergeBy hL.2.2.1 hc.2.2.2.2.2.2.2.1 hL.1.2.2.2.2.2.1 hB hx hn h24, fun M1 h1 => ?_⟩
  exact ⟨h1.2.1, h1.2.2.1, h1.2.2.2⟩
theorem c_token0 {M : qM} (h0 : M.1 3 2 = 0) (a : Int32) : q_CI TS CL SHP 2 y_CS_token [.ref 0, .int a] M (fun v M' => v = NONE ∧ M' = M) :=
  q_CI.of f_CS_token [.ref 0, .int a] rfl rfl (fun _ _ _ => ⟨.int, rfl, rfl⟩) (fun _ h => p_CS_token_0_0 h ⟨h0, rfl, rfl⟩)
theorem c_token1 {M : qM} {c : Nat → Nat} {xs : List Nat} (hc : cOk c) (hL : LC c M) (hB : ∀ x ∈ xs, x < 8) (hx : at_ (M.1 7) 0 xs) (hn : M.1 6 1 = nI xs.length) (h24 : xs.length ≤ 24) (a : Int32) :
    q_CI TS CL SHP 2 y_CS_token [.ref 0, .int a] M (fun v M' => v = s_tok (toks (M.1 4) (c 5) xs) a ∧ (∀ k, k ≠ 3 → M'.1 6 k = M.1 6 k) ∧ fr (fun x => x = 6 ∨ x = 8) M M') := by
  refine q_CI.of f_CS_token [.ref 0, .int a] rfl rfl (fun _ _ _ => ⟨.int, rfl, rfl⟩) (fun S h => ?_)
  have hlen : (toks (M.1 4) (c 5) xs).length ≤ 24 := Nat.le_trans (m_from_len _ _ _) h24
  refine p_CS_token_0_1 h ⟨by rw [hL.2.1]; exact n_ne10, 1, _, by decide, c_mergeBy hL.2.2.1 hc.2.2.2.2.2.2.2.1 hL.1.2.2.2.2.2.1 hB hx hn h24, fun M1 h1 => ?_⟩
  obtain ⟨x1, x2, x3, x4⟩ := h1
  unfold s_tok at h
  by_cases g1 : a < 0
  · exact p_CS_token_25_2 h ⟨g1, by rw [if_neg (fun z => z.1 g1)]; rfl, x3, x4⟩
  by_cases g2 : a < nI (toks (M.1 4) (c 5) xs).length
  · obtain ⟨n, hn, rfl⟩ := nI_of g1
    have g3 := g2
    rw [nI_ltI (by omega) (by omega)] at g3
    refine p_CS_token_25_1 h ⟨g1, by rw [x2]; exact g2, ok_of (N := 24) rfl (by omega) (by decide), ?_, x3, x4⟩
    rw [if_pos ⟨g1, g2⟩, nI_clamp (by omega), at_get x1 g3]
  · exact p_CS_token_25_0 h ⟨g1, by rw [x2]; exact g2, by rw [if_neg (fun z => g2 z.2)]; rfl, x3, x4⟩
theorem q33 {M : qM} {k : Nat} {v : Int32} (hk : k ≠ 33) : (q_up M 69 33 v).1 69 k = M.1 69 k := q_up_oth hk
theorem LR.up {c : Nat → Nat} {M : qM} {v : Int32} (h : LR c M) : LR c (q_up M 69 33 v) := by
  obtain ⟨⟨h1, h2, h3, h4, h5, h6, h7, h8⟩, h9, h10⟩ := h
  refine ⟨⟨?_, ?_, ?_, ?_, ?_, ?_, ?_, ?_⟩, ?_, ?_⟩ <;> first | (rw [q33 (by decide)]; assumption) | (rw [q_up_ne 71 (by decide)]; assumption)
theorem r_tokens0 {M : qM} (h0 : M.1 69 3 = 0) : q_CI TS CL SHP 4 y_Rf_tokens [.ref 69] M (fun v M' => v = NONE ∧ M' = q_up M 69 33 0) :=
  q_CI.of f_Rf_tokens [.ref 69] rfl rfl (fun _ _ _ => ⟨.int, rfl, rfl⟩) (fun _ h => p_Rf_tokens_0_0 h ⟨by rw [q33 (by decide)]; exact h0, rfl, rfl⟩)
theorem r_tokens1 {M : qM} {c : Nat → Nat} {xs : List Nat} (hc : cOk c) (hL : LR c M) (hB : ∀ x ∈ xs, x < 8) (hx : at_ (M.1 72) 0 xs) (hn : M.1 69 12 = nI xs.length) (h24 : xs.length ≤ 24) :
    q_CI TS CL SHP 4 y_Rf_tokens [.ref 69] M (fun v M' => v = nI (toks (M.1 71) (c 5) xs).length ∧ (∀ k, k ≠ 14 → k ≠ 33 → M'.1 69 k = M.1 69 k) ∧ fr (fun x => x = 69 ∨ x = 73) M M') := by
  refine q_CI.of f_Rf_tokens [.ref 69] rfl rfl (fun _ _ _ => ⟨.int, rfl, rfl⟩) (fun S h => ?_)
  have hL2 : LR c (q_up M 69 33 0) := hL.up
  have ft := r_findTokens (M := q_up M 69 33 0) (m := c 5) (xs := xs) hL2.2.2 hc.2.2.2.2.2.2.2.1 hL2.1.2.2.2.2.2.1 hB (by rw [q_up_ne 72 (by decide)]; exact hx) (by rw [q33 (by decide)]; exact hn) h24
  rw [q_up_ne 71 (by decide)] at ft
  refine p_Rf_tokens_0_1 h ⟨by rw [hL2.2.1]; exact n_ne10, 3, _, by decide, ft, fun M1 h1 => ?_⟩
  exact ⟨h1.2.1, fun k k1 k2 => by rw [h1.2.2.1 k k1, q33 k2], ((fr.rf M).up (by omega)).trans h1.2.2.2⟩
theorem r_token0 {M : qM} (h0 : M.1 69 3 = 0) (a : Int32) : q_CI TS CL SHP 4 y_Rf_token [.ref 69, .int a] M (fun v M' => v = NONE ∧ M' = q_up M 69 33 0) :=
  q_CI.of f_Rf_token [.ref 69, .int a] rfl rfl (fun _ _ _ => ⟨.int, rfl, rfl⟩) (fun _ h => p_Rf_token_0_0 h ⟨by rw [q33 (by decide)]; exact h0, rfl, rfl⟩)
theorem r_token1 {M : qM} {c : Nat → Nat} {xs : List Nat} (hc : cOk c) (hL : LR c M) (hB : ∀ x ∈ xs, x < 8) (hx : at_ (M.1 72) 0 xs) (hn : M.1 69 12 = nI xs.length) (h24 : xs.length ≤ 24) (a : Int32) :
    q_CI TS CL SHP 4 y_Rf_token [.ref 69, .int a] M (fun v M' => v = s_tok (toks (M.1 71) (c 5) xs) a ∧ (∀ k, k ≠ 14 → k ≠ 33 → M'.1 69 k = M.1 69 k) ∧ fr (fun x => x = 69 ∨ x = 73) M M') := by
  refine q_CI.of f_Rf_token [.ref 69, .int a] rfl rfl (fun _ _ _ => ⟨.int, rfl, rfl⟩) (fun S h => ?_)
  have hL2 : LR c (q_up M 69 33 0) := hL.up
  have hlen : (toks (M.1 71) (c 5) xs).length ≤ 24 := Nat.le_trans (m_from_len _ _ _) h24
  have ft := r_findTokens (M := q_up M 69 33 0) (m := c 5) (xs := xs) hL2.2.2 hc.2.2.2.2.2.2.2.1 hL2.1.2.2.2.2.2.1 hB (by rw [q_up_ne 72 (by decide)]; exact hx) (by rw [q33 (by decide)]; exact hn) h24
  rw [q_up_ne 71 (by decide)] at ft
  refine p_Rf_token_0_1 h ⟨by rw [hL2.2.1]; exact n_ne10, 3, _, by decide, ft, fun M1 h1 => ?_⟩
  obtain ⟨x1, x2, x3, x4⟩ := h1
  have y3 : ∀ k, k ≠ 14 → k ≠ 33 → M1.1 69 k = M.1 69 k := fun k k1 k2 => by rw [x3 k k1, q33 k2]
  have y4 : fr (fun x => x = 69 ∨ x = 73) M M1 := ((fr.rf M).up (by omega)).trans x4
  unfold s_tok at h
  by_cases g1 : a < 0
  · exact p_Rf_token_20_2 h ⟨g1, by rw [if_neg (fun z => z.1 g1)]; rfl, y3, y4⟩
  by_cases g2 : a < nI (toks (M.1 71) (c 5) xs).length
  · obtain ⟨n, hn, rfl⟩ := nI_of g1
    have g3 := g2
    rw [nI_ltI (by omega) (by omega)] at g3
    refine p_Rf_token_20_0 h ⟨g1, by rw [x2]; exact n_nle.mpr g2, ok_of (N := 24) rfl (by omega) (by decide), ?_, y3, y4⟩
    rw [if_pos ⟨g1, g2⟩, nI_clamp (by omega), at_get x1 g3]
  · exact p_Rf_token_20_1 h ⟨g1, by rw [x2]; exact n_nlt.mp g2, by rw [if_neg (fun z => g2 z.2)]; rfl, y3, y4⟩
/-- down the pairs -/
def s_desc (f z : Nat → Int32) : Nat → Nat → Int32 → Nat
  | 0, t, _ => t
  | n + 1, t, k => if t < 8 then t else if k < z (pL f (t - 8)) then s_desc f z n (pL f (t - 8)) k else s_desc f z n (pR f (t - 8)) (k - z (pL f (t - 8)))
theorem s_desc_lt {f z : Nat → Int32} {t n : Nat} {k : Int32} (h : t < 8) : s_desc f z n t k = t := by
  cases n with
  | zero => rfl
  | succ n => rw [s_desc, if_pos h]
theorem s_desc_ext {f z z' : Nat → Int32} {m : Nat} (hp : prs f m) (hz : ∀ t, t < 8 + m → z t = z' t) : ∀ n t k, t < 8 + m → s_desc f z n t k = s_desc f z' n t k := by
  intro n
  induction n with
  | zero => intro t k _; rfl
  | succ n ih =>
    intro t k ht
    rw [s_desc, s_desc]
    by_cases h8 : t < 8
    · rw [if_pos h8, if_pos h8]
    · obtain ⟨-, b1, -, b2⟩ := hp (t - 8) (by omega)
      rw [if_neg h8, if_neg h8, hz _ (by omega), ih _ _ (by omega), ih _ _ (by omega)]
theorem c_symbolOf {M : qM} {m t : Nat} {i : Int32} (hp : prs (M.1 4) m) (hm : m ≤ 8) (ht : t < 8 + m) : q_CI TS CL SHP 1 y_Mo_symbolOf [.ref 3, .int (nI t), .int i] M (fun v M' => v = nI (s_desc (M.1 4) (M.1 5) 16 t i) ∧ M' = M) := by
  refine q_CI.of f_Mo_symbolOf [.ref 3, .int (nI t), .int i, .null, .null, .null, .null] rfl rfl (fun _ _ _ => ⟨.int, rfl, rfl⟩) (fun S h => ?_)
  have loop : ∀ n dp tok k, dp + n = 16 → tok < 8 + n → tok < 8 + m → s_desc (M.1 4) (M.1 5) n tok k = s_desc (M.1 4) (M.1 5) 16 t i → S 8 [.ref 3, .int (nI t), .int i, .int (nI tok), .int k, .int (nI dp), .null] [] M := by
    intro n
    induction n with
    | zero =>
      intro dp tok k h1 h2 h3 he
      exact p_Mo_symbolOf_8_2 h ⟨nI_le (a := 16) (by omega) (by omega), by rw [← he]; rfl, rfl⟩
    | succ n ih =>
      intro dp tok k h1 h2 h3 he
      have g1 : ¬ 16 ≤ nI dp := nI_ge (b := 16) (by omega) (by omega)
      by_cases h8 : tok < 8
      · exact p_Mo_symbolOf_8_1 h ⟨g1, nI_lt h8 (by decide), by rw [← he, s_desc_lt h8], rfl⟩
      · obtain ⟨-, b1, -, b2⟩ := hp (tok - 8) (by omega)
        have e8 : nI tok - 8 = nI (tok - 8) := nI_sub (b := 8) (by omega)
        have cl := c_leftP (j := tok - 8) hp (by omega) hm
        have cr := c_rightP (j := tok - 8) hp (by omega) hm
        rw [← e8] at cl cr
        refine p_Mo_symbolOf_8_0 h ⟨g1, nI_nlt (b := 8) (by omega) (by omega), 0, _, by decide, cl, fun v M1 h1 => ?_⟩
        obtain ⟨rfl, e⟩ := h1; obtain rfl := e.symm
        refine ⟨ok_of (N := 16) rfl (by omega) (by decide), ?_⟩
        rw [nI_clamp (by omega)]
        rw [s_desc, if_neg h8] at he
        by_cases hk : k < M.1 5 (pL (M.1 4) (tok - 8))
        · rw [if_pos hk] at he
          refine p_Mo_symbolOf_40_0 h ⟨n_nle.mpr hk, ?_⟩
          rw [nI_1]
          exact ih (dp + 1) _ k (by omega) (by omega) (by omega) he
        · rw [if_neg hk] at he
          refine p_Mo_symbolOf_40_1 h ⟨n_nlt.mp hk, ok_of (N := 16) rfl (by omega) (by decide), 0, _, by decide, cr, fun v M1 h1 => ?_⟩
          obtain ⟨rfl, e⟩ := h1; obtain rfl := e.symm
          rw [nI_1, nI_clamp (by omega)]
          exact ih (dp + 1) _ _ (by omega) (by omega) (by omega) he
  exact p_Mo_symbolOf_0_0 h (loop 16 0 t i (by omega) (by omega) ht rfl)
def s_spell (f z : Nat → Int32) (m : Nat) (t i : Int32) : Int32 := if (¬ t < 0 ∧ t < nI (8 + m)) ∧ ¬ i < 0 ∧ i < z t.toNatClampNeg then nI (s_desc f z 16 t.toNatClampNeg i) else NONE
theorem c_spell0 {M : qM} (h0 : M.1 3 2 = 0) (t i : Int32) : q_CI TS CL SHP 2 y_CS_spell [.ref 0, .int t, .int i] M (fun v M' => v = NONE ∧ M' = M) :=
  q_CI.of f_CS_spell [.ref 0, .int t, .int i] rfl rfl (fun _ _ _ => ⟨.int, rfl, rfl⟩) (fun _ h => p_CS_spell_0_1 h ⟨h0, rfl, rfl⟩)
theorem c_spell1 {M : qM} {c : Nat → Nat} (hc : cOk c) (hL : LC c M) (t i : Int32) : q_CI TS CL SHP 2 y_CS_spell [.ref 0, .int t, .int i] M (fun v M' => v = s_spell (M.1 4) (M.1 5) (c 5) t i ∧ M' = M) := by
  refine q_CI.of f_CS_spell [.ref 0, .int t, .int i] rfl rfl (fun _ _ _ => ⟨.int, rfl, rfl⟩) (fun S h => ?_)
  have h8 : c 5 ≤ 8 := hc.2.2.2.2.2.2.2.1
  refine p_CS_spell_0_0 h ⟨by rw [hL.2.1]; exact n_ne10, 0, _, by decide, c_knows hL.1.2.2.2.2.2.2.1 h8, fun v M1 h1 => ?_⟩
  obtain ⟨h1, e⟩ := h1; obtain rfl := e.symm
  unfold s_spell at h
  rcases h1 with ⟨rfl, n, hn, rfl⟩ | ⟨rfl, hno⟩
  · have g0 : ¬ nI n < 0 ∧ nI n < nI (8 + c 5) := ⟨nI_pos (by omega), nI_lt hn (by omega)⟩
    by_cases g1 : i < 0
    · exact p_CS_spell_18_2 h ⟨by decide, g1, by rw [if_neg (fun z => z.2.1 g1)]; rfl, rfl⟩
    · by_cases g2 : i < M.1 5 (nI n).toNatClampNeg
      · refine p_CS_spell_18_1 h ⟨by decide, g1, ok_of (N := 16) rfl (by omega) (by decide), g2, 1, _, by decide, c_symbolOf hL.2.2.1 h8 hn, fun v M1 h1 => ?_⟩
        obtain ⟨rfl, e⟩ := h1; obtain rfl := e.symm
        exact ⟨by rw [if_pos ⟨g0, g1, g2⟩, nI_clamp (by omega)], rfl⟩
      · exact p_CS_spell_18_0 h ⟨by decide, g1, ok_of (N := 16) rfl (by omega) (by decide), g2, by rw [if_neg (fun z => g2 z.2.2)]; rfl, rfl⟩
  · refine p_CS_spell_18_3 h ⟨rfl, ?_, rfl⟩
    rw [if_neg (fun z => hno.elim z.1.1 (fun q => n_nlt.mpr q z.1.2))]; rfl
theorem r_spell0 {M : qM} (h0 : M.1 69 3 = 0) (t i : Int32) : q_CI TS CL SHP 2 y_Rf_spell [.ref 69, .int t, .int i] M (fun v M' => v = NONE ∧ M' = q_up M 69 33 0) :=
  q_CI.of f_Rf_spell [.ref 69, .int t, .int i, .null, .null, .null, .null] rfl rfl (fun _ _ _ => ⟨.int, rfl, rfl⟩) (fun _ h => p_Rf_spell_0_4 h ⟨by rw [q33 (by decide)]; exact h0, rfl, rfl⟩)
set_option maxHeartbeats 1000000 in
theorem r_spell1 {M : qM} {c : Nat → Nat} {z : Nat → Int32} (hc : cOk c) (hL : LR c M) (hz : isSz (M.1 71) (c 5) z) (t i : Int32) : q_CI TS CL SHP 2 y_Rf_spell [.ref 69, .int t, .int i] M (fun v M' => v = s_spell (M.1 71) z (c 5) t i ∧ (∀ k, k ≠ 33 → M'.1 69 k = M.1 69 k) ∧ fr (fun x => x = 69 ∨ x = 74) M M') := by
  refine q_CI.of f_Rf_spell [.ref 69, .int t, .int i, .null, .null, .null, .null] rfl rfl (fun _ _ _ => ⟨.int, rfl, rfl⟩) (fun S h => ?_)
  have h8 : c 5 ≤ 8 := hc.2.2.2.2.2.2.2.1
  have hL2 : LR c (q_up M 69 33 0) := hL.up
  have hp := hL.2.2
  have fU : fr (fun x => x = 69 ∨ x = 74) M (q_up M 69 33 0) := (fr.rf M).up (by omega)
  have uU : ∀ k, k ≠ 33 → (q_up M 69 33 0).1 69 k = M.1 69 k := fun k hk => q33 hk
  have e9 : ∀ M1 : qM, (∀ k, k ≠ 33 → M1.1 69 k = M.1 69 k) → (8 : Int32) + M1.1 69 9 = nI (8 + c 5) := fun M1 hu => by rw [hu 9 (by decide), hL.1.2.2.2.2.2.1]; exact nI_add 8 _
  have hl3 : ¬ (q_up M 69 33 0).1 69 3 = 0 := by rw [hL2.2.1]; exact n_ne10
  unfold s_spell at h
  by_cases g1 : t < 0
  · exact p_Rf_spell_0_3 h ⟨hl3, g1, by rw [if_neg (fun z => z.1.1 g1)]; rfl, uU, fU⟩
  by_cases g2 : nI (8 + c 5) ≤ t
  · exact p_Rf_spell_0_2 h ⟨hl3, g1, by rw [e9 _ uU]; exact g2, by rw [if_neg (fun z => n_nlt.mpr g2 z.1.2)]; rfl, uU, fU⟩
  have g2' := n_nle.mp g2
  by_cases g3 : i < 0
  · exact p_Rf_spell_0_0 h ⟨hl3, g1, by rw [e9 _ uU]; exact g2, n_nle.mpr g3, by rw [if_neg (fun z => z.2.1 g3)]; rfl, uU, fU⟩
  obtain ⟨tt, htt, rfl⟩ := nI_of g1
  have htm : tt < 8 + c 5 := by rw [nI_ltI htt (by omega)] at g2'; exact g2'
  have fin : ∀ M1 : qM, isSz (M.1 71) (c 5) (M1.1 74) → (∀ k, k ≠ 33 → M1.1 69 k = M.1 69 k) → fr (fun x => x = 69 ∨ x = 74) M M1 → S 36 [.ref 69, .int (nI tt), .int i, .int (nI (8 + c 5)), .null, .null, .null] [] M1 := by
    intro M1 hs hu hf
    have ez : ∀ t, t < 8 + c 5 → z t = M1.1 74 t := fun t ht => isSz_uniq hp hz hs (t + 1) t (by omega) ht
    have e71 : M1.1 71 = M.1 71 := hf.1 71 (by omega)
    have hp1 : prs (M1.1 71) (c 5) := by rw [e71]; exact hp
    have c1 : (nI tt).toNatClampNeg = tt := nI_clamp htt
    rw [c1] at h
    by_cases g4 : i < M1.1 74 tt
    · refine p_Rf_spell_36_3 h ⟨by rw [e9 _ hu]; exact nI_le (Nat.le_refl _) (by omega), ok_of (N := 16) rfl (by omega) (by decide), by rw [c1]; exact g4, ?_⟩
      have loop : ∀ n tok k, tok < 8 + n → tok < 8 + c 5 → s_desc (M.1 71) z n tok k = s_desc (M.1 71) z 16 tt i → S 114 [.ref 69, .int (nI tt), .int i, .int (nI tok), .int k, .null, .null] [] M1 := by
        intro n
        induction n with
        | zero =>
          intro tok k h2 h3 he
          refine p_Rf_spell_114_1 h ⟨nI_le (b := 7) (by omega) (by omega), ?_, hu, hf⟩
          rw [if_pos ⟨⟨g1, g2'⟩, g3, by rw [ez _ htm]; exact g4⟩, ← he]; rfl
        | succ n ih =>
          intro tok k h2 h3 he
          by_cases h8' : tok < 8
          · refine p_Rf_spell_114_1 h ⟨nI_le (b := 7) (by omega) (by omega), ?_, hu, hf⟩
            rw [if_pos ⟨⟨g1, g2'⟩, g3, by rw [ez _ htm]; exact g4⟩, ← he, s_desc_lt h8']
          · obtain ⟨-, b1, -, b2⟩ := hp (tok - 8) (by omega)
            have e8 : nI tok - 8 = nI (tok - 8) := nI_sub (b := 8) (by omega)
            have cl := r_left (j := tok - 8) hp1 (by omega) h8
            have cr := r_right (j := tok - 8) hp1 (by omega) h8
            rw [← e8, e71] at cl cr
            refine p_Rf_spell_114_0 h ⟨nI_ge (a := 7) (by omega) (by omega), 0, _, by decide, cl, fun v M2 h1 => ?_⟩
            obtain ⟨rfl, e⟩ := h1; obtain rfl := e.symm
            refine ⟨ok_of (N := 16) rfl (by omega) (by decide), ?_⟩
            rw [nI_clamp (by omega)]
            rw [s_desc, if_neg h8', ez _ (by omega)] at he
            by_cases hk : k < M1.1 74 (pL (M.1 71) (tok - 8))
            · rw [if_pos hk] at he
              exact p_Rf_spell_139_0 h ⟨n_nle.mpr hk, by decide, by decide, ih _ k (by omega) (by omega) he⟩
            · rw [if_neg hk] at he
              refine p_Rf_spell_139_1 h ⟨n_nlt.mp hk, rfl, ok_of (N := 16) rfl (by omega) (by decide), rfl, 0, _, by decide, cr, fun v M2 h1 => ?_⟩
              obtain ⟨rfl, e⟩ := h1; obtain rfl := e.symm
              rw [nI_clamp (by omega)]
              exact ih _ _ (by omega) (by omega) he
      exact loop 16 tt i (by omega) htm rfl
    · refine p_Rf_spell_36_2 h ⟨by rw [e9 _ hu]; exact nI_le (Nat.le_refl _) (by omega), ok_of (N := 16) rfl (by omega) (by decide), by rw [c1]; exact g4, ?_, hu, hf⟩
      rw [if_neg (fun q => g4 (by rw [← ez _ htm]; exact q.2.2))]; rfl
  refine p_Rf_spell_0_1 h ⟨hl3, g1, by rw [e9 _ uU]; exact g2, n_nlt.mp g3, ?_⟩
  have loop : ∀ n s M1, s + n = 8 + c 5 → (∀ t, t < 8 → t < s → M1.1 74 t = 1) → (∀ j, 8 + j < s → M1.1 74 (8 + j) = M1.1 74 (pL (M.1 71) j) + M1.1 74 (pR (M.1 71) j)) → (∀ k, k ≠ 33 → M1.1 69 k = M.1 69 k) → fr (fun x => x = 69 ∨ x = 74) M M1 → S 36 [.ref 69, .int (nI tt), .int i, .int (nI s), .null, .null, .null] [] M1 := by
    intro n
    induction n with
    | zero =>
      intro s M1 hs h1 h2 hu hf
      have : s = 8 + c 5 := by omega
      subst this
      exact fin M1 ⟨fun t ht => h1 t ht (by omega), fun j hj => h2 j (by omega)⟩ hu hf
    | succ n ih =>
      intro s M1 hs h1 h2 hu hf
      have e71 : M1.1 71 = M.1 71 := hf.1 71 (by omega)
      have hp1 : prs (M1.1 71) (c 5) := by rw [e71]; exact hp
      have g5 : ¬ 8 + M1.1 69 9 ≤ nI s := by rw [e9 _ hu]; exact nI_ge (by omega) (by omega)
      have os : q_ok SHP 0 74 (nI s) := ok_of (N := 16) rfl (by omega) (by decide)
      by_cases h8' : s < 8
      · refine p_Rf_spell_36_0 h ⟨g5, nI_ge (b := 8) (by omega) (by omega), os, ?_⟩
        rw [nI_1, nI_clamp (by omega)]
        refine ih (s + 1) _ (by omega) (fun t ht hts => ?_) (fun j hj => by omega) (fun k hk => by rw [q_up_ne 69 (by decide)]; exact hu k hk) (hf.up (by omega))
        by_cases q : t = s
        · subst q; rw [q_up_at]
        · rw [q_up_oth q]; exact h1 t ht (by omega)
      · obtain ⟨-, b1, -, b2⟩ := hp (s - 8) (by omega)
        have e8 : nI s - 8 = nI (s - 8) := nI_sub (b := 8) (by omega)
        have cl := r_left (j := s - 8) hp1 (by omega) h8
        have cr := r_right (j := s - 8) hp1 (by omega) h8
        rw [← e8, e71] at cl cr
        refine p_Rf_spell_36_1 h ⟨g5, nI_le (a := 8) (by omega) (by omega), 0, _, by decide, cl, fun v M2 q1 => ?_⟩
        obtain ⟨rfl, e⟩ := q1; obtain rfl := e.symm
        refine ⟨ok_of (N := 16) rfl (by omega) (by decide), 0, _, by decide, cr, fun v M2 q1 => ?_⟩
        obtain ⟨rfl, e⟩ := q1; obtain rfl := e.symm
        refine ⟨ok_of (N := 16) rfl (by omega) (by decide), os, ?_⟩
        rw [nI_1, nI_clamp (by omega), nI_clamp (by omega), nI_clamp (by omega)]
        refine ih (s + 1) _ (by omega) (fun t ht hts => by rw [q_up_oth (by omega)]; exact h1 t ht (by omega)) (fun j hj => ?_) (fun k hk => by rw [q_up_ne 69 (by decide)]; exact hu k hk) (hf.up (by omega))
        obtain ⟨-, d1, -, d2⟩ := hp j (by omega)
        rw [q_up_oth (j := pL (M.1 71) j) (by omega), q_up_oth (j := pR (M.1 71) j) (by omega)]
        by_cases q : 8 + j = s
        · have : s - 8 = j := by omega
          rw [this, ← q, q_up_at]
        · rw [q_up_oth q]; exact h2 j (by omega)
  exact loop (8 + c 5) 0 _ (by omega) (fun t _ ht => absurd ht (by omega)) (fun j hj => absurd hj (by omega)) uU fU
