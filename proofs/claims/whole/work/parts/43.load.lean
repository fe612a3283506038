/-! LOAD: a model read, on both sides -/
def cfg (f : Nat → Int32) (i : Nat) : Nat := (f (i + 1)).toNatClampNeg
def pL (f : Nat → Int32) (j : Nat) : Nat := (f (9 + 2 * j)).toNatClampNeg
def pR (f : Nat → Int32) (j : Nat) : Nat := (f (9 + 2 * j + 1)).toNatClampNeg
/-- the pairs hold earlier tokens -/
def prs (f : Nat → Int32) (m : Nat) : Prop := ∀ j, j < m → f (9 + 2 * j) = nI (pL f j) ∧ pL f j < 8 + j ∧ f (9 + 2 * j + 1) = nI (pR f j) ∧ pR f j < 8 + j
/-- z says how many symbols each token spells -/
def isSz (f : Nat → Int32) (m : Nat) (z : Nat → Int32) : Prop := (∀ t, t < 8 → z t = 1) ∧ ∀ j, j < m → z (8 + j) = z (pL f j) + z (pR f j)
theorem isSz_uniq {f : Nat → Int32} {m : Nat} {z z' : Nat → Int32} (hp : prs f m) (h : isSz f m z) (h' : isSz f m z') : ∀ n t, t < n → t < 8 + m → z t = z' t := by
  intro n
  induction n with
  | zero => intro t ht; omega
  | succ n ih =>
    intro t ht htm
    by_cases h8 : t < 8
    · rw [h.1 t h8, h'.1 t h8]
    · obtain ⟨j, rfl⟩ : ∃ j, t = 8 + j := ⟨t - 8, by omega⟩
      obtain ⟨-, h1, -, h2⟩ := hp j (by omega)
      rw [h.2 j (by omega), h'.2 j (by omega), ih (pL f j) (by omega) (by omega), ih (pR f j) (by omega) (by omega)]
theorem s_pairs_all {f : Nat → Int32} : ∀ n k, s_pairs f n k = true → ∀ i, k ≤ i → i < k + n → ¬ f (9 + i) < 0 ∧ f (9 + i) < 8 + nI i / 2 := by
  intro n
  induction n with
  | zero => intro k _ i h1 h2; omega
  | succ n ih =>
    intro k hb i h1 h2
    simp only [s_pairs] at hb
    split at hb
    · rename_i e
      by_cases hik : i = k
      · subst hik; exact of_decide_eq_true e
      · exact ih (k + 1) hb i (by omega) (by omega)
    · cases hb
theorem s_bad_lt {f : Nat → Int32} : ∀ n k i, s_bad f n k = some i → i < k + n := by
  intro n
  induction n with
  | zero => intro k i h; cases h
  | succ n ih =>
    intro k i h
    simp only [s_bad] at h
    split at h
    · have := ih (k + 1) i h; omega
    · cases h; omega
theorem s_fault_neg (f : Nat → Int32) (len : Int32) : s_fault f len = 0 ∨ s_fault f len < 0 := by
  unfold s_fault
  split
  · split
    · rename_i k e
      right
      have := s_bad_lt 9 0 k e
      have key : ∀ k, k < 9 → (-1 : Int32) - nI k < 0 := by decide +kernel
      exact key k (by omega)
    · split
      · split
        · split
          · exact Or.inl rfl
          · exact Or.inr (by decide)
        · exact Or.inr (by decide)
      · exact Or.inr (by decide)
  · exact Or.inr (by decide)
theorem nI_back {x : Int32} (h : ¬ x < 0) : x = nI x.toNatClampNeg := by
  obtain ⟨j, hj, rfl⟩ := nI_of h
  rw [nI_clamp hj]
theorem nI_num (n : Nat) : (OfNat.ofNat n : Nat) = n := rfl
theorem s_fault0 {f : Nat → Int32} {n : Nat} (hn : n ≤ 1500) (h : s_fault f (nI n) = 0) : cOk (cfg f) ∧ (∀ i, i < 8 → f (i + 1) = nI (cfg f i)) ∧ prs f (cfg f 5) := by
  unfold s_fault at h
  split at h
  case isFalse => exact absurd h (by decide)
  split at h
  · rename_i k e
    have := s_bad_lt 9 0 k e
    have key : ∀ k, k < 9 → ¬ ((-1 : Int32) - nI k = 0) := by decide +kernel
    exact absurd h (key k (by omega))
  rename_i hb
  split at h
  case isFalse => exact absurd h (by decide)
  split at h
  case h_2 => exact absurd h (by decide)
  rename_i hp
  split at h
  case isFalse => exact absurd h (by decide)
  rename_i hw
  have G := s_bad_none 9 0 hb
  have g1 := of_decide_eq_true (G 1 (by omega) (by omega))
  have g2 := of_decide_eq_true (G 2 (by omega) (by omega))
  have g3 := of_decide_eq_true (G 3 (by omega) (by omega))
  have g4 := of_decide_eq_true (G 4 (by omega) (by omega))
  have g5 := of_decide_eq_true (G 5 (by omega) (by omega))
  have g6 := of_decide_eq_true (G 6 (by omega) (by omega))
  have g7 := of_decide_eq_true (G 7 (by omega) (by omega))
  have g8 := of_decide_eq_true (G 8 (by omega) (by omega))
  have k1 : ∃ a, (a = 1 ∨ a = 2) ∧ f 1 = nI a := by rcases g1 with g | g; exact ⟨1, Or.inl rfl, g⟩; exact ⟨2, Or.inr rfl, g⟩
  have k2 : ∃ a, (a = 1 ∨ a = 2 ∨ a = 4) ∧ f 2 = nI a := by rcases g2 with g | g | g; exact ⟨1, Or.inl rfl, g⟩; exact ⟨2, Or.inr (Or.inl rfl), g⟩; exact ⟨4, Or.inr (Or.inr rfl), g⟩
  have k3 : ∃ a, (a = 4 ∨ a = 8) ∧ f 3 = nI a := by rcases g3 with g | g; exact ⟨4, Or.inl rfl, g⟩; exact ⟨8, Or.inr rfl, g⟩
  have rng : ∀ (x : Int32) (lo hi : Nat), lo ≤ hi → hi < 1000 → ¬ x < nI lo → ¬ nI hi < x → ∃ a, lo ≤ a ∧ a ≤ hi ∧ x = nI a := fun x lo hi h0 h1 h2 h3 => by
    have hx : ¬ x < 0 := fun z => h2 (by rw [n_lt, nI_toInt (by omega)]; rw [n_lt, n_0] at z; omega)
    obtain ⟨j, hj, rfl⟩ := nI_of hx
    rw [nI_ltI (by omega) (by omega)] at h2 h3
    exact ⟨j, by omega, by omega, rfl⟩
  obtain ⟨a4, b4, d4, e4⟩ := rng _ 4 16 (by omega) (by omega) g4.1 g4.2
  obtain ⟨a5, b5, d5, e5⟩ := rng _ 2 12 (by omega) (by omega) g5.1 g5.2
  obtain ⟨a6, b6, d6, e6⟩ := rng _ 0 8 (by omega) (by omega) g6.1 g6.2
  obtain ⟨a8, b8, d8, e8⟩ := rng _ 1 10 (by omega) (by omega) g8.1 g8.2
  have g7' := g7.2
  rw [e6, show (7 : Int32) = nI 7 from rfl, nI_add] at g7'
  obtain ⟨a7, b7, d7, e7⟩ := rng _ 0 (7 + a6) (by omega) (by omega) g7.1 g7'
  obtain ⟨a1, b1, e1⟩ := k1
  obtain ⟨a2, b2, e2⟩ := k2
  obtain ⟨a3, b3, e3⟩ := k3
  have c0 : cfg f 0 = a1 := by show (f 1).toNatClampNeg = _; rw [e1, nI_clamp (by omega)]
  have c1 : cfg f 1 = a2 := by show (f 2).toNatClampNeg = _; rw [e2, nI_clamp (by omega)]
  have c2 : cfg f 2 = a3 := by show (f 3).toNatClampNeg = _; rw [e3, nI_clamp (by omega)]
  have c3 : cfg f 3 = a4 := by show (f 4).toNatClampNeg = _; rw [e4, nI_clamp (by omega)]
  have c4 : cfg f 4 = a5 := by show (f 5).toNatClampNeg = _; rw [e5, nI_clamp (by omega)]
  have c5 : cfg f 5 = a6 := by show (f 6).toNatClampNeg = _; rw [e6, nI_clamp (by omega)]
  have c6 : cfg f 6 = a7 := by show (f 7).toNatClampNeg = _; rw [e7, nI_clamp (by omega)]
  have c7 : cfg f 7 = a8 := by show (f 8).toNatClampNeg = _; rw [e8, nI_clamp (by omega)]
  rw [show (f 6).toNatClampNeg = a6 from c5] at hp
  have P := s_pairs_all _ _ hp
  have hlast : cLast (cfg f) + cfg f 2 = n := by
    have ew : s_want f = nI (((9 + 2 * a6) + ((8 + a6) + a5) * a3) + a1 * ((2 * a3 + (4 * a3) * a3) + (2 * a3) * a4) + a3) := by
      unfold s_want
      rw [e1, e3, e4, e5, e6, show (9 : Int32) = nI 9 from rfl, show (2 : Int32) = nI 2 from rfl, show (8 : Int32) = nI 8 from rfl, show (4 : Int32) = nI 4 from rfl]
      simp only [nI_mul, nI_add]
    rw [ew] at hw
    unfold cLast cFirst cPlace cMean cLb
    rw [c0, c2, c3, c4, c5]
    rcases b3 with rfl | rfl <;> rcases b1 with rfl | rfl <;> (rw [nI_eq (by omega) (by omega)] at hw; omega)
  refine ⟨⟨?_, ?_, ?_, ?_, ?_, ?_, ?_, ?_, ?_, ?_, ?_, ?_⟩, ?_, ?_⟩
  · rw [c0]; exact b1
  · rw [c1]; exact b2
  · rw [c2]; exact b3
  · rw [c3]; exact b4
  · rw [c3]; exact d4
  · rw [c4]; exact b5
  · rw [c4]; exact d5
  · rw [c5]; exact d6
  · rw [c6, c5]; omega
  · rw [c7]; exact b8
  · rw [c7]; exact d8
  · rw [hlast]; exact hn
  · intro i hi
    match i, hi with
    | 0, _ => rw [c0]; exact e1
    | 1, _ => rw [c1]; exact e2
    | 2, _ => rw [c2]; exact e3
    | 3, _ => rw [c3]; exact e4
    | 4, _ => rw [c4]; exact e5
    | 5, _ => rw [c5]; exact e6
    | 6, _ => rw [c6]; exact e7
    | 7, _ => rw [c7]; exact e8
  · rw [c5]
    intro j hj
    have one : ∀ i, i < 2 * a6 → i / 2 = j → f (9 + i) = nI (f (9 + i)).toNatClampNeg ∧ (f (9 + i)).toNatClampNeg < 8 + j := fun i hi hij => by
      obtain ⟨p1, p2⟩ := P i (by omega) (by omega)
      have hb := nI_back p1
      refine ⟨hb, ?_⟩
      rw [n_half2 (by omega), hij, show (8 : Int32) = nI 8 from rfl, nI_add] at p2
      obtain ⟨q, hq, eq⟩ := nI_of p1
      rw [eq, nI_clamp hq]
      rw [eq, nI_ltI (by omega) (by omega)] at p2
      exact p2
    have o1 := one (2 * j) (by omega) (by omega)
    have o2 := one (2 * j + 1) (by omega) (by omega)
    exact ⟨o1.1, o1.2, o2.1, o2.2⟩
theorem c_leftP {M : qM} {m j : Nat} (hp : prs (M.1 4) m) (hj : j < m) (hm : m ≤ 8) : q_CI TS CL SHP 0 y_Mo_left [.ref 3, .int (nI j)] M (fun v M' => v = nI (pL (M.1 4) j) ∧ M' = M) := by
  refine q_CI.of f_Mo_left [.ref 3, .int (nI j)] rfl rfl (fun v M' _ => ⟨.int, rfl, rfl⟩) (fun S h => ?_)
  have e : (9 : Int32) + 2 * nI j = nI (9 + 2 * j) := by rw [show (9 : Int32) = nI 9 from rfl, show (2 : Int32) = nI 2 from rfl, nI_mul, nI_add]
  refine p_Mo_left_0_0 h ⟨by rw [e]; exact ok_of (N := 1500) rfl (by omega) (by decide), ?_, rfl⟩
  rw [e, nI_clamp (by omega)]; exact (hp j hj).1
theorem c_rightP {M : qM} {m j : Nat} (hp : prs (M.1 4) m) (hj : j < m) (hm : m ≤ 8) : q_CI TS CL SHP 0 y_Mo_right [.ref 3, .int (nI j)] M (fun v M' => v = nI (pR (M.1 4) j) ∧ M' = M) := by
  refine q_CI.of f_Mo_right [.ref 3, .int (nI j)] rfl rfl (fun v M' _ => ⟨.int, rfl, rfl⟩) (fun S h => ?_)
  have e : (9 : Int32) + 2 * nI j + 1 = nI (9 + 2 * j + 1) := by rw [show (9 : Int32) = nI 9 from rfl, show (2 : Int32) = nI 2 from rfl, nI_mul, nI_add, nI_1]
  refine p_Mo_right_0_0 h ⟨by rw [e]; exact ok_of (N := 1500) rfl (by omega) (by decide), ?_, rfl⟩
  rw [e, nI_clamp (by omega)]; exact (hp j hj).2.2.1
theorem c_countSpelled {M : qM} {m : Nat} (hp : prs (M.1 4) m) (hm : m ≤ 8) (h8 : M.1 3 8 = nI m) : q_CV TS CL SHP 1 y_Mo_countSpelled [.ref 3] M (fun M' => isSz (M.1 4) m (M'.1 5) ∧ fr (fun x => x = 5) M M') := by
  refine q_CV.of f_Mo_countSpelled [.ref 3, .null] rfl rfl rfl (fun S h => ?_)
  have loop2 : ∀ n j M1, j + n = m → (∀ t, t < 8 → M1.1 5 t = 1) → (∀ i, i < j → M1.1 5 (8 + i) = M1.1 5 (pL (M.1 4) i) + M1.1 5 (pR (M.1 4) i)) → fr (fun x => x = 5) M M1 → S 23 [.ref 3, .int (nI j)] [] M1 := by
    intro n
    induction n with
    | zero =>
      intro j M1 hj h1 h2 hf
      have : j = m := by omega
      subst this
      exact p_Mo_countSpelled_23_1 h ⟨by rw [hf.1 3 (by omega), h8]; exact nI_le (Nat.le_refl _) (by omega), ⟨h1, h2⟩, hf⟩
    | succ n ih =>
      intro j M1 hj h1 h2 hf
      have e4 : M1.1 4 = M.1 4 := hf.1 4 (by omega)
      have hp1 : prs (M1.1 4) m := by rw [e4]; exact hp
      obtain ⟨-, a1, -, a2⟩ := hp j (by omega)
      have e8 : (8 : Int32) + nI j = nI (8 + j) := by rw [show (8 : Int32) = nI 8 from rfl, nI_add]
      refine p_Mo_countSpelled_23_0 h ⟨by rw [hf.1 3 (by omega), h8]; exact nI_ge (by omega) (by omega), 0, _, by decide, c_leftP hp1 (by omega) hm, fun v M2 g2 => ?_⟩
      obtain ⟨rfl, e⟩ := g2; obtain rfl := e.symm
      refine ⟨by rw [e4]; exact ok_of (N := 16) rfl (by omega) (by decide), 0, _, by decide, c_rightP hp1 (by omega) hm, fun v M2 g2 => ?_⟩
      obtain ⟨rfl, e⟩ := g2; obtain rfl := e.symm
      refine ⟨by rw [e4]; exact ok_of (N := 16) rfl (by omega) (by decide), by rw [e8]; exact ok_of (N := 16) rfl (by omega) (by decide), ?_⟩
      rw [nI_1, e8, e4, nI_clamp (by omega), nI_clamp (by omega), nI_clamp (by omega)]
      refine ih (j + 1) _ (by omega) (fun t ht => by rw [q_up_oth (by omega)]; exact h1 t ht) (fun i hi => ?_) (hf.up rfl)
      obtain ⟨-, b1, -, b2⟩ := hp i (by omega)
      rw [q_up_oth (j := pL (M.1 4) i) (by omega), q_up_oth (j := pR (M.1 4) i) (by omega)]
      by_cases hij : i = j
      · subst hij; rw [q_up_at]
      · rw [q_up_oth (by omega)]; exact h2 i (by omega)
  have loop1 : ∀ n t M1, t + n = 8 → (∀ i, i < t → M1.1 5 i = 1) → fr (fun x => x = 5) M M1 → S 2 [.ref 3, .int (nI t)] [] M1 := by
    intro n
    induction n with
    | zero =>
      intro t M1 ht h1 hf
      have : t = 8 := by omega
      subst this
      exact p_Mo_countSpelled_2_1 h ⟨by decide, loop2 m 0 M1 (by omega) h1 (fun i hi => absurd hi (by omega)) hf⟩
    | succ n ih =>
      intro t M1 ht h1 hf
      refine p_Mo_countSpelled_2_0 h ⟨nI_ge (show t < 8 by omega) (by decide), ok_of (N := 16) rfl (by omega) (by decide), ?_⟩
      rw [nI_1, nI_clamp (by omega)]
      refine ih (t + 1) _ (by omega) (fun i hi => ?_) (hf.up rfl)
      by_cases hit : i = t
      · subst hit; rw [q_up_at]
      · rw [q_up_oth hit]; exact h1 i (by omega)
  exact p_Mo_countSpelled_0_0 h (loop1 8 0 M (by omega) (fun i hi => absurd hi (by omega)) (fr.rf M))
theorem cp_at {M : qM} {a b n : Nat} : (q_cp M a 0 b 0 n).1 b = fun i => if i < n then M.1 a i else M.1 b i := by
  funext i
  show (if b = b then va_cpy (M.1 a) (M.1 b) 0 0 n i else M.1 b i) = _
  rw [if_pos rfl, va_cpy]
  by_cases hi : i < n
  · rw [if_pos ⟨by omega, by omega⟩, if_pos hi, Nat.sub_zero, Nat.zero_add]
  · rw [if_neg (fun z => hi (by omega)), if_neg hi]
theorem cp_ne {M : qM} {a b n x : Nat} (h : x ≠ b) : (q_cp M a 0 b 0 n).1 x = M.1 x := by
  funext i
  show (if x = b then _ else M.1 x i) = _
  rw [if_neg h]
theorem isB_fits {x : Int32} (h : isB x) : fits .byte (.int x) = true := by
  show (decide (-128 ≤ x) && decide (x ≤ 127)) = true
  rw [Bool.and_eq_true, decide_eq_true_eq, decide_eq_true_eq, n_le, n_le, show (-128 : Int32).toInt = -128 from by decide, show (127 : Int32).toInt = 127 from by decide]
  exact h
theorem r_mul32 {a b : Nat} : nI a * nI b = nI (a * b) := nI_mul a b
set_option maxHeartbeats 1000000 in
theorem c_read {M : qM} {c : Nat → Nat} (hc : cOk c) (hfi : ∀ i, i < 8 → M.1 2 (i + 1) = nI (c i)) (hp : prs (M.1 2) (c 5)) (hb : ∀ i, isB (M.1 2 i)) :
    q_CV TS CL SHP 2 y_Mo_read [.ref 3, .ref 2] M (fun M' => HC c M' ∧ M'.1 3 2 = 1 ∧ (M'.1 4 = fun i => if i < 1500 then M.1 2 i else M.1 4 i) ∧ isSz (M'.1 4) (c 5) (M'.1 5) ∧ fr (fun x => 3 ≤ x ∧ x ≤ 5) M M') := by
  obtain ⟨hw0, hwm, hw8, hh4, hw2, hw4⟩ := hw_ok hc
  have h5 : c 5 ≤ 8 := hc.2.2.2.2.2.2.2.1
  have ok : ∀ i, i < 1500 → q_ok SHP 1 4 (nI i) := fun i hi => ok_of (N := 1500) rfl (by omega) (by decide)
  refine q_CV.of f_Mo_read [.ref 3, .ref 2] rfl rfl rfl (fun S h => ?_)
  have hB : (fun i => if i < 1500 then M.1 2 i else M.1 4 i) = (fun i => if i < 1500 then M.1 2 i else M.1 4 i) := rfl
  generalize hBB : (fun i => if i < 1500 then M.1 2 i else M.1 4 i) = B at hB
  have hBi : ∀ i, i < 1500 → B i = M.1 2 i := fun i hi => by rw [← hBB]; show (if i < 1500 then _ else _) = _; rw [if_pos hi]
  have hBp : prs B (c 5) := fun j hj => by
    have := hp j hj
    unfold pL pR at *
    rw [hBi _ (by omega), hBi _ (by omega)]
    exact this
  have hBc : ∀ i, i < 8 → B (i + 1) = nI (c i) := fun i hi => by rw [hBi _ (by omega)]; exact hfi i hi
  refine p_Mo_read_0_0 h ⟨⟨1500, 1500, rfl, rfl, by decide, by decide, by decide, by decide, by decide, fun i _ => isB_fits (hb _)⟩, ok 1 (by omega), ?_⟩
  have f0 : fr (fun x => 3 ≤ x ∧ x ≤ 5) M (q_cp M 2 0 4 0 1500) := ⟨fun x hx => cp_ne (by omega), rfl⟩
  have b0 : (q_cp M 2 0 4 0 1500).1 4 = B := by rw [cp_at, hBB]
  show S 23 [.ref 3, .ref 2] [] (q_up (q_cp M 2 0 4 0 1500) 3 3 ((q_cp M 2 0 4 0 1500).1 4 1))
  rw [b0, hBc 0 (by omega)]
  generalize q_cp M 2 0 4 0 1500 = N0 at f0 b0
  have f1 : fr (fun x => 3 ≤ x ∧ x ≤ 5) M (q_up N0 3 3 (nI (c 0))) := f0.up (by omega)
  have b1 : (q_up N0 3 3 (nI (c 0))).1 4 = B := by rw [q_up_ne 4 (by decide)]; exact b0
  have a3_1 : (q_up N0 3 3 (nI (c 0))).1 3 3 = nI (c 0) := q_up_at
  generalize q_up N0 3 3 (nI (c 0)) = N1 at f1 b1 a3_1 ⊢
  clear f0 b0
  refine p_Mo_read_23_0 h ⟨ok 2 (by omega), ?_⟩
  rw [show N1.1 4 (2 : Int32).toNatClampNeg = nI (c 1) from by rw [b1]; exact hBc 1 (by omega)]
  have f2 : fr (fun x => 3 ≤ x ∧ x ≤ 5) M (q_up N1 3 4 (nI (c 1))) := f1.up (by omega)
  have b2 : (q_up N1 3 4 (nI (c 1))).1 4 = B := by rw [q_up_ne 4 (by decide)]; exact b1
  have a3_2 : (q_up N1 3 4 (nI (c 1))).1 3 3 = nI (c 0) := by rw [q_up_oth (by decide)]; exact a3_1
  have a4_2 : (q_up N1 3 4 (nI (c 1))).1 3 4 = nI (c 1) := q_up_at
  generalize q_up N1 3 4 (nI (c 1)) = N2 at f2 b2 a3_2 a4_2 ⊢
  clear f1 b1 a3_1 N1
  refine p_Mo_read_33_0 h ⟨ok 3 (by omega), ?_⟩
  rw [show N2.1 4 (3 : Int32).toNatClampNeg = nI (c 2) from by rw [b2]; exact hBc 2 (by omega)]
  have f3 : fr (fun x => 3 ≤ x ∧ x ≤ 5) M (q_up N2 3 5 (nI (c 2))) := f2.up (by omega)
  have b3 : (q_up N2 3 5 (nI (c 2))).1 4 = B := by rw [q_up_ne 4 (by decide)]; exact b2
  have a3_3 : (q_up N2 3 5 (nI (c 2))).1 3 3 = nI (c 0) := by rw [q_up_oth (by decide)]; exact a3_2
  have a4_3 : (q_up N2 3 5 (nI (c 2))).1 3 4 = nI (c 1) := by rw [q_up_oth (by decide)]; exact a4_2
  have a5_3 : (q_up N2 3 5 (nI (c 2))).1 3 5 = nI (c 2) := q_up_at
  generalize q_up N2 3 5 (nI (c 2)) = N3 at f3 b3 a3_3 a4_3 a5_3 ⊢
  clear f2 b2 a3_2 a4_2 N2
  refine p_Mo_read_43_0 h ⟨ok 4 (by omega), ?_⟩
  rw [show N3.1 4 (4 : Int32).toNatClampNeg = nI (c 3) from by rw [b3]; exact hBc 3 (by omega)]
  have f4 : fr (fun x => 3 ≤ x ∧ x ≤ 5) M (q_up N3 3 6 (nI (c 3))) := f3.up (by omega)
  have b4 : (q_up N3 3 6 (nI (c 3))).1 4 = B := by rw [q_up_ne 4 (by decide)]; exact b3
  have a3_4 : (q_up N3 3 6 (nI (c 3))).1 3 3 = nI (c 0) := by rw [q_up_oth (by decide)]; exact a3_3
  have a4_4 : (q_up N3 3 6 (nI (c 3))).1 3 4 = nI (c 1) := by rw [q_up_oth (by decide)]; exact a4_3
  have a5_4 : (q_up N3 3 6 (nI (c 3))).1 3 5 = nI (c 2) := by rw [q_up_oth (by decide)]; exact a5_3
  have a6_4 : (q_up N3 3 6 (nI (c 3))).1 3 6 = nI (c 3) := q_up_at
  generalize q_up N3 3 6 (nI (c 3)) = N4 at f4 b4 a3_4 a4_4 a5_4 a6_4 ⊢
  clear f3 b3 a3_3 a4_3 a5_3 N3
  refine p_Mo_read_53_0 h ⟨ok 5 (by omega), ?_⟩
  rw [show N4.1 4 (5 : Int32).toNatClampNeg = nI (c 4) from by rw [b4]; exact hBc 4 (by omega)]
  have f5 : fr (fun x => 3 ≤ x ∧ x ≤ 5) M (q_up N4 3 7 (nI (c 4))) := f4.up (by omega)
  have b5 : (q_up N4 3 7 (nI (c 4))).1 4 = B := by rw [q_up_ne 4 (by decide)]; exact b4
  have a3_5 : (q_up N4 3 7 (nI (c 4))).1 3 3 = nI (c 0) := by rw [q_up_oth (by decide)]; exact a3_4
  have a4_5 : (q_up N4 3 7 (nI (c 4))).1 3 4 = nI (c 1) := by rw [q_up_oth (by decide)]; exact a4_4
  have a5_5 : (q_up N4 3 7 (nI (c 4))).1 3 5 = nI (c 2) := by rw [q_up_oth (by decide)]; exact a5_4
  have a6_5 : (q_up N4 3 7 (nI (c 4))).1 3 6 = nI (c 3) := by rw [q_up_oth (by decide)]; exact a6_4
  have a7_5 : (q_up N4 3 7 (nI (c 4))).1 3 7 = nI (c 4) := q_up_at
  generalize q_up N4 3 7 (nI (c 4)) = N5 at f5 b5 a3_5 a4_5 a5_5 a6_5 a7_5 ⊢
  clear f4 b4 a3_4 a4_4 a5_4 a6_4 N4
  refine p_Mo_read_63_0 h ⟨ok 6 (by omega), ?_⟩
  rw [show N5.1 4 (6 : Int32).toNatClampNeg = nI (c 5) from by rw [b5]; exact hBc 5 (by omega)]
  have f6 : fr (fun x => 3 ≤ x ∧ x ≤ 5) M (q_up N5 3 8 (nI (c 5))) := f5.up (by omega)
  have b6 : (q_up N5 3 8 (nI (c 5))).1 4 = B := by rw [q_up_ne 4 (by decide)]; exact b5
  have a3_6 : (q_up N5 3 8 (nI (c 5))).1 3 3 = nI (c 0) := by rw [q_up_oth (by decide)]; exact a3_5
  have a4_6 : (q_up N5 3 8 (nI (c 5))).1 3 4 = nI (c 1) := by rw [q_up_oth (by decide)]; exact a4_5
  have a5_6 : (q_up N5 3 8 (nI (c 5))).1 3 5 = nI (c 2) := by rw [q_up_oth (by decide)]; exact a5_5
  have a6_6 : (q_up N5 3 8 (nI (c 5))).1 3 6 = nI (c 3) := by rw [q_up_oth (by decide)]; exact a6_5
  have a7_6 : (q_up N5 3 8 (nI (c 5))).1 3 7 = nI (c 4) := by rw [q_up_oth (by decide)]; exact a7_5
  have a8_6 : (q_up N5 3 8 (nI (c 5))).1 3 8 = nI (c 5) := q_up_at
  generalize q_up N5 3 8 (nI (c 5)) = N6 at f6 b6 a3_6 a4_6 a5_6 a6_6 a7_6 a8_6 ⊢
  clear f5 b5 a3_5 a4_5 a5_5 a6_5 a7_5 N5
  refine p_Mo_read_74_0 h ?_
  rw [a8_6, show (8 : Int32) = nI 8 from rfl, nI_add]
  have f7 : fr (fun x => 3 ≤ x ∧ x ≤ 5) M (q_up N6 3 9 (nI (8 + c 5))) := f6.up (by omega)
  have b7 : (q_up N6 3 9 (nI (8 + c 5))).1 4 = B := by rw [q_up_ne 4 (by decide)]; exact b6
  have a3_7 : (q_up N6 3 9 (nI (8 + c 5))).1 3 3 = nI (c 0) := by rw [q_up_oth (by decide)]; exact a3_6
  have a4_7 : (q_up N6 3 9 (nI (8 + c 5))).1 3 4 = nI (c 1) := by rw [q_up_oth (by decide)]; exact a4_6
  have a5_7 : (q_up N6 3 9 (nI (8 + c 5))).1 3 5 = nI (c 2) := by rw [q_up_oth (by decide)]; exact a5_6
  have a6_7 : (q_up N6 3 9 (nI (8 + c 5))).1 3 6 = nI (c 3) := by rw [q_up_oth (by decide)]; exact a6_6
  have a7_7 : (q_up N6 3 9 (nI (8 + c 5))).1 3 7 = nI (c 4) := by rw [q_up_oth (by decide)]; exact a7_6
  have a8_7 : (q_up N6 3 9 (nI (8 + c 5))).1 3 8 = nI (c 5) := by rw [q_up_oth (by decide)]; exact a8_6
  have a9_7 : (q_up N6 3 9 (nI (8 + c 5))).1 3 9 = nI (8 + c 5) := q_up_at
  generalize q_up N6 3 9 (nI (8 + c 5)) = N7 at f7 b7 a3_7 a4_7 a5_7 a6_7 a7_7 a8_7 a9_7 ⊢
  clear f6 b6 a3_6 a4_6 a5_6 a6_6 a7_6 a8_6 N6
  refine p_Mo_read_85_0 h ⟨ok 7 (by omega), ?_⟩
  rw [show N7.1 4 (7 : Int32).toNatClampNeg = nI (c 6) from by rw [b7]; exact hBc 6 (by omega)]
  have f8 : fr (fun x => 3 ≤ x ∧ x ≤ 5) M (q_up N7 3 10 (nI (c 6))) := f7.up (by omega)
  have b8 : (q_up N7 3 10 (nI (c 6))).1 4 = B := by rw [q_up_ne 4 (by decide)]; exact b7
  have a3_8 : (q_up N7 3 10 (nI (c 6))).1 3 3 = nI (c 0) := by rw [q_up_oth (by decide)]; exact a3_7
  have a4_8 : (q_up N7 3 10 (nI (c 6))).1 3 4 = nI (c 1) := by rw [q_up_oth (by decide)]; exact a4_7
  have a5_8 : (q_up N7 3 10 (nI (c 6))).1 3 5 = nI (c 2) := by rw [q_up_oth (by decide)]; exact a5_7
  have a6_8 : (q_up N7 3 10 (nI (c 6))).1 3 6 = nI (c 3) := by rw [q_up_oth (by decide)]; exact a6_7
  have a7_8 : (q_up N7 3 10 (nI (c 6))).1 3 7 = nI (c 4) := by rw [q_up_oth (by decide)]; exact a7_7
  have a8_8 : (q_up N7 3 10 (nI (c 6))).1 3 8 = nI (c 5) := by rw [q_up_oth (by decide)]; exact a8_7
  have a9_8 : (q_up N7 3 10 (nI (c 6))).1 3 9 = nI (8 + c 5) := by rw [q_up_oth (by decide)]; exact a9_7
  have a10_8 : (q_up N7 3 10 (nI (c 6))).1 3 10 = nI (c 6) := q_up_at
  generalize q_up N7 3 10 (nI (c 6)) = N8 at f8 b8 a3_8 a4_8 a5_8 a6_8 a7_8 a8_8 a9_8 a10_8 ⊢
  clear f7 b7 a3_7 a4_7 a5_7 a6_7 a7_7 a8_7 a9_7 N7
  refine p_Mo_read_96_0 h ⟨ok 8 (by omega), ?_⟩
  rw [show N8.1 4 (8 : Int32).toNatClampNeg = nI (c 7) from by rw [b8]; exact hBc 7 (by omega)]
  have f9 : fr (fun x => 3 ≤ x ∧ x ≤ 5) M (q_up N8 3 12 (nI (c 7))) := f8.up (by omega)
  have b9 : (q_up N8 3 12 (nI (c 7))).1 4 = B := by rw [q_up_ne 4 (by decide)]; exact b8
  have a3_9 : (q_up N8 3 12 (nI (c 7))).1 3 3 = nI (c 0) := by rw [q_up_oth (by decide)]; exact a3_8
  have a4_9 : (q_up N8 3 12 (nI (c 7))).1 3 4 = nI (c 1) := by rw [q_up_oth (by decide)]; exact a4_8
  have a5_9 : (q_up N8 3 12 (nI (c 7))).1 3 5 = nI (c 2) := by rw [q_up_oth (by decide)]; exact a5_8
  have a6_9 : (q_up N8 3 12 (nI (c 7))).1 3 6 = nI (c 3) := by rw [q_up_oth (by decide)]; exact a6_8
  have a7_9 : (q_up N8 3 12 (nI (c 7))).1 3 7 = nI (c 4) := by rw [q_up_oth (by decide)]; exact a7_8
  have a8_9 : (q_up N8 3 12 (nI (c 7))).1 3 8 = nI (c 5) := by rw [q_up_oth (by decide)]; exact a8_8
  have a9_9 : (q_up N8 3 12 (nI (c 7))).1 3 9 = nI (8 + c 5) := by rw [q_up_oth (by decide)]; exact a9_8
  have a10_9 : (q_up N8 3 12 (nI (c 7))).1 3 10 = nI (c 6) := by rw [q_up_oth (by decide)]; exact a10_8
  have a12_9 : (q_up N8 3 12 (nI (c 7))).1 3 12 = nI (c 7) := q_up_at
  generalize q_up N8 3 12 (nI (c 7)) = N9 at f9 b9 a3_9 a4_9 a5_9 a6_9 a7_9 a8_9 a9_9 a10_9 a12_9 ⊢
  clear f8 b8 a3_8 a4_8 a5_8 a6_8 a7_8 a8_8 a9_8 a10_8 N8
  have cf := c_floor N9 (nI (c 2)) (nI (c 1)) (by rw [n_lt, n_0, nI_toInt (by omega)]; rcases hc.2.1 with z | z | z <;> omega)
  rw [← a5_9, ← a4_9] at cf
  refine p_Mo_read_107_0 h ⟨1, _, by decide, cf, fun v Mx hv => ?_⟩
  obtain ⟨rfl, e⟩ := hv; obtain rfl := e.symm
  rw [a5_9, a4_9, show n_fl (nI (c 2)) (nI (c 1)) = nI (c 2 / c 1) from by
    rw [n_eq, n_fl_int (by rw [nI_toInt (by omega)]; rcases hc.2.1 with z | z | z <;> omega), nI_toInt (by omega), nI_toInt (by omega), nI_toInt (by omega)]
    exact (Int.natCast_ediv _ _).symm]
  clear cf e
  have f10 : fr (fun x => 3 ≤ x ∧ x ≤ 5) M (q_up N9 3 11 (nI (c 2 / c 1))) := f9.up (by omega)
  have b10 : (q_up N9 3 11 (nI (c 2 / c 1))).1 4 = B := by rw [q_up_ne 4 (by decide)]; exact b9
  have a3_10 : (q_up N9 3 11 (nI (c 2 / c 1))).1 3 3 = nI (c 0) := by rw [q_up_oth (by decide)]; exact a3_9
  have a4_10 : (q_up N9 3 11 (nI (c 2 / c 1))).1 3 4 = nI (c 1) := by rw [q_up_oth (by decide)]; exact a4_9
  have a5_10 : (q_up N9 3 11 (nI (c 2 / c 1))).1 3 5 = nI (c 2) := by rw [q_up_oth (by decide)]; exact a5_9
  have a6_10 : (q_up N9 3 11 (nI (c 2 / c 1))).1 3 6 = nI (c 3) := by rw [q_up_oth (by decide)]; exact a6_9
  have a7_10 : (q_up N9 3 11 (nI (c 2 / c 1))).1 3 7 = nI (c 4) := by rw [q_up_oth (by decide)]; exact a7_9
  have a8_10 : (q_up N9 3 11 (nI (c 2 / c 1))).1 3 8 = nI (c 5) := by rw [q_up_oth (by decide)]; exact a8_9
  have a9_10 : (q_up N9 3 11 (nI (c 2 / c 1))).1 3 9 = nI (8 + c 5) := by rw [q_up_oth (by decide)]; exact a9_9
  have a10_10 : (q_up N9 3 11 (nI (c 2 / c 1))).1 3 10 = nI (c 6) := by rw [q_up_oth (by decide)]; exact a10_9
  have a12_10 : (q_up N9 3 11 (nI (c 2 / c 1))).1 3 12 = nI (c 7) := by rw [q_up_oth (by decide)]; exact a12_9
  have a11_10 : (q_up N9 3 11 (nI (c 2 / c 1))).1 3 11 = nI (c 2 / c 1) := q_up_at
  generalize q_up N9 3 11 (nI (c 2 / c 1)) = N10 at f10 b10 a3_10 a4_10 a5_10 a6_10 a7_10 a8_10 a9_10 a10_10 a12_10 a11_10 ⊢
  clear f9 b9 a3_9 a4_9 a5_9 a6_9 a7_9 a8_9 a9_9 a10_9 a12_9 N9
  refine p_Mo_read_122_0 h ?_
  rw [a8_10, show (9 : Int32) + 2 * nI (c 5) = nI (cMean c) from by rw [show (9 : Int32) = nI 9 from rfl, show (2 : Int32) = nI 2 from rfl, nI_mul, nI_add]; rfl]
  have f11 : fr (fun x => 3 ≤ x ∧ x ≤ 5) M (q_up N10 3 13 (nI (cMean c))) := f10.up (by omega)
  have b11 : (q_up N10 3 13 (nI (cMean c))).1 4 = B := by rw [q_up_ne 4 (by decide)]; exact b10
  have a3_11 : (q_up N10 3 13 (nI (cMean c))).1 3 3 = nI (c 0) := by rw [q_up_oth (by decide)]; exact a3_10
  have a4_11 : (q_up N10 3 13 (nI (cMean c))).1 3 4 = nI (c 1) := by rw [q_up_oth (by decide)]; exact a4_10
  have a5_11 : (q_up N10 3 13 (nI (cMean c))).1 3 5 = nI (c 2) := by rw [q_up_oth (by decide)]; exact a5_10
  have a6_11 : (q_up N10 3 13 (nI (cMean c))).1 3 6 = nI (c 3) := by rw [q_up_oth (by decide)]; exact a6_10
  have a7_11 : (q_up N10 3 13 (nI (cMean c))).1 3 7 = nI (c 4) := by rw [q_up_oth (by decide)]; exact a7_10
  have a8_11 : (q_up N10 3 13 (nI (cMean c))).1 3 8 = nI (c 5) := by rw [q_up_oth (by decide)]; exact a8_10
  have a9_11 : (q_up N10 3 13 (nI (cMean c))).1 3 9 = nI (8 + c 5) := by rw [q_up_oth (by decide)]; exact a9_10
  have a10_11 : (q_up N10 3 13 (nI (cMean c))).1 3 10 = nI (c 6) := by rw [q_up_oth (by decide)]; exact a10_10
  have a12_11 : (q_up N10 3 13 (nI (cMean c))).1 3 12 = nI (c 7) := by rw [q_up_oth (by decide)]; exact a12_10
  have a11_11 : (q_up N10 3 13 (nI (cMean c))).1 3 11 = nI (c 2 / c 1) := by rw [q_up_oth (by decide)]; exact a11_10
  have a13_11 : (q_up N10 3 13 (nI (cMean c))).1 3 13 = nI (cMean c) := q_up_at
  generalize q_up N10 3 13 (nI (cMean c)) = N11 at f11 b11 a3_11 a4_11 a5_11 a6_11 a7_11 a8_11 a9_11 a10_11 a12_11 a11_11 a13_11 ⊢
  clear f10 b10 a3_10 a4_10 a5_10 a6_10 a7_10 a8_10 a9_10 a10_10 a12_10 a11_10 N10
  refine p_Mo_read_135_0 h ?_
  rw [a13_11, a9_11, a5_11, nI_mul, nI_add]
  show S _ _ _ (q_up _ 3 14 (nI (cPlace c)))
  have f12 : fr (fun x => 3 ≤ x ∧ x ≤ 5) M (q_up N11 3 14 (nI (cPlace c))) := f11.up (by omega)
  have b12 : (q_up N11 3 14 (nI (cPlace c))).1 4 = B := by rw [q_up_ne 4 (by decide)]; exact b11
  have a3_12 : (q_up N11 3 14 (nI (cPlace c))).1 3 3 = nI (c 0) := by rw [q_up_oth (by decide)]; exact a3_11
  have a4_12 : (q_up N11 3 14 (nI (cPlace c))).1 3 4 = nI (c 1) := by rw [q_up_oth (by decide)]; exact a4_11
  have a5_12 : (q_up N11 3 14 (nI (cPlace c))).1 3 5 = nI (c 2) := by rw [q_up_oth (by decide)]; exact a5_11
  have a6_12 : (q_up N11 3 14 (nI (cPlace c))).1 3 6 = nI (c 3) := by rw [q_up_oth (by decide)]; exact a6_11
  have a7_12 : (q_up N11 3 14 (nI (cPlace c))).1 3 7 = nI (c 4) := by rw [q_up_oth (by decide)]; exact a7_11
  have a8_12 : (q_up N11 3 14 (nI (cPlace c))).1 3 8 = nI (c 5) := by rw [q_up_oth (by decide)]; exact a8_11
  have a9_12 : (q_up N11 3 14 (nI (cPlace c))).1 3 9 = nI (8 + c 5) := by rw [q_up_oth (by decide)]; exact a9_11
  have a10_12 : (q_up N11 3 14 (nI (cPlace c))).1 3 10 = nI (c 6) := by rw [q_up_oth (by decide)]; exact a10_11
  have a12_12 : (q_up N11 3 14 (nI (cPlace c))).1 3 12 = nI (c 7) := by rw [q_up_oth (by decide)]; exact a12_11
  have a11_12 : (q_up N11 3 14 (nI (cPlace c))).1 3 11 = nI (c 2 / c 1) := by rw [q_up_oth (by decide)]; exact a11_11
  have a13_12 : (q_up N11 3 14 (nI (cPlace c))).1 3 13 = nI (cMean c) := by rw [q_up_oth (by decide)]; exact a13_11
  have a14_12 : (q_up N11 3 14 (nI (cPlace c))).1 3 14 = nI (cPlace c) := q_up_at
  generalize q_up N11 3 14 (nI (cPlace c)) = N12 at f12 b12 a3_12 a4_12 a5_12 a6_12 a7_12 a8_12 a9_12 a10_12 a12_12 a11_12 a13_12 a14_12 ⊢
  clear f11 b11 a3_11 a4_11 a5_11 a6_11 a7_11 a8_11 a9_11 a10_11 a12_11 a11_11 a13_11 N11
  refine p_Mo_read_153_0 h ?_
  rw [a14_12, a7_12, a5_12, nI_mul, nI_add]
  show S _ _ _ (q_up _ 3 15 (nI (cFirst c)))
  have f13 : fr (fun x => 3 ≤ x ∧ x ≤ 5) M (q_up N12 3 15 (nI (cFirst c))) := f12.up (by omega)
  have b13 : (q_up N12 3 15 (nI (cFirst c))).1 4 = B := by rw [q_up_ne 4 (by decide)]; exact b12
  have a3_13 : (q_up N12 3 15 (nI (cFirst c))).1 3 3 = nI (c 0) := by rw [q_up_oth (by decide)]; exact a3_12
  have a4_13 : (q_up N12 3 15 (nI (cFirst c))).1 3 4 = nI (c 1) := by rw [q_up_oth (by decide)]; exact a4_12
  have a5_13 : (q_up N12 3 15 (nI (cFirst c))).1 3 5 = nI (c 2) := by rw [q_up_oth (by decide)]; exact a5_12
  have a6_13 : (q_up N12 3 15 (nI (cFirst c))).1 3 6 = nI (c 3) := by rw [q_up_oth (by decide)]; exact a6_12
  have a7_13 : (q_up N12 3 15 (nI (cFirst c))).1 3 7 = nI (c 4) := by rw [q_up_oth (by decide)]; exact a7_12
  have a8_13 : (q_up N12 3 15 (nI (cFirst c))).1 3 8 = nI (c 5) := by rw [q_up_oth (by decide)]; exact a8_12
  have a9_13 : (q_up N12 3 15 (nI (cFirst c))).1 3 9 = nI (8 + c 5) := by rw [q_up_oth (by decide)]; exact a9_12
  have a10_13 : (q_up N12 3 15 (nI (cFirst c))).1 3 10 = nI (c 6) := by rw [q_up_oth (by decide)]; exact a10_12
  have a12_13 : (q_up N12 3 15 (nI (cFirst c))).1 3 12 = nI (c 7) := by rw [q_up_oth (by decide)]; exact a12_12
  have a11_13 : (q_up N12 3 15 (nI (cFirst c))).1 3 11 = nI (c 2 / c 1) := by rw [q_up_oth (by decide)]; exact a11_12
  have a13_13 : (q_up N12 3 15 (nI (cFirst c))).1 3 13 = nI (cMean c) := by rw [q_up_oth (by decide)]; exact a13_12
  have a14_13 : (q_up N12 3 15 (nI (cFirst c))).1 3 14 = nI (cPlace c) := by rw [q_up_oth (by decide)]; exact a14_12
  have a15_13 : (q_up N12 3 15 (nI (cFirst c))).1 3 15 = nI (cFirst c) := q_up_at
  generalize q_up N12 3 15 (nI (cFirst c)) = N13 at f13 b13 a3_13 a4_13 a5_13 a6_13 a7_13 a8_13 a9_13 a10_13 a12_13 a11_13 a13_13 a14_13 a15_13 ⊢
  clear f12 b12 a3_12 a4_12 a5_12 a6_12 a7_12 a8_12 a9_12 a10_12 a12_12 a11_12 a13_12 a14_12 N12
  have bl : q_CI TS CL SHP 0 y_Mo_bytesOfLayer [.int (N13.1 3 5), .int (N13.1 3 6)] N13 (fun v M' => v = nI (cLb c) ∧ M' = N13) := by
    refine q_CI.of f_Mo_bytesOfLayer [.int (N13.1 3 5), .int (N13.1 3 6)] rfl rfl (fun v M' _ => ⟨.int, rfl, rfl⟩) (fun S h => ?_)
    refine p_Mo_bytesOfLayer_0_0 h ⟨?_, rfl⟩
    rw [a5_13, a6_13, show (2 : Int32) = nI 2 from rfl, show (4 : Int32) = nI 4 from rfl]
    simp only [nI_mul, nI_add]
    unfold cLb
    rw [Nat.mul_assoc, Nat.mul_assoc]
  refine p_Mo_read_171_0 h ⟨0, _, by decide, bl, fun v Mx hv => ?_⟩
  obtain ⟨rfl, e⟩ := hv; obtain rfl := e.symm
  clear bl e
  have f14 : fr (fun x => 3 ≤ x ∧ x ≤ 5) M (q_up N13 3 16 (nI (cLb c))) := f13.up (by omega)
  have b14 : (q_up N13 3 16 (nI (cLb c))).1 4 = B := by rw [q_up_ne 4 (by decide)]; exact b13
  have a3_14 : (q_up N13 3 16 (nI (cLb c))).1 3 3 = nI (c 0) := by rw [q_up_oth (by decide)]; exact a3_13
  have a4_14 : (q_up N13 3 16 (nI (cLb c))).1 3 4 = nI (c 1) := by rw [q_up_oth (by decide)]; exact a4_13
  have a5_14 : (q_up N13 3 16 (nI (cLb c))).1 3 5 = nI (c 2) := by rw [q_up_oth (by decide)]; exact a5_13
  have a6_14 : (q_up N13 3 16 (nI (cLb c))).1 3 6 = nI (c 3) := by rw [q_up_oth (by decide)]; exact a6_13
  have a7_14 : (q_up N13 3 16 (nI (cLb c))).1 3 7 = nI (c 4) := by rw [q_up_oth (by decide)]; exact a7_13
  have a8_14 : (q_up N13 3 16 (nI (cLb c))).1 3 8 = nI (c 5) := by rw [q_up_oth (by decide)]; exact a8_13
  have a9_14 : (q_up N13 3 16 (nI (cLb c))).1 3 9 = nI (8 + c 5) := by rw [q_up_oth (by decide)]; exact a9_13
  have a10_14 : (q_up N13 3 16 (nI (cLb c))).1 3 10 = nI (c 6) := by rw [q_up_oth (by decide)]; exact a10_13
  have a12_14 : (q_up N13 3 16 (nI (cLb c))).1 3 12 = nI (c 7) := by rw [q_up_oth (by decide)]; exact a12_13
  have a11_14 : (q_up N13 3 16 (nI (cLb c))).1 3 11 = nI (c 2 / c 1) := by rw [q_up_oth (by decide)]; exact a11_13
  have a13_14 : (q_up N13 3 16 (nI (cLb c))).1 3 13 = nI (cMean c) := by rw [q_up_oth (by decide)]; exact a13_13
  have a14_14 : (q_up N13 3 16 (nI (cLb c))).1 3 14 = nI (cPlace c) := by rw [q_up_oth (by decide)]; exact a14_13
  have a15_14 : (q_up N13 3 16 (nI (cLb c))).1 3 15 = nI (cFirst c) := by rw [q_up_oth (by decide)]; exact a15_13
  have a16_14 : (q_up N13 3 16 (nI (cLb c))).1 3 16 = nI (cLb c) := q_up_at
  generalize q_up N13 3 16 (nI (cLb c)) = N14 at f14 b14 a3_14 a4_14 a5_14 a6_14 a7_14 a8_14 a9_14 a10_14 a12_14 a11_14 a13_14 a14_14 a15_14 a16_14 ⊢
  clear f13 b13 a3_13 a4_13 a5_13 a6_13 a7_13 a8_13 a9_13 a10_13 a12_13 a11_13 a13_13 a14_13 a15_13 N13
  refine p_Mo_read_186_0 h ?_
  rw [a15_14, a3_14, a16_14, nI_mul, nI_add]
  show S _ _ _ (q_up _ 3 17 (nI (cLast c)))
  have f15 : fr (fun x => 3 ≤ x ∧ x ≤ 5) M (q_up N14 3 17 (nI (cLast c))) := f14.up (by omega)
  have b15 : (q_up N14 3 17 (nI (cLast c))).1 4 = B := by rw [q_up_ne 4 (by decide)]; exact b14
  have a3_15 : (q_up N14 3 17 (nI (cLast c))).1 3 3 = nI (c 0) := by rw [q_up_oth (by decide)]; exact a3_14
  have a4_15 : (q_up N14 3 17 (nI (cLast c))).1 3 4 = nI (c 1) := by rw [q_up_oth (by decide)]; exact a4_14
  have a5_15 : (q_up N14 3 17 (nI (cLast c))).1 3 5 = nI (c 2) := by rw [q_up_oth (by decide)]; exact a5_14
  have a6_15 : (q_up N14 3 17 (nI (cLast c))).1 3 6 = nI (c 3) := by rw [q_up_oth (by decide)]; exact a6_14
  have a7_15 : (q_up N14 3 17 (nI (cLast c))).1 3 7 = nI (c 4) := by rw [q_up_oth (by decide)]; exact a7_14
  have a8_15 : (q_up N14 3 17 (nI (cLast c))).1 3 8 = nI (c 5) := by rw [q_up_oth (by decide)]; exact a8_14
  have a9_15 : (q_up N14 3 17 (nI (cLast c))).1 3 9 = nI (8 + c 5) := by rw [q_up_oth (by decide)]; exact a9_14
  have a10_15 : (q_up N14 3 17 (nI (cLast c))).1 3 10 = nI (c 6) := by rw [q_up_oth (by decide)]; exact a10_14
  have a12_15 : (q_up N14 3 17 (nI (cLast c))).1 3 12 = nI (c 7) := by rw [q_up_oth (by decide)]; exact a12_14
  have a11_15 : (q_up N14 3 17 (nI (cLast c))).1 3 11 = nI (c 2 / c 1) := by rw [q_up_oth (by decide)]; exact a11_14
  have a13_15 : (q_up N14 3 17 (nI (cLast c))).1 3 13 = nI (cMean c) := by rw [q_up_oth (by decide)]; exact a13_14
  have a14_15 : (q_up N14 3 17 (nI (cLast c))).1 3 14 = nI (cPlace c) := by rw [q_up_oth (by decide)]; exact a14_14
  have a15_15 : (q_up N14 3 17 (nI (cLast c))).1 3 15 = nI (cFirst c) := by rw [q_up_oth (by decide)]; exact a15_14
  have a16_15 : (q_up N14 3 17 (nI (cLast c))).1 3 16 = nI (cLb c) := by rw [q_up_oth (by decide)]; exact a16_14
  have a17_15 : (q_up N14 3 17 (nI (cLast c))).1 3 17 = nI (cLast c) := q_up_at
  generalize q_up N14 3 17 (nI (cLast c)) = N15 at f15 b15 a3_15 a4_15 a5_15 a6_15 a7_15 a8_15 a9_15 a10_15 a12_15 a11_15 a13_15 a14_15 a15_15 a16_15 a17_15 ⊢
  clear f14 b14 a3_14 a4_14 a5_14 a6_14 a7_14 a8_14 a9_14 a10_14 a12_14 a11_14 a13_14 a14_14 a15_14 a16_14 N14
  refine p_Mo_read_204_0 h ⟨1, _, by decide, c_countSpelled (by rw [b15]; exact hBp) h5 a8_15, fun Mx hx => ?_⟩
  obtain ⟨x1, x2⟩ := hx
  refine ⟨⟨rfl, rfl⟩, p_Mo_read_213_0 h ⟨?_, q_up_at, ?_, ?_, ?_⟩⟩
  · have e3 : Mx.1 3 = N15.1 3 := x2.1 3 (by omega)
    unfold HC
    refine ⟨?_, ?_, ?_, ?_, ?_, ?_, ?_, ?_, ?_, ?_, ?_, ?_, ?_, ?_, ?_⟩ <;> rw [q_up_oth (by decide), e3]
    all_goals assumption
  · rw [q_up_ne 4 (by decide), x2.1 4 (by omega), b15, hBB]
  · rw [q_up_ne 4 (by decide), q_up_ne 5 (by decide), x2.1 4 (by omega)]; exact x1
  · exact (f15.trans (x2.mono (fun a ha => by omega))).up (by omega)
