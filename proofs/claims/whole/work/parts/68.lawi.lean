/-! THE LAW'S LOOP: one turn, but for begin, next, go -/
theorem Inv.img {M M' : qM} (h : Inv M) {f : Nat → Int32} (hf : ∀ i, isB (f i)) (e2 : M'.1 2 = f) (e70 : M'.1 70 = f) (e : ∀ x, x ≠ 2 → x ≠ 70 → x ≠ 69 → M'.1 x = M.1 x) (e69 : ∀ k, k ≠ 33 → M'.1 69 k = M.1 69 k) : Inv M' :=
  ⟨⟨by rw [e2, e70], by rw [e2]; exact hf⟩, h.2.1.to (by rw [e 1 (by decide) (by decide) (by decide)]) (e69 1 (by decide)), h.2.2.1.to (e 7 (by decide) (by decide) (by decide)) (e 72 (by decide) (by decide) (by decide)) (by rw [e 6 (by decide) (by decide) (by decide)]) (e69 12 (by decide)), h.2.2.2.to (fun x hx => e x (by omega) (by omega) (by omega)) (fun k hk => e69 k (by omega))⟩
theorem j_put {M M1 M2 : qM} {a : Int32} {row : Int64} (h : Inv M) (g1 : M1.1 2 = s_put a row (M.1 2) ∧ fr (fun x => x = 2) M M1) (g2 : M2.1 70 = s_put a row (M1.1 70) ∧ fr (fun x => x = 70) (q_up M1 69 33 0) M2) : Inv M2 := by
  obtain ⟨g1, f1⟩ := g1
  obtain ⟨g2, f2⟩ := g2
  refine h.img (f := s_put a row (M.1 2)) (s_put_b h.1.2) (by rw [f2.1 2 (by omega), q_up_ne 2 (by decide)]; exact g1) (by rw [g2, f1.1 70 (by omega), h.1.1]) (fun x h1 h2 h3 => by rw [f2.1 x h2, q_up_ne x h3, f1.1 x h1]) (fun k hk => by rw [f2.1 69 (by omega), q33 hk, f1.1 69 (by omega)])
theorem j_fill {M M1 M2 : qM} {a n seed : Int32} (h : Inv M) (g1 : M1.1 2 = s_fill a n seed (M.1 2) ∧ fr (fun x => x = 2) M M1) (g2 : M2.1 70 = s_fill a n seed (M1.1 70) ∧ fr (fun x => x = 70) (q_up M1 69 33 0) M2) : Inv M2 := by
  obtain ⟨g1, f1⟩ := g1
  obtain ⟨g2, f2⟩ := g2
  refine h.img (f := s_fill a n seed (M.1 2)) (s_fill_b h.1.2) (by rw [f2.1 2 (by omega), q_up_ne 2 (by decide)]; exact g1) (by rw [g2, f1.1 70 (by omega), h.1.1]) (fun x h1 h2 h3 => by rw [f2.1 x h2, q_up_ne x h3, f1.1 x h1]) (fun k hk => by rw [f2.1 69 (by omega), q33 hk, f1.1 69 (by omega)])
theorem j_size {M : qM} {n : Int32} (h : Inv M) (hn : s_sOk n) : Inv (q_up (q_up (q_up M 1 1 n) 69 33 0) 69 1 n) := by
  obtain ⟨k, hk, rfl⟩ := nI_of2 (M := 1500) (n := 1500) rfl hn.1 hn.2
  generalize hN : q_up (q_up (q_up M 1 1 (nI k)) 69 33 0) 69 1 (nI k) = N
  have e : ∀ x, x ≠ 1 → x ≠ 69 → N.1 x = M.1 x := fun x h1 h2 => by rw [← hN, q_up_ne x h2, q_up_ne x h2, q_up_ne x h1]
  have e69 : ∀ j, j ≠ 1 → j ≠ 33 → N.1 69 j = M.1 69 j := fun j h1 h2 => by rw [← hN, q_up_oth h1, q33 h2, q_up_ne 69 (by decide)]
  refine ⟨h.1.to (e 2 (by decide) (by decide)) (e 70 (by decide) (by decide)), ⟨k, hk, ?_, ?_⟩, h.2.2.1.to (e 7 (by decide) (by decide)) (e 72 (by decide) (by decide)) (by rw [e 6 (by decide) (by decide)]) (e69 12 (by decide) (by decide)), h.2.2.2.to (fun x hx => e x (by omega) (by omega)) (fun j hj => e69 j (by omega) (by omega))⟩
  · rw [← hN, q_up_ne 1 (by decide), q_up_ne 1 (by decide), q_up_at]
  · rw [← hN, q_up_at]
theorem j_type {M : qM} {a : Int32} {xs : List Nat} (h : Inv M) (ha : ¬ a < 0 ∧ ¬ 7 < a ∧ xs.length < 24) (hB : ∀ x ∈ xs, x < 8) (h7 : at_ (M.1 7) 0 xs) (h72 : at_ (M.1 72) 0 xs) :
    Inv (q_up (q_up (q_up (q_up (q_up M 7 xs.length a) 6 1 (nI (xs.length + 1))) 69 33 0) 72 xs.length a) 69 12 (nI (xs.length + 1))) := by
  obtain ⟨k, hk, rfl⟩ := nI_of2 (M := 7) (n := 7) (x := a) rfl ha.1 (n_nlt.mp ha.2.1)
  generalize hN : q_up (q_up (q_up (q_up (q_up M 7 xs.length (nI k)) 6 1 (nI (xs.length + 1))) 69 33 0) 72 xs.length (nI k)) 69 12 (nI (xs.length + 1)) = N
  have e : ∀ x, x ≠ 6 → x ≠ 7 → x ≠ 69 → x ≠ 72 → N.1 x = M.1 x := fun x h1 h2 h3 h4 => by rw [← hN, q_up_ne x h3, q_up_ne x h4, q_up_ne x h3, q_up_ne x h1, q_up_ne x h2]
  have e69 : ∀ j, j ≠ 12 → j ≠ 33 → N.1 69 j = M.1 69 j := fun j h1 h2 => by rw [← hN, q_up_oth h1, q_up_ne 69 (by decide), q33 h2, q_up_ne 69 (by decide), q_up_ne 69 (by decide)]
  have s7 : N.1 7 = (q_up M 7 xs.length (nI k)).1 7 := by rw [← hN, q_up_ne 7 (by decide), q_up_ne 7 (by decide), q_up_ne 7 (by decide), q_up_ne 7 (by decide)]
  have s72 : N.1 72 = (q_up M 72 xs.length (nI k)).1 72 := by
    rw [← hN, q_up_ne 72 (by decide), q_up_fn, q_up_fn, q_up_ne 72 (by decide), q_up_ne 72 (by decide), q_up_ne 72 (by decide)]
  refine ⟨h.1.to (e 2 (by decide) (by decide) (by decide) (by decide)) (e 70 (by decide) (by decide) (by decide) (by decide)), h.2.1.to (by rw [e 1 (by decide) (by decide) (by decide) (by decide)]) (e69 1 (by decide) (by decide)), ⟨xs ++ [k], ?_, ?_, ?_, ?_, ?_, ?_⟩, h.2.2.2.to (fun x hx => e x (by omega) (by omega) (by omega) (by omega)) (fun j hj => e69 j (by omega) (by omega))⟩
  · simp; omega
  · intro x hx
    rcases List.mem_append.mp hx with q | q
    · exact hB x q
    · simp at q; omega
  · rw [s7]; exact at_snoc h7
  · rw [s72]; exact at_snoc h72
  · rw [← hN, q_up_ne 6 (by decide), q_up_ne 6 (by decide), q_up_ne 6 (by decide), q_up_at]; simp
  · rw [← hN, q_up_at]; simp
theorem j_erase {M : qM} (h : Inv M) : Inv (q_up (q_up (q_up M 6 1 0) 69 33 0) 69 12 0) := by
  generalize hN : q_up (q_up (q_up M 6 1 0) 69 33 0) 69 12 0 = N
  have e : ∀ x, x ≠ 6 → x ≠ 69 → N.1 x = M.1 x := fun x h1 h2 => by rw [← hN, q_up_ne x h2, q_up_ne x h2, q_up_ne x h1]
  have e69 : ∀ j, j ≠ 12 → j ≠ 33 → N.1 69 j = M.1 69 j := fun j h1 h2 => by rw [← hN, q_up_oth h1, q33 h2, q_up_ne 69 (by decide)]
  refine ⟨h.1.to (e 2 (by decide) (by decide)) (e 70 (by decide) (by decide)), h.2.1.to (by rw [e 1 (by decide) (by decide)]) (e69 1 (by decide) (by decide)), ⟨[], by simp, (fun x hx => by cases hx), at_nil, at_nil, ?_, ?_⟩, h.2.2.2.to (fun x hx => e x (by omega) (by omega)) (fun j hj => e69 j (by omega) (by omega))⟩
  · rw [← hN, q_up_ne 6 (by decide), q_up_ne 6 (by decide), q_up_at]; rfl
  · rw [← hN, q_up_at]; rfl
theorem j_load {M M1 M2 : qM} {c : Nat → Nat} (h : Inv M) (hc : cOk c) (hp : prs (M.1 2) (c 5))
    (g1 : HC c M1 ∧ M1.1 3 2 = 1 ∧ (M1.1 9 5 = 0 ∧ M1.1 9 6 = 0 ∧ M1.1 9 7 = 0) ∧ (M1.1 4 = fun i => if i < 1500 then M.1 2 i else M.1 4 i) ∧ isSz (M1.1 4) (c 5) (M1.1 5) ∧ fr (fun x => 3 ≤ x ∧ x ≤ 5 ∨ x = 9) M M1)
    (g2 : HR c M2 ∧ M2.1 69 3 = 1 ∧ M2.1 69 17 = 0 ∧ (∀ k, k = 1 ∨ k = 12 → M2.1 69 k = M1.1 69 k) ∧ (M2.1 71 = fun i => if i < 1500 then M1.1 70 i else M1.1 71 i) ∧ fr (fun x => x = 69 ∨ x = 71) M1 M2) : Inv M2 := by
  obtain ⟨a1, a2, a3, a4, a5, a6⟩ := g1
  obtain ⟨b1, b2, b3, b4, b5, b6⟩ := g2
  have h5 : c 5 ≤ 8 := hc.2.2.2.2.2.2.2.1
  have e : ∀ x, ¬ (3 ≤ x ∧ x ≤ 5 ∨ x = 9) → ¬ (x = 69 ∨ x = 71) → M2.1 x = M.1 x := fun x h1 h2 => by rw [b6.1 x h2, a6.1 x h1]
  have e4 : M2.1 4 = fun i => if i < 1500 then M.1 2 i else M.1 4 i := by rw [b6.1 4 (by omega)]; exact a4
  have e71 : M2.1 71 = M2.1 4 := by
    rw [b5, e4]
    funext i
    show (if i < 1500 then M1.1 70 i else M1.1 71 i) = if i < 1500 then M.1 2 i else M.1 4 i
    rw [a6.1 70 (by omega), a6.1 71 (by omega), h.1.1, h.2.2.2.1.1]
  have hB4 : ∀ i, isB (M2.1 4 i) := fun i => by
    rw [e4]
    show isB (if i < 1500 then M.1 2 i else M.1 4 i)
    split
    · exact h.1.2 i
    · exact h.2.2.2.1.2 i
  have hp4 : prs (M2.1 4) (c 5) := by
    have ei : ∀ i, i < 1500 → M2.1 4 i = M.1 2 i := fun i hi => by rw [e4]; show (if i < 1500 then _ else _) = _; rw [if_pos hi]
    intro j hj
    have := hp j hj
    unfold pL pR at *
    rw [ei _ (by omega), ei _ (by omega)]
    exact this
  refine ⟨h.1.to (e 2 (by omega) (by omega)) (e 70 (by omega) (by omega)), h.2.1.to (by rw [e 1 (by omega) (by omega)]) (by rw [b4 1 (by omega), a6.1 69 (by omega)]), h.2.2.1.to (e 7 (by omega) (by omega)) (e 72 (by omega) (by omega)) (by rw [e 6 (by omega) (by omega)]) (by rw [b4 12 (by omega), a6.1 69 (by omega)]), ⟨e71, hB4⟩, Or.inr ⟨c, hc, ⟨a1.to (b6.1 3 (by omega)), by rw [b6.1 3 (by omega)]; exact a2, hp4, by rw [b6.1 4 (by omega), b6.1 5 (by omega)]; exact a5⟩, ⟨b1, b2, by rw [e71]; exact hp4⟩, Or.inl ⟨b3, ?_, ?_, ?_⟩⟩⟩
  · rw [b6.1 9 (by omega)]; exact a3.1
  · rw [b6.1 9 (by omega)]; exact a3.2.1
  · rw [b6.1 9 (by omega)]; exact a3.2.2
