/-! BOTH SIDES AT ONCE: what holds of the class's and the reference's memory between two calls -/
def noRun (M : qM) : Prop := M.1 69 17 = 0 ∧ M.1 9 5 = 0 ∧ M.1 9 6 = 0 ∧ M.1 9 7 = 0
def InvI (M : qM) : Prop := M.1 70 = M.1 2 ∧ ∀ i, isB (M.1 2 i)
def InvN (M : qM) : Prop := ∃ n, n ≤ 1500 ∧ M.1 1 1 = nI n ∧ M.1 69 1 = nI n
def InvT (M : qM) : Prop := ∃ xs : List Nat, xs.length ≤ 24 ∧ (∀ x ∈ xs, x < 8) ∧ at_ (M.1 7) 0 xs ∧ at_ (M.1 72) 0 xs ∧ M.1 6 1 = nI xs.length ∧ M.1 69 12 = nI xs.length
def InvR (M : qM) : Prop := (M.1 71 = M.1 4 ∧ ∀ i, isB (M.1 4 i)) ∧ ((M.1 3 2 = 0 ∧ M.1 69 3 = 0 ∧ noRun M) ∨ ∃ c, cOk c ∧ LC c M ∧ LR c M ∧ (noRun M ∨ ∃ r, rsOk c r ∧ rsC c (M.1 4) r M ∧ rsR c (M.1 4) r M))
def Inv (M : qM) : Prop := InvI M ∧ InvN M ∧ InvT M ∧ InvR M
theorem InvI.to {M M' : qM} (h : InvI M) (e1 : M'.1 2 = M.1 2) (e2 : M'.1 70 = M.1 70) : InvI M' := by unfold InvI at *; rw [e1, e2]; exact h
theorem InvN.to {M M' : qM} (h : InvN M) (e1 : M'.1 1 1 = M.1 1 1) (e2 : M'.1 69 1 = M.1 69 1) : InvN M' := by unfold InvN at *; rw [e1, e2]; exact h
theorem InvT.to {M M' : qM} (h : InvT M) (e1 : M'.1 7 = M.1 7) (e2 : M'.1 72 = M.1 72) (e3 : M'.1 6 1 = M.1 6 1) (e4 : M'.1 69 12 = M.1 69 12) : InvT M' := by unfold InvT at *; rw [e1, e2, e3, e4]; exact h
theorem noRun.to {M M' : qM} (h : noRun M) (e1 : M'.1 9 = M.1 9) (e2 : M'.1 69 17 = M.1 69 17) : noRun M' := by unfold noRun at *; rw [e1, e2]; exact h
theorem LC.to {c : Nat → Nat} {M M' : qM} (h : LC c M) (e3 : M'.1 3 = M.1 3) (e4 : M'.1 4 = M.1 4) (e5 : M'.1 5 = M.1 5) : LC c M' := by
  obtain ⟨h1, h2, h3, h4⟩ := h
  exact ⟨h1.to e3, by rw [e3]; exact h2, by rw [e4]; exact h3, by rw [e4, e5]; exact h4⟩
theorem HR.to2 {c : Nat → Nat} {M M' : qM} (h : HR c M) (e : ∀ k, 4 ≤ k → k ≤ 11 → M'.1 69 k = M.1 69 k) : HR c M' := by
  obtain ⟨a1, a2, a3, a4, a5, a6, a7, a8⟩ := h
  refine ⟨?_, ?_, ?_, ?_, ?_, ?_, ?_, ?_⟩ <;> (rw [e _ (by decide) (by decide)]; assumption)
theorem LR.to2 {c : Nat → Nat} {M M' : qM} (h : LR c M) (e : ∀ k, 3 ≤ k → k ≤ 11 → M'.1 69 k = M.1 69 k) (e1 : M'.1 71 = M.1 71) : LR c M' :=
  ⟨h.1.to2 (fun k h1 h2 => e k (by omega) h2), by rw [e 3 (by decide) (by decide)]; exact h.2.1, by rw [e1]; exact h.2.2⟩
theorem rsC.to {c : Nat → Nat} {b : Nat → Int32} {r : RS} {M M' : qM} (hc : cOk c) (ho : rsOk c r) (h : rsC c b r M) (e9 : M'.1 9 = M.1 9) (e12 : M'.1 12 = M.1 12) (e13 : M'.1 13 = M.1 13) (er : ∀ x, 21 ≤ x → x ≤ 68 → M'.1 x = M.1 x) : rsC c b r M' := by
  obtain ⟨h1, h2, h3, h4, h5, h6⟩ := h
  have h12 : c 4 ≤ 12 := hc.2.2.2.2.2.2.1
  have hc0 := hc.1
  have hr1 := ho.2.1
  refine ⟨by rw [e9]; exact h1, by rw [e9]; exact h2, by rw [e9]; exact h3, fun l hl j hj i hi => ?_, by rw [e13]; exact h5, by rw [e12]; exact h6⟩
  rw [er _ (by omega) (by omega), er _ (by omega) (by omega)]; exact h4 l hl j hj i hi
theorem rsR.to {c : Nat → Nat} {b : Nat → Int32} {r : RS} {M M' : qM} (h : rsR c b r M) (e : ∀ k, 17 ≤ k → k ≤ 21 → M'.1 69 k = M.1 69 k) (er : ∀ x, 75 ≤ x → x ≤ 80 → M'.1 x = M.1 x) : rsR c b r M' := by
  obtain ⟨r1, r2, r3, r4, r5, r6, r7, r8⟩ := h
  refine ⟨by rw [e 17 (by decide) (by decide)]; exact r1, by rw [e 18 (by decide) (by decide)]; exact r2, by rw [e 19 (by decide) (by decide)]; exact r3, by rw [e 21 (by decide) (by decide)]; exact r4, by rw [er 75 (by decide) (by decide)]; exact r5, fun l hl p hp i hi => ?_, by rw [er 80 (by decide) (by decide)]; exact r7, by rw [er 76 (by decide) (by decide)]; exact r8⟩
  rw [er 78 (by decide) (by decide), er 79 (by decide) (by decide)]; exact r6 l hl p hp i hi
theorem InvR.to {M M' : qM} (h : InvR M) (e : ∀ x, (3 ≤ x ∧ x ≤ 5) ∨ x = 9 ∨ x = 12 ∨ x = 13 ∨ (21 ≤ x ∧ x ≤ 68) ∨ x = 71 ∨ (75 ≤ x ∧ x ≤ 80) → M'.1 x = M.1 x) (e69 : ∀ k, (3 ≤ k ∧ k ≤ 11) ∨ (17 ≤ k ∧ k ≤ 21) → M'.1 69 k = M.1 69 k) : InvR M' := by
  obtain ⟨⟨h1, h2⟩, h3⟩ := h
  refine ⟨by rw [e 71 (by omega), e 4 (by omega)]; exact ⟨h1, h2⟩, ?_⟩
  rcases h3 with ⟨g1, g2, g3⟩ | ⟨c, hc, g1, g2, g3⟩
  · exact Or.inl ⟨by rw [e 3 (by omega)]; exact g1, by rw [e69 3 (by omega)]; exact g2, g3.to (e 9 (by omega)) (e69 17 (by omega))⟩
  · refine Or.inr ⟨c, hc, g1.to (e 3 (by omega)) (e 4 (by omega)) (e 5 (by omega)), g2.to2 (fun k a b => e69 k (by omega)) (e 71 (by omega)), ?_⟩
    rw [e 4 (by omega)]
    rcases g3 with g3 | ⟨r, ho, k1, k2⟩
    · exact Or.inl (g3.to (e 9 (by omega)) (e69 17 (by omega)))
    · exact Or.inr ⟨r, ho, k1.to hc ho (e 9 (by omega)) (e 12 (by omega)) (e 13 (by omega)) (fun x a b => e x (by omega)), k2.to (fun k a b => e69 k (by omega)) (fun x a b => e x (by omega))⟩
/-- nothing that counts has changed -/
theorem Inv.to {M M' : qM} (h : Inv M) (e : ∀ x, ¬ (x = 6 ∨ x = 8 ∨ x = 69 ∨ x = 73 ∨ x = 74) → M'.1 x = M.1 x) (e6 : M'.1 6 1 = M.1 6 1) (e69 : ∀ k, k ≠ 14 → k ≠ 33 → M'.1 69 k = M.1 69 k) : Inv M' :=
  ⟨h.1.to (e 2 (by omega)) (e 70 (by omega)), h.2.1.to (by rw [e 1 (by omega)]) (e69 1 (by decide) (by decide)), h.2.2.1.to (e 7 (by omega)) (e 72 (by omega)) e6 (e69 12 (by decide) (by decide)), h.2.2.2.to (fun x hx => e x (by omega)) (fun k hk => e69 k (by omega) (by omega))⟩
theorem Inv.up33 {M : qM} {v : Int32} (h : Inv M) : Inv (q_up M 69 33 v) := h.to (fun x hx => q_up_ne x (by omega)) (by rw [q_up_ne 6 (by decide)]) (fun k _ k2 => q33 k2)
theorem Inv.upL {M : qM} {a i : Nat} {v : Int64} (h : Inv M) : Inv (q_upL M a i v) := h.to (fun _ _ => rfl) rfl (fun _ _ _ => rfl)
