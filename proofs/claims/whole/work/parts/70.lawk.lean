/-! THE LAW'S LOOP: begin, next, go; all turns -/
theorem j_run {M M1 M2 : qM} {c : Nat → Nat} {r : RS} (h : Inv M) (hc : cOk c) (hLC : LC c M) (hLR : LR c M) (ho : rsOk c r) (rC : rsC c (M.1 4) r M1) (f1 : fr (fun x => x = 6 ∨ x = 8 ∨ x = 9 ∨ (12 ≤ x ∧ x ≤ 68)) M M1) (e6 : M1.1 6 1 = M.1 6 1)
    (rR : rsR c (M.1 4) r M2) (e69 : ∀ k, k = 1 ∨ k = 12 ∨ (3 ≤ k ∧ k ≤ 11) → M2.1 69 k = M.1 69 k) (f2 : ∀ x, ¬ (x = 69 ∨ x = 73 ∨ (75 ≤ x ∧ x ≤ 86)) → M2.1 x = M1.1 x) : Inv M2 := by
  have e : ∀ x, ¬ (x = 6 ∨ x = 8 ∨ x = 9 ∨ (12 ≤ x ∧ x ≤ 68)) → ¬ (x = 69 ∨ x = 73 ∨ (75 ≤ x ∧ x ≤ 86)) → M2.1 x = M.1 x := fun x h1 h2 => by rw [f2 x h2, f1.1 x h1]
  refine ⟨h.1.to (e 2 (by omega) (by omega)) (e 70 (by omega) (by omega)), h.2.1.to (by rw [e 1 (by omega) (by omega)]) (e69 1 (by omega)), h.2.2.1.to (e 7 (by omega) (by omega)) (e 72 (by omega) (by omega)) (by rw [f2 6 (by omega)]; exact e6) (e69 12 (by omega)), ?_, ?_⟩
  · rw [e 71 (by omega) (by omega), e 4 (by omega) (by omega)]; exact h.2.2.2.1
  · refine Or.inr ⟨c, hc, hLC.to (e 3 (by omega) (by omega)) (e 4 (by omega) (by omega)) (e 5 (by omega) (by omega)), hLR.to2 (fun k a b => e69 k (by omega)) (e 71 (by omega) (by omega)), Or.inr ⟨r, ho, ?_, ?_⟩⟩
    · rw [e 4 (by omega) (by omega)]
      exact rC.to hc ho (f2 9 (by omega)) (f2 12 (by omega)) (f2 13 (by omega)) (fun x a b => f2 x (by omega))
    · rw [e 4 (by omega) (by omega)]; exact rR
theorem lg0 (x : Int64) : lg_cmp x x = 0 := by unfold lg_cmp; simp
section LAWK
variable {S : Nat → List Value → List Value → qM → Prop} {Rt : Option Int32 → qM → Prop} {L : Nat} {xs : Nat → Int32} {i : Nat}
/-- begin: what follows the law's own begin -/
theorem k_begin0 (h : q_Mach TS CL TY SHP (L + 1, xs) E_La t_La_law 9 S Rt) (k : ∀ M', Inv M' → S 23 (lv7 (i + 5)) [] M') {M : qM} (hI : Inv M) (m2 : M.1 69 3 = 0) : S 392 (lv7 i) [.int 1] M := by
  refine p_La_law_392_0 h ⟨7, _, by decide, r_begin0 m2, fun w1 M1 g1 => ?_⟩
  obtain ⟨x1, rfl⟩ := g1
  refine ⟨0, _, by decide, r_thrown _, fun w2 M2 g2 => ?_⟩
  obtain ⟨y1, e⟩ := g2; obtain rfl := e.symm
  rw [q_up_at] at y1
  refine p_La_law_406_3 h ⟨y1, by decide, ?_⟩
  rw [show nI i + 5 = nI (i + 5) from nI_add i 5]
  exact k _ hI.up33
theorem k_begin2 (h : q_Mach TS CL TY SHP (L + 1, xs) E_La t_La_law 9 S Rt) (k : ∀ M', Inv M' → S 23 (lv7 (i + 5)) [] M') {M : qM} {c : Nat → Nat} {zs : List Nat} (hI : Inv M) (hc : cOk c) (hLR : LR c M) (hB : ∀ x ∈ zs, x < 8) (hx : at_ (M.1 72) 0 zs) (hn : M.1 69 12 = nI zs.length) (h24 : zs.length ≤ 24) (h12 : (toks (M.1 71) (c 5) zs).length < 1 ∨ c 4 < (toks (M.1 71) (c 5) zs).length) : S 392 (lv7 i) [.int 2] M := by
  refine p_La_law_392_0 h ⟨7, _, by decide, r_begin2 hc hLR hB hx hn h24 h12, fun w1 M1 g1 => ?_⟩
  obtain ⟨x1, x2, x3, x4⟩ := g1
  refine ⟨0, _, by decide, r_thrown _, fun w2 M2 g2 => ?_⟩
  obtain ⟨y1, e⟩ := g2; obtain rfl := e.symm
  rw [x2] at y1
  refine p_La_law_406_3 h ⟨y1, by decide, ?_⟩
  rw [show nI i + 5 = nI (i + 5) from nI_add i 5]
  exact k _ (hI.to (fun x hx => x4.1 x (by omega)) (by rw [x4.1 6 (by omega)]) x3)
theorem k_begin1 (h : q_Mach TS CL TY SHP (L + 1, xs) E_La t_La_law 9 S Rt) (k : ∀ M', Inv M' → S 23 (lv7 (i + 5)) [] M') {M M1 : qM} {c : Nat → Nat} {zs : List Nat} (hI : Inv M) (hc : cOk c) (hLC : LC c M) (hLR : LR c M) (hB : ∀ x ∈ zs, x < 8) (hx : at_ (M.1 72) 0 zs) (hn : M.1 69 12 = nI zs.length) (h24 : zs.length ≤ 24)
    (h1 : 1 ≤ (toks (M.1 4) (c 5) zs).length) (h2 : (toks (M.1 4) (c 5) zs).length ≤ c 4) {v : Int32}
    (g : v = nI (toks (M.1 4) (c 5) zs).length ∧ rsC c (M.1 4) ((toks (M.1 4) (c 5) zs).length, 0, tkF (toks (M.1 4) (c 5) zs), fun _ => 0, true) M1 ∧ (∀ k, k ≠ 3 → M1.1 6 k = M.1 6 k) ∧ fr (fun x => x = 6 ∨ x = 8 ∨ x = 9 ∨ (13 ≤ x ∧ x ≤ 68)) M M1) : S 392 (lv7 i) [.int 0] (q_upL M1 87 0 v.toInt64) := by
  obtain ⟨rfl, g2, g3, g4⟩ := g
  have e71 : (q_upL M1 87 0 (nI (toks (M.1 4) (c 5) zs).length).toInt64).1 71 = M.1 4 := by show M1.1 71 = _; rw [g4.1 71 (by omega)]; exact hI.2.2.2.1.1
  have e69 : (q_upL M1 87 0 (nI (toks (M.1 4) (c 5) zs).length).toInt64).1 69 = M.1 69 := g4.1 69 (by omega)
  have rb := r_begin1 (M := q_upL M1 87 0 (nI (toks (M.1 4) (c 5) zs).length).toInt64) (c := c) (xs := zs) hc (hLR.to2 (fun k _ _ => by rw [e69]) (g4.1 71 (by omega))) (by rw [e71]; exact fun j => isB_bd (hI.2.2.2.1.2 j)) hB (by show at_ (M1.1 72) 0 zs; rw [g4.1 72 (by omega)]; exact hx) (by rw [e69]; exact hn) h24 (by rw [e71]; exact h1) (by rw [e71]; exact h2)
  rw [e71] at rb
  have hbd : ∀ x ∈ toks (M.1 4) (c 5) zs, x < 8 + (0 + c 5) := m_from_bd (c 5) 0 zs hB
  refine p_La_law_392_0 h ⟨7, _, by decide, rb, fun w1 M2 q1 => ?_⟩
  obtain ⟨x1, x2, x3, x4, x5⟩ := q1
  refine ⟨0, _, by decide, r_thrown _, fun w2 M3 q2 => ?_⟩
  obtain ⟨y1, e⟩ := q2; obtain rfl := e.symm
  rw [x3] at y1
  refine p_La_law_406_2 h ⟨y1, rfl, ok87, ?_, ?_⟩
  · have : M2.2 87 (0 : Int32).toNatClampNeg = (nI (toks (M.1 4) (c 5) zs).length).toInt64 := by
      rw [x5.2]; rfl
    rw [this, x1]; exact lg0 _
  · rw [show nI i + 5 = nI (i + 5) from nI_add i 5]
    refine k _ (j_run hI hc hLC hLR ⟨h1, h2, Nat.zero_le _, fun _ => h1, fun p hp => ?_⟩ g2 (g4.mono (fun a ha => by omega)) (g3 1 (by decide)) x2 (fun j hj => by rw [x4 j (by omega) (by omega) (by omega) (by omega) (by omega) (by omega), e69]) (fun x hx => x5.1 x hx))
    have := hbd (tkF (toks (M.1 4) (c 5) zs) p) (by unfold tkF; rw [List.getD_eq_getElem?_getD, List.getElem?_eq_getElem hp]; exact List.getElem_mem hp)
    show tkF (toks (M.1 4) (c 5) zs) p < 8 + c 5
    omega
theorem k_next0 (h : q_Mach TS CL TY SHP (L + 1, xs) E_La t_La_law 9 S Rt) (k : ∀ M', Inv M' → S 23 (lv7 (i + 5)) [] M') {M : qM} (hI : Inv M) (h0 : M.1 69 17 = 0 ∨ (¬ M.1 69 17 = 0 ∧ ¬ M.1 69 18 = 0)) : S 436 (lv7 i) [.int 1] M := by
  refine p_La_law_436_0 h ⟨7, _, by decide, r_next0 h0, fun w1 M1 g1 => ?_⟩
  obtain ⟨x1, rfl⟩ := g1
  refine ⟨0, _, by decide, r_thrown _, fun w2 M2 g2 => ?_⟩
  obtain ⟨y1, e⟩ := g2; obtain rfl := e.symm
  rw [q_up_at] at y1
  refine p_La_law_450_3 h ⟨y1, by decide, ?_⟩
  rw [show nI i + 5 = nI (i + 5) from nI_add i 5]
  exact k _ hI.up33
theorem k_next1 (h : q_Mach TS CL TY SHP (L + 1, xs) E_La t_La_law 9 S Rt) (k : ∀ M', Inv M' → S 23 (lv7 (i + 5)) [] M') {M M1 : qM} {c : Nat → Nat} {r : RS} (hI : Inv M) (hc : cOk c) (hLC : LC c M) (hLR : LR c M) (ho : rsOk c r) (hr : rsR c (M.1 4) r M) (hg : r.2.2.2.2 = true) {v : Int32}
    (g : v = nI (rsBest c (M.1 4) r) ∧ rsC c (M.1 4) (rsStep c (M.1 4) r) M1 ∧ fr (fun x => x = 9 ∨ (12 ≤ x ∧ x ≤ 68)) M M1) : S 436 (lv7 i) [.int 0] (q_upL M1 87 0 v.toInt64) := by
  obtain ⟨rfl, g2, g4⟩ := g
  have e71 : (q_upL M1 87 0 (nI (rsBest c (M.1 4) r)).toInt64).1 71 = M.1 4 := by show M1.1 71 = _; rw [g4.1 71 (by omega)]; exact hI.2.2.2.1.1
  have e69 : (q_upL M1 87 0 (nI (rsBest c (M.1 4) r)).toInt64).1 69 = M.1 69 := g4.1 69 (by omega)
  have rb := r_next1 (M := q_upL M1 87 0 (nI (rsBest c (M.1 4) r)).toInt64) (c := c) (r := r) hc (hLR.1.to e69) (by rw [e71]; exact fun j => isB_bd (hI.2.2.2.1.2 j)) (by rw [e71]; exact hr.to (fun k _ _ => by rw [e69]) (fun x a b => g4.1 x (by omega))) ho hg
  rw [e71] at rb
  refine p_La_law_436_0 h ⟨7, _, by decide, rb, fun w1 M2 q1 => ?_⟩
  obtain ⟨x1, x2, x3, x4, x5⟩ := q1
  refine ⟨0, _, by decide, r_thrown _, fun w2 M3 q2 => ?_⟩
  obtain ⟨y1, e⟩ := q2; obtain rfl := e.symm
  rw [x3] at y1
  refine p_La_law_450_2 h ⟨y1, rfl, ok87, ?_, ?_⟩
  · have : M2.2 87 (0 : Int32).toNatClampNeg = (nI (rsBest c (M.1 4) r)).toInt64 := by rw [x5.2]; rfl
    rw [this, x1]; exact lg0 _
  · rw [show nI i + 5 = nI (i + 5) from nI_add i 5]
    exact k _ (j_run hI hc hLC hLR (rsStep_ok ho hg) g2 (g4.mono (fun a ha => by omega)) (by rw [g4.1 6 (by omega)]) x2 (fun j hj => by rw [x4 j (by omega) (by omega) (by omega) (by omega), e69]) (fun x hx => x5.1 x (by omega)))
theorem k_go0 (h : q_Mach TS CL TY SHP (L + 1, xs) E_La t_La_law 9 S Rt) (k : ∀ M', Inv M' → S 23 (lv7 (i + 5)) [] M') {M : qM} (hI : Inv M) (hi : i + 5 ≤ L) (hL : L ≤ 2560) {cd : Int32} (hcd : ¬ cd = 0) (hr : q_CI TS CL SHP 7 y_Rf_go [.ref 69, .int (xs (nI i + 1).toNatClampNeg)] M (fun v M' => v = 0 ∧ M' = q_up M 69 33 cd)) : S 486 (lv7 i) [.int cd] M := by
  refine p_La_law_486_0 h ⟨⟨rfl, by rw [nI_1]; exact vp_in_nI (N := L) (by omega) (by omega)⟩, 7, _, by decide, hr, fun w1 M1 g1 => ?_⟩
  obtain ⟨x1, rfl⟩ := g1
  refine ⟨0, _, by decide, r_thrown _, fun w2 M2 g2 => ?_⟩
  obtain ⟨y1, e⟩ := g2; obtain rfl := e.symm
  rw [q_up_at] at y1
  refine p_La_law_506_3 h ⟨y1, hcd, ?_⟩
  rw [show nI i + 5 = nI (i + 5) from nI_add i 5]
  exact k _ hI.up33
theorem k_go1 (h : q_Mach TS CL TY SHP (L + 1, xs) E_La t_La_law 9 S Rt) (k : ∀ M', Inv M' → S 23 (lv7 (i + 5)) [] M') {M M1 : qM} {c : Nat → Nat} {r : RS} {n : Nat} (hI : Inv M) (hi : i + 5 ≤ L) (hL : L ≤ 2560) (hn1 : 1 ≤ n) (hn : n ≤ 20) (ha : xs (nI i + 1).toNatClampNeg = nI n) (hc : cOk c) (hLC : LC c M) (hLR : LR c M) (ho : rsOk c r) (hr : rsR c (M.1 4) r M) (hg : r.2.2.2.2 = true) {v : Int32}
    (g : v = nI (rsGo c (M.1 4) n r).1 ∧ rsC c (M.1 4) (rsGo c (M.1 4) n r).2 M1 ∧ fr (fun x => x = 9 ∨ (12 ≤ x ∧ x ≤ 68)) M M1) : S 486 (lv7 i) [.int 0] (q_upL M1 87 0 v.toInt64) := by
  obtain ⟨rfl, g2, g4⟩ := g
  have e71 : (q_upL M1 87 0 (nI (rsGo c (M.1 4) n r).1).toInt64).1 71 = M.1 4 := by show M1.1 71 = _; rw [g4.1 71 (by omega)]; exact hI.2.2.2.1.1
  have e69 : (q_upL M1 87 0 (nI (rsGo c (M.1 4) n r).1).toInt64).1 69 = M.1 69 := g4.1 69 (by omega)
  have rb := r_go1 (M := q_upL M1 87 0 (nI (rsGo c (M.1 4) n r).1).toInt64) (c := c) (r := r) (n := n) hc (hLR.1.to e69) (by rw [e71]; exact fun j => isB_bd (hI.2.2.2.1.2 j)) (by rw [e71]; exact hr.to (fun k _ _ => by rw [e69]) (fun x a b => g4.1 x (by omega))) ho hg hn1 hn
  rw [e71, ← ha] at rb
  refine p_La_law_486_0 h ⟨⟨rfl, by rw [nI_1]; exact vp_in_nI (N := L) (by omega) (by omega)⟩, 7, _, by decide, rb, fun w1 M2 q1 => ?_⟩
  obtain ⟨x1, x2, x3, x4, x5⟩ := q1
  refine ⟨0, _, by decide, r_thrown _, fun w2 M3 q2 => ?_⟩
  obtain ⟨y1, e⟩ := q2; obtain rfl := e.symm
  rw [x3] at y1
  refine p_La_law_506_2 h ⟨y1, rfl, ok87, ?_, ?_⟩
  · have : M2.2 87 (0 : Int32).toNatClampNeg = (nI (rsGo c (M.1 4) n r).1).toInt64 := by rw [x5.2]; rfl
    rw [this, x1]; exact lg0 _
  · rw [show nI i + 5 = nI (i + 5) from nI_add i 5]
    exact k _ (j_run hI hc hLC hLR (rsGo_ok n r ho) g2 (g4.mono (fun a ha => by omega)) (by rw [g4.1 6 (by omega)]) x2 (fun j hj => by rw [x4 j (by omega) (by omega) (by omega) (by omega), e69]) (fun x hx => x5.1 x (by omega)))
end LAWK
