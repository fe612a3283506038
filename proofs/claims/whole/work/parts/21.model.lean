/-! THE MODEL'S NUMBERS: c 0 layers, c 1 heads, c 2 width, c 3 inner, c 4 context, c 5 merges, c 6 stop, c 7 shift -/
def cMean (c : Nat → Nat) : Nat := 9 + 2 * c 5
def cPlace (c : Nat → Nat) : Nat := cMean c + (8 + c 5) * c 2
def cFirst (c : Nat → Nat) : Nat := cPlace c + c 4 * c 2
def cLb (c : Nat → Nat) : Nat := 2 * c 2 + 4 * (c 2 * c 2) + 2 * (c 2 * c 3)
def cLast (c : Nat → Nat) : Nat := cFirst c + c 0 * cLb c
def cOk (c : Nat → Nat) : Prop := (c 0 = 1 ∨ c 0 = 2) ∧ (c 1 = 1 ∨ c 1 = 2 ∨ c 1 = 4) ∧ (c 2 = 4 ∨ c 2 = 8) ∧ 4 ≤ c 3 ∧ c 3 ≤ 16 ∧ 2 ≤ c 4 ∧ c 4 ≤ 12 ∧ c 5 ≤ 8 ∧ c 6 < 8 + c 5 ∧ 1 ≤ c 7 ∧ c 7 ≤ 10 ∧ cLast c + c 2 ≤ 1500
/-- the class's own fields say the model c -/
def HC (c : Nat → Nat) (M : qM) : Prop := M.1 3 3 = nI (c 0) ∧ M.1 3 4 = nI (c 1) ∧ M.1 3 5 = nI (c 2) ∧ M.1 3 6 = nI (c 3) ∧ M.1 3 7 = nI (c 4) ∧ M.1 3 8 = nI (c 5) ∧ M.1 3 9 = nI (8 + c 5) ∧ M.1 3 10 = nI (c 6) ∧ M.1 3 11 = nI (c 2 / c 1) ∧ M.1 3 12 = nI (c 7) ∧ M.1 3 13 = nI (cMean c) ∧ M.1 3 14 = nI (cPlace c) ∧ M.1 3 15 = nI (cFirst c) ∧ M.1 3 16 = nI (cLb c) ∧ M.1 3 17 = nI (cLast c)
theorem HC.to {c : Nat → Nat} {M M' : qM} (h : HC c M) (e : M'.1 3 = M.1 3) : HC c M' := by unfold HC at *; rw [e]; exact h
/-- nothing but the cells that P names has changed -/
def fr (P : Nat → Prop) (M M' : qM) : Prop := (∀ a, ¬ P a → M'.1 a = M.1 a) ∧ M'.2 = M.2
theorem fr.rf {P : Nat → Prop} (M : qM) : fr P M M := ⟨fun _ _ => rfl, rfl⟩
theorem fr.trans {P : Nat → Prop} {M M1 M2 : qM} (h1 : fr P M M1) (h2 : fr P M1 M2) : fr P M M2 := ⟨fun a ha => (h2.1 a ha).trans (h1.1 a ha), h2.2.trans h1.2⟩
theorem fr.mono {P P' : Nat → Prop} {M M1 : qM} (h : fr P M M1) (hP : ∀ a, P a → P' a) : fr P' M M1 := ⟨fun a ha => h.1 a (fun q => ha (hP a q)), h.2⟩
theorem fr.up {P : Nat → Prop} {M M1 : qM} {a i : Nat} {v : Int32} (h : fr P M M1) (ha : P a) : fr P M (q_up M1 a i v) := ⟨fun b hb => (q_up_ne b (fun e => hb (e ▸ ha))).trans (h.1 b hb), h.2⟩
theorem q_up_at {M : qM} {a i : Nat} {v : Int32} : (q_up M a i v).1 a i = v := by simp [q_up]
theorem q_up_oth {M : qM} {a i j : Nat} {v : Int32} (h : j ≠ i) : (q_up M a i v).1 a j = M.1 a j := by simp [q_up, h]
theorem ok_of {t a N i : Nat} (h : SHP[a]? = some (.inr (t, N))) (hi : i < N) (hN : N < 2 ^ 31) : q_ok SHP t a (nI i) := ⟨N, h, vp_in_nI hi hN⟩
theorem nI_n (n : Nat) : nI n = Int32.ofNat n := rfl
theorem c_product {M : qM} {row n a N : Nat} (hr : row + n ≤ 1500) (ha : SHP[a]? = some (.inr (0, N))) (hn : n ≤ N) (hN : N ≤ 2000) : q_CI TS CL SHP 0 y_Mo_product [.ref 3, .int (nI row), .int (nI n), .ref a] M (fun v M' => v = s_dot (M.1 4) row n (M.1 a) ∧ M' = M) := by
  refine q_CI.of f_Mo_product [.ref 3, .int (nI row), .int (nI n), .ref a, .null, .null] rfl rfl (fun v M' _ => ⟨.int, rfl, rfl⟩) (fun S h => ?_)
  have loop : ∀ m k, k + m = n → S 6 [.ref 3, .int (nI row), .int (nI n), .ref a, .int (n_sm (fun i => M.1 4 (row + i) * M.1 a i) k), .int (nI k)] [] M := by
    intro m
    induction m with
    | zero =>
      intro k hk
      have : k = n := by omega
      subst this
      exact p_Mo_product_6_1 h ⟨nI_le (Nat.le_refl _) (by omega), rfl, rfl⟩
    | succ m ih =>
      intro k hk
      refine p_Mo_product_6_0 h ⟨nI_ge (by omega) (by omega), ?_, ok_of ha (by omega) (by omega), ?_⟩
      · rw [nI_add]; exact ok_of (N := 1500) rfl (by omega) (by decide)
      · have := ih (k + 1) (by omega)
        rw [nI_add, nI_1, nI_clamp (by omega), nI_clamp (by omega)]
        exact this
  exact p_Mo_product_0_0 h (loop n 0 (by omega))
theorem shift_eq {x : Int32} {k : Nat} (hk : k ≤ 10) (h1 : 1 ≤ k) : (x + ((1 : Int32) <<< ((nI k - 1) &&& 31))) >>> (nI k &&& 31) = n_fl (x + ((1 : Int32) <<< (nI (k - 1) &&& 31))) ((1 : Int32) <<< (nI k &&& 31)) := by
  obtain ⟨j, rfl⟩ : ∃ j, k = j + 1 := ⟨k - 1, by omega⟩
  rw [nI_pred, n_shr_fl (by omega)]
  rfl
theorem c_times {M : qM} {c : Nat → Nat} {pos rows n a o N O : Nat} (hc : cOk c) (hM : HC c M) (hp : pos + rows * n ≤ 1500) (ha : SHP[a]? = some (.inr (0, N))) (hn : n ≤ N) (hN : N ≤ 2000) (ho : SHP[o]? = some (.inr (0, O))) (hO : rows ≤ O) (hO2 : O ≤ 2000) (hne : o ≠ a) :
    q_CV TS CL SHP 1 y_Mo_times [.ref 3, .int (nI pos), .int (nI rows), .int (nI n), .ref a, .ref o] M (fun M' => (∀ r, r < rows → M'.1 o r = s_times (M.1 4) pos n (c 7) (M.1 a) r) ∧ fr (fun x => x = o) M M') := by
  have o3 : o ≠ 3 := fun z => by subst z; simp [SHP] at ho
  have o4 : o ≠ 4 := fun z => by subst z; simp [SHP] at ho
  have h7 : 1 ≤ c 7 ∧ c 7 ≤ 10 := by obtain ⟨-, -, -, -, -, -, -, -, -, h1, h2, -⟩ := hc; exact ⟨h1, h2⟩
  refine q_CV.of f_Mo_times [.ref 3, .int (nI pos), .int (nI rows), .int (nI n), .ref a, .ref o, .null, .null] rfl rfl rfl (fun S h => ?_)
  have loop : ∀ m k M1, k + m = rows → (∀ r, r < k → M1.1 o r = s_times (M.1 4) pos n (c 7) (M.1 a) r) → fr (fun x => x = o) M M1 → S 3 [.ref 3, .int (nI pos), .int (nI rows), .int (nI n), .ref a, .ref o, .int (nI k), .null] [] M1 := by
    intro m
    induction m with
    | zero =>
      intro k M1 hk hv hf
      have : k = rows := by omega
      subst this
      exact p_Mo_times_3_1 h ⟨nI_le (Nat.le_refl _) (by omega), hv, hf⟩
    | succ m ih =>
      intro k M1 hk hv hf
      have hkn : k * n + n ≤ rows * n := by
        have := Nat.mul_le_mul_right n (show k + 1 ≤ rows by omega)
        rw [Nat.add_mul, Nat.one_mul] at this; exact this
      have e3 := hf.1 3 (fun z => o3 z.symm)
      have e4 := hf.1 4 (fun z => o4 z.symm)
      have ea := hf.1 a (fun z => hne z.symm)
      have hM1 : HC c M1 := hM.to e3
      have hs := hM1.2.2.2.2.2.2.2.2.2.1
      have hp1 := c_product (M := M1) (row := pos + k * n) (by omega) ha hn hN
      rw [← nI_add, ← nI_mul] at hp1
      refine p_Mo_times_3_0 h ⟨nI_ge (by omega) (by omega), 0, _, by decide, hp1, fun v1 M2 hv1 => ⟨0, _, by decide, c_clamp M2 _, fun v2 M3 hv2 => ⟨ok_of ho (by omega) (by omega), ?_⟩⟩⟩
      · rw [hv2.1, hv2.2, hv1.1, hv1.2, nI_1, nI_clamp (by omega), hs, shift_eq h7.2 h7.1]
        refine ih (k + 1) _ (by omega) (fun r hr => ?_) (hf.up rfl)
        by_cases hrk : r = k
        · subst hrk; rw [q_up_at, e4, ea]; rfl
        · rw [q_up_oth hrk]; exact hv r (by omega)
  exact p_Mo_times_0_0 h (loop rows 0 M (by omega) (fun r hr => absurd hr (by omega)) (fr.rf M))
