/-- numbers within B -/
def bd (B : Int) (x : Int32) : Prop := -B ≤ x.toInt ∧ x.toInt ≤ B
theorem n_nI {x : Int32} (h : 0 ≤ x.toInt) : x = nI x.toInt.toNat := by
  have := n_hi x
  rw [n_eq, nI_toInt (by omega)]; omega
theorem n_fl_b {a : Int32} {w : Nat} {B : Int} (hw : 0 < w) (hw2 : w < 1000) (hB : 0 ≤ B) (h : -(w * B) ≤ a.toInt ∧ a.toInt ≤ w * B) : bd B (n_fl a (nI w)) := by
  have e := n_fl_int (a := a) (b := nI w) (by rw [nI_toInt (by omega)]; omega)
  rw [nI_toInt (by omega)] at e
  unfold bd
  rw [e]
  constructor
  · rw [Int.le_ediv_iff_mul_le (by omega)]
    have : -B * (w : Int) = -((w : Int) * B) := by rw [Int.neg_mul, Int.mul_comm]
    omega
  · have : a.toInt / (w : Int) < B + 1 := by
      rw [Int.ediv_lt_iff_lt_mul (by omega), Int.add_mul, Int.mul_comm]; omega
    omega
theorem s_mean_b {w : Nat} {x : Nat → Int32} (hw : w = 4 ∨ w = 8) (hx : ∀ i, i < w → bd 764 (x i)) : bd 764 (s_mean w x) := by
  have h := n_sm_b (f := x) (B := 764) (by omega) w hx (by omega)
  exact n_fl_b (by omega) (by omega) (by omega) h
theorem s_dev_b {w : Nat} {x : Nat → Int32} (hw : w = 4 ∨ w = 8) (hx : ∀ i, i < w → bd 764 (x i)) {i : Nat} (hi : i < w) : bd 1528 (x i - s_mean w x) := by
  have h1 := hx i hi
  have h2 := s_mean_b hw hx
  unfold bd at *
  rw [n_sub (by omega) (by omega)]; omega
theorem n_sq {d : Int32} (h : bd 1528 d) : 0 ≤ (d * d).toInt ∧ (d * d).toInt ≤ 2334784 := by
  unfold bd at h
  have h0 : 0 ≤ d.toInt * d.toInt := by
    rcases Int.le_total 0 d.toInt with q | q
    · exact Int.mul_nonneg q q
    · have := Int.mul_nonneg (show 0 ≤ -d.toInt by omega) (show 0 ≤ -d.toInt by omega)
      rwa [Int.neg_mul_neg] at this
  have h1 : d.toInt * d.toInt ≤ 2334784 := by
    have hk : ∀ z : Int, 0 ≤ z → z ≤ 1528 → z * z ≤ 2334784 := fun z a b => by
      have := Int.mul_le_mul b b a (by omega : (0 : Int) ≤ 1528); omega
    rcases Int.le_total 0 d.toInt with q | q
    · exact hk _ q h.2
    · have := hk (-d.toInt) (by omega) (by omega)
      rwa [Int.neg_mul_neg] at this
  rw [n_mul (by omega) (by omega)]
  exact ⟨h0, h1⟩
theorem n_sm_nn {f : Nat → Int32} {B : Int} (hB : 0 ≤ B) : ∀ n : Nat, (∀ i, i < n → 0 ≤ (f i).toInt ∧ (f i).toInt ≤ B) → n * B < 2147483648 → 0 ≤ (n_sm f n).toInt ∧ (n_sm f n).toInt ≤ n * B := by
  intro n
  induction n with
  | zero => intro _ _; simp [n_sm]
  | succ n ih =>
    intro h hn
    have e : ((n + 1 : Nat) : Int) * B = n * B + B := by rw [Int.natCast_succ, Int.add_mul, Int.one_mul]
    rw [e] at hn ⊢
    have h1 := ih (fun i hi => h i (by omega)) (by omega)
    have h2 := h n (by omega)
    simp only [n_sm]
    rw [n_add (by omega) (by omega)]
    omega
theorem s_var_b {w : Nat} {x : Nat → Int32} (hw : w = 4 ∨ w = 8) (hx : ∀ i, i < w → bd 764 (x i)) : ∃ v : Nat, v < 1073741824 ∧ s_var w x = nI v := by
  have h := n_sm_nn (f := fun i => (x i - s_mean w x) * (x i - s_mean w x)) (B := 2334784) (by omega) w (fun i hi => n_sq (s_dev_b hw hx hi)) (by omega)
  have e := n_fl_int (a := n_sm (fun i => (x i - s_mean w x) * (x i - s_mean w x)) w) (b := nI w) (by rw [nI_toInt (by omega)]; omega)
  rw [nI_toInt (by omega)] at e
  have b1 : 0 ≤ (s_var w x).toInt := by
    show 0 ≤ (n_fl _ _).toInt
    rw [e]; exact Int.ediv_nonneg h.1 (by omega)
  have b2 : (s_var w x).toInt ≤ 2334784 * 8 := by
    show (n_fl _ _).toInt ≤ _
    rw [e]
    have := Int.ediv_le_self (a := (n_sm (fun i => (x i - s_mean w x) * (x i - s_mean w x)) w).toInt) (w : Int) h.1
    omega
  exact ⟨(s_var w x).toInt.toNat, by omega, n_nI b1⟩
theorem n_rt_pos {v : Nat} (hv : v < 1073741824) : 0 < n_rt (nI v) + 1 := by
  have h := (n_rtN_ok v).1
  have : n_rtN v < 32768 := n_sq_lt (by omega)
  unfold n_rt
  rw [nI_clamp (by omega), nI_1]
  exact nI_lt (a := 0) (by omega) (by omega)
set_option maxHeartbeats 1000000 in
theorem c_norm {M : qM} {c : Nat → Nat} {a g o N O : Nat} (hc : cOk c) (hM : HC c M) (hg : g + c 2 ≤ 1500) (ha : SHP[a]? = some (.inr (0, N))) (hN : c 2 ≤ N) (hN2 : N ≤ 2000) (ho : SHP[o]? = some (.inr (0, O))) (hO : c 2 ≤ O) (hO2 : O ≤ 2000) (hne : o ≠ a) (hx : ∀ i, i < c 2 → bd 764 (M.1 a i)) :
    q_CV TS CL SHP 2 y_Mo_norm [.ref 3, .ref a, .int (nI g), .ref o] M (fun M' => (∀ i, i < c 2 → M'.1 o i = s_norm (c 2) (M.1 a) (fun i => M.1 4 (g + i)) i) ∧ fr (fun x => x = o) M M') := by
  have o3 : o ≠ 3 := fun z => by subst z; simp [SHP] at ho
  have o4 : o ≠ 4 := fun z => by subst z; simp [SHP] at ho
  have hw : c 2 = 4 ∨ c 2 = 8 := hc.2.2.1
  have ew : M.1 3 5 = nI (c 2) := hM.2.2.1
  have hwp : 0 < nI (c 2) := nI_lt (a := 0) (by omega) (by omega)
  obtain ⟨v, hv, ev⟩ := s_var_b hw hx
  refine q_CV.of f_Mo_norm [.ref 3, .ref a, .int (nI g), .ref o, .null, .null, .null, .null, .null, .null] rfl rfl rfl (fun S h => ?_)
  have loop3 : ∀ l4 l6 m k M1, k + m = c 2 → (∀ r, r < k → M1.1 o r = s_norm (c 2) (M.1 a) (fun i => M.1 4 (g + i)) r) → fr (fun x => x = o) M M1 → S 99 [.ref 3, .ref a, .int (nI g), .ref o, .int l4, .int (s_mean (c 2) (M.1 a)), .int l6, .int (n_rt (s_var (c 2) (M.1 a))), .int (nI k), .null] [] M1 := by
    intro l4 l6 m
    induction m with
    | zero =>
      intro k M1 hk hv hf
      have e5 : M1.1 3 5 = nI (c 2) := by rw [hf.1 3 (fun z => o3 z.symm)]; exact ew
      exact p_Mo_norm_99_1 h ⟨by rw [e5]; exact nI_le (by omega) (by omega), fun i hi => hv i (by omega), hf⟩
    | succ m ih =>
      intro k M1 hk hv' hf
      have e5 : M1.1 3 5 = nI (c 2) := by rw [hf.1 3 (fun z => o3 z.symm)]; exact ew
      have e4 := hf.1 4 (fun z => o4 z.symm)
      have ea := hf.1 a (fun z => hne z.symm)
      refine p_Mo_norm_99_0 h ⟨by rw [e5]; exact nI_ge (by omega) (by omega), ok_of ha (by omega) (by omega), 1, _, by decide, c_floor M1 _ _ (by rw [ev]; exact n_rt_pos hv), fun v1 M2 h1 => ⟨0, _, by decide, c_clamp M2 _, fun v2 M3 h2 => ⟨by rw [nI_add]; exact ok_of (N := 1500) rfl (by omega) (by decide), 1, _, by decide, c_floor M3 _ 64 (by decide), fun v3 M4 h3 => ⟨0, _, by decide, c_clamp M4 _, fun v4 M5 h4 => ⟨ok_of ho (by omega) (by omega), ?_⟩⟩⟩⟩⟩
      rw [h4.1, h4.2, h3.1, h3.2, h2.1, h2.2, h1.1, h1.2, nI_1, nI_add, nI_clamp (by omega), nI_clamp (by omega)]
      refine ih (k + 1) _ (by omega) (fun r hr => ?_) (hf.up rfl)
      by_cases hrk : r = k
      · subst hrk; rw [q_up_at, e4, ea]; rfl
      · rw [q_up_oth hrk]; exact hv' r (by omega)
  have loop2 : ∀ l4 m k, k + m = c 2 → S 47 [.ref 3, .ref a, .int (nI g), .ref o, .int l4, .int (s_mean (c 2) (M.1 a)), .int (n_sm (fun i => (M.1 a i - s_mean (c 2) (M.1 a)) * (M.1 a i - s_mean (c 2) (M.1 a))) k), .int (nI k), .null, .null] [] M := by
    intro l4 m
    induction m with
    | zero =>
      intro k hk
      have : k = c 2 := by omega
      subst this
      refine p_Mo_norm_47_1 h ⟨by rw [ew]; exact nI_le (Nat.le_refl _) (by omega), 1, _, by decide, c_floor M _ _ (by rw [ew]; exact hwp), fun v1 M1 h1 => ?_⟩
      have e1 : v1 = nI v := by rw [h1.1, ew]; exact ev
      refine ⟨0, _, by decide, by rw [e1]; exact c_root M1 hv, fun v2 M2 h2 => ?_⟩
      rw [h2.1, h2.2, h1.2, ← ev]
      exact loop3 _ _ (c 2) 0 M (by omega) (fun r hr => absurd hr (by omega)) (fr.rf M)
    | succ m ih =>
      intro k hk
      refine p_Mo_norm_47_0 h ⟨by rw [ew]; exact nI_ge (by omega) (by omega), ok_of ha (by omega) (by omega), ok_of ha (by omega) (by omega), ?_⟩
      rw [nI_1, nI_clamp (by omega)]
      exact ih (k + 1) (by omega)
  have loop1 : ∀ m k, k + m = c 2 → S 6 [.ref 3, .ref a, .int (nI g), .ref o, .int (n_sm (M.1 a) k), .int (nI k), .null, .null, .null, .null] [] M := by
    intro m
    induction m with
    | zero =>
      intro k hk
      have : k = c 2 := by omega
      subst this
      refine p_Mo_norm_6_1 h ⟨by rw [ew]; exact nI_le (Nat.le_refl _) (by omega), 1, _, by decide, c_floor M _ _ (by rw [ew]; exact hwp), fun v1 M1 h1 => ?_⟩
      rw [h1.1, h1.2, ew]
      exact loop2 _ (c 2) 0 (by omega)
    | succ m ih =>
      intro k hk
      refine p_Mo_norm_6_0 h ⟨by rw [ew]; exact nI_ge (by omega) (by omega), ok_of ha (by omega) (by omega), ?_⟩
      rw [nI_1, nI_clamp (by omega)]
      exact ih (k + 1) (by omega)
  exact p_Mo_norm_0_0 h (loop1 (c 2) 0 (by omega))
