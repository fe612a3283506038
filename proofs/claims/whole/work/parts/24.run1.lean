/-! RUN: rows kept, scores, weights -/
theorem kr_ok : ∀ r, r < 24 → SHP[21 + r]? = some (.inr (0, 8)) := fun r hr => match r, hr with
  | 0, _ => rfl | 1, _ => rfl | 2, _ => rfl | 3, _ => rfl | 4, _ => rfl | 5, _ => rfl | 6, _ => rfl | 7, _ => rfl | 8, _ => rfl | 9, _ => rfl | 10, _ => rfl | 11, _ => rfl | 12, _ => rfl | 13, _ => rfl | 14, _ => rfl | 15, _ => rfl | 16, _ => rfl | 17, _ => rfl | 18, _ => rfl | 19, _ => rfl | 20, _ => rfl | 21, _ => rfl | 22, _ => rfl | 23, _ => rfl | n + 24, h => absurd h (by omega)
theorem vr_ok : ∀ r, r < 24 → SHP[45 + r]? = some (.inr (0, 8)) := fun r hr => match r, hr with
  | 0, _ => rfl | 1, _ => rfl | 2, _ => rfl | 3, _ => rfl | 4, _ => rfl | 5, _ => rfl | 6, _ => rfl | 7, _ => rfl | 8, _ => rfl | 9, _ => rfl | 10, _ => rfl | 11, _ => rfl | 12, _ => rfl | 13, _ => rfl | 14, _ => rfl | 15, _ => rfl | 16, _ => rfl | 17, _ => rfl | 18, _ => rfl | 19, _ => rfl | 20, _ => rfl | 21, _ => rfl | 22, _ => rfl | 23, _ => rfl | n + 24, h => absurd h (by omega)
theorem c_keptRow {M : qM} {l j : Nat} : q_CI TS CL SHP 0 y_Ru_keptRow [.int (nI l), .int (nI j)] M (fun v M' => v = nI (l * 12 + j) ∧ M' = M) := by
  refine q_CI.of f_Ru_keptRow [.int (nI l), .int (nI j)] rfl rfl (fun v M' _ => ⟨.int, rfl, rfl⟩) (fun S h => ?_)
  exact p_Ru_keptRow_0_0 h ⟨by rw [show (12 : Int32) = nI 12 from rfl, nI_mul, nI_add], rfl⟩
theorem n_16 : (16 : Int32) = (1 : Int32) <<< (nI 4 &&& 31) := by decide
theorem c_score {M : qM} {l j a hw : Nat} (hM : M.1 3 11 = nI hw) (hl : l < 2) (hj : j < 12) (ha : a + hw ≤ 8) :
    q_CI TS CL SHP 1 y_Ru_score [.ref 9, .int (nI l), .int (nI j), .int (nI a)] M (fun v M' => v = s_near hw a (M.1 16) (fun j => M.1 (21 + (l * 12 + j))) j ∧ M' = M) := by
  refine q_CI.of f_Ru_score [.ref 9, .int (nI l), .int (nI j), .int (nI a), .null, .null, .null] rfl rfl (fun v M' _ => ⟨.int, rfl, rfl⟩) (fun S h => ?_)
  have hr : l * 12 + j < 24 := by omega
  refine p_Ru_score_0_0 h ⟨0, _, by decide, c_keptRow, fun v M1 h1 => ⟨by rw [h1.1]; exact vp_in_nI hr (by decide), ?_⟩⟩
  rw [h1.1, h1.2, nI_clamp (by omega)]
  have loop : ∀ m k, k + m = hw → S 18 [.ref 9, .int (nI l), .int (nI j), .int (nI a), .ref (21 + (l * 12 + j)), .int (n_sm (fun i => M.1 16 (a + i) * M.1 (21 + (l * 12 + j)) (a + i)) k), .int (nI (a + k))] [] M := by
    intro m
    induction m with
    | zero =>
      intro k hk
      have : k = hw := by omega
      subst this
      refine p_Ru_score_18_1 h ⟨by rw [hM, nI_add]; exact nI_le (Nat.le_refl _) (by omega), ?_, rfl⟩
      unfold s_near
      rw [n_16, show (4 : Int32) = nI 4 from rfl, n_shr_fl (by decide)]
    | succ m ih =>
      intro k hk
      refine p_Ru_score_18_0 h ⟨by rw [hM, nI_add]; exact nI_ge (by omega) (by omega), ok_of (N := 8) rfl (by omega) (by decide), ok_of (kr_ok _ hr) (by omega) (by decide), ?_⟩
      rw [nI_1, nI_clamp (by omega)]
      exact ih (k + 1) (by omega)
  exact loop hw 0 (by omega)
/-- what one head's numbers may be -/
theorem n_mul_b {x y : Int32} (hx : bd 127 x) (hy : bd 127 y) : bd 16129 (x * y) := by
  unfold bd at *
  have h1 : ∀ u v : Int, -127 ≤ u → u ≤ 127 → -127 ≤ v → v ≤ 127 → u * v ≤ 16129 := fun u v a b c d => by
    rcases Int.le_total 0 u with q | q <;> rcases Int.le_total 0 v with r | r
    · have := Int.mul_le_mul b d r (by omega : (0 : Int) ≤ 127); omega
    · have := Int.mul_nonpos_of_nonneg_of_nonpos q r; omega
    · have := Int.mul_nonpos_of_nonpos_of_nonneg q r; omega
    · have := Int.mul_le_mul (show -u ≤ 127 by omega) (show -v ≤ 127 by omega) (by omega) (by omega : (0 : Int) ≤ 127)
      rw [Int.neg_mul_neg] at this; omega
  have a1 := h1 x.toInt y.toInt hx.1 hx.2 hy.1 hy.2
  have a2 := h1 (-x.toInt) y.toInt (by omega) (by omega) hy.1 hy.2
  rw [Int.neg_mul] at a2
  rw [n_mul (by omega) (by omega)]
  omega
theorem s_near_b {hw a p : Nat} {ask : Nat → Int32} {K : Nat → Nat → Int32} (hh : a + hw ≤ 8) (h1 : ∀ i, i < a + hw → bd 127 (ask i)) (h2 : ∀ i, i < a + hw → bd 127 (K p i)) : bd 129032 (s_near hw a ask K p) := by
  have h := n_sm_b (f := fun i => ask (a + i) * K p (a + i)) (B := 16129) (by omega) hw (fun i hi => n_mul_b (h1 _ (by omega)) (h2 _ (by omega))) (by omega)
  unfold s_near
  have e := n_fl_int (a := n_sm (fun i => ask (a + i) * K p (a + i)) hw) (b := 16) (by decide)
  rw [show (16 : Int32).toInt = 16 by decide] at e
  unfold bd
  rw [e]
  omega
theorem s_max_le {f : Nat → Int32} : ∀ p j, j ≤ p → (f j).toInt ≤ (s_max f p).toInt := by
  intro p
  induction p with
  | zero => intro j hj; have : j = 0 := by omega
            subst this; exact Int.le_refl _
  | succ p ih =>
    intro j hj
    simp only [s_max]
    split
    · rename_i h
      rw [n_lt] at h
      by_cases hjp : j = p + 1
      · subst hjp; exact Int.le_refl _
      · have := ih j (by omega); omega
    · rename_i h
      rw [n_lt] at h
      by_cases hjp : j = p + 1
      · subst hjp; omega
      · exact ih j (by omega)
theorem s_max_in {f : Nat → Int32} : ∀ p, ∃ j, j ≤ p ∧ s_max f p = f j := by
  intro p
  induction p with
  | zero => exact ⟨0, Nat.le_refl _, rfl⟩
  | succ p ih =>
    obtain ⟨j, hj, e⟩ := ih
    simp only [s_max]
    split
    · exact ⟨p + 1, Nat.le_refl _, rfl⟩
    · exact ⟨j, by omega, e⟩
theorem n_dif {x y : Int32} (hx : bd 129032 x) (hy : bd 129032 y) (h : y.toInt ≤ x.toInt) : 0 ≤ (x - y).toInt ∧ (x - y).toInt ≤ 258064 := by
  unfold bd at *
  rw [n_sub (by omega) (by omega)]; omega
theorem n_fade_b {x : Int32} (hx : 0 ≤ x.toInt) : 0 ≤ (n_fade x).toInt ∧ (n_fade x).toInt ≤ 1024 := by
  unfold n_fade
  split
  · rw [n_0]; omega
  · rename_i hq
    obtain ⟨z, hz, ez⟩ := fade_q (x := x) (by rw [n_le, n_0]; exact hx) (n_nlt.mp hq)
    have hm : (x % 11).toInt = x.toInt % 11 := by rw [n_mod, n_11, Int.tmod_eq_emod_of_nonneg hx]
    obtain ⟨r, hr, er⟩ : ∃ r : Nat, r < 11 ∧ x % 11 = nI r := ⟨(x.toInt % 11).toNat, by omega, by rw [n_eq, hm, nI_toInt (by omega)]; omega⟩
    rw [ez, er]
    have key : ∀ r, r < 11 → ∀ z, z < 11 → 0 ≤ (n_fl (nI r * nI r - 58 * nI r + 1024) ((1 : Int32) <<< (nI z &&& 31))).toInt ∧ (n_fl (nI r * nI r - 58 * nI r + 1024) ((1 : Int32) <<< (nI z &&& 31))).toInt ≤ 1024 := by decide +kernel
    exact key r hr z (by omega)
theorem n_fade_0 : n_fade 0 = 1024 := by decide +kernel
theorem s_part_b {hw a p : Nat} {ask : Nat → Int32} {K : Nat → Nat → Int32} (hh : a + hw ≤ 8) (h1 : ∀ i, i < a + hw → bd 127 (ask i)) (h2 : ∀ j, j ≤ p → ∀ i, i < a + hw → bd 127 (K j i)) {j : Nat} (hj : j ≤ p) :
    0 ≤ (s_max (s_near hw a ask K) p - s_near hw a ask K j).toInt ∧ 0 ≤ (s_part hw a p ask K j).toInt ∧ (s_part hw a p ask K j).toInt ≤ 1024 := by
  obtain ⟨m, hm, em⟩ := s_max_in (f := s_near hw a ask K) p
  have b1 : bd 129032 (s_max (s_near hw a ask K) p) := by rw [em]; exact s_near_b hh h1 (h2 m hm)
  have h := n_dif b1 (s_near_b hh h1 (h2 j hj)) (s_max_le p j hj)
  exact ⟨h.1, n_fade_b h.1⟩
theorem n_sm_ge {f : Nat → Int32} {B : Int} (hB : 0 ≤ B) : ∀ n : Nat, (∀ i, i < n → 0 ≤ (f i).toInt ∧ (f i).toInt ≤ B) → n * B < 2147483648 → ∀ j, j < n → (f j).toInt ≤ (n_sm f n).toInt := by
  intro n
  induction n with
  | zero => intro _ _ j hj; omega
  | succ n ih =>
    intro h hn j hj
    have e : ((n + 1 : Nat) : Int) * B = n * B + B := by rw [Int.natCast_succ, Int.add_mul, Int.one_mul]
    rw [e] at hn
    have g := n_sm_nn hB n (fun i hi => h i (by omega)) (by omega)
    have g2 := h n (by omega)
    simp only [n_sm]
    rw [n_add (by omega) (by omega)]
    by_cases hjn : j = n
    · subst hjn; omega
    · have := ih (fun i hi => h i (by omega)) (by omega) j (by omega); omega
theorem s_all_pos {hw a p : Nat} {ask : Nat → Int32} {K : Nat → Nat → Int32} (hh : a + hw ≤ 8) (hp : p < 12) (h1 : ∀ i, i < a + hw → bd 127 (ask i)) (h2 : ∀ j, j ≤ p → ∀ i, i < a + hw → bd 127 (K j i)) : 0 < n_sm (s_part hw a p ask K) (p + 1) := by
  obtain ⟨m, hm, em⟩ := s_max_in (f := s_near hw a ask K) p
  have e : s_part hw a p ask K m = 1024 := by
    unfold s_part
    rw [em, show s_near hw a ask K m - s_near hw a ask K m = 0 by simp]
    exact n_fade_0
  have h := n_sm_ge (f := s_part hw a p ask K) (B := 1024) (by omega) (p + 1) (fun i hi => (s_part_b hh h1 h2 (by omega)).2) (by omega) m (by omega)
  rw [e, show (1024 : Int32).toInt = 1024 by decide] at h
  rw [n_lt, n_0]; omega
set_option maxHeartbeats 1000000 in
theorem c_weigh {M : qM} {l a hw p : Nat} (hM : M.1 3 11 = nI hw) (hpos : M.1 9 5 = nI p) (hl : l < 2) (hp : p < 12) (ha : a + hw ≤ 8) (h1 : ∀ i, i < a + hw → bd 127 (M.1 16 i)) (h2 : ∀ j, j ≤ p → ∀ i, i < a + hw → bd 127 (M.1 (21 + (l * 12 + j)) i)) :
    q_CV TS CL SHP 2 y_Ru_weigh [.ref 9, .int (nI l), .int (nI a)] M (fun M' => (∀ j, j ≤ p → M'.1 20 j = s_wt hw a p (M.1 16) (fun j => M.1 (21 + (l * 12 + j))) j) ∧ fr (fun x => x = 20) M M') := by
  refine q_CV.of f_Ru_weigh [.ref 9, .int (nI l), .int (nI a), .null, .null, .null] rfl rfl rfl (fun S h => ?_)
  generalize hnear : s_near hw a (M.1 16) (fun j => M.1 (21 + (l * 12 + j))) = near
  generalize hpart : s_part hw a p (M.1 16) (fun j => M.1 (21 + (l * 12 + j))) = part
  have epart : ∀ j, part j = n_fade (s_max near p - near j) := fun j => by rw [← hpart, ← hnear]; rfl
  have hpb : ∀ j, j ≤ p → 0 ≤ (s_max near p - near j).toInt ∧ 0 ≤ (part j).toInt ∧ (part j).toInt ≤ 1024 := fun j hj => by rw [← hpart, ← hnear]; exact s_part_b ha h1 h2 hj
  have hall : 0 < n_sm part (p + 1) := by rw [← hpart]; exact s_all_pos ha hp h1 h2
  have e16 : ∀ M1, fr (fun x => x = 20) M M1 → M1.1 3 11 = nI hw ∧ M1.1 9 5 = nI p ∧ s_near hw a (M1.1 16) (fun j => M1.1 (21 + (l * 12 + j))) = near ∧ True := fun M1 hf => by
    refine ⟨by rw [hf.1 3 (by omega)]; exact hM, by rw [hf.1 9 (by omega)]; exact hpos, ?_, trivial⟩
    have : (fun j => M1.1 (21 + (l * 12 + j))) = (fun j => M.1 (21 + (l * 12 + j))) := by
      funext j; exact hf.1 _ (by omega)
    rw [this, hf.1 16 (by omega)]; exact hnear
  -- third loop
  have loop3 : ∀ l3 m k M1, k + m = p + 1 → (∀ j, j < k → M1.1 20 j = n_fl (256 * part j) (n_sm part (p + 1))) → (∀ j, k ≤ j → j ≤ p → M1.1 20 j = part j) → fr (fun x => x = 20) M M1 → S 108 [.ref 9, .int (nI l), .int (nI a), .int l3, .int (n_sm part (p + 1)), .int (nI k)] [] M1 := by
    intro l3 m
    induction m with
    | zero =>
      intro k M1 hk hv hu hf
      refine p_Ru_weigh_108_1 h ⟨by rw [(e16 M1 hf).2.1]; exact nI_lt (by omega) (by omega), fun j hj => ?_, hf⟩
      rw [hv j (by omega), ← hpart]
      rfl
    | succ m ih =>
      intro k M1 hk hv hu hf
      refine p_Ru_weigh_108_0 h ⟨by rw [(e16 M1 hf).2.1]; exact nI_nlt (by omega) (by omega), ok_of (N := 12) rfl (by omega) (by decide), 1, _, by decide, c_floor M1 _ _ hall, fun v M2 hv2 => ⟨ok_of (N := 12) rfl (by omega) (by decide), ?_⟩⟩
      rw [hv2.1, hv2.2, nI_1, nI_clamp (by omega), hu k (by omega) (by omega)]
      refine ih (k + 1) _ (by omega) (fun j hj => ?_) (fun j h1 h2 => by rw [q_up_oth (by omega)]; exact hu j (by omega) h2) (hf.up rfl)
      by_cases hjk : j = k
      · subst hjk; rw [q_up_at]
      · rw [q_up_oth hjk]; exact hv j (by omega)
  have loop2 : ∀ m k M1, k + m = p + 1 → (∀ j, j < k → M1.1 20 j = part j) → (∀ j, k ≤ j → j ≤ p → M1.1 20 j = near j) → fr (fun x => x = 20) M M1 → S 59 [.ref 9, .int (nI l), .int (nI a), .int (s_max near p), .int (n_sm part k), .int (nI k)] [] M1 := by
    intro m
    induction m with
    | zero =>
      intro k M1 hk hv hu hf
      have : k = p + 1 := by omega
      subst this
      refine p_Ru_weigh_59_1 h ⟨by rw [(e16 M1 hf).2.1]; exact nI_lt (by omega) (by omega), ?_⟩
      exact loop3 _ (p + 1) 0 M1 (by omega) (fun j hj => absurd hj (by omega)) (fun j _ hj => hv j (by omega)) hf
    | succ m ih =>
      intro k M1 hk hv hu hf
      have hkk := hpb k (by omega)
      refine p_Ru_weigh_59_0 h ⟨by rw [(e16 M1 hf).2.1]; exact nI_nlt (by omega) (by omega), ok_of (N := 12) rfl (by omega) (by decide), 0, _, by decide, c_fade M1 (x := s_max near p - M1.1 20 (nI k).toNatClampNeg) (by rw [nI_clamp (by omega), hu k (by omega) (by omega), n_le, n_0]; exact hkk.1), fun v M2 hv2 => ⟨ok_of (N := 12) rfl (by omega) (by decide), ok_of (N := 12) rfl (by omega) (by decide), ?_⟩⟩
      rw [hv2.1, hv2.2, nI_1, nI_clamp (by omega), hu k (by omega) (by omega), q_up_at, ← epart k]
      refine ih (k + 1) _ (by omega) (fun j hj => ?_) (fun j h1 h2 => by rw [q_up_oth (by omega)]; exact hu j (by omega) h2) (hf.up rfl)
      by_cases hjk : j = k
      · subst hjk; rw [q_up_at]
      · rw [q_up_oth hjk]; exact hv j (by omega)
  have loop1 : ∀ m k M1 g, k + m = p + 1 → g = (if k = 0 then near 0 else s_max near (k - 1)) → (∀ j, j < k → M1.1 20 j = near j) → fr (fun x => x = 20) M M1 → S 11 [.ref 9, .int (nI l), .int (nI a), .int g, .int (nI k), .null] [] M1 := by
    intro m
    induction m with
    | zero =>
      intro k M1 g hk hg hv hf
      have : k = p + 1 := by omega
      subst this
      rw [if_neg (by omega), Nat.add_sub_cancel] at hg
      subst hg
      refine p_Ru_weigh_11_1 h ⟨by rw [(e16 M1 hf).2.1]; exact nI_lt (by omega) (by omega), ?_⟩
      exact loop2 (p + 1) 0 M1 (by omega) (fun j hj => absurd hj (by omega)) (fun j _ hj => hv j (by omega)) hf
    | succ m ih =>
      intro k M1 g hk hg hv hf
      have hc := c_score (M := M1) (l := l) (j := k) (a := a) (e16 M1 hf).1 hl (by omega) ha
      rw [(e16 M1 hf).2.2.1] at hc
      refine p_Ru_weigh_11_0 h ⟨by rw [(e16 M1 hf).2.1]; exact nI_nlt (by omega) (by omega), 1, _, by decide, hc, fun v M2 hv2 => ⟨ok_of (N := 12) rfl (by omega) (by decide), ok_of (N := 12) rfl (by omega) (by decide), ?_⟩⟩
      rw [hv2.1, hv2.2, nI_1, nI_clamp (by omega), q_up_at]
      refine ih (k + 1) _ _ (by omega) ?_ (fun j hj => ?_) (hf.up rfl)
      · rw [show (if k + 1 = 0 then near 0 else s_max near (k + 1 - 1)) = s_max near k from if_neg (Nat.succ_ne_zero k), hg]
        cases k with
        | zero => simp [s_max]
        | succ k => rw [show (if k + 1 = 0 then near 0 else s_max near (k + 1 - 1)) = s_max near k from if_neg (Nat.succ_ne_zero k)]; rfl
      · by_cases hjk : j = k
        · subst hjk; rw [q_up_at]
        · rw [q_up_oth hjk]; exact hv j (by omega)
  have hc := c_score (M := M) (l := l) (j := 0) (a := a) hM hl (by omega) ha
  rw [hnear] at hc
  refine p_Ru_weigh_0_0 h ⟨1, _, by decide, hc, fun v M1 h1 => ?_⟩
  rw [h1.1, h1.2]
  exact loop1 (p + 1) 0 M _ (by omega) rfl (fun j hj => absurd hj (by omega)) (fr.rf M)
