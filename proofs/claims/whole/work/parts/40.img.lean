/-! THE IMAGE: put, fill, size on both sides -/
theorem n_byte (y : Int32) : (y <<< ((24 : Int32) &&& 31)) >>> ((24 : Int32) &&& 31) = y.toInt8.toInt32 := by
  rw [n_eq]
  have h1 := n_shr (x := y <<< ((24 : Int32) &&& 31)) (k := 24) (by decide)
  have e0 : nI 24 = 24 := rfl
  rw [e0] at h1
  rw [h1]
  have h2 : (y <<< ((24 : Int32) &&& 31)).toInt = (y.toInt * 16777216).bmod 4294967296 := by
    have : (y <<< ((24 : Int32) &&& 31)) = y * 16777216 := by
      have e : ((24 : Int32) &&& 31) = 24 := by decide
      rw [e]
      apply Int32.toBitVec_inj.mp
      rw [Int32.toBitVec_shiftLeft, Int32.toBitVec_mul]
      have e2 : (24 : Int32).toBitVec.smod 32 = 24#32 := by decide
      rw [e2, BitVec.shiftLeft_eq', show (24#32).toNat = 24 from rfl, BitVec.shiftLeft_eq_mul_twoPow]
      congr 1
    rw [this, Int32.toInt_mul]
    rfl
  rw [h2, Int8.toInt_toInt32, Int32.toInt_toInt8]
  simp only [Int.bmod]
  have e1 : ((4294967296 : Nat) : Int) = 4294967296 := rfl
  have e2 : ((2 ^ 8 : Nat) : Int) = 256 := rfl
  rw [e1, e2]
  split <;> split <;> omega
theorem n_nar (y : Int32) : vp_nar .byte (y.toInt8.toInt32) = y.toInt8.toInt32 := by
  show y.toInt8.toInt32.toInt8.toInt32 = _
  rw [Int8.toInt8_toInt32]
def isB (x : Int32) : Prop := -128 ≤ x.toInt ∧ x.toInt ≤ 127
theorem isB_bd {x : Int32} (h : isB x) : bd 128 x := by unfold isB at h; unfold bd; omega
theorem n_byte_b (y : Int32) : isB (y.toInt8.toInt32) := by
  generalize y.toInt8 = z
  have h1 := z.le_toInt
  have h2 := z.toInt_lt
  unfold isB
  rw [Int8.toInt_toInt32]
  simp at h1 h2
  omega
theorem q_up_fn {M : qM} {a i : Nat} {v : Int32} : (q_up M a i v).1 a = fun j => if j = i then v else M.1 a j := by
  funext j; simp [q_up]
/-- n numbers g written from p on -/
def s_wr (f : Nat → Int32) (p : Nat) (g : Nat → Int32) : Nat → Nat → Int32
  | 0 => f
  | n + 1 => fun j => if j = p + n then g n else s_wr f p g n j
theorem s_wr_b {f g : Nat → Int32} {p : Nat} (hf : ∀ i, isB (f i)) (hg : ∀ i, isB (g i)) : ∀ n i, isB (s_wr f p g n i) := by
  intro n
  induction n with
  | zero => exact hf
  | succ n ih => intro i; simp only [s_wr]; split; exact hg n; exact ih i
/-- the bytes of a put, of a fill -/
def s_pb (row : Int64) (k : Nat) : Int32 := ((row >>> ((8 * nI k).toInt64 &&& 63)).toInt32).toInt8.toInt32
def s_fv (seed k : Int32) : Int32 := ((((((seed * 1000003) + (k * 7919)) ^^^ (((seed * 1000003) + (k * 7919)).toUInt32 >>> ((13 : Int32).toUInt32 &&& Int32.toUInt32 31)).toInt32) * 40503).toUInt32 >>> ((9 : Int32).toUInt32 &&& Int32.toUInt32 31)).toInt32 &&& 63) - 32
def s_fb (seed : Int32) (p k : Nat) : Int32 := (s_fv seed (nI (p + k))).toInt8.toInt32
abbrev s_pOk (a : Int32) : Prop := ¬ a < 0 ∧ a ≤ 1492
def s_put (a : Int32) (row : Int64) (f : Nat → Int32) : Nat → Int32 := if s_pOk a then s_wr f a.toNatClampNeg (s_pb row) 8 else f
abbrev s_fOk (a n : Int32) : Prop := ¬ a < 0 ∧ ¬ 1500 ≤ a ∧ ¬ n < 1 ∧ ¬ 1500 < n ∧ a + n ≤ 1500
def s_fill (a n seed : Int32) (f : Nat → Int32) : Nat → Int32 := if s_fOk a n then s_wr f a.toNatClampNeg (s_fb seed a.toNatClampNeg) n.toNatClampNeg else f
def n_bool (p : Prop) [Decidable p] : Int32 := if p then 1 else 0
theorem n_bool_nar (p : Prop) [Decidable p] : narrow .boolean (.int (n_bool p)) = .int (n_bool p) := by unfold n_bool; split <;> rfl
theorem s_put_b {a : Int32} {row : Int64} {f : Nat → Int32} (hf : ∀ i, isB (f i)) (i : Nat) : isB (s_put a row f i) := by
  unfold s_put; split
  · exact s_wr_b hf (fun k => n_byte_b _) _ i
  · exact hf i
theorem s_fill_b {a n seed : Int32} {f : Nat → Int32} (hf : ∀ i, isB (f i)) (i : Nat) : isB (s_fill a n seed f i) := by
  unfold s_fill; split
  · exact s_wr_b hf (fun k => n_byte_b _) _ i
  · exact hf i
theorem c_write {M : qM} {p : Nat} {row : Int64} (hp : p ≤ 1492) : q_CV TS CL SHP 0 y_Im_write [.ref 1, .int (nI p), .long row] M (fun M' => M'.1 2 = s_wr (M.1 2) p (s_pb row) 8 ∧ fr (fun x => x = 2) M M') := by
  refine q_CV.of f_Im_write [.ref 1, .int (nI p), .long row, .null, .null] rfl rfl rfl (fun S h => ?_)
  have loop : ∀ m k M1, k + m = 8 → M1.1 2 = s_wr (M.1 2) p (s_pb row) k → fr (fun x => x = 2) M M1 → S 3 [.ref 1, .int (nI p), .long row, .null, .int (nI k)] [] M1 := by
    intro m
    induction m with
    | zero =>
      intro k M1 hk hv hf
      have : k = 8 := by omega
      subst this
      exact p_Im_write_3_1 h ⟨by decide, hv, hf⟩
    | succ m ih =>
      intro k M1 hk hv hf
      refine p_Im_write_3_0 h ⟨nI_ge (show k < 8 by omega) (by decide), by rw [nI_add]; exact ok_of (N := 1500) rfl (by omega) (by decide), ?_⟩
      rw [nI_1, nI_add, nI_clamp (by omega), n_nar]
      refine ih (k + 1) _ (by omega) ?_ (hf.up rfl)
      rw [q_up_fn, hv]
      rfl
  exact p_Im_write_0_0 h (loop 8 0 M (by omega) rfl (fr.rf M))
theorem c_scatter {M : qM} {p n : Nat} {seed : Int32} (hp : p + n ≤ 1500) : q_CV TS CL SHP 0 y_Im_scatter [.ref 1, .int (nI p), .int (nI n), .int seed] M (fun M' => M'.1 2 = s_wr (M.1 2) p (s_fb seed p) n ∧ fr (fun x => x = 2) M M') := by
  refine q_CV.of f_Im_scatter [.ref 1, .int (nI p), .int (nI n), .int seed, .null, .null, .null] rfl rfl rfl (fun S h => ?_)
  have loop : ∀ m k M1, k + m = n → M1.1 2 = s_wr (M.1 2) p (s_fb seed p) k → fr (fun x => x = 2) M M1 → S 3 [.ref 1, .int (nI p), .int (nI n), .int seed, .int (nI (p + k)), .null, .null] [] M1 := by
    intro m
    induction m with
    | zero =>
      intro k M1 hk hv hf
      have : k = n := by omega
      subst this
      exact p_Im_scatter_3_1 h ⟨by rw [nI_add]; exact nI_le (Nat.le_refl _) (by omega), hv, hf⟩
    | succ m ih =>
      intro k M1 hk hv hf
      refine p_Im_scatter_3_0 h ⟨by rw [nI_add]; exact nI_ge (by omega) (by omega), ok_of (N := 1500) rfl (by omega) (by decide), ?_⟩
      rw [nI_1, nI_clamp (by omega), n_nar]
      refine ih (k + 1) _ (by omega) ?_ (hf.up rfl)
      rw [q_up_fn, hv]
      rfl
  exact p_Im_scatter_0_0 h (loop n 0 M (by omega) rfl (fr.rf M))
theorem pOk_n {a : Int32} (h : s_pOk a) : ∃ n : Nat, n ≤ 1492 ∧ a = nI n := nI_of2 (M := 1492) rfl h.1 h.2
theorem fOk_n {a b : Int32} (h : s_fOk a b) : ∃ p n : Nat, p + n ≤ 1500 ∧ a = nI p ∧ b = nI n := by
  obtain ⟨h1, h2, h3, h4, h5⟩ := h
  obtain ⟨p, e1, e2⟩ := nI_of2 (M := 1500) (n := 1500) rfl h1 (by rw [n_le] at *; omega)
  obtain ⟨n, e3, e4⟩ := nI_of2 (M := 1500) (n := 1500) (x := b) rfl (fun z => h3 (by rw [n_lt] at *; rw [n_0] at z; rw [n_1]; omega)) (by rw [n_lt] at h4; rw [n_le]; omega)
  refine ⟨p, n, ?_, e2, e4⟩
  rw [e2, e4, nI_add, show (1500 : Int32) = nI 1500 from rfl, nI_leI (by omega) (by omega)] at h5
  exact h5
theorem c_put (M : qM) (a : Int32) (row : Int64) : q_CI TS CL SHP 1 y_CS_put [.ref 0, .int a, .long row] M (fun v M' => v = n_bool (s_pOk a) ∧ M'.1 2 = s_put a row (M.1 2) ∧ fr (fun x => x = 2) M M') := by
  refine q_CI.of f_CS_put [.ref 0, .int a, .long row, .null] rfl rfl (fun v M' hv => ⟨.boolean, rfl, by rw [hv.1]; exact n_bool_nar _⟩) (fun S h => ?_)
  by_cases h1 : a < 0
  · have : ¬ s_pOk a := fun z => z.1 h1
    exact p_CS_put_0_2 h ⟨h1, by rw [n_bool, if_neg this], by rw [s_put, if_neg this], fr.rf M⟩
  by_cases h2 : a ≤ 1492
  · obtain ⟨n, hn, rfl⟩ := pOk_n ⟨h1, h2⟩
    refine p_CS_put_0_1 h ⟨h1, h2, 0, _, by decide, c_write hn, fun M1 hM => ?_⟩
    exact ⟨by rw [n_bool, if_pos ⟨h1, h2⟩], by rw [s_put, if_pos ⟨h1, h2⟩, nI_clamp (by omega)]; exact hM.1, hM.2⟩
  · have : ¬ s_pOk a := fun z => h2 z.2
    exact p_CS_put_0_0 h ⟨h1, h2, by rw [n_bool, if_neg this], by rw [s_put, if_neg this], fr.rf M⟩
theorem r_place {M : qM} {p : Nat} {v : Int32} (hp : p < 1500) : q_CV TS CL SHP 0 y_Rf_place [.ref 69, .int (nI p), .int v] M (fun M' => M' = q_up M 70 p (v.toInt8.toInt32)) := by
  refine q_CV.of f_Rf_place [.ref 69, .int (nI p), .int v] rfl rfl rfl (fun S h => ?_)
  refine p_Rf_place_0_0 h ⟨ok_of (N := 1500) rfl hp (by decide), ?_⟩
  rw [n_byte, nI_clamp (by omega)]
theorem r_put (M : qM) (a : Int32) (row : Int64) : q_CI TS CL SHP 1 y_Rf_put [.ref 69, .int a, .long row] M (fun v M' => v = n_bool (s_pOk a) ∧ M'.1 70 = s_put a row (M.1 70) ∧ fr (fun x => x = 70) (q_up M 69 33 0) M') := by
  refine q_CI.of f_Rf_put [.ref 69, .int a, .long row, .null, .null] rfl rfl (fun v M' hv => ⟨.boolean, rfl, by rw [hv.1]; exact n_bool_nar _⟩) (fun S h => ?_)
  by_cases h1 : a < 0
  · have : ¬ s_pOk a := fun z => z.1 h1
    exact p_Rf_put_0_2 h ⟨h1, by rw [n_bool, if_neg this], by rw [s_put, if_neg this, q_up_ne 70 (by decide)], fr.rf _⟩
  by_cases h2 : a ≤ 1492
  · obtain ⟨p, hp, rfl⟩ := pOk_n ⟨h1, h2⟩
    have loop : ∀ m k M1, k + m = 8 → M1.1 70 = s_wr (M.1 70) p (s_pb row) k → fr (fun x => x = 70) (q_up M 69 33 0) M1 → S 21 [.ref 69, .int (nI p), .long row, .null, .int (nI k)] [] M1 := by
      intro m
      induction m with
      | zero =>
        intro k M1 hk hv hf
        have : k = 8 := by omega
        subst this
        exact p_Rf_put_21_1 h ⟨by decide, by rw [n_bool, if_pos ⟨h1, h2⟩], by rw [s_put, if_pos ⟨h1, h2⟩, nI_clamp (by omega)]; exact hv, hf⟩
      | succ m ih =>
        intro k M1 hk hv hf
        have t := r_place (M := M1) (p := p + k) (v := (row >>> ((8 * nI k).toInt64 &&& 63)).toInt32) (by omega)
        rw [← nI_add] at t
        refine p_Rf_put_21_0 h ⟨nI_ge (show k < 8 by omega) (by decide), 0, _, by decide, t, fun M2 e => ?_⟩
        subst e
        rw [nI_1]
        refine ih (k + 1) _ (by omega) ?_ (hf.up rfl)
        rw [q_up_fn, hv]
        rfl
    exact p_Rf_put_0_1 h ⟨h1, h2, loop 8 0 _ (by omega) (by rw [q_up_ne 70 (by decide)]; rfl) (fr.rf _)⟩
  · have : ¬ s_pOk a := fun z => h2 z.2
    exact p_Rf_put_0_0 h ⟨h1, h2, by rw [n_bool, if_neg this], by rw [s_put, if_neg this, q_up_ne 70 (by decide)], fr.rf _⟩
theorem c_fill (M : qM) (a n seed : Int32) : q_CI TS CL SHP 1 y_CS_fill [.ref 0, .int a, .int n, .int seed] M (fun v M' => v = n_bool (s_fOk a n) ∧ M'.1 2 = s_fill a n seed (M.1 2) ∧ fr (fun x => x = 2) M M') := by
  refine q_CI.of f_CS_fill [.ref 0, .int a, .int n, .int seed] rfl rfl (fun v M' hv => ⟨.boolean, rfl, by rw [hv.1]; exact n_bool_nar _⟩) (fun S h => ?_)
  have no : ¬ s_fOk a n → (fun v M' => v = n_bool (s_fOk a n) ∧ M'.1 2 = s_fill a n seed (M.1 2) ∧ fr (fun x => x = 2) M M') (0 : Int32) M := fun z => ⟨by rw [n_bool, if_neg z], by rw [s_fill, if_neg z], fr.rf M⟩
  by_cases h1 : a < 0
  · exact p_CS_fill_0_5 h ⟨h1, no (fun z => z.1 h1)⟩
  by_cases h2 : 1500 ≤ a
  · exact p_CS_fill_0_4 h ⟨h1, h2, no (fun z => z.2.1 h2)⟩
  by_cases h3 : n < 1
  · exact p_CS_fill_0_3 h ⟨h1, h2, h3, no (fun z => z.2.2.1 h3)⟩
  by_cases h4 : 1500 < n
  · exact p_CS_fill_0_2 h ⟨h1, h2, h3, h4, no (fun z => z.2.2.2.1 h4)⟩
  by_cases h5 : a + n ≤ 1500
  · have hok : s_fOk a n := ⟨h1, h2, h3, h4, h5⟩
    obtain ⟨p, n, hp, rfl, rfl⟩ := fOk_n hok
    refine p_CS_fill_0_1 h ⟨h1, h2, h3, h4, h5, 0, _, by decide, c_scatter hp, fun M1 hM => ?_⟩
    exact ⟨by rw [n_bool, if_pos hok], by rw [s_fill, if_pos hok, nI_clamp (by omega), nI_clamp (by omega)]; exact hM.1, hM.2⟩
  · exact p_CS_fill_0_0 h ⟨h1, h2, h3, h4, h5, no (fun z => h5 z.2.2.2.2)⟩
theorem r_fill (M : qM) (a n seed : Int32) : q_CI TS CL SHP 1 y_Rf_fill [.ref 69, .int a, .int n, .int seed] M (fun v M' => v = n_bool (s_fOk a n) ∧ M'.1 70 = s_fill a n seed (M.1 70) ∧ fr (fun x => x = 70) (q_up M 69 33 0) M') := by
  refine q_CI.of f_Rf_fill [.ref 69, .int a, .int n, .int seed, .null, .null, .null] rfl rfl (fun v M' hv => ⟨.boolean, rfl, by rw [hv.1]; exact n_bool_nar _⟩) (fun S h => ?_)
  have no : ¬ s_fOk a n → (fun v M' => v = n_bool (s_fOk a n) ∧ M'.1 70 = s_fill a n seed (M.1 70) ∧ fr (fun x => x = 70) (q_up M 69 33 0) M') (0 : Int32) (q_up M 69 33 0) := fun z => ⟨by rw [n_bool, if_neg z], by rw [s_fill, if_neg z, q_up_ne 70 (by decide)], fr.rf _⟩
  by_cases h1 : a < 0
  · exact p_Rf_fill_0_5 h ⟨h1, no (fun z => z.1 h1)⟩
  by_cases h2 : 1500 ≤ a
  · exact p_Rf_fill_0_4 h ⟨h1, h2, no (fun z => z.2.1 h2)⟩
  by_cases h3 : n < 1
  · exact p_Rf_fill_0_3 h ⟨h1, h2, h3, no (fun z => z.2.2.1 h3)⟩
  by_cases h4 : 1500 < n
  · exact p_Rf_fill_0_2 h ⟨h1, h2, h3, h4, no (fun z => z.2.2.2.1 h4)⟩
  by_cases h5 : a + n ≤ 1500
  · have hok : s_fOk a n := ⟨h1, h2, h3, h4, h5⟩
    obtain ⟨p, n, hp, rfl, rfl⟩ := fOk_n hok
    have loop : ∀ m k M1, k + m = n → M1.1 70 = s_wr (M.1 70) p (s_fb seed p) k → fr (fun x => x = 70) (q_up M 69 33 0) M1 → S 42 [.ref 69, .int (nI p), .int (nI n), .int seed, .int (nI (p + k)), .null, .null] [] M1 := by
      intro m
      induction m with
      | zero =>
        intro k M1 hk hv hf
        have : k = n := by omega
        subst this
        exact p_Rf_fill_42_1 h ⟨by rw [nI_add]; exact nI_le (Nat.le_refl _) (by omega), by rw [n_bool, if_pos hok], by rw [s_fill, if_pos hok, nI_clamp (by omega), nI_clamp (by omega)]; exact hv, hf⟩
      | succ m ih =>
        intro k M1 hk hv hf
        refine p_Rf_fill_42_0 h ⟨by rw [nI_add]; exact nI_ge (by omega) (by omega), 0, _, by decide, r_place (M := M1) (p := p + k) (v := s_fv seed (nI (p + k))) (by omega), fun M2 e => ?_⟩
        subst e
        rw [nI_1]
        refine ih (k + 1) _ (by omega) ?_ (hf.up rfl)
        rw [q_up_fn, hv]
        rfl
    exact p_Rf_fill_0_1 h ⟨h1, h2, h3, h4, h5, loop n 0 _ (by omega) (by rw [q_up_ne 70 (by decide)]; rfl) (fr.rf _)⟩
  · exact p_Rf_fill_0_0 h ⟨h1, h2, h3, h4, h5, no (fun z => h5 z.2.2.2.2)⟩
abbrev s_sOk (n : Int32) : Prop := ¬ n < 0 ∧ n ≤ 1500
theorem c_size (M : qM) (n : Int32) : q_CI TS CL SHP 1 y_CS_size [.ref 0, .int n] M (fun v M' => v = n_bool (s_sOk n) ∧ M' = if s_sOk n then q_up M 1 1 n else M) := by
  refine q_CI.of f_CS_size [.ref 0, .int n] rfl rfl (fun v M' hv => ⟨.boolean, rfl, by rw [hv.1]; exact n_bool_nar _⟩) (fun S h => ?_)
  by_cases h1 : n < 0
  · have z : ¬ s_sOk n := fun z => z.1 h1
    exact p_CS_size_0_2 h ⟨h1, by rw [n_bool, if_neg z], by rw [if_neg z]⟩
  by_cases h2 : n ≤ 1500
  · exact p_CS_size_0_1 h ⟨h1, h2, by rw [n_bool, if_pos ⟨h1, h2⟩], by rw [if_pos ⟨h1, h2⟩]⟩
  · have z : ¬ s_sOk n := fun z => h2 z.2
    exact p_CS_size_0_0 h ⟨h1, h2, by rw [n_bool, if_neg z], by rw [if_neg z]⟩
theorem r_size (M : qM) (n : Int32) : q_CI TS CL SHP 1 y_Rf_size [.ref 69, .int n] M (fun v M' => v = n_bool (s_sOk n) ∧ M' = if s_sOk n then q_up (q_up M 69 33 0) 69 1 n else q_up M 69 33 0) := by
  refine q_CI.of f_Rf_size [.ref 69, .int n] rfl rfl (fun v M' hv => ⟨.boolean, rfl, by rw [hv.1]; exact n_bool_nar _⟩) (fun S h => ?_)
  by_cases h1 : n < 0
  · have z : ¬ s_sOk n := fun z => z.1 h1
    exact p_Rf_size_0_2 h ⟨h1, by rw [n_bool, if_neg z], by rw [if_neg z]⟩
  by_cases h2 : n ≤ 1500
  · exact p_Rf_size_0_1 h ⟨h1, h2, by rw [n_bool, if_pos ⟨h1, h2⟩], by rw [if_pos ⟨h1, h2⟩]⟩
  · have z : ¬ s_sOk n := fun z => h2 z.2
    exact p_Rf_size_0_0 h ⟨h1, h2, by rw [n_bool, if_neg z], by rw [if_neg z]⟩
