/-! WHAT LOAD FINDS: the first fault of an image -/
def s_good (f : Nat → Int32) : Nat → Bool
  | 0 => decide (f 0 = 77)
  | 1 => decide (f 1 = 1 ∨ f 1 = 2)
  | 2 => decide (f 2 = 1 ∨ f 2 = 2 ∨ f 2 = 4)
  | 3 => decide (f 3 = 4 ∨ f 3 = 8)
  | 4 => decide (¬ f 4 < 4 ∧ ¬ 16 < f 4)
  | 5 => decide (¬ f 5 < 2 ∧ ¬ 12 < f 5)
  | 6 => decide (¬ f 6 < 0 ∧ ¬ 8 < f 6)
  | 7 => decide (¬ f 7 < 0 ∧ ¬ 7 + f 6 < f 7)
  | k => decide (¬ f k < 1 ∧ ¬ 10 < f k)
def s_bad (f : Nat → Int32) : Nat → Nat → Option Nat
  | 0, _ => none
  | n + 1, k => match s_good f k with
    | true => s_bad f n (k + 1)
    | false => some k
def s_pairs (f : Nat → Int32) : Nat → Nat → Bool
  | 0, _ => true
  | n + 1, k => match decide (¬ f (9 + k) < 0 ∧ f (9 + k) < 8 + nI k / 2) with
    | true => s_pairs f n (k + 1)
    | false => false
def s_want (f : Nat → Int32) : Int32 := ((9 + 2 * f 6) + ((8 + f 6) + f 5) * f 3) + f 1 * ((2 * f 3 + (4 * f 3) * f 3) + (2 * f 3) * f 4) + f 3
def s_fault (f : Nat → Int32) (len : Int32) : Int32 := if 9 ≤ len then (match s_bad f 9 0 with
  | some k => -1 - nI k
  | none => if 9 + 2 * f 6 ≤ len then (match s_pairs f (2 * (f 6).toNatClampNeg) 0 with
    | true => if len = s_want f then 0 else -11
    | false => -10) else -11) else -11
theorem n_12 {v : Int32} : ¬ v < 1 → ¬ 2 < v → v = 1 ∨ v = 2 := by
  intro h1 h2
  rw [n_lt, n_1] at h1
  rw [n_lt, show (2 : Int32).toInt = 2 from rfl] at h2
  rw [n_eq, n_eq, n_1, show (2 : Int32).toInt = 2 from rfl]
  omega
theorem n_78 {v w : Int32} (hv : bd 128 v) : 8 + v ≤ w ↔ 7 + v < w := by
  unfold bd at hv
  rw [n_le, n_lt, n_add, n_add]
  · rw [show (8 : Int32).toInt = 8 from rfl, show (7 : Int32).toInt = 7 from rfl]; omega
  all_goals first | (rw [show (8 : Int32).toInt = 8 from rfl]; omega) | (rw [show (7 : Int32).toInt = 7 from rfl]; omega)
def n_tf (b : Bool) : Int32 := match b with
  | true => 1
  | false => 0
theorem n_tf_nar (b : Bool) : narrow .boolean (.int (n_tf b)) = .int (n_tf b) := by cases b <;> rfl
theorem tf1 {p : Prop} [Decidable p] (h : p) : (1 : Int32) = n_tf (decide p) := by rw [decide_eq_true h]; rfl
theorem tf0 {p : Prop} [Decidable p] (h : ¬ p) : (0 : Int32) = n_tf (decide p) := by rw [decide_eq_false h]; rfl
theorem c_beginningHolds {M : qM} {k : Nat} (hk : k < 9) (hb : bd 128 (M.1 2 6)) : q_CI TS CL SHP 0 y_Im_beginningHolds [.ref 1, .int (nI k)] M (fun v M' => v = n_tf (s_good (M.1 2) k) ∧ M' = M) := by
  refine q_CI.of f_Im_beginningHolds [.ref 1, .int (nI k), .null] rfl rfl (fun v M' hv => ⟨.boolean, rfl, by rw [hv.1]; exact n_tf_nar _⟩) (fun S h => ?_)
  have hok : q_ok SHP 1 2 (nI k) := ok_of (N := 1500) rfl (by omega) (by decide)
  have hok6 : q_ok SHP 1 2 (6 : Int32) := ok_of (N := 1500) (i := 6) rfl (by omega) (by decide)
  match k, hk with
  | 0, _ =>
    by_cases g : M.1 2 0 = 77
    · exact p_Im_beginningHolds_0_0 h ⟨hok, ⟨by decide, by decide⟩, g, tf1 g, rfl⟩
    · exact p_Im_beginningHolds_0_1 h ⟨hok, ⟨by decide, by decide⟩, g, tf0 g, rfl⟩
  | 1, _ =>
    by_cases g1 : M.1 2 1 < 1
    · exact p_Im_beginningHolds_0_4 h ⟨hok, ⟨by decide, by decide⟩, g1, tf0 (fun z => by rcases z with z | z <;> (rw [z] at g1; revert g1; decide)), rfl⟩
    · by_cases g2 : 2 < M.1 2 1
      · exact p_Im_beginningHolds_0_3 h ⟨hok, ⟨by decide, by decide⟩, g1, g2, tf0 (fun z => by rcases z with z | z <;> (rw [z] at g2; revert g2; decide)), rfl⟩
      · exact p_Im_beginningHolds_0_2 h ⟨hok, ⟨by decide, by decide⟩, g1, g2, tf1 (n_12 g1 g2), rfl⟩
  | 2, _ =>
    by_cases g1 : M.1 2 2 = 1
    · exact p_Im_beginningHolds_0_8 h ⟨hok, ⟨by decide, by decide⟩, g1, tf1 (Or.inl g1), rfl⟩
    · by_cases g2 : M.1 2 2 = 2
      · exact p_Im_beginningHolds_0_7 h ⟨hok, ⟨by decide, by decide⟩, g1, g2, tf1 (Or.inr (Or.inl g2)), rfl⟩
      · by_cases g3 : M.1 2 2 = 4
        · exact p_Im_beginningHolds_0_5 h ⟨hok, ⟨by decide, by decide⟩, g1, g2, g3, tf1 (Or.inr (Or.inr g3)), rfl⟩
        · exact p_Im_beginningHolds_0_6 h ⟨hok, ⟨by decide, by decide⟩, g1, g2, g3, tf0 (fun z => z.elim g1 (fun z => z.elim g2 g3)), rfl⟩
  | 3, _ =>
    by_cases g1 : M.1 2 3 = 4
    · exact p_Im_beginningHolds_0_11 h ⟨hok, ⟨by decide, by decide⟩, g1, tf1 (Or.inl g1), rfl⟩
    · by_cases g2 : M.1 2 3 = 8
      · exact p_Im_beginningHolds_0_9 h ⟨hok, ⟨by decide, by decide⟩, g1, g2, tf1 (Or.inr g2), rfl⟩
      · exact p_Im_beginningHolds_0_10 h ⟨hok, ⟨by decide, by decide⟩, g1, g2, tf0 (fun z => z.elim g1 g2), rfl⟩
  | 4, _ =>
    by_cases g1 : M.1 2 4 < 4
    · exact p_Im_beginningHolds_0_14 h ⟨hok, ⟨by decide, by decide⟩, g1, tf0 (fun z => z.1 g1), rfl⟩
    · by_cases g2 : 16 < M.1 2 4
      · exact p_Im_beginningHolds_0_13 h ⟨hok, ⟨by decide, by decide⟩, g1, g2, tf0 (fun z => z.2 g2), rfl⟩
      · exact p_Im_beginningHolds_0_12 h ⟨hok, ⟨by decide, by decide⟩, g1, g2, tf1 ⟨g1, g2⟩, rfl⟩
  | 5, _ =>
    by_cases g1 : M.1 2 5 < 2
    · exact p_Im_beginningHolds_0_17 h ⟨hok, ⟨by decide, by decide⟩, g1, tf0 (fun z => z.1 g1), rfl⟩
    · by_cases g2 : 12 < M.1 2 5
      · exact p_Im_beginningHolds_0_16 h ⟨hok, ⟨by decide, by decide⟩, g1, g2, tf0 (fun z => z.2 g2), rfl⟩
      · exact p_Im_beginningHolds_0_15 h ⟨hok, ⟨by decide, by decide⟩, g1, g2, tf1 ⟨g1, g2⟩, rfl⟩
  | 6, _ =>
    by_cases g1 : M.1 2 6 < 0
    · exact p_Im_beginningHolds_0_20 h ⟨hok, ⟨by decide, by decide⟩, g1, tf0 (fun z => z.1 g1), rfl⟩
    · by_cases g2 : 8 < M.1 2 6
      · exact p_Im_beginningHolds_0_19 h ⟨hok, ⟨by decide, by decide⟩, g1, g2, tf0 (fun z => z.2 g2), rfl⟩
      · exact p_Im_beginningHolds_0_18 h ⟨hok, ⟨by decide, by decide⟩, g1, g2, tf1 ⟨g1, g2⟩, rfl⟩
  | 7, _ =>
    by_cases g1 : M.1 2 7 < 0
    · exact p_Im_beginningHolds_0_23 h ⟨hok, ⟨by decide, by decide⟩, g1, tf0 (fun z => z.1 g1), rfl⟩
    · by_cases g2 : 8 + M.1 2 6 ≤ M.1 2 7
      · exact p_Im_beginningHolds_0_22 h ⟨hok, ⟨by decide, by decide⟩, g1, hok6, g2, tf0 (fun z => z.2 ((n_78 hb).mp g2)), rfl⟩
      · exact p_Im_beginningHolds_0_21 h ⟨hok, ⟨by decide, by decide⟩, g1, hok6, g2, tf1 ⟨g1, fun z => g2 ((n_78 hb).mpr z)⟩, rfl⟩
  | 8, _ =>
    by_cases g1 : M.1 2 8 < 1
    · exact p_Im_beginningHolds_0_26 h ⟨hok, Or.inr (by decide), g1, tf0 (fun z => z.1 g1), rfl⟩
    · by_cases g2 : 10 < M.1 2 8
      · exact p_Im_beginningHolds_0_25 h ⟨hok, Or.inr (by decide), g1, g2, tf0 (fun z => z.2 g2), rfl⟩
      · exact p_Im_beginningHolds_0_24 h ⟨hok, Or.inr (by decide), g1, g2, tf1 ⟨g1, g2⟩, rfl⟩
theorem r_isGood {M : qM} {k : Nat} (hk : k < 9) : q_CI TS CL SHP 0 y_Rf_isGood [.ref 69, .int (nI k)] M (fun v M' => v = n_tf (s_good (M.1 70) k) ∧ M' = M) := by
  refine q_CI.of f_Rf_isGood [.ref 69, .int (nI k), .null] rfl rfl (fun v M' hv => ⟨.boolean, rfl, by rw [hv.1]; exact n_tf_nar _⟩) (fun S h => ?_)
  have hok : q_ok SHP 0 70 (nI k) := ok_of (N := 1500) rfl (by omega) (by decide)
  have hok6 : q_ok SHP 0 70 (6 : Int32) := ok_of (N := 1500) (i := 6) rfl (by omega) (by decide)
  match k, hk with
  | 0, _ =>
    by_cases g : M.1 70 0 = 77
    · exact p_Rf_isGood_0_0 h ⟨hok, ⟨by decide, by decide⟩, g, tf1 g, rfl⟩
    · exact p_Rf_isGood_0_1 h ⟨hok, ⟨by decide, by decide⟩, g, tf0 g, rfl⟩
  | 1, _ =>
    by_cases g1 : M.1 70 1 = 1
    · exact p_Rf_isGood_0_4 h ⟨hok, ⟨by decide, by decide⟩, g1, tf1 (Or.inl g1), rfl⟩
    · by_cases g2 : M.1 70 1 = 2
      · exact p_Rf_isGood_0_2 h ⟨hok, ⟨by decide, by decide⟩, g1, g2, tf1 (Or.inr g2), rfl⟩
      · exact p_Rf_isGood_0_3 h ⟨hok, ⟨by decide, by decide⟩, g1, g2, tf0 (fun z => z.elim g1 g2), rfl⟩
  | 2, _ =>
    by_cases g1 : M.1 70 2 = 1
    · exact p_Rf_isGood_0_8 h ⟨hok, ⟨by decide, by decide⟩, g1, tf1 (Or.inl g1), rfl⟩
    · by_cases g2 : M.1 70 2 = 2
      · exact p_Rf_isGood_0_7 h ⟨hok, ⟨by decide, by decide⟩, g1, g2, tf1 (Or.inr (Or.inl g2)), rfl⟩
      · by_cases g3 : M.1 70 2 = 4
        · exact p_Rf_isGood_0_5 h ⟨hok, ⟨by decide, by decide⟩, g1, g2, g3, tf1 (Or.inr (Or.inr g3)), rfl⟩
        · exact p_Rf_isGood_0_6 h ⟨hok, ⟨by decide, by decide⟩, g1, g2, g3, tf0 (fun z => z.elim g1 (fun z => z.elim g2 g3)), rfl⟩
  | 3, _ =>
    by_cases g1 : M.1 70 3 = 4
    · exact p_Rf_isGood_0_11 h ⟨hok, ⟨by decide, by decide⟩, g1, tf1 (Or.inl g1), rfl⟩
    · by_cases g2 : M.1 70 3 = 8
      · exact p_Rf_isGood_0_9 h ⟨hok, ⟨by decide, by decide⟩, g1, g2, tf1 (Or.inr g2), rfl⟩
      · exact p_Rf_isGood_0_10 h ⟨hok, ⟨by decide, by decide⟩, g1, g2, tf0 (fun z => z.elim g1 g2), rfl⟩
  | 4, _ =>
    by_cases g1 : M.1 70 4 < 4
    · exact p_Rf_isGood_0_14 h ⟨hok, ⟨by decide, by decide⟩, g1, tf0 (fun z => z.1 g1), rfl⟩
    · by_cases g2 : 16 < M.1 70 4
      · exact p_Rf_isGood_0_13 h ⟨hok, ⟨by decide, by decide⟩, g1, g2, tf0 (fun z => z.2 g2), rfl⟩
      · exact p_Rf_isGood_0_12 h ⟨hok, ⟨by decide, by decide⟩, g1, g2, tf1 ⟨g1, g2⟩, rfl⟩
  | 5, _ =>
    by_cases g1 : M.1 70 5 < 2
    · exact p_Rf_isGood_0_17 h ⟨hok, ⟨by decide, by decide⟩, g1, tf0 (fun z => z.1 g1), rfl⟩
    · by_cases g2 : 12 < M.1 70 5
      · exact p_Rf_isGood_0_16 h ⟨hok, ⟨by decide, by decide⟩, g1, g2, tf0 (fun z => z.2 g2), rfl⟩
      · exact p_Rf_isGood_0_15 h ⟨hok, ⟨by decide, by decide⟩, g1, g2, tf1 ⟨g1, g2⟩, rfl⟩
  | 6, _ =>
    by_cases g1 : M.1 70 6 < 0
    · exact p_Rf_isGood_0_20 h ⟨hok, ⟨by decide, by decide⟩, g1, tf0 (fun z => z.1 g1), rfl⟩
    · by_cases g2 : 8 < M.1 70 6
      · exact p_Rf_isGood_0_19 h ⟨hok, ⟨by decide, by decide⟩, g1, g2, tf0 (fun z => z.2 g2), rfl⟩
      · exact p_Rf_isGood_0_18 h ⟨hok, ⟨by decide, by decide⟩, g1, g2, tf1 ⟨g1, g2⟩, rfl⟩
  | 7, _ =>
    by_cases g1 : M.1 70 7 < 0
    · exact p_Rf_isGood_0_23 h ⟨hok, ⟨by decide, by decide⟩, g1, tf0 (fun z => z.1 g1), rfl⟩
    · by_cases g2 : 7 + M.1 70 6 < M.1 70 7
      · exact p_Rf_isGood_0_22 h ⟨hok, ⟨by decide, by decide⟩, g1, hok6, g2, tf0 (fun z => z.2 g2), rfl⟩
      · exact p_Rf_isGood_0_21 h ⟨hok, ⟨by decide, by decide⟩, g1, hok6, g2, tf1 ⟨g1, g2⟩, rfl⟩
  | 8, _ =>
    by_cases g1 : M.1 70 8 < 1
    · exact p_Rf_isGood_0_26 h ⟨hok, Or.inr (by decide), g1, tf0 (fun z => z.1 g1), rfl⟩
    · by_cases g2 : 10 < M.1 70 8
      · exact p_Rf_isGood_0_25 h ⟨hok, Or.inr (by decide), g1, g2, tf0 (fun z => z.2 g2), rfl⟩
      · exact p_Rf_isGood_0_24 h ⟨hok, Or.inr (by decide), g1, g2, tf1 ⟨g1, g2⟩, rfl⟩
