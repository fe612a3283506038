/-! NUMBERS: the document's arithmetic on single ints, as the reference writes it, and what it is worth in Int -/
theorem n_bm {z : Int} (h1 : -2147483648 ≤ z) (h2 : z < 2147483648) : z.bmod (2 ^ 32) = z := Int.bmod_eq_of_le (by simpa using h1) (by simpa using h2)
theorem n_add {a b : Int32} (h1 : -2147483648 ≤ a.toInt + b.toInt) (h2 : a.toInt + b.toInt < 2147483648) : (a + b).toInt = a.toInt + b.toInt := by rw [Int32.toInt_add, n_bm h1 h2]
theorem n_sub {a b : Int32} (h1 : -2147483648 ≤ a.toInt - b.toInt) (h2 : a.toInt - b.toInt < 2147483648) : (a - b).toInt = a.toInt - b.toInt := by rw [Int32.toInt_sub, n_bm h1 h2]
theorem n_mul {a b : Int32} (h1 : -2147483648 ≤ a.toInt * b.toInt) (h2 : a.toInt * b.toInt < 2147483648) : (a * b).toInt = a.toInt * b.toInt := by rw [Int32.toInt_mul, n_bm h1 h2]
theorem n_lo (a : Int32) : -2147483648 ≤ a.toInt := by have := a.le_toInt; simpa using this
theorem n_hi (a : Int32) : a.toInt < 2147483648 := by have := a.toInt_lt; simpa using this
theorem n_lt {a b : Int32} : a < b ↔ a.toInt < b.toInt := Int32.lt_iff_toInt_lt
theorem n_le {a b : Int32} : a ≤ b ↔ a.toInt ≤ b.toInt := Int32.le_iff_toInt_le
theorem n_eq {a b : Int32} : a = b ↔ a.toInt = b.toInt := Int32.toInt_inj.symm
theorem n_0 : (0 : Int32).toInt = 0 := by decide
theorem n_1 : (1 : Int32).toInt = 1 := by decide
theorem n_neg1 : (-1 : Int32).toInt = -1 := by decide
theorem n_div {a b : Int32} (hb : 0 < b.toInt) : (a / b).toInt = a.toInt.tdiv b.toInt := Int32.toInt_div_of_ne_right a b (fun h => by rw [h, n_neg1] at hb; omega)
theorem n_mod (a b : Int32) : (a % b).toInt = a.toInt.tmod b.toInt := Int32.toInt_mod a b
/-- the reference's floor -/
def n_fl (a b : Int32) : Int32 := if a % b < 0 then a / b - 1 else a / b
/-- the JDK's floorDiv -/
def n_fd (x y : Int32) : Int32 := if x ^^^ y < 0 then (if x / y * y = x then x / y else x / y - 1) else x / y
theorem n_tdiv {a b : Int} (hb : 0 < b) : (a.tmod b < 0 → a.tdiv b = a / b + 1) ∧ (¬ a.tmod b < 0 → a.tdiv b = a / b) := by
  have h1 := Int.mul_tdiv_add_tmod a b
  have h2 := Int.mul_ediv_add_emod a b
  have h3 := Int.emod_nonneg a (show b ≠ 0 by omega)
  have h4 := Int.emod_lt_of_pos a hb
  by_cases ha : 0 ≤ a
  · have e := Int.tdiv_eq_ediv_of_nonneg (a := a) (b := b) ha
    have m := Int.tmod_nonneg (a := a) b ha
    exact ⟨fun h => by omega, fun _ => e⟩
  · have hn : a.tdiv b = -((-a) / b) := by
      rw [show a = -(-a) by omega, Int.neg_tdiv, Int.tdiv_eq_ediv_of_nonneg (by omega)]
      simp
    have g1 := Int.mul_ediv_add_emod (-a) b
    have g3 := Int.emod_nonneg (-a) (show b ≠ 0 by omega)
    have g4 := Int.emod_lt_of_pos (-a) hb
    have key : b * (a.tdiv b - a / b) = a % b - a.tmod b := by rw [Int.mul_sub]; omega
    have hm : a.tmod b = -((-a) % b) := by
      have : b * a.tdiv b = -(b * ((-a) / b)) := by rw [hn, Int.mul_neg]
      omega
    constructor
    · intro h
      have l1 : 0 < b * (a.tdiv b - a / b) := by omega
      have l2 : b * (a.tdiv b - a / b) < b * 2 := by omega
      have l3 : 0 < a.tdiv b - a / b := Int.lt_of_mul_lt_mul_left (a := b) (by rw [Int.mul_zero]; exact l1) (by omega)
      have l4 : a.tdiv b - a / b < 2 := Int.lt_of_mul_lt_mul_left l2 (by omega)
      omega
    · intro h
      have l1 : 0 ≤ b * (a.tdiv b - a / b) := by omega
      have l2 : b * (a.tdiv b - a / b) < b * 1 := by omega
      have l4 : a.tdiv b - a / b < 1 := Int.lt_of_mul_lt_mul_left l2 (by omega)
      have l5 : b * (-1) < b * (a.tdiv b - a / b) := by omega
      have l6 : -1 < a.tdiv b - a / b := Int.lt_of_mul_lt_mul_left l5 (by omega)
      omega
theorem n_ediv_lo {a b : Int} (hb : 0 < b) (ha : -2147483648 ≤ a) : -2147483648 ≤ a / b := by
  rw [Int.le_ediv_iff_mul_le hb]
  have : (-2147483648) * b ≤ -2147483648 * 1 := by omega
  omega
theorem n_ediv_hi {a b : Int} (hb : 0 < b) (ha : a < 2147483648) : a / b < 2147483648 := by
  by_cases h : 0 ≤ a
  · have := Int.ediv_le_self (a := a) b h
    omega
  · have := Int.ediv_neg_of_neg_of_pos (a := a) (b := b) (by omega) hb
    omega
theorem n_fl_int {a b : Int32} (hb : 0 < b.toInt) : (n_fl a b).toInt = a.toInt / b.toInt := by
  have h := n_tdiv (a := a.toInt) hb
  have hlo := n_ediv_lo hb (n_lo a)
  have hhi := n_ediv_hi hb (n_hi a)
  unfold n_fl
  by_cases hm : a % b < 0
  · rw [if_pos hm]
    rw [n_lt, n_mod, n_0] at hm
    have e := h.1 hm
    have hd := n_div (a := a) hb
    rw [n_sub (by rw [hd, n_1, e]; omega) (by rw [hd, n_1, e]; omega), hd, n_1, e]
    omega
  · rw [if_neg hm]
    rw [n_lt, n_mod, n_0] at hm
    rw [n_div hb, h.2 hm]
theorem n_xor_neg (x y : Int32) : x ^^^ y < 0 ↔ (x.toInt < 0 ↔ ¬ y.toInt < 0) := by
  have hs : ∀ z : Int32, z < 0 ↔ z.toBitVec.msb = true := fun z => by
    rw [n_lt, n_0]
    have := BitVec.msb_eq_toInt (x := z.toBitVec)
    rw [this, decide_eq_true_eq]
    rfl
  have hi : ∀ z : Int32, z.toInt < 0 ↔ z.toBitVec.msb = true := fun z => by rw [← hs z, n_lt, n_0]
  rw [hs, hi, hi, Int32.toBitVec_xor, BitVec.msb_xor]
  cases x.toBitVec.msb <;> cases y.toBitVec.msb <;> simp
theorem n_fd_fl {a b : Int32} (hb : 0 < b.toInt) : n_fd a b = n_fl a b := by
  have h := n_tdiv (a := a.toInt) hb
  have hlo := n_ediv_lo hb (n_lo a)
  have hhi := n_ediv_hi hb (n_hi a)
  have hd := n_div (a := a) hb
  have h1 := Int.mul_tdiv_add_tmod a.toInt b.toInt
  have hmul : (a / b * b).toInt = a.toInt - a.toInt.tmod b.toInt := by
    have e : (a / b).toInt * b.toInt = a.toInt - a.toInt.tmod b.toInt := by rw [hd, Int.mul_comm]; omega
    have t1 := n_lo a
    have t2 := n_hi a
    have b1 : -2147483648 ≤ a.toInt - a.toInt.tmod b.toInt ∧ a.toInt - a.toInt.tmod b.toInt < 2147483648 := by
      by_cases ha : 0 ≤ a.toInt
      · have m1 := Int.tmod_nonneg (a := a.toInt) b.toInt ha
        have m2 := Int.tmod_lt_of_pos a.toInt hb
        have m3 : 0 ≤ b.toInt * a.toInt.tdiv b.toInt := Int.mul_nonneg (by omega) (by rw [Int.tdiv_eq_ediv_of_nonneg ha]; exact Int.ediv_nonneg ha (by omega))
        omega
      · have m1 : a.toInt.tmod b.toInt ≤ 0 := by
          have := Int.tmod_nonneg (a := -a.toInt) b.toInt (by omega)
          rw [Int.neg_tmod] at this
          omega
        have m3 : b.toInt * a.toInt.tdiv b.toInt ≤ 0 := by
          have : a.toInt.tdiv b.toInt ≤ 0 := by
            rw [show a.toInt = -(-a.toInt) by omega, Int.neg_tdiv, Int.tdiv_eq_ediv_of_nonneg (by omega)]
            have := Int.ediv_nonneg (a := -a.toInt) (b := b.toInt) (by omega) (by omega)
            omega
          exact Int.mul_nonpos_of_nonneg_of_nonpos (by omega) this
        omega
    rw [n_mul (by rw [e]; exact b1.1) (by rw [e]; exact b1.2), e]
  unfold n_fd n_fl
  have hx := n_xor_neg a b
  by_cases hm : a % b < 0
  · rw [if_pos hm]
    rw [n_lt, n_mod, n_0] at hm
    have ha : a.toInt < 0 := by
      by_cases ha : 0 ≤ a.toInt
      · have := Int.tmod_nonneg (a := a.toInt) b.toInt ha; omega
      · omega
    rw [if_pos (hx.mpr ⟨fun _ => by omega, fun _ => ha⟩), if_neg]
    rw [n_eq, hmul]; omega
  · rw [if_neg hm]
    rw [n_lt, n_mod, n_0] at hm
    by_cases hx1 : a ^^^ b < 0
    · rw [if_pos hx1]
      have ha := (hx.mp hx1).mpr (by omega)
      have m1 : a.toInt.tmod b.toInt ≤ 0 := by
        have := Int.tmod_nonneg (a := -a.toInt) b.toInt (by omega)
        rw [Int.neg_tmod] at this
        omega
      rw [if_pos]
      rw [n_eq, hmul]; omega
    · rw [if_neg hx1]

def n_cl (a : Int32) : Int32 := if a < -127 then -127 else if 127 < a then 127 else a
theorem n_cl_b (a : Int32) : -127 ≤ (n_cl a).toInt ∧ (n_cl a).toInt ≤ 127 := by
  have e1 : (-127 : Int32).toInt = -127 := by decide
  have e2 : (127 : Int32).toInt = 127 := by decide
  unfold n_cl
  by_cases h : a < -127
  · rw [if_pos h, e1]; omega
  · rw [if_neg h]
    by_cases h2 : 127 < a
    · rw [if_pos h2, e2]; omega
    · rw [if_neg h2]
      rw [n_lt, e1] at h
      rw [n_lt, e2] at h2
      omega
theorem n_cl_mm (a : Int32) : (if (-127 : Int32) < (if a < 127 then a else 127) then (if a < 127 then a else 127) else -127) = n_cl a := by
  have e1 : (-127 : Int32).toInt = -127 := by decide
  have e2 : (127 : Int32).toInt = 127 := by decide
  unfold n_cl
  simp only [n_lt, e1, e2]
  split <;> split <;> split <;> first | rfl | (simp only [n_eq, e1, e2]; omega) | (split <;> first | rfl | (simp only [n_eq, e1, e2]; omega))
/-- shifts to the right are floors -/
theorem n_shr {x : Int32} {k : Nat} (hk : k < 32) : (x >>> (nI k &&& 31)).toInt = x.toInt / 2 ^ k := by
  have h : ∀ k, k < 32 → ((nI k &&& 31).toBitVec.smod 32).toNat = k := by decide +kernel
  show (x.toBitVec.sshiftRight' ((nI k &&& 31).toBitVec.smod 32)).toInt = _
  rw [BitVec.sshiftRight_eq', BitVec.toInt_sshiftRight, h k hk, Int.shiftRight_eq_div_pow]
  rfl
theorem n_shl1 : ∀ k, k < 31 → ((1 : Int32) <<< (nI k &&& 31)).toInt = 2 ^ k := by decide +kernel
theorem n_shr_fl {x : Int32} {k : Nat} (hk : k < 31) : x >>> (nI k &&& 31) = n_fl x ((1 : Int32) <<< (nI k &&& 31)) := by
  have h2 : (0 : Int) < 2 ^ k := Int.pow_pos (by decide)
  rw [n_eq, n_shr (by omega), n_fl_int (by rw [n_shl1 k hk]; exact h2), n_shl1 k hk]
/-- sums in order -/
def n_sm (f : Nat → Int32) : Nat → Int32
  | 0 => 0
  | n + 1 => n_sm f n + f n
theorem n_sm_congr {f g : Nat → Int32} : ∀ n, (∀ i, i < n → f i = g i) → n_sm f n = n_sm g n := by
  intro n
  induction n with
  | zero => intro _; rfl
  | succ n ih => intro h; simp only [n_sm]; rw [ih (fun i hi => h i (by omega)), h n (by omega)]
theorem n_sm_b {f : Nat → Int32} {B : Int} (hB : 0 ≤ B) : ∀ n : Nat, (∀ i, i < n → -B ≤ (f i).toInt ∧ (f i).toInt ≤ B) → n * B < 2147483648 → -(n * B) ≤ (n_sm f n).toInt ∧ (n_sm f n).toInt ≤ n * B := by
  intro n
  induction n with
  | zero => intro _ _; simp [n_sm]
  | succ n ih =>
    intro h hn
    have e : ((n + 1 : Nat) : Int) * B = n * B + B := by rw [Int.natCast_succ, Int.add_mul, Int.one_mul]
    rw [e] at hn ⊢
    have h1 := ih (fun i hi => h i (by omega)) (by omega)
    have h2 := h n (by omega)
    simp only [n_sm]
    rw [n_add (by omega) (by omega)]
    omega
