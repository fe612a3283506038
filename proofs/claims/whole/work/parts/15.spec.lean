/-! THE DOCUMENT'S NUMBERS: what both sides compute -/
def n_rtN : Nat → Nat
  | 0 => 0
  | n + 1 => if (n_rtN n + 1) * (n_rtN n + 1) ≤ n + 1 then n_rtN n + 1 else n_rtN n
theorem n_rtN_ok : ∀ n, n_rtN n * n_rtN n ≤ n ∧ n < (n_rtN n + 1) * (n_rtN n + 1) := by
  intro n
  induction n with
  | zero => simp [n_rtN]
  | succ n ih =>
    obtain ⟨h1, h2⟩ := ih
    simp only [n_rtN]
    split
    · rename_i h
      refine ⟨h, ?_⟩
      have : (n_rtN n + 1 + 1) * (n_rtN n + 1 + 1) = (n_rtN n + 1) * (n_rtN n + 1) + 2 * (n_rtN n + 1) + 1 := by
        generalize n_rtN n + 1 = z
        simp only [Nat.add_mul, Nat.mul_add]; omega
      omega
    · rename_i h
      exact ⟨by omega, by omega⟩
theorem n_sq_lt {a b : Nat} (h : a * a < b * b) : a < b := by
  rcases Nat.lt_or_ge a b with q | q
  · exact q
  · have := Nat.mul_le_mul q q; omega
theorem n_rtN_uniq {n r : Nat} (h1 : r * r ≤ n) (h2 : n < (r + 1) * (r + 1)) : n_rtN n = r := by
  obtain ⟨g1, g2⟩ := n_rtN_ok n
  have a := n_sq_lt (a := r) (b := n_rtN n + 1) (by omega)
  have b := n_sq_lt (a := n_rtN n) (b := r + 1) (by omega)
  omega
def n_rt (a : Int32) : Int32 := nI (n_rtN a.toNatClampNeg)
/-- FADE: d not below 0 -/
def n_fade (d : Int32) : Int32 := if 10 < d / 11 then 0 else n_fl (d % 11 * (d % 11) - 58 * (d % 11) + 1024) ((1 : Int32) <<< (d / 11 &&& 31))
def n_sl (a : Int32) : Int32 := if a + 48 < 0 then 0 else if 96 < a + 48 then 96 else a + 48
def n_bend (a : Int32) : Int32 := n_fl (a * n_sl a) 96
/-- NORM of x, w numbers, by the gains g -/
def s_mean (w : Nat) (x : Nat → Int32) : Int32 := n_fl (n_sm x w) (nI w)
def s_var (w : Nat) (x : Nat → Int32) : Int32 := n_fl (n_sm (fun i => (x i - s_mean w x) * (x i - s_mean w x)) w) (nI w)
def s_norm (w : Nat) (x g : Nat → Int32) (i : Nat) : Int32 := n_cl (n_fl (n_cl (n_fl (64 * (x i - s_mean w x)) (n_rt (s_var w x) + 1)) * g i) 64)
/-- a row of a matrix at 'at' with n columns, times v -/
def s_dot (b : Nat → Int32) (pos n : Nat) (v : Nat → Int32) : Int32 := n_sm (fun i => b (pos + i) * v i) n
def s_times (b : Nat → Int32) (pos n sh : Nat) (v : Nat → Int32) (r : Nat) : Int32 := n_cl (n_fl (s_dot b (pos + r * n) n v + ((1 : Int32) <<< (nI (sh - 1) &&& 31))) ((1 : Int32) <<< (nI sh &&& 31)))
/-- the greatest of f 0 .. f p -/
def s_max (f : Nat → Int32) : Nat → Int32
  | 0 => f 0
  | p + 1 => if s_max f p < f (p + 1) then f (p + 1) else s_max f p
/-- one head's numbers: hw of them from a on; K, V by positions -/
def s_near (hw a : Nat) (ask : Nat → Int32) (K : Nat → Nat → Int32) (j : Nat) : Int32 := n_fl (n_sm (fun i => ask (a + i) * K j (a + i)) hw) 16
def s_part (hw a p : Nat) (ask : Nat → Int32) (K : Nat → Nat → Int32) (j : Nat) : Int32 := n_fade (s_max (s_near hw a ask K) p - s_near hw a ask K j)
def s_wt (hw a p : Nat) (ask : Nat → Int32) (K : Nat → Nat → Int32) (j : Nat) : Int32 := n_fl (256 * s_part hw a p ask K j) (n_sm (s_part hw a p ask K) (p + 1))
def s_mix (hw p : Nat) (ask : Nat → Int32) (K V : Nat → Nat → Int32) (i : Nat) : Int32 := n_fl (n_sm (fun j => s_wt hw (i / hw * hw) p ask K j * V j i) (p + 1) + 128) 256
/-- the layer that stands at 'at': its keys, values; what it makes of the numbers x of position p -/
def s_key (b : Nat → Int32) (pos w sh : Nat) (x : Nat → Int32) (i : Nat) : Int32 := s_times b (pos + w + w * w) w sh (s_norm w x (fun i => b (pos + i))) i
def s_val (b : Nat → Int32) (pos w sh : Nat) (x : Nat → Int32) (i : Nat) : Int32 := s_times b (pos + w + 2 * (w * w)) w sh (s_norm w x (fun i => b (pos + i))) i
def s_ask (b : Nat → Int32) (pos w sh : Nat) (x : Nat → Int32) (i : Nat) : Int32 := s_times b (pos + w) w sh (s_norm w x (fun i => b (pos + i))) i
def s_att (b : Nat → Int32) (pos w sh hw p : Nat) (x : Nat → Int32) (K V : Nat → Nat → Int32) (i : Nat) : Int32 := x i + s_times b (pos + w + 3 * (w * w)) w sh (s_mix hw p (s_ask b pos w sh x) K V) i
def s_bent (b : Nat → Int32) (pos w sh : Nat) (x : Nat → Int32) (r : Nat) : Int32 := n_bend (s_times b (pos + 2 * w + 4 * (w * w)) w sh (s_norm w x (fun i => b (pos + w + 4 * (w * w) + i))) r)
def s_mlp (b : Nat → Int32) (pos w inner sh : Nat) (x : Nat → Int32) (i : Nat) : Int32 := x i + s_times b (pos + 2 * w + 4 * (w * w) + inner * w) inner sh (s_bent b pos w sh x) i
/-- the numbers of position p behind l layers; t: the tokens; 'mean', 'place', 'first': where the model's parts stand -/
def s_x (b : Nat → Int32) (w inner sh hw mean place first lb : Nat) (t : Nat → Nat) : Nat → Nat → Nat → Int32
  | 0, p, i => b (mean + t p * w + i) + b (place + p * w + i)
  | l + 1, p, i => s_mlp b (first + l * lb) w inner sh (s_att b (first + l * lb) w sh hw p (s_x b w inner sh hw mean place first lb t l p) (fun j => s_key b (first + l * lb) w sh (s_x b w inner sh hw mean place first lb t l j)) (fun j => s_val b (first + l * lb) w sh (s_x b w inner sh hw mean place first lb t l j))) i
