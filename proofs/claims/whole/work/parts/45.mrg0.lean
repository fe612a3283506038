/-! MERGING, on lists: one pass for a pair; all passes in order are what merging the least pair again and again finds -/
def m_pass (l r t : Nat) : List Nat → List Nat
  | [] => []
  | [a] => [a]
  | a :: b :: xs => if a = l ∧ b = r then t :: m_pass l r t xs else a :: m_pass l r t (b :: xs)
def m_adj (l r : Nat) : List Nat → Bool
  | [] => false
  | [_] => false
  | a :: b :: xs => if a = l ∧ b = r then true else m_adj l r (b :: xs)
theorem m_pass_no {l r t : Nat} : ∀ xs, m_adj l r xs = false → m_pass l r t xs = xs
  | [], _ => rfl
  | [_], _ => rfl
  | a :: b :: xs, h => by
    rw [m_adj] at h
    split at h
    · cases h
    · rename_i e
      rw [m_pass, if_neg e, m_pass_no (b :: xs) h]
theorem m_pass_len {l r t : Nat} : ∀ xs, (m_pass l r t xs).length ≤ xs.length
  | [] => Nat.le_refl _
  | [_] => Nat.le_refl _
  | a :: b :: xs => by
    rw [m_pass]
    have h1 := m_pass_len (l := l) (r := r) (t := t) xs
    have h2 := m_pass_len (l := l) (r := r) (t := t) (b :: xs)
    split
    · simp only [List.length_cons]; omega
    · simp only [List.length_cons] at *; omega
theorem m_pass_pos {l r t : Nat} : ∀ xs, 0 < xs.length → 0 < (m_pass l r t xs).length
  | [], h => h
  | [_], h => h
  | a :: b :: xs, _ => by
    rw [m_pass]; split <;> simp
theorem m_pass_bd {l r t B : Nat} (ht : t < B) : ∀ xs, (∀ x ∈ xs, x < B) → ∀ x ∈ m_pass l r t xs, x < B
  | [], h => h
  | [_], h => h
  | a :: b :: xs, h => by
    rw [m_pass]
    intro x hx
    split at hx
    · rcases List.mem_cons.mp hx with rfl | hx
      · exact ht
      · exact m_pass_bd ht xs (fun y hy => h y (by simp [hy])) x hx
    · rcases List.mem_cons.mp hx with rfl | hx
      · exact h _ (by simp)
      · exact m_pass_bd ht (b :: xs) (fun y hy => h y (List.mem_cons_of_mem _ hy)) x hx
/-- what stands beside each other behind a pass, other than the new token, stood so before, and isn't the pair -/
theorem m_pass_hd {l r t b : Nat} : ∀ (xs ys : List Nat) (c : Nat), m_pass l r t (b :: xs) = c :: ys → c = t ∨ c = b
  | [], ys, c, h => by rw [m_pass] at h; cases h; exact Or.inr rfl
  | d :: xs, ys, c, h => by
    rw [m_pass] at h
    split at h
    · cases h; exact Or.inl rfl
    · cases h; exact Or.inr rfl
theorem m_adj_pass {l r t a b : Nat} (ha : a ≠ t) (hb : b ≠ t) : ∀ xs, m_adj a b (m_pass l r t xs) = true → m_adj a b xs = true ∧ ¬ (a = l ∧ b = r)
  | [], h => by rw [m_pass, m_adj] at h; cases h
  | [x], h => by rw [m_pass, m_adj] at h; cases h
  | x :: y :: xs, h => by
    rw [m_pass] at h
    split at h
    · rename_i e
      cases hp : m_pass l r t xs with
      | nil => rw [hp, m_adj] at h; cases h
      | cons c cs =>
        rw [hp, m_adj, if_neg (fun z => ha z.1.symm), ← hp] at h
        obtain ⟨h1, h2⟩ := m_adj_pass ha hb xs h
        refine ⟨?_, h2⟩
        rw [m_adj]
        split
        · rfl
        · cases xs with
          | nil => rw [m_adj] at h1; cases h1
          | cons z zs =>
            rw [m_adj]
            split
            · rfl
            · exact h1
    · rename_i e
      cases hp : m_pass l r t (y :: xs) with
      | nil => rw [hp, m_adj] at h; cases h
      | cons c cs =>
        rw [hp, m_adj] at h
        split at h
        · rename_i e2
          rcases m_pass_hd xs cs c hp with z | z
          · exact absurd (e2.2 ▸ z) hb
          · rw [z] at e2
            refine ⟨by rw [m_adj, if_pos e2], fun q => e ?_⟩
            rw [e2.1, e2.2]; exact q
        · rw [← hp] at h
          obtain ⟨h1, h2⟩ := m_adj_pass ha hb (y :: xs) h
          refine ⟨?_, h2⟩
          rw [m_adj]
          split
          · rfl
          · exact h1
/-- pairs j, j + 1, .. n of them -/
def m_from (L R : Nat → Nat) : Nat → Nat → List Nat → List Nat
  | 0, _, xs => xs
  | n + 1, j, xs => m_from L R n (j + 1) (m_pass (L j) (R j) (8 + j) xs)
def m_least (L R : Nat → Nat) : Nat → Nat → List Nat → Option Nat
  | 0, _, _ => none
  | n + 1, j, xs => match m_adj (L j) (R j) xs with
    | true => some j
    | false => m_least L R n (j + 1) xs
theorem m_least_none {L R : Nat → Nat} {xs : List Nat} : ∀ n j, m_least L R n j xs = none → ∀ i, j ≤ i → i < j + n → m_adj (L i) (R i) xs = false := by
  intro n
  induction n with
  | zero => intro j _ i h1 h2; omega
  | succ n ih =>
    intro j h i h1 h2
    rw [m_least] at h
    split at h
    · cases h
    · rename_i e
      by_cases hij : i = j
      · subst hij; exact e
      · exact ih (j + 1) h i (by omega) (by omega)
theorem m_least_some {L R : Nat → Nat} {xs : List Nat} : ∀ n j k, m_least L R n j xs = some k → j ≤ k ∧ k < j + n ∧ m_adj (L k) (R k) xs = true ∧ ∀ i, j ≤ i → i < k → m_adj (L i) (R i) xs = false := by
  intro n
  induction n with
  | zero => intro j k h; cases h
  | succ n ih =>
    intro j k h
    rw [m_least] at h
    split at h
    · rename_i e
      cases h
      exact ⟨Nat.le_refl _, by omega, e, fun i h1 h2 => by omega⟩
    · rename_i e
      obtain ⟨h1, h2, h3, h4⟩ := ih (j + 1) k h
      refine ⟨by omega, by omega, h3, fun i g1 g2 => ?_⟩
      by_cases hij : i = j
      · subst hij; exact e
      · exact h4 i (by omega) g2
theorem m_from_skip {L R : Nat → Nat} {xs : List Nat} : ∀ n j, (∀ i, j ≤ i → i < j + n → m_adj (L i) (R i) xs = false) → ∀ n', m_from L R (n + n') j xs = m_from L R n' (j + n) xs := by
  intro n
  induction n with
  | zero => intro j _ n'; rw [Nat.zero_add, Nat.add_zero]
  | succ n ih =>
    intro j h n'
    rw [show n + 1 + n' = (n + n') + 1 by omega, m_from, m_pass_no xs (h j (by omega) (by omega)), ih (j + 1) (fun i h1 h2 => h i (by omega) (by omega)) n', show j + 1 + n = j + (n + 1) by omega]
/-- one round of the reference's way: the least pair is merged, the rest is as before -/
theorem m_round {L R : Nat → Nat} {m j k n : Nat} {xs : List Nat} (hlt : ∀ i, i < m → L i < 8 + i ∧ R i < 8 + i) (hj : j + n = m) (hno : ∀ i, i < j → m_adj (L i) (R i) xs = false) (hk : m_least L R m 0 xs = some k) :
    j ≤ k ∧ k < m ∧ m_from L R n j xs = m_from L R (m - (k + 1)) (k + 1) (m_pass (L k) (R k) (8 + k) xs) ∧ ∀ i, i < k + 1 → m_adj (L i) (R i) (m_pass (L k) (R k) (8 + k) xs) = false := by
  obtain ⟨-, h2, h3, h4⟩ := m_least_some m 0 k hk
  have hjk : j ≤ k := by
    by_cases z : j ≤ k
    · exact z
    · rw [hno k (by omega)] at h3; cases h3
  refine ⟨hjk, by omega, ?_, fun i hi => ?_⟩
  · have := m_from_skip (L := L) (R := R) (xs := xs) (k - j) j (fun i g1 g2 => h4 i (by omega) (by omega)) (n - (k - j))
    rw [show k - j + (n - (k - j)) = n by omega, show j + (k - j) = k by omega] at this
    rw [this, show n - (k - j) = (m - (k + 1)) + 1 by omega, m_from]
  · cases hz : m_adj (L i) (R i) (m_pass (L k) (R k) (8 + k) xs) with
    | false => rfl
    | true =>
      obtain ⟨b1, b2⟩ := hlt i (by omega)
      obtain ⟨g1, g2⟩ := m_adj_pass (by omega) (by omega) xs hz
      by_cases hik : i = k
      · subst hik; exact absurd ⟨rfl, rfl⟩ g2
      · rw [h4 i (by omega) (by omega)] at g1; cases g1
theorem m_from_bd {L R : Nat → Nat} : ∀ n j xs, (∀ x ∈ xs, x < 8 + j) → ∀ x ∈ m_from L R n j xs, x < 8 + (j + n) := by
  intro n
  induction n with
  | zero => intro j xs h x hx; exact h x hx
  | succ n ih =>
    intro j xs h x hx
    rw [m_from] at hx
    have := ih (j + 1) _ (m_pass_bd (by omega) xs (fun y hy => Nat.lt_of_lt_of_le (h y hy) (by omega))) x hx
    omega
theorem m_from_len {L R : Nat → Nat} : ∀ n j xs, (m_from L R n j xs).length ≤ xs.length := by
  intro n
  induction n with
  | zero => intro j xs; exact Nat.le_refl _
  | succ n ih => intro j xs; rw [m_from]; exact Nat.le_trans (ih _ _) (m_pass_len xs)
