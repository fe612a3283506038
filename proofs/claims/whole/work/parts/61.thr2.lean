/-! THROWING: new, dup, ldc, the constructor, athrow, from any place of a walk -/
def q_QT (cl : List vw_C) (sh : List qS) (D : va_G) (tc : Nat → ClassId) (ad : Nat → Nat) (X : String) (Post : qM → Prop) (A : Nat → Prop) : Array Value → State → Outcome → State → Prop := fun _ st o t =>
  ∃ (x : Nat) (M' : qM) (ce : Cell) (L : List Loc), o = .threw x ∧ st.heap.size ≤ x ∧ t.heap[x]? = some ce ∧ ce.vm = .none ∧ st.vm.findClass X = some ce.cls ∧ Post M' ∧ va_P D cl (q_wd tc ad M' 0 sh) t.heap ∧ va_F A st t ∧ st.WarmedH t.vm ∧ st.sameButNew ({ t with vm := st.vm } : State) L 1 6 ∧ ∀ q ∈ L, A q.base
theorem va_at_obj {D : va_G} {cl : List vw_C} {q : Nat × va_E} {H : Heap} (h : va_at D cl q H) : ∃ cell : Cell, H[q.1]? = some cell ∧ cell.vm.isStatics = false := by
  obtain ⟨a, e⟩ := q
  cases e with
  | inl z =>
    have h' : H[a]? = some (vp_cell z.1 z.2) := h
    refine ⟨_, h', ?_⟩
    obtain ⟨c, n, k⟩ := z
    rcases k with k | k | k | k | k <;> rfl
  | inr o =>
    obtain ⟨r, -, h1⟩ := h
    obtain ⟨cell, h2, h3⟩ := h1
    sorry
