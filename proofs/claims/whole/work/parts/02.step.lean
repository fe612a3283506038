/-! THE LAYER: the machine's walk over a fixed world, told by handles. A memory is a function of (handle, place); shapes are fixed. -/
abbrev qM : Type := (Nat → Nat → Int32) × (Nat → Nat → Int64)
/-- shapes: an object (its class's number, its fields: a handle, or none for a number), an array (0 int, 1 byte, 2 long, b + 3 rows of ints at the handles from b on; its length) -/
abbrev qS : Type := (Nat × List (Option Nat)) ⊕ (Nat × Nat)
/-- a method: name, code, locals, what it returns -/
abbrev qD : Type := MethodName × ByteArray × Nat × Option FieldType
/-- what a class's pool says: fields (index, class's number, field's number), methods (index, the method, how many arguments, its receiver's class's number or none, whether it answers), long constants, JDK members (0 max, 1 min, t + 2 arraycopy) -/
abbrev qE : Type := List (Nat × Nat × Nat) × List (Nat × qD × Nat × Option Nat × Bool) × List (Nat × Int64) × List (Nat × Nat)
def q_v (ad : Nat → Nat) (v : Value) : Value := match v with
  | .ref h => .ref (ad h)
  | w => w
def q_f (ad : Nat → Nat) (M : qM) (h : Nat) : Nat → List (Option Nat) → List Value
  | _, [] => []
  | k, some g :: r => .ref (ad g) :: q_f ad M h (k + 1) r
  | k, none :: r => .int (M.1 h k) :: q_f ad M h (k + 1) r
def q_c (tc : Nat → ClassId) (ad : Nat → Nat) (M : qM) (h : Nat) (e : qS) : va_E := match e with
  | .inl o => .inr (o.1, q_f ad M h 0 o.2)
  | .inr (0, n) => .inl (tc 0, n, .inl (M.1 h))
  | .inr (1, n) => .inl (tc 1, n, .inl (M.1 h))
  | .inr (2, n) => .inl (tc 2, n, .inr (.inl (M.2 h)))
  | .inr (b + 3, n) => .inl (tc 3, n, .inr (.inr (.inr (.inr (fun j => some (ad (b + j)))))))
def q_wd (tc : Nat → ClassId) (ad : Nat → Nat) (M : qM) : Nat → List qS → va_W
  | _, [] => []
  | h, e :: r => (ad h, q_c tc ad M h e) :: q_wd tc ad M (h + 1) r
theorem q_wd_at {tc : Nat → ClassId} {ad : Nat → Nat} {M : qM} : ∀ (sh : List qS) (h k : Nat), (q_wd tc ad M h sh)[k]? = (sh[k]?).map (fun e => (ad (h + k), q_c tc ad M (h + k) e)) := by
  intro sh
  induction sh with
  | nil => intro h k; simp [q_wd]
  | cons e r ih =>
    intro h k
    cases k with
    | zero => simp [q_wd]
    | succ k => simp only [q_wd, List.getElem?_cons_succ]; rw [ih (h + 1) k, show h + 1 + k = h + (k + 1) by omega]
theorem q_wd_len {tc : Nat → ClassId} {ad : Nat → Nat} {M : qM} : ∀ (sh : List qS) (h : Nat), (q_wd tc ad M h sh).length = sh.length := by
  intro sh
  induction sh with
  | nil => intro h; rfl
  | cons e r ih => intro h; simp [q_wd, ih]
theorem q_wd_get {tc : Nat → ClassId} {ad : Nat → Nat} {M : qM} {sh : List qS} {h : Nat} {e : qS} (he : sh[h]? = some e) : (q_wd tc ad M 0 sh)[h]? = some (ad h, q_c tc ad M h e) := by
  rw [q_wd_at, he]; simp
theorem q_f_len {ad : Nat → Nat} {M : qM} {h : Nat} : ∀ (rs : List (Option Nat)) (k : Nat), (q_f ad M h k rs).length = rs.length := by
  intro rs
  induction rs with
  | nil => intro k; rfl
  | cons r t ih => intro k; cases r <;> simp [q_f, ih]
theorem q_f_at {ad : Nat → Nat} {M : qM} {h : Nat} : ∀ (rs : List (Option Nat)) (k i : Nat), (q_f ad M h k rs)[i]? = (rs[i]?).map (fun r => match r with | some g => Value.ref (ad g) | none => Value.int (M.1 h (k + i))) := by
  intro rs
  induction rs with
  | nil => intro k i; simp [q_f]
  | cons r t ih =>
    intro k i
    cases i with
    | zero => cases r <;> simp [q_f]
    | succ i => cases r <;> simp only [q_f, List.getElem?_cons_succ] <;> rw [ih (k + 1) i, show k + 1 + i = k + (i + 1) by omega]
/-- the addresses are apart -/
def q_inj (n : Nat) (ad : Nat → Nat) : Prop := ∀ i j, i < n → j < n → ad i = ad j → i = j
def q_A (n : Nat) (ad : Nat → Nat) (sz : Nat) : Nat → Prop := fun q => (∃ k, k < n ∧ q = ad k) ∨ sz ≤ q
theorem q_D {tc : Nat → ClassId} {ad : Nat → Nat} {M : qM} {sh : List qS} {A : Nat → Prop} (hi : q_inj sh.length ad) (hA : ∀ k, k < sh.length → A (ad k)) : va_D A (q_wd tc ad M 0 sh) := by
  refine ⟨fun i j p q h1 h2 e => ?_, fun k q h => ?_⟩
  · rw [q_wd_at] at h1 h2
    cases e1 : sh[i]? with
    | none => rw [e1] at h1; simp at h1
    | some x =>
      cases e2 : sh[j]? with
      | none => rw [e2] at h2; simp at h2
      | some y =>
        rw [e1] at h1; rw [e2] at h2
        simp only [Option.map_some, Option.some.injEq, Nat.zero_add] at h1 h2
        subst h1; subst h2
        exact hi i j (List.getElem?_eq_some_iff.mp e1).1 (List.getElem?_eq_some_iff.mp e2).1 e
  · rw [q_wd_at] at h
    cases e1 : sh[k]? with
    | none => rw [e1] at h; simp at h
    | some x =>
      rw [e1] at h
      simp only [Option.map_some, Option.some.injEq, Nat.zero_add] at h
      subst h
      exact hA k (List.getElem?_eq_some_iff.mp e1).1
/-- writing a number -/
def q_up (M : qM) (h i : Nat) (v : Int32) : qM := (fun a b => if a = h then (if b = i then v else M.1 a b) else M.1 a b, M.2)
def q_upL (M : qM) (h i : Nat) (v : Int64) : qM := (M.1, fun a b => if a = h then (if b = i then v else M.2 a b) else M.2 a b)
/-- copying a stretch -/
def q_cp (M : qM) (h0 sp h1 dp n : Nat) : qM := (fun a b => if a = h1 then va_cpy (M.1 h0) (M.1 h1) sp dp n b else M.1 a b, M.2)
theorem q_f_keep {ad : Nat → Nat} {M M' : qM} {h : Nat} (hm : M'.1 h = M.1 h) : ∀ (rs : List (Option Nat)) (k : Nat), q_f ad M' h k rs = q_f ad M h k rs := by
  intro rs
  induction rs with
  | nil => intro k; rfl
  | cons r t ih => intro k; cases r <;> simp only [q_f, ih, hm]
theorem q_c_keep {tc : Nat → ClassId} {ad : Nat → Nat} {M M' : qM} {h : Nat} (e : qS) (hm : M'.1 h = M.1 h) (hl : M'.2 h = M.2 h) : q_c tc ad M' h e = q_c tc ad M h e := by
  match e with
  | .inl o => simp only [q_c, q_f_keep hm]
  | .inr (0, n) => simp only [q_c, hm]
  | .inr (1, n) => simp only [q_c, hm]
  | .inr (2, n) => simp only [q_c, hl]
  | .inr (b + 3, n) => rfl
/-- the world behind a write in one cell -/
theorem q_wd_set {tc : Nat → ClassId} {ad : Nat → Nat} {M M' : qM} {sh : List qS} {h : Nat} {e : qS} (he : sh[h]? = some e) (hm : ∀ a, a ≠ h → M'.1 a = M.1 a) (hl : ∀ a, a ≠ h → M'.2 a = M.2 a) {x : va_E} (hx : q_c tc ad M' h e = x) : (q_wd tc ad M 0 sh).set h (ad h, x) = q_wd tc ad M' 0 sh := by
  refine List.ext_getElem? fun k => ?_
  have hlt := (List.getElem?_eq_some_iff.mp he).1
  by_cases hk : k = h
  · subst hk
    rw [List.getElem?_set_self (by rw [q_wd_len]; exact hlt), q_wd_get he, hx]
  · rw [List.getElem?_set_ne (Ne.symm hk), q_wd_at, q_wd_at]
    cases sh[k]? with
    | none => rfl
    | some y => simp only [Option.map_some, Nat.zero_add]; rw [q_c_keep y (hm k hk) (hl k hk)]
theorem q_up_ne {M : qM} {h i : Nat} {v : Int32} (a : Nat) (ha : a ≠ h) : (q_up M h i v).1 a = M.1 a := by
  funext b; simp [q_up, ha]
theorem q_up_eq {M : qM} {h i : Nat} {v : Int32} : (q_up M h i v).1 h = upd (M.1 h) i v := by
  funext b; simp [q_up, upd]
theorem q_f_set {ad : Nat → Nat} {M : qM} {h i : Nat} {v : Int32} : ∀ (rs : List (Option Nat)) (k : Nat), rs[i]? = some none → (q_f ad M h k rs).set i (.int v) = q_f ad (q_up M h (k + i) v) h k rs := by
  intro rs k hi
  refine List.ext_getElem? fun j => ?_
  have hlt := (List.getElem?_eq_some_iff.mp hi).1
  by_cases hj : j = i
  · subst hj
    rw [List.getElem?_set_self (by rw [q_f_len]; exact hlt), q_f_at, hi]
    simp [q_up]
  · rw [List.getElem?_set_ne (Ne.symm hj), q_f_at, q_f_at]
    cases rs[j]? with
    | none => rfl
    | some r => cases r <;> simp [q_up, hj]
/-- locals by their places; null: nothing known -/
def q_has (ad : Nat → Nat) (ls : Array Slot) (nL : Nat) (lv : List Value) : Prop := ls.size = nL ∧ lv_wf ls ∧ lv.length ≤ nL ∧ ∀ (i : Nat) (v : Value), lv[i]? = some v → v ≠ Value.null → ls[i]? = some (Slot.val (q_v ad v))
def q_set : List Value → Nat → Value → List Value
  | [], _, _ => []
  | _ :: r, 0, v => v :: r
  | w :: r, i + 1, v => w :: q_set r i v
theorem q_set_len : ∀ (l : List Value) (i : Nat) (v : Value), (q_set l i v).length = l.length := by
  intro l
  induction l with
  | nil => intro i v; rfl
  | cons w r ih => intro i v; cases i <;> simp [q_set, ih]
theorem q_set_at : ∀ (l : List Value) (i : Nat) (v : Value) (j : Nat) (x : Value), (q_set l i v)[j]? = some x → (j = i ∧ x = v) ∨ (j ≠ i ∧ l[j]? = some x) := by
  intro l
  induction l with
  | nil => intro i v j x h; simp [q_set] at h
  | cons w r ih =>
    intro i v j x h
    cases i with
    | zero =>
      cases j with
      | zero => simp [q_set] at h; exact Or.inl ⟨rfl, h.symm⟩
      | succ j => simp [q_set] at h; exact Or.inr ⟨by omega, by simpa using h⟩
    | succ i =>
      cases j with
      | zero => simp [q_set] at h; exact Or.inr ⟨by omega, by simp [h]⟩
      | succ j =>
        simp only [q_set, List.getElem?_cons_succ] at h
        rcases ih i v j x h with ⟨a, b⟩ | ⟨a, b⟩
        · exact Or.inl ⟨by omega, b⟩
        · exact Or.inr ⟨by omega, by simpa using b⟩
/-- no long stands just ahead of the place -/
def q_sok (l : List Value) (i : Nat) : Bool := match i with
  | 0 => true
  | j + 1 => match l[j]? with
    | some (.long _) => false
    | some (.double _) => false
    | _ => true
theorem q_cat (ad : Nat → Nat) (v : Value) : (q_v ad v).category = v.category := by cases v <;> rfl
def q_L (ad : Nat → Nat) (lv : List Value) : List (Nat × Value) := (List.range lv.length).filterMap (fun (i : Nat) => match (lv[i]? : Option Value) with | some Value.null => none | some v => some (i, q_v ad v) | none => none)
theorem q_L_mem {ad : Nat → Nat} {lv : List Value} {i : Nat} {v : Value} (h : lv[i]? = some v) (hv : v ≠ .null) : (i, q_v ad v) ∈ q_L ad lv := by
  refine List.mem_filterMap.mpr ⟨i, List.mem_range.mpr (List.getElem?_eq_some_iff.mp h).1, ?_⟩
  rw [h]
  cases v <;> simp_all
theorem q_L_of {ad : Nat → Nat} {lv : List Value} {q : Nat × Value} (h : q ∈ q_L ad lv) : ∃ v, lv[q.1]? = some v ∧ v ≠ .null ∧ q.2 = q_v ad v := by
  obtain ⟨i, -, hi⟩ := List.mem_filterMap.mp h
  cases e : lv[i]? with
  | none => rw [e] at hi; simp at hi
  | some v =>
    rw [e] at hi
    by_cases hv : v = .null
    · subst hv; simp at hi
    · have : q = (i, q_v ad v) := by cases v <;> simp_all
      subst this
      exact ⟨v, e, hv, rfl⟩
theorem q_has.to {ad : Nat → Nat} {ls : Array Slot} {nL : Nat} {lv : List Value} (h : q_has ad ls nL lv) : lv_has ls nL (q_L ad lv) := by
  refine ⟨h.1, h.2.1, fun q hq => ?_⟩
  obtain ⟨v, h1, h2, h3⟩ := q_L_of hq
  rw [h3]
  exact h.2.2.2 _ _ h1 h2
theorem q_has.store {ad : Nat → Nat} {ls ls' : Array Slot} {nL : Nat} {lv : List Value} {i : Nat} {v : Value} (h : q_has ad ls nL lv) (hok : q_sok lv i = true)
    (h' : lv_has ls' nL ((i, q_v ad v) :: (q_L ad lv).filter (fun q => !(q.1 == i) && !(q.1 + 1 == i && q.2.category == 2)))) : q_has ad ls' nL (q_set lv i v) := by
  refine ⟨h'.1, h'.2.1, by rw [q_set_len]; exact h.2.2.1, fun j x hj hx => ?_⟩
  rcases q_set_at lv i v j x hj with ⟨rfl, rfl⟩ | ⟨hji, hl⟩
  · exact h'.2.2 (_, _) List.mem_cons_self
  · refine h'.2.2 (j, q_v ad x) (List.mem_cons_of_mem _ (List.mem_filter.mpr ⟨q_L_mem hl hx, ?_⟩))
    simp only [Bool.and_eq_true, Bool.not_eq_true', beq_eq_false_iff_ne, ne_eq, Bool.and_eq_false_iff]
    refine ⟨hji, ?_⟩
    by_cases hc : j + 1 = i
    · right
      subst hc
      rw [q_cat]
      intro hcat
      simp only [q_sok, hl] at hok
      cases x <;> simp_all [Value.category]
    · exact Or.inl hc
/-- fewer things known -/
def q_le (l' l : List Value) : Prop := l'.length ≤ l.length ∧ ∀ (i : Nat) (v : Value), l'[i]? = some v → v ≠ Value.null → l[i]? = some v
theorem q_has.le {ad : Nat → Nat} {ls : Array Slot} {nL : Nat} {lv lv' : List Value} (h : q_has ad ls nL lv) (hle : q_le lv' lv) : q_has ad ls nL lv' :=
  ⟨h.1, h.2.1, Nat.le_trans hle.1 h.2.2.1, fun i v hi hv => h.2.2.2 i v (hle.2 i v hi hv) hv⟩
/-! THE EVALUATOR: one instruction, over handles; what must hold for it is told as a proposition -/
abbrev qI : Type := Nat × Instr × Nat × Nat × Int32
abbrev qR : Type := Nat × List Value × List Value × qM × Option Prop
def q_oP (o : Option Prop) : Prop := match o with
  | none => True
  | some P => P
def q_ok (sh : List qS) (t h : Nat) (i : Int32) : Prop := ∃ n, sh[h]? = some (.inr (t, n)) ∧ vp_in i n
def q_lk {α : Type} (l : List (Nat × α)) (i : Nat) : Option α := match l with
  | [] => none
  | (k, x) :: r => bif Nat.beq k i then some x else q_lk r i
def q_fd (E : qE) (sh : List qS) (idx h : Nat) : Option (Nat × Nat × Option Nat) := match q_lk E.1 idx with
  | some (ci, k) => match sh[h]? with
    | some (.inl (cj, rs)) => match Nat.beq ci cj, rs[k]? with
      | true, some r => some (ci, k, r)
      | _, _ => none
    | _ => none
  | none => none
def q_ldi (lv : List Value) (i : Nat) (f : Int32 → Option qR) : Option qR := match lv[i]? with
  | some (.int x) => f x
  | _ => none
def q_ldl (lv : List Value) (i : Nat) (f : Int64 → Option qR) : Option qR := match lv[i]? with
  | some (.long x) => f x
  | _ => none
def q_lda (lv : List Value) (i : Nat) (f : Nat → Option qR) : Option qR := match lv[i]? with
  | some (.ref x) => f x
  | _ => none
def q_1 (st : List Value) (f : Int32 → List Value → Option qR) : Option qR := match st with
  | .int x :: r => f x r
  | _ => none
def q_2 (st : List Value) (f : Int32 → Int32 → List Value → Option qR) : Option qR := match st with
  | .int y :: .int x :: r => f x y r
  | _ => none
def q_l1 (st : List Value) (f : Int64 → List Value → Option qR) : Option qR := match st with
  | .long x :: r => f x r
  | _ => none
def q_l2 (st : List Value) (f : Int64 → Int64 → List Value → Option qR) : Option qR := match st with
  | .long y :: .long x :: r => f x y r
  | _ => none
def q_li (st : List Value) (f : Int64 → Int32 → List Value → Option qR) : Option qR := match st with
  | .int y :: .long x :: r => f x y r
  | _ => none
def q_r (st : List Value) (f : Nat → List Value → Option qR) : Option qR := match st with
  | .ref h :: r => f h r
  | _ => none
def q_ir (st : List Value) (f : Int32 → Nat → List Value → Option qR) : Option qR := match st with
  | .int i :: .ref h :: r => f i h r
  | _ => none
def q_iir (st : List Value) (f : Int32 → Int32 → Nat → List Value → Option qR) : Option qR := match st with
  | .int x :: .int i :: .ref h :: r => f x i h r
  | _ => none
def q_lir (st : List Value) (f : Int64 → Int32 → Nat → List Value → Option qR) : Option qR := match st with
  | .long x :: .int i :: .ref h :: r => f x i h r
  | _ => none
def q_cpy (st : List Value) (f : Int32 → Int32 → Nat → Int32 → Nat → List Value → Option qR) : Option qR := match st with
  | .int n :: .int dp :: .ref h1 :: .int sp :: .ref h0 :: r => f n dp h1 sp h0 r
  | _ => none
def q_br (pc tgt dir : Nat) (lv r : List Value) (M : qM) (Pt Pf : Prop) : Option qR := match dir with
  | 0 => some (pc + 3, lv, r, M, some Pf)
  | _ => some (tgt, lv, r, M, some Pt)
def q_st (pc i len : Nat) (lv r : List Value) (M : qM) (v : Value) : Option qR := bif q_sok lv i && Nat.blt i lv.length then some (pc + len, q_set lv i v, r, M, none) else none
def q_cats (st : List Value) : Nat := (st.map fun v => v.category).sum
def q_nf (ty : FieldType) (x : Int32) : Option Prop := match ty with
  | .int => none
  | t => some (narrow t (.int x) = .int x ∧ fits t (.int x) = true)
theorem q_nf_of {ty : FieldType} {x : Int32} (h : q_oP (q_nf ty x)) : narrow ty (.int x) = .int x ∧ fits ty (.int x) = true := by
  cases ty <;> first | exact ⟨rfl, rfl⟩ | exact h
/-- what a copy wants: both rows of the same kind, the stretches within them, the values of that kind -/
def q_cpok (sh : List qS) (t h0 h1 : Nat) (sp dp n : Int32) (M : qM) : Prop := ∃ n0 n1, sh[h0]? = some (.inr (t, n0)) ∧ sh[h1]? = some (.inr (t, n1)) ∧ ¬ sp < 0 ∧ ¬ dp < 0 ∧ ¬ n < 0 ∧ sp.toNatClampNeg + n.toNatClampNeg ≤ n0 ∧ dp.toNatClampNeg + n.toNatClampNeg ≤ n1 ∧ (∀ i, i < n.toNatClampNeg → fits (if t = 0 then .int else .byte) (.int (M.1 h0 (sp.toNatClampNeg + i))) = true)
def q_ms (E : qE) (sh : List qS) (tyf : Nat → Nat → FieldType) (sc : Nat × (Nat → Int32)) (q : qI) (dir : Nat) (lv st : List Value) (M : qM) : Option qR := match q with
  | (pc, i, _, tgt, v) => match i with
    | .iconst _ => some (pc + 1, lv, .int v :: st, M, none)
    | .bipush _ => some (pc + 2, lv, .int v :: st, M, none)
    | .sipush _ => some (pc + 3, lv, .int v :: st, M, none)
    | .ldc _ => some (pc + 2, lv, .int v :: st, M, none)
    | .ldc2_w idx => match q_lk E.2.2.1 idx with
      | some w => some (pc + 3, lv, .long w :: st, M, none)
      | none => none
    | .iload_n k => q_ldi lv k.val fun x => some (pc + 1, lv, .int x :: st, M, none)
    | .iload k => q_ldi lv k fun x => some (pc + 2, lv, .int x :: st, M, none)
    | .lload_n k => q_ldl lv k.val fun x => some (pc + 1, lv, .long x :: st, M, none)
    | .lload k => q_ldl lv k fun x => some (pc + 2, lv, .long x :: st, M, none)
    | .aload_n k => q_lda lv k.val fun x => some (pc + 1, lv, .ref x :: st, M, none)
    | .aload k => q_lda lv k fun x => some (pc + 2, lv, .ref x :: st, M, none)
    | .istore_n k => q_1 st fun x r => q_st pc k.val 1 lv r M (.int x)
    | .istore k => q_1 st fun x r => q_st pc k 2 lv r M (.int x)
    | .astore_n k => q_r st fun x r => q_st pc k.val 1 lv r M (.ref x)
    | .astore k => q_r st fun x r => q_st pc k 2 lv r M (.ref x)
    | .iinc k _ => q_ldi lv k fun x => q_st pc k 3 lv st M (.int (x + v))
    | .iadd => q_2 st fun x y r => some (pc + 1, lv, .int (x + y) :: r, M, none)
    | .isub => q_2 st fun x y r => some (pc + 1, lv, .int (x - y) :: r, M, none)
    | .imul => q_2 st fun x y r => some (pc + 1, lv, .int (x * y) :: r, M, none)
    | .idiv => q_2 st fun x y r => some (pc + 1, lv, .int (x / y) :: r, M, some (¬ y = 0))
    | .irem => q_2 st fun x y r => some (pc + 1, lv, .int (x % y) :: r, M, some (¬ y = 0))
    | .iand => q_2 st fun x y r => some (pc + 1, lv, .int (x &&& y) :: r, M, none)
    | .ior => q_2 st fun x y r => some (pc + 1, lv, .int (x ||| y) :: r, M, none)
    | .ixor => q_2 st fun x y r => some (pc + 1, lv, .int (x ^^^ y) :: r, M, none)
    | .ishl => q_2 st fun x y r => some (pc + 1, lv, .int (x <<< (y &&& 31)) :: r, M, none)
    | .ishr => q_2 st fun x y r => some (pc + 1, lv, .int (x >>> (y &&& 31)) :: r, M, none)
    | .iushr => q_2 st fun x y r => some (pc + 1, lv, .int ((x.toUInt32 >>> (y.toUInt32 &&& Int32.toUInt32 31)).toInt32) :: r, M, none)
    | .ineg => q_1 st fun x r => some (pc + 1, lv, .int (-x) :: r, M, none)
    | .i2b => q_1 st fun x r => some (pc + 1, lv, .int (x.toInt8.toInt32) :: r, M, none)
    | .i2l => q_1 st fun x r => some (pc + 1, lv, .long (x.toInt64) :: r, M, none)
    | .l2i => q_l1 st fun x r => some (pc + 1, lv, .int (x.toInt32) :: r, M, none)
    | .land => q_l2 st fun x y r => some (pc + 1, lv, .long (x &&& y) :: r, M, none)
    | .lor => q_l2 st fun x y r => some (pc + 1, lv, .long (x ||| y) :: r, M, none)
    | .lshl => q_li st fun x y r => some (pc + 1, lv, .long (x <<< (y.toInt64 &&& 63)) :: r, M, none)
    | .lshr => q_li st fun x y r => some (pc + 1, lv, .long (x >>> (y.toInt64 &&& 63)) :: r, M, none)
    | .lcmp => q_l2 st fun x y r => some (pc + 1, lv, .int (lg_cmp x y) :: r, M, none)
    | .dup => match st with
      | a :: r => bif Nat.beq a.category 1 then some (pc + 1, lv, a :: a :: r, M, none) else none
      | _ => none
    | .pop => match st with
      | a :: r => bif Nat.beq a.category 1 then some (pc + 1, lv, r, M, none) else none
      | _ => none
    | .dup2 => match st with
      | a :: b :: r => bif Nat.beq a.category 1 && Nat.beq b.category 1 then some (pc + 1, lv, a :: b :: a :: b :: r, M, none) else none
      | _ => none
    | .dup_x1 => match st with
      | a :: b :: r => bif Nat.beq a.category 1 && Nat.beq b.category 1 then some (pc + 1, lv, a :: b :: a :: r, M, none) else none
      | _ => none
    | .goto _ => some (tgt, lv, st, M, none)
    | .ifCond .eq _ => q_1 st fun x r => q_br pc tgt dir lv r M (x = 0) (¬ x = 0)
    | .ifCond .ne _ => q_1 st fun x r => q_br pc tgt dir lv r M (¬ x = 0) (x = 0)
    | .ifCond .lt _ => q_1 st fun x r => q_br pc tgt dir lv r M (x < 0) (¬ x < 0)
    | .ifCond .ge _ => q_1 st fun x r => q_br pc tgt dir lv r M (0 ≤ x) (¬ 0 ≤ x)
    | .ifCond .gt _ => q_1 st fun x r => q_br pc tgt dir lv r M (0 < x) (¬ 0 < x)
    | .ifCond .le _ => q_1 st fun x r => q_br pc tgt dir lv r M (x ≤ 0) (¬ x ≤ 0)
    | .if_icmp .eq _ => q_2 st fun x y r => q_br pc tgt dir lv r M (x = y) (¬ x = y)
    | .if_icmp .ne _ => q_2 st fun x y r => q_br pc tgt dir lv r M (¬ x = y) (x = y)
    | .if_icmp .lt _ => q_2 st fun x y r => q_br pc tgt dir lv r M (x < y) (¬ x < y)
    | .if_icmp .ge _ => q_2 st fun x y r => q_br pc tgt dir lv r M (y ≤ x) (¬ y ≤ x)
    | .if_icmp .gt _ => q_2 st fun x y r => q_br pc tgt dir lv r M (y < x) (¬ y < x)
    | .if_icmp .le _ => q_2 st fun x y r => q_br pc tgt dir lv r M (x ≤ y) (¬ x ≤ y)
    | .tableswitch _ lo hi offs => q_1 st fun x r => match offs[dir]? with
      | none => some (tgt, lv, r, M, some (x.toInt < lo ∨ hi < x.toInt))
      | some off => match (pc : Int) + off with
        | .ofNat t => some (t, lv, r, M, some (x.toInt = lo + dir ∧ lo + dir ≤ hi))
        | _ => none
    | .getfield idx => q_r st fun h r => match q_fd E sh idx h with
      | some (_, _, some g) => some (pc + 3, lv, .ref g :: r, M, none)
      | some (_, k, none) => some (pc + 3, lv, .int (M.1 h k) :: r, M, none)
      | none => none
    | .putfield idx => q_ir st fun x h r => match q_fd E sh idx h with
      | some (ci, k, none) => some (pc + 3, lv, r, q_up M h k x, q_nf (tyf ci k) x)
      | _ => none
    | .iaload => match dir with
      | 0 => q_ir st fun i h r => some (pc + 1, lv, .int (M.1 h i.toNatClampNeg) :: r, M, some (q_ok sh 0 h i))
      | _ => q_ir st fun i h r => some (pc + 1, lv, .int (sc.2 i.toNatClampNeg) :: r, M, some (h = 1000 ∧ vp_in i (sc.1 - 1)))
    | .baload => q_ir st fun i h r => some (pc + 1, lv, .int (M.1 h i.toNatClampNeg) :: r, M, some (q_ok sh 1 h i))
    | .laload => q_ir st fun i h r => some (pc + 1, lv, .long (M.2 h i.toNatClampNeg) :: r, M, some (q_ok sh 2 h i))
    | .iastore => q_iir st fun x i h r => some (pc + 1, lv, r, q_up M h i.toNatClampNeg x, some (q_ok sh 0 h i))
    | .bastore => q_iir st fun x i h r => some (pc + 1, lv, r, q_up M h i.toNatClampNeg (vp_nar .byte x), some (q_ok sh 1 h i))
    | .lastore => q_lir st fun x i h r => some (pc + 1, lv, r, q_upL M h i.toNatClampNeg x, some (q_ok sh 2 h i))
    | .aaload => q_ir st fun i h r => match sh[h]? with
      | some (.inr (b + 3, n)) => some (pc + 1, lv, .ref (b + i.toNatClampNeg) :: r, M, some (vp_in i n))
      | _ => none
    | .arraylength => q_r st fun h r => some (pc + 1, lv, .int (Int32.ofNat (sc.1 - 1)) :: r, M, some (h = 1000 ∧ 0 < sc.1))
    | .invokestatic idx => match q_lk E.2.2.2 idx with
      | some 0 => q_2 st fun x y r => bif Nat.ble (q_cats r) 8 then some (pc + 3, lv, .int (if x < y then y else x) :: r, M, none) else none
      | some 1 => q_2 st fun x y r => bif Nat.ble (q_cats r) 8 then some (pc + 3, lv, .int (if y < x then y else x) :: r, M, none) else none
      | some (t + 2) => q_cpy st fun n dp h1 sp h0 r => bif Nat.ble (q_cats r) 8 && Nat.blt t 2 then some (pc + 3, lv, r, q_cp M h0 sp.toNatClampNeg h1 dp.toNatClampNeg n.toNatClampNeg, some (q_cpok sh t h0 h1 sp dp n M)) else none
      | none => none
    | _ => none
/-- what a table's row must keep -/
def q_lok (i : Instr) (len : Nat) : Bool := match i with
  | .iconst _ | .iload_n _ | .lload_n _ | .aload_n _ | .istore_n _ | .astore_n _ | .iadd | .isub | .imul | .idiv | .irem | .iand | .ior | .ixor | .ishl | .ishr | .iushr | .ineg | .i2b | .i2l | .l2i | .land | .lor | .lshl | .lshr | .lcmp | .dup | .pop | .dup2 | .dup_x1 | .iaload | .baload | .laload | .iastore | .bastore | .lastore | .aaload | .arraylength | .ireturn | .return_ | .athrow => Nat.beq len 1
  | .bipush _ | .ldc _ | .iload _ | .lload _ | .aload _ | .istore _ | .astore _ => Nat.beq len 2
  | .sipush _ | .ldc2_w _ | .iinc _ _ | .goto _ | .ifCond _ _ | .if_icmp _ _ | .getfield _ | .putfield _ | .invokestatic _ | .invokevirtual _ | .invokespecial _ | .new _ => Nat.beq len 3
  | .tableswitch _ _ _ _ => true
  | _ => false
def q_vok (pc : Nat) (i : Instr) (tgt : Nat) (v : Int32) : Bool := match i with
  | .iconst n => decide (Int32.ofInt n = v)
  | .bipush n => decide ((Int8.ofInt n).toInt32 = v)
  | .sipush n => decide ((Int16.ofInt n).toInt32 = v)
  | .iinc _ n => decide (Int32.ofInt n = v)
  | .goto off | .ifCond _ off | .if_icmp _ off => decide ((pc : Int) + off = (tgt : Int))
  | .tableswitch d _ _ _ => decide ((pc : Int) + d = (tgt : Int))
  | _ => true
def q_cok (own : String) (Ts : List Cond) (i : Instr) (v : Int32) : Prop := ∀ idx, i = .ldc idx → Cond.constant own idx v ∈ Ts
def q_tb (own : String) (Ts : List Cond) (cc : ByteArray) (tb : List qI) : Prop := ∀ q ∈ tb, decode cc q.1 = .ok (q.2.1, q.2.2.1) ∧ q_lok q.2.1 q.2.2.1 = true ∧ q_vok q.1 q.2.1 q.2.2.2.1 q.2.2.2.2 = true ∧ q_cok own Ts q.2.1 q.2.2.2.2
def q_tbB (own : String) (Ts : List Cond) (cc : ByteArray) (tb : List qI) : Bool := tb.all fun q => decide (decode cc q.1 = .ok (q.2.1, q.2.2.1)) && (q_lok q.2.1 q.2.2.1 && (q_vok q.1 q.2.1 q.2.2.2.1 q.2.2.2.2 && (match q.2.1 with | .ldc idx => decide (Cond.constant own idx q.2.2.2.2 ∈ Ts) | _ => true)))
theorem q_tb_of {own : String} {Ts : List Cond} {cc : ByteArray} {tb : List qI} (h : q_tbB own Ts cc tb = true) : q_tb own Ts cc tb := by
  intro q hq
  have h1 := List.all_eq_true.mp h q hq
  simp only [Bool.and_eq_true, decide_eq_true_eq] at h1
  refine ⟨h1.1, h1.2.1, h1.2.2.1, fun idx hi => ?_⟩
  have h2 := h1.2.2.2
  rw [hi] at h2
  simpa using h2
def q_tys (tc : Nat → ClassId) : List (ClassId × FieldType) := [(tc 0, .int), (tc 1, .byte), (tc 2, .long), (tc 3, .array .int)]
def q_cls (cl : List vw_C) (tyf : Nat → Nat → FieldType) (Ts : List Cond) : Prop := ∀ (ci : Nat) (q : vw_C), cl[ci]? = some q → (∀ w ∈ u_ws q.1 q.2.1 q.2.2, w ∈ Ts) ∧ (∀ k, k < q.2.2 → parseFieldDescriptor (q.2.1 k).2.2.1 = some (tyf ci k)) ∧ (∀ a, a < q.2.2 → ∀ b, b < q.2.2 → a ≠ b → (q.2.1 a).2.1 ≠ (q.2.1 b).2.1)
def q_fld (own : String) (E : qE) (cl : List vw_C) (Ts : List Cond) : Prop := ∀ idx ci k, q_lk E.1 idx = some (ci, k) → ∃ q, cl[ci]? = some q ∧ k < q.2.2 ∧ Cond.fieldLink own idx (q.2.1 k).1 (q.2.1 k).2.1 (q.2.1 k).2.2.1 ∈ Ts
def q_shp (sh : List qS) (cl : List vw_C) : Prop := ∀ (h ci : Nat) (rs : List (Option Nat)) (k : Nat) (q : vw_C), sh[h]? = some (Sum.inl (ci, rs)) → rs[k]? = some none → cl[ci]? = some q → (q.2.1 k).2.2.2 = false
/-- a call's words -/
def q_lnB (Ts : List Cond) (own : String) (idx : Nat) (y : qD) (n : Nat) : Prop := Cond.code y.1 y.2.1 y.2.2.1 y.2.2.2 ∈ Ts ∧ Cond.initialized y.1.cls ∈ Ts ∧ Cond.methodLink own idx y.1 ∈ Ts ∧ (y.1.cls ≠ "java/lang/invoke/MethodHandle" ∧ y.1.cls ≠ "java/lang/invoke/VarHandle" ∧ (parseMethodDescriptor y.1.desc).map (fun d => d.parameters.length) = some n) ∧ y.2.2.1 ≤ 17
def q_lnk (own : String) (E : qE) (cl : List vw_C) (Ts : List Cond) : Prop := ∀ idx y n c i, q_lk E.2.1 idx = some (y, n, c, i) → q_lnB Ts own idx y n ∧ (c = none → Cond.static y.1 ∈ Ts) ∧ (∀ ci, c = some ci → Cond.instanceMethod y.1 ∈ Ts ∧ Cond.selects y.1.cls y.1 y.1 ∈ Ts ∧ ∃ q, cl[ci]? = some q ∧ q.1 = y.1.cls)
def q_jdk (own : String) (E : qE) (Ts : List Cond) : Prop :=
  (∀ idx w, q_lk E.2.2.1 idx = some w → Cond.constantLong own idx w ∈ Ts) ∧
  (∀ idx, q_lk E.2.2.2 idx = some 0 → Cond.methodLink own idx Lib.Math.max.name ∈ Ts ∧ Cond.static Lib.Math.max.name ∈ Ts ∧ Cond.initialized "java/lang/Math" ∈ Ts ∧ Cond.code Lib.Math.max.name Lib.Math.max.code 2 (some .int) ∈ Ts) ∧
  (∀ idx, q_lk E.2.2.2 idx = some 1 → Cond.methodLink own idx Lib.Math.min.name ∈ Ts ∧ Cond.static Lib.Math.min.name ∈ Ts ∧ Cond.initialized "java/lang/Math" ∈ Ts ∧ Cond.code Lib.Math.min.name Lib.Math.min.code 2 (some .int) ∈ Ts) ∧
  (∀ idx t, q_lk E.2.2.2 idx = some (t + 2) → Cond.methodLink own idx arraycopyName ∈ Ts ∧ Cond.native arraycopyName ∈ Ts ∧ Cond.static arraycopyName ∈ Ts ∧ Cond.initialized "java/lang/System" ∈ Ts)
def q_X (s : State) (A : Nat → Prop) (ad : Nat → Nat) (sc : Nat × (Nat → Int32)) : Prop := sc.1 = 0 ∨ (va_X (ad 1000) (sc.1 - 1) sc.2 s s.heap ∧ ad 1000 < s.heap.size ∧ ¬ A (ad 1000))
/-- what stands during a method's walk -/
def q_Cx (p : Program) (R : Room) (s : State) (m : MethodId) (args : Array Value) (c : Code) (Ts : List Cond) (own : String) (cc : ByteArray) (nL : Nat) (E : qE) (cl : List vw_C) (tyf : Nat → Nat → FieldType) (tc : Nat → ClassId) (D : va_G) (sh : List qS) (ad : Nat → Nat) (A : Nat → Prop) (sc : Nat × (Nat → Int32)) : Prop :=
  p.tables.exec = Jvm.exec ∧ c.code = cc ∧ c.maxLocals = nL ∧ s.vm.findClass own = some m.cls ∧ (∀ w ∈ Ts, w.before args s = true) ∧ va_K D cl (q_tys tc) s ∧ q_inj sh.length ad ∧ (∀ k, k < sh.length → A (ad k)) ∧ q_cls cl tyf Ts ∧ q_fld own E cl Ts ∧ q_shp sh cl ∧ sh.length ≤ 1000 ∧ 1 ≤ R.frames ∧ 36 ≤ R.locals ∧ q_X s A ad sc ∧ q_jdk own E Ts
section QSTEP
variable {p : Program} {l : Launch} {e : Env} {R : Room} {s : State} {m : MethodId} {args : Array Value} {below : List Frame} {meth : Method} {c : Code} {Q : State → Prop}
variable {Ts : List Cond} {own : String} {cc : ByteArray} {nL : Nat} {E : qE} {cl : List vw_C} {tyf : Nat → Nat → FieldType} {tc : Nat → ClassId} {D : va_G} {sh : List qS} {ad : Nat → Nat} {A : Nat → Prop} {sc : Nat × (Nat → Int32)} {cells slots : Nat}
def q_St (p : Program) (l : Launch) (e : Env) (R : Room) (s : State) (m : MethodId) (args : Array Value) (below : List Frame) (meth : Method) (c : Code) (Q : State → Prop) (nL : Nat) (cl : List vw_C) (tc : Nat → ClassId) (D : va_G) (sh : List qS) (ad : Nat → Nat) (A : Nat → Prop) (cells slots : Nat) (pc : Nat) (lv st : List Value) (M : qM) : Prop :=
  ∀ (H : Heap) (locs : List Loc) (ls : Array Slot), va_P D cl (q_wd tc ad M 0 sh) H → va_S A s.heap H locs → q_has ad ls nL lv → W p l e R s m args below meth c H locs cells slots Q (F0 m pc ls (st.map (q_v ad)))
theorem q_ldi_of {lv : List Value} {i : Nat} {f : Int32 → Option qR} {z : qR} (h : q_ldi lv i f = some z) : ∃ x, lv[i]? = some (.int x) ∧ f x = some z := by
  unfold q_ldi at h
  split at h
  · exact ⟨_, ‹_›, h⟩
  · cases h
theorem q_ldl_of {lv : List Value} {i : Nat} {f : Int64 → Option qR} {z : qR} (h : q_ldl lv i f = some z) : ∃ x, lv[i]? = some (.long x) ∧ f x = some z := by
  unfold q_ldl at h
  split at h
  · exact ⟨_, ‹_›, h⟩
  · cases h
theorem q_lda_of {lv : List Value} {i : Nat} {f : Nat → Option qR} {z : qR} (h : q_lda lv i f = some z) : ∃ x, lv[i]? = some (.ref x) ∧ f x = some z := by
  unfold q_lda at h
  split at h
  · exact ⟨_, ‹_›, h⟩
  · cases h
theorem q_1_of {st : List Value} {f : Int32 → List Value → Option qR} {z : qR} (h : q_1 st f = some z) : ∃ x r, st = .int x :: r ∧ f x r = some z := by
  unfold q_1 at h
  split at h
  · exact ⟨_, _, rfl, h⟩
  · cases h
theorem q_2_of {st : List Value} {f : Int32 → Int32 → List Value → Option qR} {z : qR} (h : q_2 st f = some z) : ∃ x y r, st = .int y :: .int x :: r ∧ f x y r = some z := by
  unfold q_2 at h
  split at h
  · exact ⟨_, _, _, rfl, h⟩
  · cases h
theorem q_l1_of {st : List Value} {f : Int64 → List Value → Option qR} {z : qR} (h : q_l1 st f = some z) : ∃ x r, st = .long x :: r ∧ f x r = some z := by
  unfold q_l1 at h
  split at h
  · exact ⟨_, _, rfl, h⟩
  · cases h
theorem q_l2_of {st : List Value} {f : Int64 → Int64 → List Value → Option qR} {z : qR} (h : q_l2 st f = some z) : ∃ x y r, st = .long y :: .long x :: r ∧ f x y r = some z := by
  unfold q_l2 at h
  split at h
  · exact ⟨_, _, _, rfl, h⟩
  · cases h
theorem q_li_of {st : List Value} {f : Int64 → Int32 → List Value → Option qR} {z : qR} (h : q_li st f = some z) : ∃ x y r, st = .int y :: .long x :: r ∧ f x y r = some z := by
  unfold q_li at h
  split at h
  · exact ⟨_, _, _, rfl, h⟩
  · cases h
theorem q_r_of {st : List Value} {f : Nat → List Value → Option qR} {z : qR} (h : q_r st f = some z) : ∃ x r, st = .ref x :: r ∧ f x r = some z := by
  unfold q_r at h
  split at h
  · exact ⟨_, _, rfl, h⟩
  · cases h
theorem q_ir_of {st : List Value} {f : Int32 → Nat → List Value → Option qR} {z : qR} (h : q_ir st f = some z) : ∃ i x r, st = .int i :: .ref x :: r ∧ f i x r = some z := by
  unfold q_ir at h
  split at h
  · exact ⟨_, _, _, rfl, h⟩
  · cases h
theorem q_iir_of {st : List Value} {f : Int32 → Int32 → Nat → List Value → Option qR} {z : qR} (h : q_iir st f = some z) : ∃ x i a r, st = .int x :: .int i :: .ref a :: r ∧ f x i a r = some z := by
  unfold q_iir at h
  split at h
  · exact ⟨_, _, _, _, rfl, h⟩
  · cases h
theorem q_lir_of {st : List Value} {f : Int64 → Int32 → Nat → List Value → Option qR} {z : qR} (h : q_lir st f = some z) : ∃ x i a r, st = .long x :: .int i :: .ref a :: r ∧ f x i a r = some z := by
  unfold q_lir at h
  split at h
  · exact ⟨_, _, _, _, rfl, h⟩
  · cases h
theorem q_cpy_of {st : List Value} {f : Int32 → Int32 → Nat → Int32 → Nat → List Value → Option qR} {z : qR} (h : q_cpy st f = some z) : ∃ n dp h1 sp h0 r, st = .int n :: .int dp :: .ref h1 :: .int sp :: .ref h0 :: r ∧ f n dp h1 sp h0 r = some z := by
  unfold q_cpy at h
  split at h
  · exact ⟨_, _, _, _, _, _, rfl, h⟩
  · cases h
theorem q_st_of {pc i len : Nat} {lv r : List Value} {M : qM} {v : Value} {z : qR} (h : q_st pc i len lv r M v = some z) : q_sok lv i = true ∧ i < lv.length ∧ z = (pc + len, q_set lv i v, r, M, none) := by
  unfold q_st at h
  cases hb : (q_sok lv i && Nat.blt i lv.length) with
  | false => rw [hb] at h; cases h
  | true =>
    rw [hb] at h
    simp only [Bool.and_eq_true] at hb
    exact ⟨hb.1, Nat.le_of_ble_eq_true hb.2, (Option.some.inj h).symm⟩
theorem q_br_of {pc tgt dir : Nat} {lv r : List Value} {M : qM} {Pt Pf : Prop} {z : qR} (h : q_br pc tgt dir lv r M Pt Pf = some z) : z = (pc + 3, lv, r, M, some Pf) ∨ z = (tgt, lv, r, M, some Pt) := by
  unfold q_br at h
  split at h
  · exact Or.inl (Option.some.inj h).symm
  · exact Or.inr (Option.some.inj h).symm
theorem q_has.get {ls : Array Slot} {lv : List Value} {i : Nat} {v : Value} (h : q_has ad ls nL lv) (hi : lv[i]? = some v) (hv : v ≠ .null) : ls[i]? = some (.val (q_v ad v)) := h.2.2.2 i v hi hv
theorem q_fd_of {idx h ci k : Nat} {r : Option Nat} (hf : q_fd E sh idx h = some (ci, k, r)) : q_lk E.1 idx = some (ci, k) ∧ ∃ rs, sh[h]? = some (.inl (ci, rs)) ∧ rs[k]? = some r := by
  unfold q_fd at hf
  split at hf
  · rename_i ci0 k0 e1
    split at hf
    · rename_i cj rs e2
      split at hf
      · rename_i r0 e3 e4
        have := Nat.eq_of_beq_eq_true e3
        cases hf
        subst this
        exact ⟨e1, rs, e2, e4⟩
      · cases hf
    · cases hf
  · cases hf
theorem q_rem (x y : Int32) : x - x / y * y = x % y := by
  refine Int32.toInt_inj.mp ?_
  have h := Int.mul_tdiv_add_tmod x.toInt y.toInt
  have e : x.toInt - x.toInt.tdiv y.toInt * y.toInt = x.toInt.tmod y.toInt := by rw [Int.mul_comm]; omega
  rw [Int32.toInt_mod, ← e, Int32.toInt_sub, Int32.toInt_mul, Int32.toInt_div]
  have hb := Int32.toInt_bmod (x % y)
  rw [Int32.toInt_mod, ← e] at hb
  simp only [Int.reducePow, Int.bmod_mul_bmod, Int.sub_bmod_bmod]
  exact hb
set_option maxHeartbeats 4000000 in
/-- one step of the evaluator is one step of the machine -/
theorem q_step (C : q_Cx p R s m args c Ts own cc nL E cl tyf tc D sh ad A sc) {q : qI} (hq : decode cc q.1 = .ok (q.2.1, q.2.2.1) ∧ q_lok q.2.1 q.2.2.1 = true ∧ q_vok q.1 q.2.1 q.2.2.2.1 q.2.2.2.2 = true ∧ q_cok own Ts q.2.1 q.2.2.2.2) (hcs : cells ≤ R.cells ∧ slots ≤ R.slots)
    {dir : Nat} {lv st lv' st' : List Value} {M M' : qM} {pc' : Nat} {P : Option Prop} (h : q_ms E sh tyf sc q dir lv st M = some (pc', lv', st', M', P)) (hp : q_oP P)
    (k : q_St p l e R s m args below meth c Q nL cl tc D sh ad A cells slots pc' lv' st' M') : q_St p l e R s m args below meth c Q nL cl tc D sh ad A cells slots q.1 lv st M := by
  obtain ⟨hx, hb, hml, hown, hts, hK, hinj, hA, hcl, hfl, hsh, hsl, hfr, hlo, hX, hjl, hj0, hj1, hj2⟩ := C
  obtain ⟨pc, i, len, tgt, v⟩ := q
  obtain ⟨hd, hlen, hvo, hco⟩ := hq
  have hD : ∀ M0 : qM, va_D A (q_wd tc ad M0 0 sh) := fun M0 => q_D hinj hA
  intro H locs ls hP hS hl
  dsimp only at hd hlen hvo hco h ⊢
  cases i with
  | iconst n =>
    have := Nat.eq_of_beq_eq_true hlen; subst this
    cases h
    exact lv_iconst hx hb hd (of_decide_eq_true hvo) (k H locs ls hP hS hl)
  | bipush n =>
    have := Nat.eq_of_beq_eq_true hlen; subst this
    cases h
    exact lv_bipush hx hb hd (of_decide_eq_true hvo) (k H locs ls hP hS hl)
  | sipush n =>
    have := Nat.eq_of_beq_eq_true hlen; subst this
    cases h
    exact lv_sipush hx hb hd (of_decide_eq_true hvo) (k H locs ls hP hS hl)
  | ldc idx =>
    have := Nat.eq_of_beq_eq_true hlen; subst this
    cases h
    exact lv_ldc hx hb hown (hts _ (hco idx rfl)) hd (k H locs ls hP hS hl)
  | ldc2_w idx =>
    have := Nat.eq_of_beq_eq_true hlen; subst this
    simp only [q_ms] at h
    split at h
    · rename_i w e1
      cases h
      exact lv_ldc2 hx hb hown (hts _ (hjl idx w e1)) hd (k H locs ls hP hS hl)
    · cases h
  | iload_n n =>
    have := Nat.eq_of_beq_eq_true hlen; subst this
    obtain ⟨x, h1, h⟩ := q_ldi_of h
    cases h
    exact lv_iload_n hx hb hd rfl (hl.get h1 (fun z => by cases z)) (k H locs ls hP hS hl)
  | iload n =>
    have := Nat.eq_of_beq_eq_true hlen; subst this
    obtain ⟨x, h1, h⟩ := q_ldi_of h
    cases h
    exact lv_iload hx hb hd (hl.get h1 (fun z => by cases z)) (k H locs ls hP hS hl)
  | lload_n n =>
    have := Nat.eq_of_beq_eq_true hlen; subst this
    obtain ⟨x, h1, h⟩ := q_ldl_of h
    cases h
    exact lv_lload_n hx hb hd rfl (hl.get h1 (fun z => by cases z)) (k H locs ls hP hS hl)
  | lload n =>
    have := Nat.eq_of_beq_eq_true hlen; subst this
    obtain ⟨x, h1, h⟩ := q_ldl_of h
    cases h
    exact lv_lload hx hb hd (hl.get h1 (fun z => by cases z)) (k H locs ls hP hS hl)
  | aload_n n =>
    have := Nat.eq_of_beq_eq_true hlen; subst this
    obtain ⟨x, h1, h⟩ := q_lda_of h
    cases h
    exact lv_aload_n hx hb hd rfl (hl.get h1 (fun z => by cases z)) (k H locs ls hP hS hl)
  | aload n =>
    have := Nat.eq_of_beq_eq_true hlen; subst this
    obtain ⟨x, h1, h⟩ := q_lda_of h
    cases h
    exact lv_aload hx hb hd (hl.get h1 (fun z => by cases z)) (k H locs ls hP hS hl)
  | istore_n n =>
    have := Nat.eq_of_beq_eq_true hlen; subst this
    obtain ⟨x, r, hst, h2⟩ := q_1_of h; clear h; have h := h2; clear h2; subst hst
    obtain ⟨h1, h2, h3⟩ := q_st_of h
    cases h3
    exact lv_istore_n hx hb hd rfl hl.to (Nat.lt_of_lt_of_le h2 hl.2.2.1) rfl (fun ls' hl' => k H locs ls' hP hS (hl.store h1 hl'))
  | istore n =>
    have := Nat.eq_of_beq_eq_true hlen; subst this
    obtain ⟨x, r, hst, h2⟩ := q_1_of h; clear h; have h := h2; clear h2; subst hst
    obtain ⟨h1, h2, h3⟩ := q_st_of h
    cases h3
    exact lv_istore hx hb hd hl.to (Nat.lt_of_lt_of_le h2 hl.2.2.1) rfl (fun ls' hl' => k H locs ls' hP hS (hl.store h1 hl'))
  | astore_n n =>
    have := Nat.eq_of_beq_eq_true hlen; subst this
    obtain ⟨x, r, hst, h2⟩ := q_r_of h; clear h; have h := h2; clear h2; subst hst
    obtain ⟨h1, h2, h3⟩ := q_st_of h
    cases h3
    exact lv_astore_n hx hb hd rfl hl.to (Nat.lt_of_lt_of_le h2 hl.2.2.1) rfl (fun ls' hl' => k H locs ls' hP hS (hl.store (v := .ref x) h1 hl'))
  | astore n =>
    have := Nat.eq_of_beq_eq_true hlen; subst this
    obtain ⟨x, r, hst, h2⟩ := q_r_of h; clear h; have h := h2; clear h2; subst hst
    obtain ⟨h1, h2, h3⟩ := q_st_of h
    cases h3
    exact lv_astore hx hb hd hl.to (Nat.lt_of_lt_of_le h2 hl.2.2.1) rfl (fun ls' hl' => k H locs ls' hP hS (hl.store (v := .ref x) h1 hl'))
  | iinc n z =>
    have := Nat.eq_of_beq_eq_true hlen; subst this
    obtain ⟨x, h0, h⟩ := q_ldi_of h
    obtain ⟨h1, h2, h3⟩ := q_st_of h
    cases h3
    obtain ⟨j, hj⟩ := List.getElem?_of_mem (q_L_mem (ad := ad) h0 (fun z => by cases z))
    exact lv_iinc hx hb hd hl.to hj (by rw [of_decide_eq_true hvo]) (Nat.lt_of_lt_of_le h2 hl.2.2.1) rfl (fun ls' hl' => k H locs ls' hP hS (hl.store (v := .int (x + v)) h1 hl'))
  | iadd => have := Nat.eq_of_beq_eq_true hlen; subst this; obtain ⟨x, y, r, hst, h2⟩ := q_2_of h; clear h; have h := h2; clear h2; subst hst; cases h; exact lv_iadd hx hb hd (k H locs ls hP hS hl)
  | isub => have := Nat.eq_of_beq_eq_true hlen; subst this; obtain ⟨x, y, r, hst, h2⟩ := q_2_of h; clear h; have h := h2; clear h2; subst hst; cases h; exact lv_isub hx hb hd (k H locs ls hP hS hl)
  | imul => have := Nat.eq_of_beq_eq_true hlen; subst this; obtain ⟨x, y, r, hst, h2⟩ := q_2_of h; clear h; have h := h2; clear h2; subst hst; cases h; exact lv_imul hx hb hd (k H locs ls hP hS hl)
  | idiv => have := Nat.eq_of_beq_eq_true hlen; subst this; obtain ⟨x, y, r, hst, h2⟩ := q_2_of h; clear h; have h := h2; clear h2; subst hst; cases h; exact lv_idiv hx hb hd hp (k H locs ls hP hS hl)
  | irem => have := Nat.eq_of_beq_eq_true hlen; subst this; obtain ⟨x, y, r, hst, h2⟩ := q_2_of h; clear h; have h := h2; clear h2; subst hst; cases h; exact lv_irem hx hb hd hp (by rw [q_rem]; exact k H locs ls hP hS hl)
  | iand => have := Nat.eq_of_beq_eq_true hlen; subst this; obtain ⟨x, y, r, hst, h2⟩ := q_2_of h; clear h; have h := h2; clear h2; subst hst; cases h; exact lv_iand hx hb hd (k H locs ls hP hS hl)
  | ior => have := Nat.eq_of_beq_eq_true hlen; subst this; obtain ⟨x, y, r, hst, h2⟩ := q_2_of h; clear h; have h := h2; clear h2; subst hst; cases h; exact lv_ior hx hb hd (k H locs ls hP hS hl)
  | ixor => have := Nat.eq_of_beq_eq_true hlen; subst this; obtain ⟨x, y, r, hst, h2⟩ := q_2_of h; clear h; have h := h2; clear h2; subst hst; cases h; exact lv_ixor hx hb hd (k H locs ls hP hS hl)
  | ishl => have := Nat.eq_of_beq_eq_true hlen; subst this; obtain ⟨x, y, r, hst, h2⟩ := q_2_of h; clear h; have h := h2; clear h2; subst hst; cases h; exact lv_ishl hx hb hd (k H locs ls hP hS hl)
  | ishr => have := Nat.eq_of_beq_eq_true hlen; subst this; obtain ⟨x, y, r, hst, h2⟩ := q_2_of h; clear h; have h := h2; clear h2; subst hst; cases h; exact lv_ishr hx hb hd (k H locs ls hP hS hl)
  | iushr => have := Nat.eq_of_beq_eq_true hlen; subst this; obtain ⟨x, y, r, hst, h2⟩ := q_2_of h; clear h; have h := h2; clear h2; subst hst; cases h; exact lv_iushr hx hb hd rfl (k H locs ls hP hS hl)
  | ineg => have := Nat.eq_of_beq_eq_true hlen; subst this; obtain ⟨x, r, hst, h2⟩ := q_1_of h; clear h; have h := h2; clear h2; subst hst; cases h; exact lv_ineg hx hb hd (k H locs ls hP hS hl)
  | i2b => have := Nat.eq_of_beq_eq_true hlen; subst this; obtain ⟨x, r, hst, h2⟩ := q_1_of h; clear h; have h := h2; clear h2; subst hst; cases h; exact lv_i2b hx hb hd rfl (k H locs ls hP hS hl)
  | i2l => have := Nat.eq_of_beq_eq_true hlen; subst this; obtain ⟨x, r, hst, h2⟩ := q_1_of h; clear h; have h := h2; clear h2; subst hst; cases h; exact lv_i2l hx hb hd rfl (k H locs ls hP hS hl)
  | l2i => have := Nat.eq_of_beq_eq_true hlen; subst this; obtain ⟨x, r, hst, h2⟩ := q_l1_of h; clear h; have h := h2; clear h2; subst hst; cases h; exact lv_l2i hx hb hd rfl (k H locs ls hP hS hl)
  | land => have := Nat.eq_of_beq_eq_true hlen; subst this; obtain ⟨x, y, r, hst, h2⟩ := q_l2_of h; clear h; have h := h2; clear h2; subst hst; cases h; exact lv_land hx hb hd (k H locs ls hP hS hl)
  | lor => have := Nat.eq_of_beq_eq_true hlen; subst this; obtain ⟨x, y, r, hst, h2⟩ := q_l2_of h; clear h; have h := h2; clear h2; subst hst; cases h; exact lv_lor hx hb hd (k H locs ls hP hS hl)
  | lshl => have := Nat.eq_of_beq_eq_true hlen; subst this; obtain ⟨x, y, r, hst, h2⟩ := q_li_of h; clear h; have h := h2; clear h2; subst hst; cases h; exact lv_lshl hx hb hd rfl (k H locs ls hP hS hl)
  | lshr => have := Nat.eq_of_beq_eq_true hlen; subst this; obtain ⟨x, y, r, hst, h2⟩ := q_li_of h; clear h; have h := h2; clear h2; subst hst; cases h; exact lv_lshr hx hb hd rfl (k H locs ls hP hS hl)
  | lcmp => have := Nat.eq_of_beq_eq_true hlen; subst this; obtain ⟨x, y, r, hst, h2⟩ := q_l2_of h; clear h; have h := h2; clear h2; subst hst; cases h; exact W.lcmp hx hb hd (k H locs ls hP hS hl)
  | dup =>
    have := Nat.eq_of_beq_eq_true hlen; subst this
    simp only [q_ms] at h
    split at h
    · rename_i a r
      cases hb1 : Nat.beq a.category 1 with
      | false => rw [hb1] at h; cases h
      | true =>
        rw [hb1] at h
        cases h
        exact lv_dup hx hb hd ((q_cat ad _).trans (Nat.eq_of_beq_eq_true hb1)) (k H locs ls hP hS hl)
    · cases h
  | pop =>
    have := Nat.eq_of_beq_eq_true hlen; subst this
    simp only [q_ms] at h
    split at h
    · rename_i a r
      cases hb1 : Nat.beq a.category 1 with
      | false => rw [hb1] at h; cases h
      | true =>
        rw [hb1] at h
        cases h
        exact lv_pop hx hb hd ((q_cat ad _).trans (Nat.eq_of_beq_eq_true hb1)) (k H locs ls hP hS hl)
    · cases h
  | dup2 =>
    have := Nat.eq_of_beq_eq_true hlen; subst this
    simp only [q_ms] at h
    split at h
    · rename_i a b r
      cases hb1 : (Nat.beq a.category 1 && Nat.beq b.category 1) with
      | false => rw [hb1] at h; cases h
      | true =>
        rw [hb1] at h
        cases h
        simp only [Bool.and_eq_true] at hb1
        exact lv_dup2_11 hx hb hd ((q_cat ad _).trans (Nat.eq_of_beq_eq_true hb1.1)) ((q_cat ad _).trans (Nat.eq_of_beq_eq_true hb1.2)) (k H locs ls hP hS hl)
    · cases h
  | dup_x1 =>
    have := Nat.eq_of_beq_eq_true hlen; subst this
    simp only [q_ms] at h
    split at h
    · rename_i a b r
      cases hb1 : (Nat.beq a.category 1 && Nat.beq b.category 1) with
      | false => rw [hb1] at h; cases h
      | true =>
        rw [hb1] at h
        cases h
        simp only [Bool.and_eq_true] at hb1
        exact lv_dup_x1 hx hb hd ((q_cat ad _).trans (Nat.eq_of_beq_eq_true hb1.1)) ((q_cat ad _).trans (Nat.eq_of_beq_eq_true hb1.2)) (k H locs ls hP hS hl)
    · cases h
  | goto off =>
    have := Nat.eq_of_beq_eq_true hlen; subst this
    cases h
    exact lv_goto hx hb hd (of_decide_eq_true hvo) (k H locs ls hP hS hl)
  | ifCond cd off =>
    have := Nat.eq_of_beq_eq_true hlen; subst this
    have ht := of_decide_eq_true hvo
    cases cd with
    | eq => obtain ⟨x, r, hst, h2⟩ := q_1_of h; clear h; have h := h2; clear h2; subst hst; rcases q_br_of h with z | z <;> cases z
            · exact lv_if_eq hx hb hd ht (fun z => absurd z hp) (fun _ => k H locs ls hP hS hl)
            · exact lv_if_eq hx hb hd ht (fun _ => k H locs ls hP hS hl) (fun z => absurd hp z)
    | ne => obtain ⟨x, r, hst, h2⟩ := q_1_of h; clear h; have h := h2; clear h2; subst hst; rcases q_br_of h with z | z <;> cases z
            · exact lv_if_ne hx hb hd ht (fun z => absurd hp z) (fun _ => k H locs ls hP hS hl)
            · exact lv_if_ne hx hb hd ht (fun _ => k H locs ls hP hS hl) (fun z => absurd z hp)
    | lt => obtain ⟨x, r, hst, h2⟩ := q_1_of h; clear h; have h := h2; clear h2; subst hst; rcases q_br_of h with z | z <;> cases z
            · exact lv_if_lt hx hb hd ht (fun z => absurd z hp) (fun _ => k H locs ls hP hS hl)
            · exact lv_if_lt hx hb hd ht (fun _ => k H locs ls hP hS hl) (fun z => absurd hp z)
    | ge => obtain ⟨x, r, hst, h2⟩ := q_1_of h; clear h; have h := h2; clear h2; subst hst; rcases q_br_of h with z | z <;> cases z
            · exact lv_if_ge hx hb hd ht (fun z => absurd z hp) (fun _ => k H locs ls hP hS hl)
            · exact lv_if_ge hx hb hd ht (fun _ => k H locs ls hP hS hl) (fun z => absurd hp z)
    | gt => obtain ⟨x, r, hst, h2⟩ := q_1_of h; clear h; have h := h2; clear h2; subst hst; rcases q_br_of h with z | z <;> cases z
            · exact lv_if_gt hx hb hd ht (fun z => absurd z hp) (fun _ => k H locs ls hP hS hl)
            · exact lv_if_gt hx hb hd ht (fun _ => k H locs ls hP hS hl) (fun z => absurd hp z)
    | le => obtain ⟨x, r, hst, h2⟩ := q_1_of h; clear h; have h := h2; clear h2; subst hst; rcases q_br_of h with z | z <;> cases z
            · exact lv_if_le hx hb hd ht (fun z => absurd z hp) (fun _ => k H locs ls hP hS hl)
            · exact lv_if_le hx hb hd ht (fun _ => k H locs ls hP hS hl) (fun z => absurd hp z)
  | if_icmp cd off =>
    have := Nat.eq_of_beq_eq_true hlen; subst this
    have ht := of_decide_eq_true hvo
    cases cd with
    | eq => obtain ⟨x, y, r, hst, h2⟩ := q_2_of h; clear h; have h := h2; clear h2; subst hst; rcases q_br_of h with z | z <;> cases z
            · exact lv_icmp_eq hx hb hd ht (fun z => absurd z hp) (fun _ => k H locs ls hP hS hl)
            · exact lv_icmp_eq hx hb hd ht (fun _ => k H locs ls hP hS hl) (fun z => absurd hp z)
    | ne => obtain ⟨x, y, r, hst, h2⟩ := q_2_of h; clear h; have h := h2; clear h2; subst hst; rcases q_br_of h with z | z <;> cases z
            · exact lv_icmp_ne hx hb hd ht (fun z => absurd hp z) (fun _ => k H locs ls hP hS hl)
            · exact lv_icmp_ne hx hb hd ht (fun _ => k H locs ls hP hS hl) (fun z => absurd z hp)
    | lt => obtain ⟨x, y, r, hst, h2⟩ := q_2_of h; clear h; have h := h2; clear h2; subst hst; rcases q_br_of h with z | z <;> cases z
            · exact lv_icmp_lt hx hb hd ht (fun z => absurd z hp) (fun _ => k H locs ls hP hS hl)
            · exact lv_icmp_lt hx hb hd ht (fun _ => k H locs ls hP hS hl) (fun z => absurd hp z)
    | ge => obtain ⟨x, y, r, hst, h2⟩ := q_2_of h; clear h; have h := h2; clear h2; subst hst; rcases q_br_of h with z | z <;> cases z
            · exact lv_icmp_ge hx hb hd ht (fun z => absurd z hp) (fun _ => k H locs ls hP hS hl)
            · exact lv_icmp_ge hx hb hd ht (fun _ => k H locs ls hP hS hl) (fun z => absurd hp z)
    | gt => obtain ⟨x, y, r, hst, h2⟩ := q_2_of h; clear h; have h := h2; clear h2; subst hst; rcases q_br_of h with z | z <;> cases z
            · exact lv_icmp_gt hx hb hd ht (fun z => absurd z hp) (fun _ => k H locs ls hP hS hl)
            · exact lv_icmp_gt hx hb hd ht (fun _ => k H locs ls hP hS hl) (fun z => absurd hp z)
    | le => obtain ⟨x, y, r, hst, h2⟩ := q_2_of h; clear h; have h := h2; clear h2; subst hst; rcases q_br_of h with z | z <;> cases z
            · exact lv_icmp_le hx hb hd ht (fun z => absurd z hp) (fun _ => k H locs ls hP hS hl)
            · exact lv_icmp_le hx hb hd ht (fun _ => k H locs ls hP hS hl) (fun z => absurd hp z)
  | tableswitch df lo hi offs =>
    have ht := of_decide_eq_true hvo
    simp only [q_ms] at h
    obtain ⟨x, r, hst, h2⟩ := q_1_of h; clear h; have h := h2; clear h2; subst hst
    split at h
    · cases h
      exact lv_tableOut hx hb hd hp ht (k H locs ls hP hS hl)
    · rename_i off e1
      split at h
      · rename_i t e2
        cases h
        obtain ⟨hp1, hp2⟩ := hp
        exact lv_tableIn hx hb hd (by omega) (by omega) (by rw [hp1, show lo + (dir : Int) - lo = (dir : Int) by omega]; exact e1) e2 (k H locs ls hP hS hl)
      · cases h
  | getfield idx =>
    have := Nat.eq_of_beq_eq_true hlen; subst this
    simp only [q_ms] at h
    obtain ⟨a, r, hst, h2⟩ := q_r_of h; clear h; have h := h2; clear h2; subst hst
    split at h
    · rename_i ci fk g e1
      cases h
      obtain ⟨e2, rs, e3, e4⟩ := q_fd_of e1
      obtain ⟨q, g1, g2, g3⟩ := hfl idx ci fk e2
      exact va_get hx hb hts (hcl ci q g1).1 hown hK hP a (q_wd_get e3) g1 fk g2 (hts _ g3) (fun _ z => z) (v := .ref (ad g)) (by rw [q_f_at, e4]; rfl) hd (k H locs ls hP hS hl)
    · rename_i ci fk e1
      cases h
      obtain ⟨e2, rs, e3, e4⟩ := q_fd_of e1
      obtain ⟨q, g1, g2, g3⟩ := hfl idx ci fk e2
      exact va_get hx hb hts (hcl ci q g1).1 hown hK hP a (q_wd_get e3) g1 fk g2 (hts _ g3) (fun _ z => z) (v := .int (M.1 a fk)) (by rw [q_f_at, e4]; simp) hd (k H locs ls hP hS hl)
    · cases h
  | putfield idx =>
    have := Nat.eq_of_beq_eq_true hlen; subst this
    simp only [q_ms] at h
    obtain ⟨x, a, r, hst, h2⟩ := q_ir_of h; clear h; have h := h2; clear h2; subst hst
    split at h
    · rename_i ci fk e1
      cases h
      obtain ⟨e2, rs, e3, e4⟩ := q_fd_of e1
      obtain ⟨q, g1, g2, g3⟩ := hfl idx ci fk e2
      obtain ⟨c1, c2, c3⟩ := hcl ci q g1
      refine va_put hx hb hts c1 (tyf ci) c2 c3 hown hK hP (hD M) hS a (q_wd_get e3) g1 fk g2 (hts _ g3) (fun _ z => z) (hsh a ci rs fk q e3 e4 g1) (c2 fk g2) (q_nf_of hp).1 (q_nf_of hp).2 (by rw [q_f_len]; exact (List.getElem?_eq_some_iff.mp e4).1) hd (fun H1 locs1 hP1 _ hS1 => k H1 locs1 ls ?_ hS1 hl)
      rw [q_wd_set (M' := q_up M a fk x) e3 (fun b hb => q_up_ne b hb) (fun _ _ => rfl)] at hP1
      · exact hP1
      · show Sum.inr (ci, q_f ad (q_up M a fk x) a 0 rs) = _
        have e5 := q_f_set (ad := ad) (M := M) (h := a) (v := x) rs 0 e4
        rw [Nat.zero_add] at e5
        rw [← e5]
        rfl
    · cases h
  | iaload =>
    have := Nat.eq_of_beq_eq_true hlen; subst this
    simp only [q_ms] at h
    split at h
    · obtain ⟨i, a, r, hst, h2⟩ := q_ir_of h; clear h; have h := h2; clear h2; subst hst
      cases h
      obtain ⟨n, e1, e2⟩ := hp
      exact va_iald hx hb hK hP a 0 (q_wd_get e1) rfl e2 hd (k H locs ls hP hS hl)
    · obtain ⟨i, a, r, hst, h2⟩ := q_ir_of h; clear h; have h := h2; clear h2; subst hst
      cases h
      obtain ⟨e1, e2⟩ := hp
      subst e1
      rcases hX with z | ⟨z1, z2, z3⟩
      · rw [z] at e2; exact absurd (Nat.zero_le _) (fun w => e2 (Or.inr w))
      · exact va_sld hx hb z1 z2 z3 hS e2 hd (k H locs ls hP hS hl)
  | baload =>
    have := Nat.eq_of_beq_eq_true hlen; subst this
    obtain ⟨i, a, r, hst, h2⟩ := q_ir_of h; clear h; have h := h2; clear h2; subst hst
    cases h
    obtain ⟨n, e1, e2⟩ := hp
    exact va_bald hx hb hK hP a 1 (q_wd_get e1) rfl e2 hd (k H locs ls hP hS hl)
  | laload =>
    have := Nat.eq_of_beq_eq_true hlen; subst this
    obtain ⟨i, a, r, hst, h2⟩ := q_ir_of h; clear h; have h := h2; clear h2; subst hst
    cases h
    obtain ⟨n, e1, e2⟩ := hp
    exact va_lald hx hb hK hP a 2 (q_wd_get e1) rfl e2 hd (k H locs ls hP hS hl)
  | iastore =>
    have := Nat.eq_of_beq_eq_true hlen; subst this
    obtain ⟨x, i, a, r, hst, h2⟩ := q_iir_of h; clear h; have h := h2; clear h2; subst hst
    cases h
    obtain ⟨n, e1, e2⟩ := hp
    refine va_iast hx hb hK hP (hD M) hS a 0 (q_wd_get e1) rfl e2 hd (fun H1 locs1 hP1 _ hS1 => k H1 locs1 ls ?_ hS1 hl)
    rw [q_wd_set (M' := q_up M a i.toNatClampNeg x) e1 (fun b hb => q_up_ne b hb) (fun _ _ => rfl)] at hP1
    · exact hP1
    · simp only [q_c, q_up_eq]
  | bastore =>
    have := Nat.eq_of_beq_eq_true hlen; subst this
    obtain ⟨x, i, a, r, hst, h2⟩ := q_iir_of h; clear h; have h := h2; clear h2; subst hst
    cases h
    obtain ⟨n, e1, e2⟩ := hp
    refine va_bast hx hb hK hP (hD M) hS a 1 (q_wd_get e1) rfl e2 hd (fun H1 locs1 hP1 _ hS1 => k H1 locs1 ls ?_ hS1 hl)
    rw [q_wd_set (M' := q_up M a i.toNatClampNeg (vp_nar .byte x)) e1 (fun b hb => q_up_ne b hb) (fun _ _ => rfl)] at hP1
    · exact hP1
    · simp only [q_c, q_up_eq]
  | lastore =>
    have := Nat.eq_of_beq_eq_true hlen; subst this
    obtain ⟨x, i, a, r, hst, h2⟩ := q_lir_of h; clear h; have h := h2; clear h2; subst hst
    cases h
    obtain ⟨n, e1, e2⟩ := hp
    refine va_last hx hb hK hP (hD M) hS a 2 (q_wd_get e1) rfl e2 hd (fun H1 locs1 hP1 _ hS1 => k H1 locs1 ls ?_ hS1 hl)
    rw [q_wd_set (M := M) (M' := q_upL M a i.toNatClampNeg x) e1 (fun _ _ => rfl) (fun b hb => by funext j; simp [q_upL, hb])] at hP1
    · exact hP1
    · have e3 : (q_upL M a i.toNatClampNeg x).2 a = vp_updL (M.2 a) i.toNatClampNeg x := by funext j; simp [q_upL, vp_updL]
      simp only [q_c, e3]
  | aaload =>
    have := Nat.eq_of_beq_eq_true hlen; subst this
    simp only [q_ms] at h
    obtain ⟨i, a, r, hst, h2⟩ := q_ir_of h; clear h; have h := h2; clear h2; subst hst
    split at h
    · rename_i b n e1
      cases h
      have hlt : i.toNatClampNeg < n := Nat.not_le.mp fun z => hp (Or.inr z)
      exact W.aald (v := .ref (ad (b + i.toNatClampNeg))) (ty := .array .int) hx hb (hP a _ (q_wd_get e1)) ((hK.2 3 (tc 3, .array .int) rfl).1 n (fun j => va_rf (some (ad (b + j))))) rfl (fun z => by cases z) (by show ¬ (i < 0 ∨ (arrV _ _ _).slots.size ≤ _); rw [arrV_size]; exact hp) (by show (arrV _ _ _).slots[_]? = _; rw [arrV_read _ _ hlt]; rfl) rfl rfl hd (k H locs ls hP hS hl)
    · cases h
  | arraylength =>
    have := Nat.eq_of_beq_eq_true hlen; subst this
    obtain ⟨a, r, hst, h2⟩ := q_r_of h; clear h; have h := h2; clear h2; subst hst
    cases h
    obtain ⟨e1, e2⟩ := hp
    subst e1
    rcases hX with z | ⟨z1, z2, z3⟩
    · omega
    · exact va_slen hx hb z1 z2 z3 hS hd (k H locs ls hP hS hl)
  | invokestatic idx =>
    have := Nat.eq_of_beq_eq_true hlen; subst this
    have hcat : ∀ r : List Value, ((r.map (q_v ad)).map fun v => v.category).sum = q_cats r := fun r => by
      simp only [q_cats, List.map_map]
      congr 1
      exact List.map_congr_left fun v _ => q_cat ad v
    have hls : c.maxLocals = ls.size := hml.trans hl.1.symm
    simp only [q_ms] at h
    split at h
    · rename_i e1
      obtain ⟨x, y, r, hst, h2⟩ := q_2_of h; clear h; have h := h2; clear h2; subst hst
      cases hb1 : Nat.ble (q_cats r) 8 with
      | false => rw [hb1] at h; cases h
      | true =>
        rw [hb1] at h
        cases h
        have hb2 := Nat.le_of_ble_eq_true hb1
        obtain ⟨w1, w2, w3, w4⟩ := hj0 idx e1
        exact va_mmax hx hb hls hown (hts _ w1) (hts _ w2) (hts _ w3) (hts _ w4) hfr (by rw [hcat]; omega) hcs.1 hcs.2 hd (k H locs ls hP hS hl)
    · rename_i e1
      obtain ⟨x, y, r, hst, h2⟩ := q_2_of h; clear h; have h := h2; clear h2; subst hst
      cases hb1 : Nat.ble (q_cats r) 8 with
      | false => rw [hb1] at h; cases h
      | true =>
        rw [hb1] at h
        cases h
        have hb2 := Nat.le_of_ble_eq_true hb1
        obtain ⟨w1, w2, w3, w4⟩ := hj1 idx e1
        exact va_mmin hx hb hls hown (hts _ w1) (hts _ w2) (hts _ w3) (hts _ w4) hfr (by rw [hcat]; omega) hcs.1 hcs.2 hd (k H locs ls hP hS hl)
    · rename_i t e1
      obtain ⟨n, dp, h1, sp, h0, r, hst, h2⟩ := q_cpy_of h; clear h; have h := h2; clear h2; subst hst
      obtain ⟨p1, p2, h⟩ : q_cats r ≤ 8 ∧ t < 2 ∧ _ := by
        cases hb1 : (Nat.ble (q_cats r) 8 && Nat.blt t 2) with
        | false => rw [hb1] at h; cases h
        | true =>
          rw [hb1] at h
          simp only [Bool.and_eq_true] at hb1
          exact ⟨Nat.le_of_ble_eq_true hb1.1, Nat.le_of_ble_eq_true hb1.2, h⟩
      cases h
      obtain ⟨n0, n1, p3, p4, p5, p6, p7, p8, p9, p10⟩ := hp
      obtain ⟨w1, w2, w3, w4⟩ := hj2 idx t e1
      have hM : ∀ a, a ≠ h1 → (q_cp M h0 sp.toNatClampNeg h1 dp.toNatClampNeg n.toNatClampNeg).1 a = M.1 a := fun a ha => by funext j; simp [q_cp, ha]
      have hN : nativeFrameWords "java/lang/System" "arraycopy" 5 + 11 ≤ 20 := by decide
      rcases (show t = 0 ∨ t = 1 by omega) with rfl | rfl
      · refine va_copyi hx hb hls hown (hts _ w1) (hts _ w2) (hts _ w3) (hts _ w4) hK hP (hD M) hS h0 h1 0 0 (q_wd_get p3) (q_wd_get p4) rfl rfl rfl p5 p6 p7 p8 p9 p10 hfr (by rw [hcat]; omega) hd (fun H1 locs1 hP1 _ hS1 => k H1 locs1 ls ?_ hS1 hl)
        rw [q_wd_set (M' := q_cp M h0 sp.toNatClampNeg h1 dp.toNatClampNeg n.toNatClampNeg) p4 hM (fun _ _ => rfl)] at hP1
        · exact hP1
        · have e5 : (q_cp M h0 sp.toNatClampNeg h1 dp.toNatClampNeg n.toNatClampNeg).1 h1 = va_cpy (M.1 h0) (M.1 h1) sp.toNatClampNeg dp.toNatClampNeg n.toNatClampNeg := by funext j; simp [q_cp]
          simp only [q_c, e5]
      · refine va_copyi hx hb hls hown (hts _ w1) (hts _ w2) (hts _ w3) (hts _ w4) hK hP (hD M) hS h0 h1 1 1 (q_wd_get p3) (q_wd_get p4) rfl rfl rfl p5 p6 p7 p8 p9 p10 hfr (by rw [hcat]; omega) hd (fun H1 locs1 hP1 _ hS1 => k H1 locs1 ls ?_ hS1 hl)
        rw [q_wd_set (M' := q_cp M h0 sp.toNatClampNeg h1 dp.toNatClampNeg n.toNatClampNeg) p4 hM (fun _ _ => rfl)] at hP1
        · exact hP1
        · have e5 : (q_cp M h0 sp.toNatClampNeg h1 dp.toNatClampNeg n.toNatClampNeg).1 h1 = va_cpy (M.1 h0) (M.1 h1) sp.toNatClampNeg dp.toNatClampNeg n.toNatClampNeg := by funext j; simp [q_cp]
          simp only [q_c, e5]
    · cases h
  | _ => cases h
end QSTEP
