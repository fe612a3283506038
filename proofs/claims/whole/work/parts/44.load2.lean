/-! LOAD of the reference; load as a whole on both sides -/
set_option maxHeartbeats 1000000 in
theorem r_loadOk {M : qM} {c : Nat → Nat} (h0 : s_fault (M.1 70) (M.1 69 1) = 0) (hfi : ∀ i, i < 8 → M.1 70 (i + 1) = nI (c i)) :
    q_CI TS CL SHP 3 y_Rf_load [.ref 69] M (fun v M' => v = 0 ∧ HR c M' ∧ M'.1 69 3 = 1 ∧ M'.1 69 17 = 0 ∧ (∀ k, k = 1 ∨ k = 12 → M'.1 69 k = M.1 69 k) ∧ (M'.1 71 = fun i => if i < 1500 then M.1 70 i else M.1 71 i) ∧ fr (fun x => x = 69 ∨ x = 71) M M') := by
  have ok : ∀ i, i < 1500 → q_ok SHP 0 71 (nI i) := fun i hi => ok_of (N := 1500) rfl (by omega) (by decide)
  refine q_CI.of f_Rf_load [.ref 69, .null, .null] rfl rfl (fun v M' _ => ⟨.int, rfl, rfl⟩) (fun S h => ?_)
  refine p_Rf_load_0_0 h (p_Rf_load_5_0 h ⟨2, _, by decide, r_faultOf _, fun v M1 h1 => ?_⟩)
  obtain ⟨rfl, e⟩ := h1; obtain rfl := e.symm
  rw [q_up_ne 70 (by decide), q_up_oth (by decide), h0]
  refine p_Rf_load_11_1 h ⟨by decide, ?_⟩
  clear e
  generalize hBB : (fun i => if i < 1500 then M.1 70 i else M.1 71 i) = B
  have hBi : ∀ i, i < 1500 → B i = M.1 70 i := fun i hi => by rw [← hBB]; show (if i < 1500 then _ else _) = _; rw [if_pos hi]
  have hBc : ∀ i, i < 8 → B (i + 1) = nI (c i) := fun i hi => by rw [hBi _ (by omega)]; exact hfi i hi
  have fin : ∀ N0, N0.1 71 = B → (∀ k, k = 1 ∨ k = 12 → N0.1 69 k = M.1 69 k) → fr (fun x => x = 69 ∨ x = 71) M N0 → S 18 [.ref 69, .int 0, .int (nI 1500)] [] N0 := by
    intro N0 b0 u0 f0
    refine p_Rf_load_18_1 h ⟨by decide, ok 1 (by omega), ?_⟩
    rw [show N0.1 71 (1 : Int32).toNatClampNeg = nI (c 0) from by rw [b0]; exact hBc 0 (by omega)]
    have f1 : fr (fun x => x = 69 ∨ x = 71) M (q_up N0 69 4 (nI (c 0))) := f0.up (by omega)
    have b1 : (q_up N0 69 4 (nI (c 0))).1 71 = B := by rw [q_up_ne 71 (by decide)]; exact b0
    have u1 : ∀ k, k = 1 ∨ k = 12 → (q_up N0 69 4 (nI (c 0))).1 69 k = M.1 69 k := fun k hk => by rw [q_up_oth (by omega)]; exact u0 k hk
    have a4_1 : (q_up N0 69 4 (nI (c 0))).1 69 4 = nI (c 0) := q_up_at
    generalize q_up N0 69 4 (nI (c 0)) = N1 at f1 b1 u1 a4_1 ⊢
    clear f0 b0 u0 N0
    refine p_Rf_load_53_0 h ⟨ok 2 (by omega), ?_⟩
    rw [show N1.1 71 (2 : Int32).toNatClampNeg = nI (c 1) from by rw [b1]; exact hBc 1 (by omega)]
    have f2 : fr (fun x => x = 69 ∨ x = 71) M (q_up N1 69 5 (nI (c 1))) := f1.up (by omega)
    have b2 : (q_up N1 69 5 (nI (c 1))).1 71 = B := by rw [q_up_ne 71 (by decide)]; exact b1
    have u2 : ∀ k, k = 1 ∨ k = 12 → (q_up N1 69 5 (nI (c 1))).1 69 k = M.1 69 k := fun k hk => by rw [q_up_oth (by omega)]; exact u1 k hk
    have a4_2 : (q_up N1 69 5 (nI (c 1))).1 69 4 = nI (c 0) := by rw [q_up_oth (by decide)]; exact a4_1
    have a5_2 : (q_up N1 69 5 (nI (c 1))).1 69 5 = nI (c 1) := q_up_at
    generalize q_up N1 69 5 (nI (c 1)) = N2 at f2 b2 u2 a4_2 a5_2 ⊢
    clear f1 b1 u1 a4_1 N1
    refine p_Rf_load_63_0 h ⟨ok 3 (by omega), ?_⟩
    rw [show N2.1 71 (3 : Int32).toNatClampNeg = nI (c 2) from by rw [b2]; exact hBc 2 (by omega)]
    have f3 : fr (fun x => x = 69 ∨ x = 71) M (q_up N2 69 6 (nI (c 2))) := f2.up (by omega)
    have b3 : (q_up N2 69 6 (nI (c 2))).1 71 = B := by rw [q_up_ne 71 (by decide)]; exact b2
    have u3 : ∀ k, k = 1 ∨ k = 12 → (q_up N2 69 6 (nI (c 2))).1 69 k = M.1 69 k := fun k hk => by rw [q_up_oth (by omega)]; exact u2 k hk
    have a4_3 : (q_up N2 69 6 (nI (c 2))).1 69 4 = nI (c 0) := by rw [q_up_oth (by decide)]; exact a4_2
    have a5_3 : (q_up N2 69 6 (nI (c 2))).1 69 5 = nI (c 1) := by rw [q_up_oth (by decide)]; exact a5_2
    have a6_3 : (q_up N2 69 6 (nI (c 2))).1 69 6 = nI (c 2) := q_up_at
    generalize q_up N2 69 6 (nI (c 2)) = N3 at f3 b3 u3 a4_3 a5_3 a6_3 ⊢
    clear f2 b2 u2 a4_2 a5_2 N2
    refine p_Rf_load_73_0 h ⟨ok 4 (by omega), ?_⟩
    rw [show N3.1 71 (4 : Int32).toNatClampNeg = nI (c 3) from by rw [b3]; exact hBc 3 (by omega)]
    have f4 : fr (fun x => x = 69 ∨ x = 71) M (q_up N3 69 7 (nI (c 3))) := f3.up (by omega)
    have b4 : (q_up N3 69 7 (nI (c 3))).1 71 = B := by rw [q_up_ne 71 (by decide)]; exact b3
    have u4 : ∀ k, k = 1 ∨ k = 12 → (q_up N3 69 7 (nI (c 3))).1 69 k = M.1 69 k := fun k hk => by rw [q_up_oth (by omega)]; exact u3 k hk
    have a4_4 : (q_up N3 69 7 (nI (c 3))).1 69 4 = nI (c 0) := by rw [q_up_oth (by decide)]; exact a4_3
    have a5_4 : (q_up N3 69 7 (nI (c 3))).1 69 5 = nI (c 1) := by rw [q_up_oth (by decide)]; exact a5_3
    have a6_4 : (q_up N3 69 7 (nI (c 3))).1 69 6 = nI (c 2) := by rw [q_up_oth (by decide)]; exact a6_3
    have a7_4 : (q_up N3 69 7 (nI (c 3))).1 69 7 = nI (c 3) := q_up_at
    generalize q_up N3 69 7 (nI (c 3)) = N4 at f4 b4 u4 a4_4 a5_4 a6_4 a7_4 ⊢
    clear f3 b3 u3 a4_3 a5_3 a6_3 N3
    refine p_Rf_load_83_0 h ⟨ok 5 (by omega), ?_⟩
    rw [show N4.1 71 (5 : Int32).toNatClampNeg = nI (c 4) from by rw [b4]; exact hBc 4 (by omega)]
    have f5 : fr (fun x => x = 69 ∨ x = 71) M (q_up N4 69 8 (nI (c 4))) := f4.up (by omega)
    have b5 : (q_up N4 69 8 (nI (c 4))).1 71 = B := by rw [q_up_ne 71 (by decide)]; exact b4
    have u5 : ∀ k, k = 1 ∨ k = 12 → (q_up N4 69 8 (nI (c 4))).1 69 k = M.1 69 k := fun k hk => by rw [q_up_oth (by omega)]; exact u4 k hk
    have a4_5 : (q_up N4 69 8 (nI (c 4))).1 69 4 = nI (c 0) := by rw [q_up_oth (by decide)]; exact a4_4
    have a5_5 : (q_up N4 69 8 (nI (c 4))).1 69 5 = nI (c 1) := by rw [q_up_oth (by decide)]; exact a5_4
    have a6_5 : (q_up N4 69 8 (nI (c 4))).1 69 6 = nI (c 2) := by rw [q_up_oth (by decide)]; exact a6_4
    have a7_5 : (q_up N4 69 8 (nI (c 4))).1 69 7 = nI (c 3) := by rw [q_up_oth (by decide)]; exact a7_4
    have a8_5 : (q_up N4 69 8 (nI (c 4))).1 69 8 = nI (c 4) := q_up_at
    generalize q_up N4 69 8 (nI (c 4)) = N5 at f5 b5 u5 a4_5 a5_5 a6_5 a7_5 a8_5 ⊢
    clear f4 b4 u4 a4_4 a5_4 a6_4 a7_4 N4
    refine p_Rf_load_93_0 h ⟨ok 6 (by omega), ?_⟩
    rw [show N5.1 71 (6 : Int32).toNatClampNeg = nI (c 5) from by rw [b5]; exact hBc 5 (by omega)]
    have f6 : fr (fun x => x = 69 ∨ x = 71) M (q_up N5 69 9 (nI (c 5))) := f5.up (by omega)
    have b6 : (q_up N5 69 9 (nI (c 5))).1 71 = B := by rw [q_up_ne 71 (by decide)]; exact b5
    have u6 : ∀ k, k = 1 ∨ k = 12 → (q_up N5 69 9 (nI (c 5))).1 69 k = M.1 69 k := fun k hk => by rw [q_up_oth (by omega)]; exact u5 k hk
    have a4_6 : (q_up N5 69 9 (nI (c 5))).1 69 4 = nI (c 0) := by rw [q_up_oth (by decide)]; exact a4_5
    have a5_6 : (q_up N5 69 9 (nI (c 5))).1 69 5 = nI (c 1) := by rw [q_up_oth (by decide)]; exact a5_5
    have a6_6 : (q_up N5 69 9 (nI (c 5))).1 69 6 = nI (c 2) := by rw [q_up_oth (by decide)]; exact a6_5
    have a7_6 : (q_up N5 69 9 (nI (c 5))).1 69 7 = nI (c 3) := by rw [q_up_oth (by decide)]; exact a7_5
    have a8_6 : (q_up N5 69 9 (nI (c 5))).1 69 8 = nI (c 4) := by rw [q_up_oth (by decide)]; exact a8_5
    have a9_6 : (q_up N5 69 9 (nI (c 5))).1 69 9 = nI (c 5) := q_up_at
    generalize q_up N5 69 9 (nI (c 5)) = N6 at f6 b6 u6 a4_6 a5_6 a6_6 a7_6 a8_6 a9_6 ⊢
    clear f5 b5 u5 a4_5 a5_5 a6_5 a7_5 a8_5 N5
    refine p_Rf_load_104_0 h ⟨ok 7 (by omega), ?_⟩
    rw [show N6.1 71 (7 : Int32).toNatClampNeg = nI (c 6) from by rw [b6]; exact hBc 6 (by omega)]
    have f7 : fr (fun x => x = 69 ∨ x = 71) M (q_up N6 69 10 (nI (c 6))) := f6.up (by omega)
    have b7 : (q_up N6 69 10 (nI (c 6))).1 71 = B := by rw [q_up_ne 71 (by decide)]; exact b6
    have u7 : ∀ k, k = 1 ∨ k = 12 → (q_up N6 69 10 (nI (c 6))).1 69 k = M.1 69 k := fun k hk => by rw [q_up_oth (by omega)]; exact u6 k hk
    have a4_7 : (q_up N6 69 10 (nI (c 6))).1 69 4 = nI (c 0) := by rw [q_up_oth (by decide)]; exact a4_6
    have a5_7 : (q_up N6 69 10 (nI (c 6))).1 69 5 = nI (c 1) := by rw [q_up_oth (by decide)]; exact a5_6
    have a6_7 : (q_up N6 69 10 (nI (c 6))).1 69 6 = nI (c 2) := by rw [q_up_oth (by decide)]; exact a6_6
    have a7_7 : (q_up N6 69 10 (nI (c 6))).1 69 7 = nI (c 3) := by rw [q_up_oth (by decide)]; exact a7_6
    have a8_7 : (q_up N6 69 10 (nI (c 6))).1 69 8 = nI (c 4) := by rw [q_up_oth (by decide)]; exact a8_6
    have a9_7 : (q_up N6 69 10 (nI (c 6))).1 69 9 = nI (c 5) := by rw [q_up_oth (by decide)]; exact a9_6
    have a10_7 : (q_up N6 69 10 (nI (c 6))).1 69 10 = nI (c 6) := q_up_at
    generalize q_up N6 69 10 (nI (c 6)) = N7 at f7 b7 u7 a4_7 a5_7 a6_7 a7_7 a8_7 a9_7 a10_7 ⊢
    clear f6 b6 u6 a4_6 a5_6 a6_6 a7_6 a8_6 a9_6 N6
    refine p_Rf_load_115_0 h ⟨ok 8 (by omega), ?_⟩
    rw [show N7.1 71 (8 : Int32).toNatClampNeg = nI (c 7) from by rw [b7]; exact hBc 7 (by omega)]
    have f8 : fr (fun x => x = 69 ∨ x = 71) M (q_up N7 69 11 (nI (c 7))) := f7.up (by omega)
    have b8 : (q_up N7 69 11 (nI (c 7))).1 71 = B := by rw [q_up_ne 71 (by decide)]; exact b7
    have u8 : ∀ k, k = 1 ∨ k = 12 → (q_up N7 69 11 (nI (c 7))).1 69 k = M.1 69 k := fun k hk => by rw [q_up_oth (by omega)]; exact u7 k hk
    have a4_8 : (q_up N7 69 11 (nI (c 7))).1 69 4 = nI (c 0) := by rw [q_up_oth (by decide)]; exact a4_7
    have a5_8 : (q_up N7 69 11 (nI (c 7))).1 69 5 = nI (c 1) := by rw [q_up_oth (by decide)]; exact a5_7
    have a6_8 : (q_up N7 69 11 (nI (c 7))).1 69 6 = nI (c 2) := by rw [q_up_oth (by decide)]; exact a6_7
    have a7_8 : (q_up N7 69 11 (nI (c 7))).1 69 7 = nI (c 3) := by rw [q_up_oth (by decide)]; exact a7_7
    have a8_8 : (q_up N7 69 11 (nI (c 7))).1 69 8 = nI (c 4) := by rw [q_up_oth (by decide)]; exact a8_7
    have a9_8 : (q_up N7 69 11 (nI (c 7))).1 69 9 = nI (c 5) := by rw [q_up_oth (by decide)]; exact a9_7
    have a10_8 : (q_up N7 69 11 (nI (c 7))).1 69 10 = nI (c 6) := by rw [q_up_oth (by decide)]; exact a10_7
    have a11_8 : (q_up N7 69 11 (nI (c 7))).1 69 11 = nI (c 7) := q_up_at
    generalize q_up N7 69 11 (nI (c 7)) = N8 at f8 b8 u8 a4_8 a5_8 a6_8 a7_8 a8_8 a9_8 a10_8 a11_8 ⊢
    clear f7 b7 u7 a4_7 a5_7 a6_7 a7_7 a8_7 a9_7 a10_7 N7
    refine p_Rf_load_126_0 h ⟨⟨rfl, rfl⟩, ?_⟩
    have f9 : fr (fun x => x = 69 ∨ x = 71) M (q_up N8 69 3 ((1 : Int32))) := f8.up (by omega)
    have b9 : (q_up N8 69 3 ((1 : Int32))).1 71 = B := by rw [q_up_ne 71 (by decide)]; exact b8
    have u9 : ∀ k, k = 1 ∨ k = 12 → (q_up N8 69 3 ((1 : Int32))).1 69 k = M.1 69 k := fun k hk => by rw [q_up_oth (by omega)]; exact u8 k hk
    have a4_9 : (q_up N8 69 3 ((1 : Int32))).1 69 4 = nI (c 0) := by rw [q_up_oth (by decide)]; exact a4_8
    have a5_9 : (q_up N8 69 3 ((1 : Int32))).1 69 5 = nI (c 1) := by rw [q_up_oth (by decide)]; exact a5_8
    have a6_9 : (q_up N8 69 3 ((1 : Int32))).1 69 6 = nI (c 2) := by rw [q_up_oth (by decide)]; exact a6_8
    have a7_9 : (q_up N8 69 3 ((1 : Int32))).1 69 7 = nI (c 3) := by rw [q_up_oth (by decide)]; exact a7_8
    have a8_9 : (q_up N8 69 3 ((1 : Int32))).1 69 8 = nI (c 4) := by rw [q_up_oth (by decide)]; exact a8_8
    have a9_9 : (q_up N8 69 3 ((1 : Int32))).1 69 9 = nI (c 5) := by rw [q_up_oth (by decide)]; exact a9_8
    have a10_9 : (q_up N8 69 3 ((1 : Int32))).1 69 10 = nI (c 6) := by rw [q_up_oth (by decide)]; exact a10_8
    have a11_9 : (q_up N8 69 3 ((1 : Int32))).1 69 11 = nI (c 7) := by rw [q_up_oth (by decide)]; exact a11_8
    have a3_9 : (q_up N8 69 3 ((1 : Int32))).1 69 3 = (1 : Int32) := q_up_at
    generalize q_up N8 69 3 ((1 : Int32)) = N9 at f9 b9 u9 a4_9 a5_9 a6_9 a7_9 a8_9 a9_9 a10_9 a11_9 a3_9 ⊢
    clear f8 b8 u8 a4_8 a5_8 a6_8 a7_8 a8_8 a9_8 a10_8 a11_8 N8
    refine p_Rf_load_131_0 h ⟨⟨rfl, rfl⟩, ?_⟩
    have f10 : fr (fun x => x = 69 ∨ x = 71) M (q_up N9 69 17 ((0 : Int32))) := f9.up (by omega)
    have b10 : (q_up N9 69 17 ((0 : Int32))).1 71 = B := by rw [q_up_ne 71 (by decide)]; exact b9
    have u10 : ∀ k, k = 1 ∨ k = 12 → (q_up N9 69 17 ((0 : Int32))).1 69 k = M.1 69 k := fun k hk => by rw [q_up_oth (by omega)]; exact u9 k hk
    have a4_10 : (q_up N9 69 17 ((0 : Int32))).1 69 4 = nI (c 0) := by rw [q_up_oth (by decide)]; exact a4_9
    have a5_10 : (q_up N9 69 17 ((0 : Int32))).1 69 5 = nI (c 1) := by rw [q_up_oth (by decide)]; exact a5_9
    have a6_10 : (q_up N9 69 17 ((0 : Int32))).1 69 6 = nI (c 2) := by rw [q_up_oth (by decide)]; exact a6_9
    have a7_10 : (q_up N9 69 17 ((0 : Int32))).1 69 7 = nI (c 3) := by rw [q_up_oth (by decide)]; exact a7_9
    have a8_10 : (q_up N9 69 17 ((0 : Int32))).1 69 8 = nI (c 4) := by rw [q_up_oth (by decide)]; exact a8_9
    have a9_10 : (q_up N9 69 17 ((0 : Int32))).1 69 9 = nI (c 5) := by rw [q_up_oth (by decide)]; exact a9_9
    have a10_10 : (q_up N9 69 17 ((0 : Int32))).1 69 10 = nI (c 6) := by rw [q_up_oth (by decide)]; exact a10_9
    have a11_10 : (q_up N9 69 17 ((0 : Int32))).1 69 11 = nI (c 7) := by rw [q_up_oth (by decide)]; exact a11_9
    have a3_10 : (q_up N9 69 17 ((0 : Int32))).1 69 3 = (1 : Int32) := by rw [q_up_oth (by decide)]; exact a3_9
    have a17_10 : (q_up N9 69 17 ((0 : Int32))).1 69 17 = (0 : Int32) := q_up_at
    generalize q_up N9 69 17 ((0 : Int32)) = N10 at f10 b10 u10 a4_10 a5_10 a6_10 a7_10 a8_10 a9_10 a10_10 a11_10 a3_10 a17_10 ⊢
    clear f9 b9 u9 a4_9 a5_9 a6_9 a7_9 a8_9 a9_9 a10_9 a11_9 a3_9 N9
    refine p_Rf_load_136_0 h ⟨rfl, ⟨a4_10, a5_10, a6_10, a7_10, a8_10, a9_10, a10_10, a11_10⟩, a3_10, a17_10, u10, b10.trans hBB.symm, f10⟩
  have loop : ∀ m k M1, k + m = 1500 → (∀ i, i < k → M1.1 71 i = M.1 70 i) → (∀ i, k ≤ i → M1.1 71 i = M.1 71 i) → (∀ k, k = 1 ∨ k = 12 → M1.1 69 k = M.1 69 k) → fr (fun x => x = 69 ∨ x = 71) M M1 → S 18 [.ref 69, .int 0, .int (nI k)] [] M1 := by
    intro m
    induction m with
    | zero =>
      intro k M1 hk h1 h2 h3 hf
      have : k = 1500 := by omega
      subst this
      refine fin M1 ?_ h3 hf
      rw [← hBB]
      funext i
      show M1.1 71 i = if i < 1500 then _ else _
      by_cases hi : i < 1500
      · rw [if_pos hi]; exact h1 i hi
      · rw [if_neg hi]; exact h2 i (by omega)
    | succ m ih =>
      intro k M1 hk h1 h2 h3 hf
      refine p_Rf_load_18_0 h ⟨nI_ge (show k < 1500 by omega) (by decide), ok_of (N := 1500) rfl (by omega) (by decide), ok k (by omega), ?_⟩
      rw [nI_1, nI_clamp (by omega), hf.1 70 (by omega)]
      refine ih (k + 1) _ (by omega) (fun i hi => ?_) (fun i hi => by rw [q_up_oth (by omega)]; exact h2 i (by omega)) (fun k hk => by rw [q_up_ne 69 (by decide)]; exact h3 k hk) (hf.up (by omega))
      by_cases hik : i = k
      · subst hik; rw [q_up_at]
      · rw [q_up_oth hik]; exact h1 i (by omega)
  exact loop 1500 0 _ (by omega) (fun i hi => absurd hi (by omega)) (fun i _ => by rw [q_up_ne 71 (by decide)]) (fun k hk => by rw [q_up_oth (by omega)]) ((fr.rf M).up (by omega))
theorem r_loadNo {M : qM} (h0 : s_fault (M.1 70) (M.1 69 1) < 0) : q_CI TS CL SHP 3 y_Rf_load [.ref 69] M (fun v M' => v = s_fault (M.1 70) (M.1 69 1) ∧ M' = q_up M 69 33 0) := by
  refine q_CI.of f_Rf_load [.ref 69, .null, .null] rfl rfl (fun v M' _ => ⟨.int, rfl, rfl⟩) (fun S h => ?_)
  refine p_Rf_load_0_0 h (p_Rf_load_5_0 h ⟨2, _, by decide, r_faultOf _, fun v M1 h1 => ?_⟩)
  obtain ⟨rfl, e⟩ := h1; obtain rfl := e.symm
  rw [q_up_ne 70 (by decide), q_up_oth (by decide)]
  exact p_Rf_load_11_0 h ⟨n_nle.mpr h0, rfl, rfl⟩
theorem c_drop (M : qM) : q_CV TS CL SHP 0 y_Ru_drop [.ref 9] M (fun M' => M' = q_up (q_up (q_up M 9 5 0) 9 6 0) 9 7 0) := by
  refine q_CV.of f_Ru_drop [.ref 9] rfl rfl rfl (fun S h => ?_)
  exact p_Ru_drop_0_0 h ⟨⟨rfl, rfl⟩, rfl⟩
theorem c_loadOk {M : qM} {c : Nat → Nat} (hc : cOk c) (h0 : s_fault (M.1 2) (M.1 1 1) = 0) (hfi : ∀ i, i < 8 → M.1 2 (i + 1) = nI (c i)) (hp : prs (M.1 2) (c 5)) (hb : ∀ i, isB (M.1 2 i)) :
    q_CI TS CL SHP 3 y_CS_load [.ref 0] M (fun v M' => v = 0 ∧ HC c M' ∧ M'.1 3 2 = 1 ∧ (M'.1 9 5 = 0 ∧ M'.1 9 6 = 0 ∧ M'.1 9 7 = 0) ∧ (M'.1 4 = fun i => if i < 1500 then M.1 2 i else M.1 4 i) ∧ isSz (M'.1 4) (c 5) (M'.1 5) ∧ fr (fun x => 3 ≤ x ∧ x ≤ 5 ∨ x = 9) M M') := by
  refine q_CI.of f_CS_load [.ref 0, .null] rfl rfl (fun v M' _ => ⟨.int, rfl, rfl⟩) (fun S h => ?_)
  refine p_CS_load_0_0 h ⟨2, _, by decide, c_fault (isB_bd (hb 6)), fun v M1 h1 => ?_⟩
  obtain ⟨rfl, e⟩ := h1; obtain rfl := e.symm
  rw [h0]
  refine p_CS_load_9_0 h ⟨rfl, 2, _, by decide, c_read hc hfi hp hb, fun M1 h1 => ?_⟩
  obtain ⟨x1, x2, x3, x4, x5⟩ := h1
  refine ⟨0, _, by decide, c_drop M1, fun M2 h2 => ?_⟩
  have g : ∀ x, x ≠ 9 → M2.1 x = M1.1 x := fun x hx => by rw [h2, q_up_ne x hx, q_up_ne x hx, q_up_ne x hx]
  refine ⟨rfl, x1.to (g 3 (by decide)), by rw [g 3 (by decide)]; exact x2, ⟨?_, ?_, ?_⟩, by rw [g 4 (by decide)]; exact x3, by rw [g 4 (by decide), g 5 (by decide)]; exact x4, ?_⟩
  · rw [h2, q_up_oth (by decide), q_up_oth (by decide), q_up_at]
  · rw [h2, q_up_oth (by decide), q_up_at]
  · rw [h2, q_up_at]
  · rw [h2]; exact (((x5.mono (P' := fun x => 3 ≤ x ∧ x ≤ 5 ∨ x = 9) (fun a ha => Or.inl ha)).up (by omega)).up (by omega)).up (by omega)
theorem c_loadNo {M : qM} (h0 : ¬ s_fault (M.1 2) (M.1 1 1) = 0) (hb : isB (M.1 2 6)) : q_CI TS CL SHP 3 y_CS_load [.ref 0] M (fun v M' => v = s_fault (M.1 2) (M.1 1 1) ∧ M' = M) := by
  refine q_CI.of f_CS_load [.ref 0, .null] rfl rfl (fun v M' _ => ⟨.int, rfl, rfl⟩) (fun S h => ?_)
  refine p_CS_load_0_0 h ⟨2, _, by decide, c_fault (isB_bd hb), fun v M1 h1 => ?_⟩
  obtain ⟨rfl, e⟩ := h1; obtain rfl := e.symm
  exact p_CS_load_9_1 h ⟨h0, rfl, rfl⟩
theorem c_type {M : qM} {n : Nat} (hn : M.1 6 1 = nI n) (h24 : n ≤ 24) (a : Int32) : q_CI TS CL SHP 1 y_CS_type [.ref 0, .int a] M (fun v M' => ((¬ a < 0 ∧ ¬ 7 < a ∧ n < 24) ∧ v = 1 ∧ M' = q_up (q_up M 7 n a) 6 1 (nI (n + 1))) ∨ (¬ (¬ a < 0 ∧ ¬ 7 < a ∧ n < 24) ∧ v = 0 ∧ M' = M)) := by
  refine q_CI.of f_CS_type [.ref 0, .int a] rfl rfl (fun v M' hv => ⟨.boolean, rfl, by rcases hv with hv | hv <;> (rw [hv.2.1]; rfl)⟩) (fun S h => ?_)
  have e87 : 8 ≤ a ↔ 7 < a := by rw [n_le, n_lt, show (8 : Int32).toInt = 8 from rfl, show (7 : Int32).toInt = 7 from rfl]; omega
  by_cases h1 : a < 0
  · exact p_CS_type_0_3 h ⟨h1, Or.inr ⟨fun z => z.1 h1, rfl, rfl⟩⟩
  by_cases h2 : 8 ≤ a
  · exact p_CS_type_0_2 h ⟨h1, h2, Or.inr ⟨fun z => z.2.1 (e87.mp h2), rfl, rfl⟩⟩
  by_cases h3 : n < 24
  · have ap : q_CV TS CL SHP 0 y_Pr_append [.ref 6, .int a] M (fun M' => M' = q_up (q_up M 7 n a) 6 1 (nI (n + 1))) := by
      refine q_CV.of f_Pr_append [.ref 6, .int a] rfl rfl rfl (fun S h => ?_)
      refine p_Pr_append_0_0 h ⟨by rw [hn]; exact ok_of (N := 24) rfl h3 (by decide), ?_⟩
      rw [q_up_ne 6 (by decide), hn, nI_clamp (by omega), nI_1]
    exact p_CS_type_0_1 h ⟨h1, h2, by rw [hn]; exact nI_lt h3 (by decide), 0, _, by decide, ap, fun M1 e => Or.inl ⟨⟨h1, fun z => h2 (e87.mpr z), h3⟩, rfl, e⟩⟩
  · exact p_CS_type_0_0 h ⟨h1, h2, by rw [hn]; exact nI_nlt (b := 24) (by omega) (by omega), Or.inr ⟨fun z => h3 z.2.2, rfl, rfl⟩⟩
theorem r_type {M : qM} {n : Nat} (hn : M.1 69 12 = nI n) (h24 : n ≤ 24) (a : Int32) : q_CI TS CL SHP 1 y_Rf_type [.ref 69, .int a] M (fun v M' => ((¬ a < 0 ∧ ¬ 7 < a ∧ n < 24) ∧ v = 1 ∧ M' = q_up (q_up (q_up M 69 33 0) 72 n a) 69 12 (nI (n + 1))) ∨ (¬ (¬ a < 0 ∧ ¬ 7 < a ∧ n < 24) ∧ v = 0 ∧ M' = q_up M 69 33 0)) := by
  refine q_CI.of f_Rf_type [.ref 69, .int a] rfl rfl (fun v M' hv => ⟨.boolean, rfl, by rcases hv with hv | hv <;> (rw [hv.2.1]; rfl)⟩) (fun S h => ?_)
  have hn' : (q_up M 69 33 0).1 69 12 = nI n := by rw [q_up_oth (by decide)]; exact hn
  by_cases h1 : a < 0
  · exact p_Rf_type_0_3 h ⟨h1, Or.inr ⟨fun z => z.1 h1, rfl, rfl⟩⟩
  by_cases h2 : 7 < a
  · exact p_Rf_type_0_2 h ⟨h1, h2, Or.inr ⟨fun z => z.2.1 h2, rfl, rfl⟩⟩
  by_cases h3 : n < 24
  · refine p_Rf_type_0_1 h ⟨h1, h2, ?_, ?_, ?_⟩
    · rw [hn', show (24 : Int32) = nI 24 from rfl, nI_eq (by omega) (by omega)]; omega
    · rw [hn']; exact ok_of (N := 24) rfl h3 (by decide)
    · rw [hn', nI_clamp (by omega), q_up_ne (M := q_up M 69 33 0) (h := 72) 69 (by decide), hn', nI_1]
      exact Or.inl ⟨⟨h1, h2, h3⟩, rfl, rfl⟩
  · refine p_Rf_type_0_0 h ⟨h1, h2, ?_, Or.inr ⟨fun z => h3 z.2.2, rfl, rfl⟩⟩
    rw [hn', show (24 : Int32) = nI 24 from rfl, nI_eq (by omega) (by omega)]; omega
theorem c_erase (M : qM) : q_CV TS CL SHP 0 y_CS_erase [.ref 0] M (fun M' => M' = q_up M 6 1 0) :=
  q_CV.of f_CS_erase [.ref 0] rfl rfl rfl (fun _ h => p_CS_erase_0_0 h rfl)
theorem r_erase (M : qM) : q_CV TS CL SHP 0 y_Rf_erase [.ref 69] M (fun M' => M' = q_up (q_up M 69 33 0) 69 12 0) :=
  q_CV.of f_Rf_erase [.ref 69] rfl rfl rfl (fun _ h => p_Rf_erase_0_0 h rfl)
theorem r_thrown (M : qM) : q_CI TS CL SHP 0 y_Rf_thrown [.ref 69] M (fun v M' => v = M.1 69 33 ∧ M' = M) :=
  q_CI.of f_Rf_thrown [.ref 69] rfl rfl (fun _ _ _ => ⟨.int, rfl, rfl⟩) (fun _ h => p_Rf_thrown_0_0 h ⟨rfl, rfl⟩)
