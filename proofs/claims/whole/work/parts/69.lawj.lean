/-! THE LAW'S LOOP: a turn of every kind but begin, next, go -/
theorem i5_ge {i L : Nat} (h : i + 5 ≤ L) (hL : L ≤ 2560) : ¬ (Int32.ofNat L - 5) < nI i := by
  show ¬ (nI L - nI 5) < nI i
  rw [nI_sub (by omega)]
  exact nI_nlt (by omega) (by omega)
theorem i5_lt {i L : Nat} (h : L ≤ i + 4) (hL : L ≤ 2560) (hi : i ≤ 3000) : (Int32.ofNat L - 5) < nI i := by
  show (nI L - 5) < nI i
  rw [n_lt, n_sub, nI_toInt (by omega), nI_toInt (by omega), show (5 : Int32).toInt = 5 from rfl]
  · omega
  · rw [nI_toInt (by omega), show (5 : Int32).toInt = 5 from rfl]; omega
  · rw [nI_toInt (by omega), show (5 : Int32).toInt = 5 from rfl]; omega
abbrev lv7 (i : Nat) : List Value := [.ref 1000, .ref 0, .ref 69, .ref 87, .int (nI i), .null, .null]
set_option maxHeartbeats 4000000 in
theorem law_iter {S : Nat → List Value → List Value → qM → Prop} {Rt : Option Int32 → qM → Prop} {L : Nat} {xs : Nat → Int32} (h : q_Mach TS CL TY SHP (L + 1, xs) E_La t_La_law 9 S Rt) {i : Nat} {M : qM} (hI : Inv M) (hi : i + 5 ≤ L) (hL : L ≤ 2560)
    (k : ∀ M', Inv M' → S 23 (lv7 (i + 5)) [] M') (k9 : S 389 (lv7 i) [.ref 87, .ref 0] M) (k10 : S 433 (lv7 i) [.ref 87, .ref 0] M) (k11 : S 483 (lv7 i) [.ref 87, .int (xs (nI i + 1).toNatClampNeg), .ref 0] M) : S 23 (lv7 i) [] M := by
  have kk : ∀ M', Inv M' → S 23 [.ref 1000, .ref 0, .ref 69, .ref 87, .int (nI i + 5), .null, .null] [] M' := fun M' hM => by rw [show nI i + 5 = nI (i + 5) from nI_add i 5]; exact k M' hM
  have pos : (1000 : Nat) = 1000 ∧ 0 < ((L + 1, xs) : Nat × (Nat → Int32)).1 := ⟨rfl, Nat.succ_pos _⟩
  have b5 : ¬ (Int32.ofNat (((L + 1, xs) : Nat × (Nat → Int32)).1 - 1) - 5) < nI i := i5_ge hi hL
  have v0 : (1000 : Nat) = 1000 ∧ vp_in (nI i) (((L + 1, xs) : Nat × (Nat → Int32)).1 - 1) := ⟨rfl, vp_in_nI (N := L) (by omega) (by omega)⟩
  have v1 : (1000 : Nat) = 1000 ∧ vp_in (nI i + 1) (((L + 1, xs) : Nat × (Nat → Int32)).1 - 1) := ⟨rfl, by rw [nI_1]; exact vp_in_nI (N := L) (by omega) (by omega)⟩
  have v2 : (1000 : Nat) = 1000 ∧ vp_in (nI i + 2) (((L + 1, xs) : Nat × (Nat → Int32)).1 - 1) := ⟨rfl, by rw [show nI i + 2 = nI (i + 2) from nI_add i 2]; exact vp_in_nI (N := L) (by omega) (by omega)⟩
  have v3 : (1000 : Nat) = 1000 ∧ vp_in (nI i + 3) (((L + 1, xs) : Nat × (Nat → Int32)).1 - 1) := ⟨rfl, by rw [show nI i + 3 = nI (i + 3) from nI_add i 3]; exact vp_in_nI (N := L) (by omega) (by omega)⟩
  have v4 : (1000 : Nat) = 1000 ∧ vp_in (nI i + 4) (((L + 1, xs) : Nat × (Nat → Int32)).1 - 1) := ⟨rfl, by rw [show nI i + 4 = nI (i + 4) from nI_add i 4]; exact vp_in_nI (N := L) (by omega) (by omega)⟩
  obtain ⟨zs, hzL, hzB, hz7, hz72, hz6, hz12⟩ := hI.2.2.1
  obtain ⟨⟨hR71, hRB⟩, hMd⟩ := hI.2.2.2
  by_cases hd : ((xs (nI i).toNatClampNeg) &&& 31).toInt < 0 ∨ 16 < ((xs (nI i).toNatClampNeg) &&& 31).toInt
  · exact p_La_law_23_17 h ⟨pos, b5, v0, hd, kk M hI⟩
  obtain ⟨n, hn, hz⟩ : ∃ n : Nat, n ≤ 16 ∧ ((xs (nI i).toNatClampNeg) &&& 31).toInt = (n : Int) := ⟨((xs (nI i).toNatClampNeg) &&& 31).toInt.toNat, by omega, by omega⟩
  match n, hn, hz with
  | 0, _, hz =>
    refine p_La_law_23_0 h ⟨pos, b5, v0, ⟨hz, by decide⟩, v1, v2, v3, 1, _, by decide, c_put M _ _, fun w1 M1 g1 => ⟨v1, v2, v3, 1, _, by decide, r_put M1 _ _, fun w2 M2 g2 => p_La_law_184_1 h ⟨g1.1.trans g2.1.symm, kk M2 (j_put hI g1.2 g2.2)⟩⟩⟩
  | 1, _, hz =>
    refine p_La_law_23_1 h ⟨pos, b5, v0, ⟨hz, by decide⟩, v1, v2, v3, 1, _, by decide, c_fill M _ _ _, fun w1 M1 g1 => ⟨v1, v2, v3, 1, _, by decide, r_fill M1 _ _ _, fun w2 M2 g2 => p_La_law_233_1 h ⟨g1.1.trans g2.1.symm, kk M2 (j_fill hI g1.2 g2.2)⟩⟩⟩
  | 2, _, hz =>
    refine p_La_law_23_2 h ⟨pos, b5, v0, ⟨hz, by decide⟩, v1, 1, _, by decide, c_size M _, fun w1 M1 g1 => ⟨v1, 1, _, by decide, r_size M1 _, fun w2 M2 g2 => p_La_law_258_1 h ⟨g1.1.trans g2.1.symm, kk M2 ?_⟩⟩⟩
    by_cases q : s_sOk (xs (nI i + 1).toNatClampNeg)
    · rw [g2.2, if_pos q, g1.2, if_pos q]; exact j_size hI q
    · rw [g2.2, if_neg q, g1.2, if_neg q]; exact hI.up33
  | 3, _, hz =>
    obtain ⟨n, hn, n1, n2⟩ := hI.2.1
    by_cases q : s_fault (M.1 2) (M.1 1 1) = 0
    · have q' := q
      rw [n1] at q'
      obtain ⟨hc, hf, hp⟩ := s_fault0 hn q'
      refine p_La_law_23_3 h ⟨pos, b5, v0, ⟨hz, by decide⟩, 3, _, by decide, c_loadOk hc q hf hp hI.1.2, fun w1 M1 g1 => ?_⟩
      obtain ⟨x1, x2⟩ := g1
      have e70 : M1.1 70 = M.1 2 := by rw [x2.2.2.2.2.2.1 70 (by omega)]; exact hI.1.1
      have e69 : M1.1 69 = M.1 69 := x2.2.2.2.2.2.1 69 (by omega)
      refine ⟨3, _, by decide, r_loadOk (c := cfg (M.1 2)) (by rw [e70, e69, n2, ← n1]; exact q) (by rw [e70]; exact hf), fun w2 M2 g2 => ?_⟩
      exact p_La_law_271_1 h ⟨x1.trans g2.1.symm, kk M2 (j_load hI hc hp x2 g2.2)⟩
    · refine p_La_law_23_3 h ⟨pos, b5, v0, ⟨hz, by decide⟩, 3, _, by decide, c_loadNo q (hI.1.2 6), fun w1 M1 g1 => ?_⟩
      obtain ⟨x1, e⟩ := g1; obtain rfl := e.symm
      refine ⟨3, _, by decide, r_loadNo (by rw [hI.1.1, n2, ← n1]; exact (s_fault_neg _ _).resolve_left q), fun w2 M2 g2 => ?_⟩
      obtain ⟨y1, rfl⟩ := g2
      exact p_La_law_271_1 h ⟨by rw [x1, y1, hI.1.1, n2, n1], kk _ hI.up33⟩
  | 4, _, hz =>
    refine p_La_law_23_4 h ⟨pos, b5, v0, ⟨hz, by decide⟩, v1, 1, _, by decide, c_type hz6 hzL _, fun w1 M1 g1 => ?_⟩
    rcases g1 with ⟨q, rfl, rfl⟩ | ⟨q, rfl, rfl⟩
    · refine ⟨v1, 1, _, by decide, r_type (n := zs.length) (by rw [q_up_ne 69 (by decide), q_up_ne 69 (by decide)]; exact hz12) hzL _, fun w2 M2 g2 => ?_⟩
      rcases g2 with ⟨-, rfl, rfl⟩ | ⟨q2, -⟩
      · exact p_La_law_296_1 h ⟨rfl, kk _ (j_type hI q hzB hz7 hz72)⟩
      · exact absurd q q2
    · refine ⟨v1, 1, _, by decide, r_type (n := zs.length) hz12 hzL _, fun w2 M2 g2 => ?_⟩
      rcases g2 with ⟨q2, -⟩ | ⟨-, rfl, rfl⟩
      · exact absurd q2 q
      · exact p_La_law_296_1 h ⟨rfl, kk _ hI.up33⟩
  | 5, _, hz =>
    refine p_La_law_23_5 h ⟨pos, b5, v0, ⟨hz, by decide⟩, 0, _, by decide, c_erase M, fun M1 g1 => ?_⟩
    subst g1
    refine ⟨0, _, by decide, r_erase _, fun M2 g2 => ?_⟩
    subst g2
    exact kk _ (j_erase hI)
  | 6, _, hz =>
    rcases hMd with ⟨m1, m2, m3⟩ | ⟨c, hc, hLC, hLR, hrun⟩
    · refine p_La_law_23_6 h ⟨pos, b5, v0, ⟨hz, by decide⟩, 2, _, by decide, c_tokens0 m1, fun w1 M1 g1 => ?_⟩
      obtain ⟨x1, e⟩ := g1; obtain rfl := e.symm
      refine ⟨4, _, by decide, r_tokens0 m2, fun w2 M2 g2 => ?_⟩
      obtain ⟨y1, rfl⟩ := g2
      exact p_La_law_320_1 h ⟨x1.trans y1.symm, kk _ hI.up33⟩
    · refine p_La_law_23_6 h ⟨pos, b5, v0, ⟨hz, by decide⟩, 2, _, by decide, c_tokens1 hc hLC hzB hz7 hz6 hzL, fun w1 M1 g1 => ?_⟩
      obtain ⟨x1, x2, x3⟩ := g1
      have I1 : Inv M1 := hI.to (fun x hx => x3.1 x (by omega)) (x2 1 (by decide)) (fun j _ _ => by rw [x3.1 69 (by omega)])
      have e69 : M1.1 69 = M.1 69 := x3.1 69 (by omega)
      refine ⟨4, _, by decide, r_tokens1 (c := c) (xs := zs) hc (hLR.to2 (fun k _ _ => by rw [e69]) (x3.1 71 (by omega))) hzB (by rw [x3.1 72 (by omega)]; exact hz72) (by rw [e69]; exact hz12) hzL, fun w2 M2 g2 => ?_⟩
      obtain ⟨y1, y2, y3⟩ := g2
      exact p_La_law_320_1 h ⟨by rw [x1, y1, x3.1 71 (by omega), hR71], kk _ (I1.to (fun x hx => y3.1 x (by omega)) (by rw [y3.1 6 (by omega)]) y2)⟩
  | 7, _, hz =>
    rcases hMd with ⟨m1, m2, m3⟩ | ⟨c, hc, hLC, hLR, hrun⟩
    · refine p_La_law_23_7 h ⟨pos, b5, v0, ⟨hz, by decide⟩, v1, 2, _, by decide, c_token0 m1 _, fun w1 M1 g1 => ?_⟩
      obtain ⟨x1, e⟩ := g1; obtain rfl := e.symm
      refine ⟨v1, 4, _, by decide, r_token0 m2 _, fun w2 M2 g2 => ?_⟩
      obtain ⟨y1, rfl⟩ := g2
      exact p_La_law_345_1 h ⟨x1.trans y1.symm, kk _ hI.up33⟩
    · refine p_La_law_23_7 h ⟨pos, b5, v0, ⟨hz, by decide⟩, v1, 2, _, by decide, c_token1 hc hLC hzB hz7 hz6 hzL _, fun w1 M1 g1 => ?_⟩
      obtain ⟨x1, x2, x3⟩ := g1
      have I1 : Inv M1 := hI.to (fun x hx => x3.1 x (by omega)) (x2 1 (by decide)) (fun j _ _ => by rw [x3.1 69 (by omega)])
      have e69 : M1.1 69 = M.1 69 := x3.1 69 (by omega)
      refine ⟨v1, 4, _, by decide, r_token1 (c := c) (xs := zs) hc (hLR.to2 (fun k _ _ => by rw [e69]) (x3.1 71 (by omega))) hzB (by rw [x3.1 72 (by omega)]; exact hz72) (by rw [e69]; exact hz12) hzL _, fun w2 M2 g2 => ?_⟩
      obtain ⟨y1, y2, y3⟩ := g2
      exact p_La_law_345_1 h ⟨by rw [x1, y1, x3.1 71 (by omega), hR71], kk _ (I1.to (fun x hx => y3.1 x (by omega)) (by rw [y3.1 6 (by omega)]) y2)⟩
  | 8, _, hz =>
    rcases hMd with ⟨m1, m2, m3⟩ | ⟨c, hc, hLC, hLR, hrun⟩
    · refine p_La_law_23_8 h ⟨pos, b5, v0, ⟨hz, by decide⟩, v1, v2, 2, _, by decide, c_spell0 m1 _ _, fun w1 M1 g1 => ?_⟩
      obtain ⟨x1, e⟩ := g1; obtain rfl := e.symm
      refine ⟨v1, v2, 2, _, by decide, r_spell0 m2 _ _, fun w2 M2 g2 => ?_⟩
      obtain ⟨y1, rfl⟩ := g2
      exact p_La_law_382_1 h ⟨x1.trans y1.symm, kk _ hI.up33⟩
    · refine p_La_law_23_8 h ⟨pos, b5, v0, ⟨hz, by decide⟩, v1, v2, 2, _, by decide, c_spell1 hc hLC _ _, fun w1 M1 g1 => ?_⟩
      obtain ⟨x1, e⟩ := g1; obtain rfl := e.symm
      refine ⟨v1, v2, 2, _, by decide, r_spell1 (z := M.1 5) hc hLR (by rw [hR71]; exact hLC.2.2.2) _ _, fun w2 M2 g2 => ?_⟩
      obtain ⟨y1, y2, y3⟩ := g2
      exact p_La_law_382_1 h ⟨by rw [x1, y1, hR71], kk _ (hI.to (fun x hx => y3.1 x (by omega)) (by rw [y3.1 6 (by omega)]) (fun j _ h33 => y2 j h33))⟩
  | 9, _, hz => exact p_La_law_23_9 h ⟨pos, b5, v0, ⟨hz, by decide⟩, k9⟩
  | 10, _, hz => exact p_La_law_23_10 h ⟨pos, b5, v0, ⟨hz, by decide⟩, k10⟩
  | 11, _, hz => exact p_La_law_23_11 h ⟨pos, b5, v0, ⟨hz, by decide⟩, v1, k11⟩
  | 12, _, hz =>
    have noR : noRun M → S 23 (lv7 i) [] M := fun m3 => by
      refine p_La_law_23_12 h ⟨pos, b5, v0, ⟨hz, by decide⟩, v1, 0, _, by decide, c_output (o := 0) (f := fun _ => 0) (by decide) m3.2.2.1 (fun k hk => absurd hk (by omega)) _, fun w1 M1 g1 => ?_⟩
      obtain ⟨x1, e⟩ := g1; obtain rfl := e.symm
      refine ⟨v1, 0, _, by decide, r_output0 m3.1 _, fun w2 M2 g2 => ?_⟩
      obtain ⟨y1, rfl⟩ := g2
      refine p_La_law_551_1 h ⟨?_, kk _ hI.up33⟩
      rw [x1, y1]
      unfold s_out
      rw [if_neg (fun z => z.1 (by have := z.2; rw [nI_0] at this; exact this))]
    rcases hMd with ⟨m1, m2, m3⟩ | ⟨c, hc, hLC, hLR, hrun⟩
    · exact noR m3
    · rcases hrun with m3 | ⟨r, ho, rC, rR⟩
      · exact noR m3
      · have h12 : c 4 ≤ 12 := hc.2.2.2.2.2.2.1
        have hr1 := ho.2.1
        have hr2 := ho.2.2.1
        refine p_La_law_23_12 h ⟨pos, b5, v0, ⟨hz, by decide⟩, v1, 0, _, by decide, c_output (o := r.2.1) (f := r.2.2.2.1) (by omega) rC.2.1 rC.2.2.2.2.2 _, fun w1 M1 g1 => ?_⟩
        obtain ⟨x1, e⟩ := g1; obtain rfl := e.symm
        refine ⟨v1, 0, _, by decide, r_output1 (o := r.2.1) (f := r.2.2.2.1) rR.1 (by omega) rR.2.2.2.1 rR.2.2.2.2.2.2.2 _, fun w2 M2 g2 => ?_⟩
        obtain ⟨y1, rfl⟩ := g2
        exact p_La_law_551_1 h ⟨x1.trans y1.symm, kk _ hI.up33⟩
  | 13, _, hz =>
    have noR : noRun M → S 23 (lv7 i) [] M := fun m3 => by
      refine p_La_law_23_13 h ⟨pos, b5, v0, ⟨hz, by decide⟩, 0, _, by decide, c_taken M, fun w1 M1 g1 => ?_⟩
      obtain ⟨x1, e⟩ := g1; obtain rfl := e.symm
      refine ⟨0, _, by decide, r_taken0 m3.1, fun w2 M2 g2 => ?_⟩
      obtain ⟨y1, rfl⟩ := g2
      exact p_La_law_564_1 h ⟨by rw [x1, y1, m3.2.1], kk _ hI.up33⟩
    rcases hMd with ⟨m1, m2, m3⟩ | ⟨c, hc, hLC, hLR, hrun⟩
    · exact noR m3
    · rcases hrun with m3 | ⟨r, ho, rC, rR⟩
      · exact noR m3
      · refine p_La_law_23_13 h ⟨pos, b5, v0, ⟨hz, by decide⟩, 0, _, by decide, c_taken M, fun w1 M1 g1 => ?_⟩
        obtain ⟨x1, e⟩ := g1; obtain rfl := e.symm
        refine ⟨0, _, by decide, r_taken1 rR.1, fun w2 M2 g2 => ?_⟩
        obtain ⟨y1, rfl⟩ := g2
        exact p_La_law_564_1 h ⟨by rw [x1, y1, rC.1, rR.2.2.1], kk _ hI.up33⟩
  | 14, _, hz =>
    have noR : noRun M → S 23 (lv7 i) [] M := fun m3 => by
      refine p_La_law_23_14 h ⟨pos, b5, v0, ⟨hz, by decide⟩, 0, _, by decide, c_running (g := false) m3.2.2.2, fun w1 M1 g1 => ?_⟩
      obtain ⟨x1, e⟩ := g1; obtain rfl := e.symm
      refine ⟨0, _, by decide, r_running0 m3.1, fun w2 M2 g2 => ?_⟩
      obtain ⟨y1, rfl⟩ := g2
      exact p_La_law_577_1 h ⟨by rw [x1, y1]; rfl, kk _ hI.up33⟩
    rcases hMd with ⟨m1, m2, m3⟩ | ⟨c, hc, hLC, hLR, hrun⟩
    · exact noR m3
    · rcases hrun with m3 | ⟨r, ho, rC, rR⟩
      · exact noR m3
      · refine p_La_law_23_14 h ⟨pos, b5, v0, ⟨hz, by decide⟩, 0, _, by decide, c_running rC.2.2.1, fun w1 M1 g1 => ?_⟩
        obtain ⟨x1, e⟩ := g1; obtain rfl := e.symm
        refine ⟨0, _, by decide, r_running1 rR.1 rR.2.1, fun w2 M2 g2 => ?_⟩
        obtain ⟨y1, rfl⟩ := g2
        exact p_La_law_577_1 h ⟨x1.trans y1.symm, kk _ hI.up33⟩
  | 15, _, hz =>
    have noR : noRun M → S 23 (lv7 i) [] M := fun m3 => by
      refine p_La_law_23_15 h ⟨pos, b5, v0, ⟨hz, by decide⟩, v1, 1, _, by decide, c_sum0 m3.2.1 _, fun w1 M1 g1 => ?_⟩
      obtain ⟨x1, e⟩ := g1; obtain rfl := e.symm
      refine ⟨v1, 0, _, by decide, r_sum0 m3.1 _, fun w2 M2 g2 => ?_⟩
      obtain ⟨y1, rfl⟩ := g2
      exact p_La_law_602_1 h ⟨x1.trans y1.symm, kk _ hI.up33⟩
    rcases hMd with ⟨m1, m2, m3⟩ | ⟨c, hc, hLC, hLR, hrun⟩
    · exact noR m3
    · rcases hrun with m3 | ⟨r, ho, rC, rR⟩
      · exact noR m3
      · have h12 : c 4 ≤ 12 := hc.2.2.2.2.2.2.1
        have hr1 := ho.2.1
        refine p_La_law_23_15 h ⟨pos, b5, v0, ⟨hz, by decide⟩, v1, 1, _, by decide, c_sum1 hc hLC.1 rC.1 ho.1 (by omega) rC.2.2.2.2.1 _, fun w1 M1 g1 => ?_⟩
        obtain ⟨x1, e⟩ := g1; obtain rfl := e.symm
        refine ⟨v1, 0, _, by decide, r_sum1 hc hLR.1 rR.1 rR.2.2.2.2.2.2.1 _, fun w2 M2 g2 => ?_⟩
        obtain ⟨y1, rfl⟩ := g2
        exact p_La_law_602_1 h ⟨x1.trans y1.symm, kk _ hI.up33⟩
  | 16, _, hz =>
    have noR : noRun M → S 23 (lv7 i) [] M := fun m3 => by
      refine p_La_law_23_16 h ⟨pos, b5, v0, ⟨hz, by decide⟩, v1, v2, v3, v4, 1, _, by decide, c_kept0 m3.2.1 _ _ _ _, fun w1 M1 g1 => ?_⟩
      obtain ⟨x1, e⟩ := g1; obtain rfl := e.symm
      refine ⟨v1, v2, v3, v4, 0, _, by decide, r_kept0 m3.1 _ _ _ _, fun w2 M2 g2 => ?_⟩
      obtain ⟨y1, rfl⟩ := g2
      exact p_La_law_663_1 h ⟨x1.trans y1.symm, kk _ hI.up33⟩
    rcases hMd with ⟨m1, m2, m3⟩ | ⟨c, hc, hLC, hLR, hrun⟩
    · exact noR m3
    · rcases hrun with m3 | ⟨r, ho, rC, rR⟩
      · exact noR m3
      · have h12 : c 4 ≤ 12 := hc.2.2.2.2.2.2.1
        have hr1 := ho.2.1
        refine p_La_law_23_16 h ⟨pos, b5, v0, ⟨hz, by decide⟩, v1, v2, v3, v4, 1, _, by decide, c_kept1 hc hLC.1 rC.1 (by omega) rC.2.2.2.1 _ _ _ _, fun w1 M1 g1 => ?_⟩
        obtain ⟨x1, e⟩ := g1; obtain rfl := e.symm
        refine ⟨v1, v2, v3, v4, 0, _, by decide, r_kept1 hc hLR.1 rR.1 rR.2.2.1 (by omega) rR.2.2.2.2.2.1 _ _ _ _, fun w2 M2 g2 => ?_⟩
        obtain ⟨y1, rfl⟩ := g2
        exact p_La_law_663_1 h ⟨x1.trans y1.symm, kk _ hI.up33⟩
  | n + 17, hn, _ => exact absurd hn (by omega)
