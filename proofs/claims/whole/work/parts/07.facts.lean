/-! what a program decides of the tables -/
theorem TS_good : q_good TS := by
  have h : TS.all goodWord = true := by decide +kernel
  exact fun w hw => good_of_word (List.all_eq_true.mp h w hw)
theorem qc_CS : (∀ w ∈ u_ws "CachedSpeaker" qF_CS 4, w ∈ TS) ∧ (∀ k, k < 4 → parseFieldDescriptor (qF_CS k).2.2.1 = some (qt_CS k)) ∧ (∀ a, a < 4 → ∀ b, b < 4 → a ≠ b → (qF_CS a).2.1 ≠ (qF_CS b).2.1) := ⟨by decide +kernel, by decide +kernel, by decide +kernel⟩
theorem qc_Im : (∀ w ∈ u_ws "CachedSpeaker$Image" qF_Im 2, w ∈ TS) ∧ (∀ k, k < 2 → parseFieldDescriptor (qF_Im k).2.2.1 = some (qt_Im k)) ∧ (∀ a, a < 2 → ∀ b, b < 2 → a ≠ b → (qF_Im a).2.1 ≠ (qF_Im b).2.1) := ⟨by decide +kernel, by decide +kernel, by decide +kernel⟩
theorem qc_Mo : (∀ w ∈ u_ws "CachedSpeaker$Model" qF_Mo 18, w ∈ TS) ∧ (∀ k, k < 18 → parseFieldDescriptor (qF_Mo k).2.2.1 = some (qt_Mo k)) ∧ (∀ a, a < 18 → ∀ b, b < 18 → a ≠ b → (qF_Mo a).2.1 ≠ (qF_Mo b).2.1) := ⟨by decide +kernel, by decide +kernel, by decide +kernel⟩
theorem qc_Pr : (∀ w ∈ u_ws "CachedSpeaker$Prompt" qF_Pr 4, w ∈ TS) ∧ (∀ k, k < 4 → parseFieldDescriptor (qF_Pr k).2.2.1 = some (qt_Pr k)) ∧ (∀ a, a < 4 → ∀ b, b < 4 → a ≠ b → (qF_Pr a).2.1 ≠ (qF_Pr b).2.1) := ⟨by decide +kernel, by decide +kernel, by decide +kernel⟩
theorem qc_Ru : (∀ w ∈ u_ws "CachedSpeaker$Run" qF_Ru 15, w ∈ TS) ∧ (∀ k, k < 15 → parseFieldDescriptor (qF_Ru k).2.2.1 = some (qt_Ru k)) ∧ (∀ a, a < 15 → ∀ b, b < 15 → a ≠ b → (qF_Ru a).2.1 ≠ (qF_Ru b).2.1) := ⟨by decide +kernel, by decide +kernel, by decide +kernel⟩
theorem qc_Rf : (∀ w ∈ u_ws "CachedSpeakerModel" qF_Rf 34, w ∈ TS) ∧ (∀ k, k < 34 → parseFieldDescriptor (qF_Rf k).2.2.1 = some (qt_Rf k)) ∧ (∀ a, a < 34 → ∀ b, b < 34 → a ≠ b → (qF_Rf a).2.1 ≠ (qF_Rf b).2.1) := ⟨by decide +kernel, by decide +kernel, by decide +kernel⟩
theorem CL_ok : q_cls CL TY TS := by
  intro ci q h
  match ci, h with
  | 0, h => cases h; exact qc_CS
  | 1, h => cases h; exact qc_Im
  | 2, h => cases h; exact qc_Mo
  | 3, h => cases h; exact qc_Pr
  | 4, h => cases h; exact qc_Ru
  | 5, h => cases h; exact qc_Rf
  | n + 6, h => simp [CL] at h
theorem SHP_ok : q_shp SHP CL := q_shp_of (by decide +kernel)
theorem SHP_len : SHP.length ≤ 1000 := by decide +kernel
set_option maxRecDepth 100000 in
theorem jd_max : Cond.code Lib.Math.max.name Lib.Math.max.code 2 (some .int) ∈ TS := List.mem_of_getElem? (i := 496) (by first | rfl | decide +kernel)
set_option maxRecDepth 100000 in
theorem jd_min : Cond.code Lib.Math.min.name Lib.Math.min.code 2 (some .int) ∈ TS := List.mem_of_getElem? (i := 493) (by first | rfl | decide +kernel)
theorem qf_Wh : q_fld "CachedSpeaker$Whole" E_Wh CL TS := q_fld_of (by decide +kernel)
set_option maxRecDepth 100000 in
theorem ql_Wh : q_lnk "CachedSpeaker$Whole" E_Wh CL TS := q_lnk_of [296, 293] rfl (by decide +kernel)
theorem qj_Wh : q_jdk "CachedSpeaker$Whole" E_Wh TS := q_jdk_of jd_max jd_min (by decide +kernel)
theorem qf_Im : q_fld "CachedSpeaker$Image" E_Im CL TS := q_fld_of (by decide +kernel)
set_option maxRecDepth 100000 in
theorem ql_Im : q_lnk "CachedSpeaker$Image" E_Im CL TS := q_lnk_of [274, 277, 280, 283] rfl (by decide +kernel)
theorem qj_Im : q_jdk "CachedSpeaker$Image" E_Im TS := q_jdk_of jd_max jd_min (by decide +kernel)
theorem qf_Mo : q_fld "CachedSpeaker$Model" E_Mo CL TS := q_fld_of (by decide +kernel)
set_option maxRecDepth 100000 in
theorem ql_Mo : q_lnk "CachedSpeaker$Model" E_Mo CL TS := q_lnk_of [293, 283, 300, 304, 308, 480, 500, 541, 487, 490, 508] rfl (by decide +kernel)
theorem qj_Mo : q_jdk "CachedSpeaker$Model" E_Mo TS := q_jdk_of jd_max jd_min (by decide +kernel)
theorem qf_Pr : q_fld "CachedSpeaker$Prompt" E_Pr CL TS := q_fld_of (by decide +kernel)
set_option maxRecDepth 100000 in
theorem ql_Pr : q_lnk "CachedSpeaker$Prompt" E_Pr CL TS := q_lnk_of [304, 308, 339] rfl (by decide +kernel)
theorem qj_Pr : q_jdk "CachedSpeaker$Prompt" E_Pr TS := q_jdk_of jd_max jd_min (by decide +kernel)
theorem qf_Ru : q_fld "CachedSpeaker$Run" E_Ru CL TS := q_fld_of (by decide +kernel)
set_option maxRecDepth 100000 in
theorem ql_Ru : q_lnk "CachedSpeaker$Run" E_Ru CL TS := q_lnk_of [312, 468, 472, 475, 528, 484, 550, 382, 480, 500, 505, 511, 522, 525, 514, 518, 293, 532, 537, 544, 541] rfl (by decide +kernel)
theorem qj_Ru : q_jdk "CachedSpeaker$Run" E_Ru TS := q_jdk_of jd_max jd_min (by decide +kernel)
theorem qf_CS : q_fld "CachedSpeaker" E_CS CL TS := q_fld_of (by decide +kernel)
set_option maxRecDepth 100000 in
theorem ql_CS : q_lnk "CachedSpeaker" E_CS CL TS := q_lnk_of [249, 257, 271, 287, 312, 320, 333, 351, 355, 464, 561, 375, 382] rfl (by decide +kernel)
theorem qj_CS : q_jdk "CachedSpeaker" E_CS TS := q_jdk_of jd_max jd_min (by decide +kernel)
theorem qf_Rf : q_fld "CachedSpeakerModel" E_Rf CL TS := q_fld_of (by decide +kernel)
set_option maxRecDepth 100000 in
theorem ql_Rf : q_lnk "CachedSpeakerModel" E_Rf CL TS := q_lnk_of [778, 688, 708, 711, 705, 736, 739, 733, 730, 742, 727, 760, 763, 781, 784, 772, 775, 787, 793, 769, 790, 796, 766, 757, 803] rfl (by decide +kernel)
theorem qj_Rf : q_jdk "CachedSpeakerModel" E_Rf TS := q_jdk_of jd_max jd_min (by decide +kernel)
theorem qf_La : q_fld "CachedSpeakerLaw" E_La CL TS := q_fld_of (by decide +kernel)
set_option maxRecDepth 100000 in
theorem ql_La : q_lnk "CachedSpeakerLaw" E_La CL TS := q_lnk_of [245, 685, 253, 692, 263, 698, 267, 702, 316, 715, 324, 719, 328, 723, 343, 746, 347, 750, 754, 681, 800, 807, 359, 811, 363, 815, 367, 819, 371, 823, 379, 827] rfl (by decide +kernel)
theorem qj_La : q_jdk "CachedSpeakerLaw" E_La TS := q_jdk_of jd_max jd_min (by decide +kernel)
theorem qf_Ma : q_fld "java/lang/Math" E_Ma CL TS := q_fld_of (by decide +kernel)
set_option maxRecDepth 100000 in
theorem ql_Ma : q_lnk "java/lang/Math" E_Ma CL TS := q_lnk_of [] rfl (by decide +kernel)
theorem qj_Ma : q_jdk "java/lang/Math" E_Ma TS := q_jdk_of jd_max jd_min (by decide +kernel)
