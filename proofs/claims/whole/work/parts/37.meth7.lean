/-! PURE ROWS: account, undo, save, restore, append, character, painted, meanSize -/
theorem j_0 : (0 : Int32) = nI 0 := by decide +kernel
theorem j_1 : (1 : Int32) = nI 1 := by decide +kernel
theorem j_2 : (2 : Int32) = nI 2 := by decide +kernel
theorem j_3 : (3 : Int32) = nI 3 := by decide +kernel
theorem j_4 : (4 : Int32) = nI 4 := by decide +kernel
theorem j_5 : (5 : Int32) = nI 5 := by decide +kernel
theorem j_6 : (6 : Int32) = nI 6 := by decide +kernel
theorem j_7 : (7 : Int32) = nI 7 := by decide +kernel
theorem j_8 : (8 : Int32) = nI 8 := by decide +kernel
theorem j_9 : (9 : Int32) = nI 9 := by decide +kernel
theorem j_10 : (10 : Int32) = nI 10 := by decide +kernel
theorem j_11 : (11 : Int32) = nI 11 := by decide +kernel
theorem j_12 : (12 : Int32) = nI 12 := by decide +kernel
theorem j_13 : (13 : Int32) = nI 13 := by decide +kernel
theorem j_14 : (14 : Int32) = nI 14 := by decide +kernel
theorem j_15 : (15 : Int32) = nI 15 := by decide +kernel
theorem j_16 : (16 : Int32) = nI 16 := by decide +kernel
theorem j_17 : (17 : Int32) = nI 17 := by decide +kernel
theorem j_18 : (18 : Int32) = nI 18 := by decide +kernel
theorem j_19 : (19 : Int32) = nI 19 := by decide +kernel
theorem j_20 : (20 : Int32) = nI 20 := by decide +kernel
theorem j_21 : (21 : Int32) = nI 21 := by decide +kernel
theorem j_22 : (22 : Int32) = nI 22 := by decide +kernel
theorem j_23 : (23 : Int32) = nI 23 := by decide +kernel
theorem j_24 : (24 : Int32) = nI 24 := by decide +kernel
theorem j_25 : (25 : Int32) = nI 25 := by decide +kernel
theorem j_26 : (26 : Int32) = nI 26 := by decide +kernel
theorem j_27 : (27 : Int32) = nI 27 := by decide +kernel
theorem j_28 : (28 : Int32) = nI 28 := by decide +kernel
theorem j_29 : (29 : Int32) = nI 29 := by decide +kernel
theorem j_30 : (30 : Int32) = nI 30 := by decide +kernel
theorem j_31 : (31 : Int32) = nI 31 := by decide +kernel
theorem j_32 : (32 : Int32) = nI 32 := by decide +kernel
theorem j_33 : (33 : Int32) = nI 33 := by decide +kernel
theorem j_34 : (34 : Int32) = nI 34 := by decide +kernel
theorem j_35 : (35 : Int32) = nI 35 := by decide +kernel
theorem j_36 : (36 : Int32) = nI 36 := by decide +kernel
theorem j_37 : (37 : Int32) = nI 37 := by decide +kernel
theorem j_38 : (38 : Int32) = nI 38 := by decide +kernel
theorem j_39 : (39 : Int32) = nI 39 := by decide +kernel
theorem j_40 : (40 : Int32) = nI 40 := by decide +kernel
theorem j_41 : (41 : Int32) = nI 41 := by decide +kernel
theorem j_42 : (42 : Int32) = nI 42 := by decide +kernel
theorem j_43 : (43 : Int32) = nI 43 := by decide +kernel
theorem j_44 : (44 : Int32) = nI 44 := by decide +kernel
theorem j_45 : (45 : Int32) = nI 45 := by decide +kernel
theorem j_46 : (46 : Int32) = nI 46 := by decide +kernel
theorem j_47 : (47 : Int32) = nI 47 := by decide +kernel
theorem j_48 : (48 : Int32) = nI 48 := by decide +kernel
theorem j_49 : (49 : Int32) = nI 49 := by decide +kernel
theorem j_50 : (50 : Int32) = nI 50 := by decide +kernel
theorem j_51 : (51 : Int32) = nI 51 := by decide +kernel
theorem j_52 : (52 : Int32) = nI 52 := by decide +kernel
theorem j_53 : (53 : Int32) = nI 53 := by decide +kernel
theorem j_54 : (54 : Int32) = nI 54 := by decide +kernel
theorem j_55 : (55 : Int32) = nI 55 := by decide +kernel
theorem j_56 : (56 : Int32) = nI 56 := by decide +kernel
theorem j_57 : (57 : Int32) = nI 57 := by decide +kernel
theorem j_58 : (58 : Int32) = nI 58 := by decide +kernel
theorem j_59 : (59 : Int32) = nI 59 := by decide +kernel
theorem j_60 : (60 : Int32) = nI 60 := by decide +kernel
theorem j_61 : (61 : Int32) = nI 61 := by decide +kernel
theorem j_62 : (62 : Int32) = nI 62 := by decide +kernel
theorem j_63 : (63 : Int32) = nI 63 := by decide +kernel
theorem j_97 : (97 : Int32) = nI 97 := by decide +kernel
theorem j_98 : (98 : Int32) = nI 98 := by decide +kernel
theorem j_99 : (99 : Int32) = nI 99 := by decide +kernel
theorem j_100 : (100 : Int32) = nI 100 := by decide +kernel
theorem j_101 : (101 : Int32) = nI 101 := by decide +kernel
theorem j_102 : (102 : Int32) = nI 102 := by decide +kernel
theorem j_103 : (103 : Int32) = nI 103 := by decide +kernel
theorem j_104 : (104 : Int32) = nI 104 := by decide +kernel
theorem j_105 : (105 : Int32) = nI 105 := by decide +kernel
theorem j_106 : (106 : Int32) = nI 106 := by decide +kernel
theorem j_107 : (107 : Int32) = nI 107 := by decide +kernel
theorem j_108 : (108 : Int32) = nI 108 := by decide +kernel
theorem j_109 : (109 : Int32) = nI 109 := by decide +kernel
theorem j_110 : (110 : Int32) = nI 110 := by decide +kernel
theorem j_111 : (111 : Int32) = nI 111 := by decide +kernel
theorem j_112 : (112 : Int32) = nI 112 := by decide +kernel
theorem j_113 : (113 : Int32) = nI 113 := by decide +kernel
theorem j_114 : (114 : Int32) = nI 114 := by decide +kernel
theorem j_115 : (115 : Int32) = nI 115 := by decide +kernel
theorem j_116 : (116 : Int32) = nI 116 := by decide +kernel
theorem j_117 : (117 : Int32) = nI 117 := by decide +kernel
theorem j_118 : (118 : Int32) = nI 118 := by decide +kernel
theorem j_119 : (119 : Int32) = nI 119 := by decide +kernel
theorem j_120 : (120 : Int32) = nI 120 := by decide +kernel
theorem j_121 : (121 : Int32) = nI 121 := by decide +kernel
theorem j_122 : (122 : Int32) = nI 122 := by decide +kernel
theorem j_128 : (128 : Int32) = nI 128 := by decide +kernel
theorem j_392 : (392 : Int32) = nI 392 := by decide +kernel
theorem j_448 : (448 : Int32) = nI 448 := by decide +kernel
theorem jM_def : (-1 : Int32) = iM := by decide +kernel
def acOf (σ : Sg) (j : Nat) : Int32 :=
  if j = 0 then nI (gN σ.1) else if j = 1 then nI (bor σ.1) else if j = 2 then nI (gU σ.1) else if j = 3 then nI (gS σ.1) else if j = 4 then nI (cnt (stk σ.1) (gN σ.1)) else if j = 5 then nI (gS σ.1)
  else if j = 6 then smI (po σ.1) 5 else if j = 7 then smI (us σ.1) 5 else if j = 8 then σ.1 55 else if j = 9 then nI (cnt (fun c => !decide (wi σ.1 c = iM)) (gN σ.1)) else if j = 10 then nI (cnt (ful σ.1) (gN σ.1)) else if j = 11 then nI σ.2.2.2.1.1 else nI σ.2.1.length
section
variable {V V' : VT} {σ : Sg} {g : Row} {E2 : String}
theorem i_countStuck (r : LR V 1 g) (w : WF g) : d_X1_countStuck V = some (nI (cnt (stk g) (gN g))) := by
  have n7 := wf_n7 w
  unfold d_X1_countStuck d_X1_countStuck_4
  refine lo2_inv (gN g) (fun k y0 => y0 = nI (cnt (stk g) k)) ?_ ?_ FU (show gN g < 1000 by omega) _ rfl
  · rintro K k y0 hk rfl hK
    have hK := hK _ rfl
    rw [cnt_s] at hK
    unfold d_X1_countStuck_4b
    simp (disch := omega) only [↓iM_def, i_0, i_1, i_2, i_3, i_4, i_5, i_6, i_7, i_8, i_9, i_10, i_12, i_17, i_29, i_31, i_33, i_36, i_37, i_40, i_41, i_42, i_43, i_44, i_45, i_47, i_48, i_50, i_53, i_55, i_56, i_57, i_58, i_59, i_60, i_61, i_98, i_99, i_100, i_102, i_104, i_106, i_110, i_112, i_119, i_120, i_128, i_392, i_448, nI_add, nI_leI, nI_ltI, nI_eq, nI_clamp, iM_le, iM_lt, iM_nle, iM_nlt, iM_ne, iM_ne', Nat.add_zero, pk_mul, asr_inb, bd_some, bw_some, bx_inl, bx_inr, bh_inl, bh_inr, b2_eq0, b2_eq1, asr_zok, nz_nI, lr_n r w, i_isStuck r w]
    rw [if_neg (by omega)]
    cases hq : stk g k with
    | false => rw [if_pos rfl]; simpa [hq] using hK
    | true => rw [if_neg (by decide)]; simpa [hq] using hK
  · rintro K y0 rfl
    unfold d_X1_countStuck_4b
    simp (disch := omega) only [↓iM_def, i_0, i_1, i_2, i_3, i_4, i_5, i_6, i_7, i_8, i_9, i_10, i_12, i_17, i_29, i_31, i_33, i_36, i_37, i_40, i_41, i_42, i_43, i_44, i_45, i_47, i_48, i_50, i_53, i_55, i_56, i_57, i_58, i_59, i_60, i_61, i_98, i_99, i_100, i_102, i_104, i_106, i_110, i_112, i_119, i_120, i_128, i_392, i_448, nI_add, nI_leI, nI_ltI, nI_eq, nI_clamp, iM_le, iM_lt, iM_nle, iM_nlt, iM_ne, iM_ne', Nat.add_zero, pk_mul, asr_inb, bd_some, bw_some, bx_inl, bx_inr, bh_inl, bh_inr, b2_eq0, b2_eq1, asr_zok, nz_nI, lr_n r w, Nat.le_refl, if_true]
theorem m_stuckMany (w : WF (V 110)) : d_X5_stuckMany V = some (nI (cnt (stk (V 110)) (gN (V 110)))) := by
  have n7 := wf_n7 w
  unfold d_X5_stuckMany d_X5_stuckMany_4
  refine lo2_inv (gN (V 110)) (fun k y0 => y0 = nI (cnt (stk (V 110)) k)) ?_ ?_ FU (show gN (V 110) < 1000 by omega) _ rfl
  · rintro K k y0 hk rfl hK
    have hK := hK _ rfl
    rw [cnt_s] at hK
    unfold d_X5_stuckMany_4b
    simp (disch := omega) only [↓iM_def, i_0, i_1, i_2, i_3, i_4, i_5, i_6, i_7, i_8, i_9, i_10, i_12, i_17, i_29, i_31, i_33, i_36, i_37, i_40, i_41, i_42, i_43, i_44, i_45, i_47, i_48, i_50, i_53, i_55, i_56, i_57, i_58, i_59, i_60, i_61, i_98, i_99, i_100, i_102, i_104, i_106, i_110, i_112, i_119, i_120, i_128, i_392, i_448, nI_add, nI_leI, nI_ltI, nI_eq, nI_clamp, iM_le, iM_lt, iM_nle, iM_nlt, iM_ne, iM_ne', Nat.add_zero, pk_mul, asr_inb, bd_some, bw_some, bx_inl, bx_inr, bh_inl, bh_inr, b2_eq0, b2_eq1, asr_zok, nz_nI, wf_n w, m_isStuck w]
    rw [if_neg (by omega)]
    cases hq : stk (V 110) k with
    | false => rw [if_pos rfl]; simpa [hq] using hK
    | true => rw [if_neg (by decide)]; simpa [hq] using hK
  · rintro K y0 rfl
    unfold d_X5_stuckMany_4b
    simp (disch := omega) only [↓iM_def, i_0, i_1, i_2, i_3, i_4, i_5, i_6, i_7, i_8, i_9, i_10, i_12, i_17, i_29, i_31, i_33, i_36, i_37, i_40, i_41, i_42, i_43, i_44, i_45, i_47, i_48, i_50, i_53, i_55, i_56, i_57, i_58, i_59, i_60, i_61, i_98, i_99, i_100, i_102, i_104, i_106, i_110, i_112, i_119, i_120, i_128, i_392, i_448, nI_add, nI_leI, nI_ltI, nI_eq, nI_clamp, iM_le, iM_lt, iM_nle, iM_nlt, iM_ne, iM_ne', Nat.add_zero, pk_mul, asr_inb, bd_some, bw_some, bx_inl, bx_inr, bh_inl, bh_inr, b2_eq0, b2_eq1, asr_zok, nz_nI, wf_n w, Nat.le_refl, if_true]
theorem i_countWishes (r : LR V 1 g) (w : WF g) : d_X1_countWishes V = some (nI (cnt (fun c => !decide (wi g c = iM)) (gN g))) := by
  have n7 := wf_n7 w
  unfold d_X1_countWishes d_X1_countWishes_4
  refine lo2_inv (gN g) (fun k y0 => y0 = nI (cnt (fun c => !decide (wi g c = iM)) k)) ?_ ?_ FU (show gN g < 1000 by omega) _ rfl
  · rintro K k y0 hk rfl hK
    have hK := hK _ rfl
    rw [cnt_s] at hK
    unfold d_X1_countWishes_4b
    simp (disch := omega) only [↓iM_def, i_0, i_1, i_2, i_3, i_4, i_5, i_6, i_7, i_8, i_9, i_10, i_12, i_17, i_29, i_31, i_33, i_36, i_37, i_40, i_41, i_42, i_43, i_44, i_45, i_47, i_48, i_50, i_53, i_55, i_56, i_57, i_58, i_59, i_60, i_61, i_98, i_99, i_100, i_102, i_104, i_106, i_110, i_112, i_119, i_120, i_128, i_392, i_448, nI_add, nI_leI, nI_ltI, nI_eq, nI_clamp, iM_le, iM_lt, iM_nle, iM_nlt, iM_ne, iM_ne', Nat.add_zero, pk_mul, asr_inb, bd_some, bw_some, bx_inl, bx_inr, bh_inl, bh_inr, b2_eq0, b2_eq1, asr_zok, nz_nI, lr_n r w, lr_wi r]
    rw [if_neg (by omega)]
    by_cases hq : wi g k = iM
    · rw [if_pos hq]; simpa [hq] using hK
    · rw [if_neg hq]; simpa [hq] using hK
  · rintro K y0 rfl
    unfold d_X1_countWishes_4b
    simp (disch := omega) only [↓iM_def, i_0, i_1, i_2, i_3, i_4, i_5, i_6, i_7, i_8, i_9, i_10, i_12, i_17, i_29, i_31, i_33, i_36, i_37, i_40, i_41, i_42, i_43, i_44, i_45, i_47, i_48, i_50, i_53, i_55, i_56, i_57, i_58, i_59, i_60, i_61, i_98, i_99, i_100, i_102, i_104, i_106, i_110, i_112, i_119, i_120, i_128, i_392, i_448, nI_add, nI_leI, nI_ltI, nI_eq, nI_clamp, iM_le, iM_lt, iM_nle, iM_nlt, iM_ne, iM_ne', Nat.add_zero, pk_mul, asr_inb, bd_some, bw_some, bx_inl, bx_inr, bh_inl, bh_inr, b2_eq0, b2_eq1, asr_zok, nz_nI, lr_n r w, Nat.le_refl, if_true]
theorem i_countFul (r : LR V 1 g) (w : WF g) : d_X1_countFulfilled V = some (nI (cnt (ful g) (gN g))) := by
  have n7 := wf_n7 w
  unfold d_X1_countFulfilled d_X1_countFulfilled_4
  refine lo2_inv (gN g) (fun k y0 => y0 = nI (cnt (ful g) k)) ?_ ?_ FU (show gN g < 1000 by omega) _ rfl
  · rintro K k y0 hk rfl hK
    have hK := hK _ rfl
    rw [cnt_s] at hK
    unfold d_X1_countFulfilled_4b
    simp (disch := omega) only [↓iM_def, i_0, i_1, i_2, i_3, i_4, i_5, i_6, i_7, i_8, i_9, i_10, i_12, i_17, i_29, i_31, i_33, i_36, i_37, i_40, i_41, i_42, i_43, i_44, i_45, i_47, i_48, i_50, i_53, i_55, i_56, i_57, i_58, i_59, i_60, i_61, i_98, i_99, i_100, i_102, i_104, i_106, i_110, i_112, i_119, i_120, i_128, i_392, i_448, nI_add, nI_leI, nI_ltI, nI_eq, nI_clamp, iM_le, iM_lt, iM_nle, iM_nlt, iM_ne, iM_ne', Nat.add_zero, pk_mul, asr_inb, bd_some, bw_some, bx_inl, bx_inr, bh_inl, bh_inr, b2_eq0, b2_eq1, asr_zok, nz_nI, lr_n r w, i_isFul r]
    rw [if_neg (by omega)]
    cases hq : ful g k with
    | false => rw [if_pos rfl]; simpa [hq] using hK
    | true => rw [if_neg (by decide)]; simpa [hq] using hK
  · rintro K y0 rfl
    unfold d_X1_countFulfilled_4b
    simp (disch := omega) only [↓iM_def, i_0, i_1, i_2, i_3, i_4, i_5, i_6, i_7, i_8, i_9, i_10, i_12, i_17, i_29, i_31, i_33, i_36, i_37, i_40, i_41, i_42, i_43, i_44, i_45, i_47, i_48, i_50, i_53, i_55, i_56, i_57, i_58, i_59, i_60, i_61, i_98, i_99, i_100, i_102, i_104, i_106, i_110, i_112, i_119, i_120, i_128, i_392, i_448, nI_add, nI_leI, nI_ltI, nI_eq, nI_clamp, iM_le, iM_lt, iM_nle, iM_nlt, iM_ne, iM_ne', Nat.add_zero, pk_mul, asr_inb, bd_some, bw_some, bx_inl, bx_inr, bh_inl, bh_inr, b2_eq0, b2_eq1, asr_zok, nz_nI, lr_n r w, Nat.le_refl, if_true]
theorem wi_lt (w : WF g) {c : Nat} (hc : c < 7) : (wi g c < nI 0) = (wi g c = iM) := by
  rcases wf_wi w c hc with h | ⟨x, x5, h⟩
  · rw [h]; simp (disch := omega) only [nI_add, nI_leI, nI_ltI, nI_eq, nI_clamp, iM_le, iM_lt, iM_nle, iM_nlt, iM_ne, iM_ne', Nat.add_zero, pk_mul]
  · rw [h]; simp (disch := omega) only [nI_add, nI_leI, nI_ltI, nI_eq, nI_clamp, iM_le, iM_lt, iM_nle, iM_nlt, iM_ne, iM_ne', Nat.add_zero, pk_mul]
    simp
theorem ful_wi (w : WF g) {c : Nat} (hc : c < 7) (h : ful g c = true) : ¬ wi g c = iM := by
  unfold ful at h
  simp only [Bool.and_eq_true, decide_eq_true_eq] at h
  rw [← h.2]
  have := h.1
  rw [ptd_t] at this
  exact this
theorem m_wishes (w : WF (V 110)) (b : Bool) : d_X5_wishes (b2 b) V = some (nI (cnt (fun c => !decide (wi (V 110) c = iM) && (!b || ful (V 110) c)) (gN (V 110)))) := by
  have n7 := wf_n7 w
  unfold d_X5_wishes d_X5_wishes_4
  refine lo3_inv (gN (V 110)) (fun k y0 y1 => y0 = b2 b ∧ y1 = nI (cnt (fun c => !decide (wi (V 110) c = iM) && (!b || ful (V 110) c)) k)) ?_ ?_ FU (show gN (V 110) < 1000 by omega) _ _ ⟨rfl, rfl⟩
  · rintro K k y0 y1 hk ⟨rfl, rfl⟩ hK
    have hK := hK _ _ ⟨rfl, rfl⟩
    rw [cnt_s] at hK
    unfold d_X5_wishes_4b
    simp (disch := omega) only [↓iM_def, i_0, i_1, i_2, i_3, i_4, i_5, i_6, i_7, i_8, i_9, i_10, i_12, i_17, i_29, i_31, i_33, i_36, i_37, i_40, i_41, i_42, i_43, i_44, i_45, i_47, i_48, i_50, i_53, i_55, i_56, i_57, i_58, i_59, i_60, i_61, i_98, i_99, i_100, i_102, i_104, i_106, i_110, i_112, i_119, i_120, i_128, i_392, i_448, nI_add, nI_leI, nI_ltI, nI_eq, nI_clamp, iM_le, iM_lt, iM_nle, iM_nlt, iM_ne, iM_ne', Nat.add_zero, pk_mul, asr_inb, bd_some, bw_some, bx_inl, bx_inr, bh_inl, bh_inr, b2_eq0, b2_eq1, asr_zok, nz_nI, wf_n w, m_wi, wi_lt w, m_isFul w]
    rw [if_neg (by omega)]
    by_cases hq : wi (V 110) k = iM
    · rw [if_pos hq]; simpa [hq] using hK
    · rw [if_neg hq]
      cases b with
      | false => rw [if_pos rfl]; simpa [hq] using hK
      | true =>
        rw [if_neg (by decide)]
        cases hf : ful (V 110) k with
        | false => rw [if_pos rfl]; simpa [hq, hf] using hK
        | true => rw [if_neg (by decide)]; simpa [hq, hf] using hK
  · rintro K y0 y1 ⟨rfl, rfl⟩
    unfold d_X5_wishes_4b
    simp (disch := omega) only [↓iM_def, i_0, i_1, i_2, i_3, i_4, i_5, i_6, i_7, i_8, i_9, i_10, i_12, i_17, i_29, i_31, i_33, i_36, i_37, i_40, i_41, i_42, i_43, i_44, i_45, i_47, i_48, i_50, i_53, i_55, i_56, i_57, i_58, i_59, i_60, i_61, i_98, i_99, i_100, i_102, i_104, i_106, i_110, i_112, i_119, i_120, i_128, i_392, i_448, nI_add, nI_leI, nI_ltI, nI_eq, nI_clamp, iM_le, iM_lt, iM_nle, iM_nlt, iM_ne, iM_ne', Nat.add_zero, pk_mul, asr_inb, bd_some, bw_some, bx_inl, bx_inr, bh_inl, bh_inr, b2_eq0, b2_eq1, asr_zok, nz_nI, wf_n w, Nat.le_refl, if_true]
theorem m_wishes0 (w : WF (V 110)) : d_X5_wishes (nI 0) V = some (nI (cnt (fun c => !decide (wi (V 110) c = iM)) (gN (V 110)))) := by
  have h := m_wishes (V := V) w false
  rw [cnt_congr (q := fun c => !decide (wi (V 110) c = iM)) (fun i _ => by simp)] at h
  exact h
theorem m_wishes1 (w : WF (V 110)) : d_X5_wishes (nI 1) V = some (nI (cnt (ful (V 110)) (gN (V 110)))) := by
  have n7 := wf_n7 w
  have h := m_wishes (V := V) w true
  rw [cnt_congr (q := ful (V 110)) (fun i hi => by
    cases hf : ful (V 110) i with
    | false => simp [hf]
    | true => have := ful_wi w (show i < 7 by omega) hf; simp [hf, this])] at h
  exact h
theorem i_sum (a : Nat) (f : Nat → Int32) (ha : alen a = 5) (hf : ∀ k, k < 5 → V a k = f k) : d_X4_sum a V = some (smI f 5) := by
  unfold d_X4_sum d_X4_sum_10
  rw [ha]
  refine lo3_inv 5 (fun k y0 y1 => y0 = smI f k ∧ y1 = nI 5) ?_ ?_ FU (show 5 < 1000 by omega) _ _ ⟨rfl, rfl⟩
  · rintro K k y0 y1 hk ⟨rfl, rfl⟩ hK
    have hK := hK _ _ ⟨rfl, rfl⟩
    have e : smI f (k + 1) = smI f k + f k := rfl
    rw [e] at hK
    unfold d_X4_sum_10b
    simp (disch := omega) only [↓iM_def, i_0, i_1, i_2, i_3, i_4, i_5, i_6, i_7, i_8, i_9, i_10, i_12, i_17, i_29, i_31, i_33, i_36, i_37, i_40, i_41, i_42, i_43, i_44, i_45, i_47, i_48, i_50, i_53, i_55, i_56, i_57, i_58, i_59, i_60, i_61, i_98, i_99, i_100, i_102, i_104, i_106, i_110, i_112, i_119, i_120, i_128, i_392, i_448, nI_add, nI_leI, nI_ltI, nI_eq, nI_clamp, iM_le, iM_lt, iM_nle, iM_nlt, iM_ne, iM_ne', Nat.add_zero, pk_mul, asr_inb, bd_some, bw_some, bx_inl, bx_inr, bh_inl, bh_inr, b2_eq0, b2_eq1, asr_zok, nz_nI, ha, hf]
    rw [if_neg (by omega)]
    exact hK
  · rintro K y0 y1 ⟨rfl, rfl⟩
    unfold d_X4_sum_10b
    simp (disch := omega) only [↓iM_def, i_0, i_1, i_2, i_3, i_4, i_5, i_6, i_7, i_8, i_9, i_10, i_12, i_17, i_29, i_31, i_33, i_36, i_37, i_40, i_41, i_42, i_43, i_44, i_45, i_47, i_48, i_50, i_53, i_55, i_56, i_57, i_58, i_59, i_60, i_61, i_98, i_99, i_100, i_102, i_104, i_106, i_110, i_112, i_119, i_120, i_128, i_392, i_448, nI_add, nI_leI, nI_ltI, nI_eq, nI_clamp, iM_le, iM_lt, iM_nle, iM_nlt, iM_ne, iM_ne', Nat.add_zero, pk_mul, asr_inb, bd_some, bw_some, bx_inl, bx_inr, bh_inl, bh_inr, b2_eq0, b2_eq1, asr_zok, nz_nI, Nat.le_refl, if_true]
theorem m_sum (o : Nat) (ho : o + 5 ≤ 56) : d_X5_sumOf (nI o) V = some (smI (fun k => V 110 (o + k)) 5) := by
  unfold d_X5_sumOf d_X5_sumOf_4
  refine lo3_inv 5 (fun k y0 y1 => y0 = nI o ∧ y1 = smI (fun k => V 110 (o + k)) k) ?_ ?_ FU (show 5 < 1000 by omega) _ _ ⟨rfl, rfl⟩
  · rintro K k y0 y1 hk ⟨rfl, rfl⟩ hK
    have hK := hK _ _ ⟨rfl, rfl⟩
    have e : smI (fun k => V 110 (o + k)) (k + 1) = smI (fun k => V 110 (o + k)) k + V 110 (o + k) := rfl
    rw [e] at hK
    unfold d_X5_sumOf_4b
    simp (disch := omega) only [↓iM_def, i_0, i_1, i_2, i_3, i_4, i_5, i_6, i_7, i_8, i_9, i_10, i_12, i_17, i_29, i_31, i_33, i_36, i_37, i_40, i_41, i_42, i_43, i_44, i_45, i_47, i_48, i_50, i_53, i_55, i_56, i_57, i_58, i_59, i_60, i_61, i_98, i_99, i_100, i_102, i_104, i_106, i_110, i_112, i_119, i_120, i_128, i_392, i_448, nI_add, nI_leI, nI_ltI, nI_eq, nI_clamp, iM_le, iM_lt, iM_nle, iM_nlt, iM_ne, iM_ne', Nat.add_zero, pk_mul, asr_inb, bd_some, bw_some, bx_inl, bx_inr, bh_inl, bh_inr, b2_eq0, b2_eq1, asr_zok, nz_nI]
    rw [if_neg (by omega)]
    exact hK
  · rintro K y0 y1 ⟨rfl, rfl⟩
    unfold d_X5_sumOf_4b
    simp (disch := omega) only [↓iM_def, i_0, i_1, i_2, i_3, i_4, i_5, i_6, i_7, i_8, i_9, i_10, i_12, i_17, i_29, i_31, i_33, i_36, i_37, i_40, i_41, i_42, i_43, i_44, i_45, i_47, i_48, i_50, i_53, i_55, i_56, i_57, i_58, i_59, i_60, i_61, i_98, i_99, i_100, i_102, i_104, i_106, i_110, i_112, i_119, i_120, i_128, i_392, i_448, nI_add, nI_leI, nI_ltI, nI_eq, nI_clamp, iM_le, iM_lt, iM_nle, iM_nlt, iM_ne, iM_ne', Nat.add_zero, pk_mul, asr_inb, bd_some, bw_some, bx_inl, bx_inr, bh_inl, bh_inr, b2_eq0, b2_eq1, asr_zok, nz_nI, Nat.le_refl, if_true]
def spAccount (σ : Sg) (x : Int32) : (Int32 ⊕ Nat) × Sg :=
  if (decide (nI 0 ≤ x) && decide (x ≤ nI 12)) = true then (.inl (acOf σ (nt x)), σ) else (.inr 1, σ)
theorem I_account (h : AI V σ) (K : OKs σ) (x : Int32) : DI eIA E2 (d_X4_account x V) V (spAccount σ x) := by
  obtain ⟨o, -, -, h28, -⟩ := h.2.1
  unfold d_X4_account spAccount
  rw [i_sum 8 (po σ.1) rfl (fun k hk => lr_po h.1 hk), i_sum 9 (us σ.1) rfl (fun k hk => lr_us h.1 hk), i_borders h.1 K.w, i_countPainted h.1 K.w, i_countStuck h.1 K.w, i_countWishes h.1 K.w, i_countFul h.1 K.w, lr_n h.1 K.w, lr_u h.1 K.w, lr_s h.1 K.w, lr_o h.1, h.2.2.2.1.1, h28]
  simp only [↓jM_def, j_0, j_1, j_2, j_3, j_4, j_5, j_6, j_7, j_8, j_9, j_10, j_11, j_12, j_13, j_14, j_15, j_16, j_17, j_18, j_19, j_20, j_21, j_22, j_23, j_24, j_25, j_26, j_27, j_28, j_29, j_30, j_31, j_32, j_33, j_34, j_35, j_36, j_37, j_38, j_39, j_40, j_41, j_42, j_43, j_44, j_45, j_46, j_47, j_48, j_49, j_50, j_51, j_52, j_53, j_54, j_55, j_56, j_57, j_58, j_59, j_60, j_61, j_62, j_63, j_97, j_98, j_99, j_100, j_101, j_102, j_103, j_104, j_105, j_106, j_107, j_108, j_109, j_110, j_111, j_112, j_113, j_114, j_115, j_116, j_117, j_118, j_119, j_120, j_121, j_122, j_128, j_392, j_448, bd_some]
  cases hy : (decide (nI 0 ≤ x) && decide (x ≤ nI 12)) with
  | false =>
    have ne := out_rngc (n := 12) (by omega) hy
    rw [if_neg (ne 0 (by omega)), if_neg (ne 1 (by omega)), if_neg (ne 2 (by omega)), if_neg (ne 3 (by omega)), if_neg (ne 4 (by omega)), if_neg (ne 5 (by omega)), if_neg (ne 6 (by omega)), if_neg (ne 7 (by omega)), if_neg (ne 8 (by omega)), if_neg (ne 9 (by omega)), if_neg (ne 10 (by omega)), if_neg (ne 11 (by omega)), if_neg (ne 12 (by omega)), if_neg (by decide)]
    exact DI.err h (Or.inr trivial)
  | true =>
    obtain ⟨j, hj, rfl⟩ := in_rngc (n := 12) (by omega) hy
    rw [if_pos rfl, nt_nI (a := j) (by omega)]
    have fin : ∀ v, acOf σ j = v → DI eIA E2 (some (Sum.inl v, V)) V (.inl (acOf σ j), σ) := fun v e => by rw [e]; exact ⟨V, rfl, h, FrI.rf V⟩
    rcases (show j = 0 ∨ j = 1 ∨ j = 2 ∨ j = 3 ∨ j = 4 ∨ j = 5 ∨ j = 6 ∨ j = 7 ∨ j = 8 ∨ j = 9 ∨ j = 10 ∨ j = 11 ∨ j = 12 by omega) with rfl | rfl | rfl | rfl | rfl | rfl | rfl | rfl | rfl | rfl | rfl | rfl | rfl <;> simp (disch := omega) only [nI_eq, Nat.reduceEqDiff, if_true, if_false] <;> exact fin _ rfl
theorem M_account (h : AJ V σ) (K : OKs σ) (x : Int32) : DM (d_X5_account x V) V (spAccount σ x) := by
  unfold d_X5_account spAccount
  simp only [m_in, bd_some, ↓iM_def, i_0, i_1, i_2, i_3, i_4, i_5, i_6, i_7, i_8, i_9, i_10, i_12, i_17, i_29, i_31, i_33, i_36, i_37, i_40, i_41, i_42, i_43, i_44, i_45, i_47, i_48, i_50, i_53, i_55, i_56, i_57, i_58, i_59, i_60, i_61, i_98, i_99, i_100, i_102, i_104, i_106, i_110, i_112, i_119, i_120, i_128, i_392, i_448, b2_eq0]
  cases hy : (decide (nI 0 ≤ x) && decide (x ≤ nI 12)) with
  | false =>
    rw [if_pos rfl, if_neg (by decide)]
    unfold d_X5_account_16
    simp only [↓iM_def, i_0, i_1, i_2, i_3, i_4, i_5, i_6, i_7, i_8, i_9, i_10, i_12, i_17, i_29, i_31, i_33, i_36, i_37, i_40, i_41, i_42, i_43, i_44, i_45, i_47, i_48, i_50, i_53, i_55, i_56, i_57, i_58, i_59, i_60, i_61, i_98, i_99, i_100, i_102, i_104, i_106, i_110, i_112, i_119, i_120, i_128, i_392, i_448, m_fail0, m_fail1, m_fail2, e10, eq_self, if_true, if_false, bw_some]
    exact DM.err h _
  | true =>
    rw [if_neg (by decide), if_pos rfl]
    obtain ⟨j, hj, rfl⟩ := in_rngc (n := 12) (by omega) hy
    unfold d_X5_account_16
    simp only [↓iM_def, i_0, i_1, i_2, i_3, i_4, i_5, i_6, i_7, i_8, i_9, i_10, i_12, i_17, i_29, i_31, i_33, i_36, i_37, i_40, i_41, i_42, i_43, i_44, i_45, i_47, i_48, i_50, i_53, i_55, i_56, i_57, i_58, i_59, i_60, i_61, i_98, i_99, i_100, i_102, i_104, i_106, i_110, i_112, i_119, i_120, i_128, i_392, i_448, m_fail0, m_fail1, m_fail2, e10, eq_self, if_true, if_false, bw_some]
    refine DM.pre h (nI 0) (fun V2 h2 hc e => ?_)
    rw [e, nt_nI (a := j) (by omega)]
    have w2 : WF (V2 110) := by rw [h2.1]; exact K.w
    rw [m_borders w2, m_paintedMany w2, m_stuckMany w2, m_sum 37 (by omega), m_sum 42 (by omega), m_wishes0 w2, m_wishes1 w2, h2.1, wf_n K.w, wf_u K.w, wf_s K.w, h2.2.2.2.1.1, h2.2.1.1]
    simp only [bd_some]
    have fin : ∀ v, acOf σ j = v → DM (some (v, V2)) V2 (.inl (acOf σ j), σ) := fun v e => DM.of rfl h2 (FrM.rf _) hc (fun v' hv => by cases hv; exact e.symm)
    rcases (show j = 0 ∨ j = 1 ∨ j = 2 ∨ j = 3 ∨ j = 4 ∨ j = 5 ∨ j = 6 ∨ j = 7 ∨ j = 8 ∨ j = 9 ∨ j = 10 ∨ j = 11 ∨ j = 12 by omega) with rfl | rfl | rfl | rfl | rfl | rfl | rfl | rfl | rfl | rfl | rfl | rfl | rfl <;> simp (disch := omega) only [nI_eq, Nat.reduceEqDiff, if_true, if_false] <;> exact fin _ rfl
/-! append, character -/
theorem chr_nar {z : Nat} (h : z < 65536) : vp_nar .char (nI z) = nI z := by
  unfold vp_nar
  rw [(pk_charN h).1]
def spAppend (σ : Sg) (x : Int32) : (Int32 ⊕ Nat) × Sg :=
  if σ.2.2.2.1.1 = 60 then (.inr 1, σ) else (.inl (nI (σ.2.2.2.1.1 + 1)), (σ.1, σ.2.1, σ.2.2.1, (σ.2.2.2.1.1 + 1, upd σ.2.2.2.1.2 σ.2.2.2.1.1 x), σ.2.2.2.2))
theorem K_append (K : OKs σ) {x : Int32} (hx : isChr x) : OKs (spAppend σ x).2 := by
  unfold spAppend
  by_cases h : σ.2.2.2.1.1 = 60
  · rw [if_pos h]; exact K
  · rw [if_neg h]
    obtain ⟨k1, k2, k3, ⟨k4, k5⟩, k6⟩ := K
    refine ⟨k1, k2, k3, ⟨?_, fun i hi => ?_⟩, k6⟩
    · show σ.2.2.2.1.1 + 1 ≤ 60; omega
    · show isChr (upd σ.2.2.2.1.2 σ.2.2.2.1.1 x i)
      rw [upd_if]
      by_cases e : i = σ.2.2.2.1.1
      · rw [if_pos e]; exact hx
      · rw [if_neg e]
        have hi : i < σ.2.2.2.1.1 + 1 := hi
        exact k5 i (by omega)
theorem I_append (h : AI V σ) (K : OKs σ) {x : Int32} (hx : isChr x) : DI eIS E2 (d_X4_append x V) V (spAppend σ x) := by
  obtain ⟨z, hz, rfl⟩ := hx
  have k60 := K.2.2.2.1.1
  obtain ⟨h1, ⟨o, h2, h3, h4, h5⟩, h6, ⟨h7, h8⟩, ⟨h9, h10⟩, h11, h12, h13⟩ := id h
  unfold d_X4_append spAppend
  rw [h7]
  simp (disch := omega) only [↓iM_def, i_0, i_1, i_2, i_3, i_4, i_5, i_6, i_7, i_8, i_9, i_10, i_12, i_17, i_29, i_31, i_33, i_36, i_37, i_40, i_41, i_42, i_43, i_44, i_45, i_47, i_48, i_50, i_53, i_55, i_56, i_57, i_58, i_59, i_60, i_61, i_98, i_99, i_100, i_102, i_104, i_106, i_110, i_112, i_119, i_120, i_128, i_392, i_448, nI_add, nI_leI, nI_ltI, nI_eq, nI_clamp, iM_le, iM_lt, iM_nle, iM_nlt, iM_ne, iM_ne', Nat.add_zero, pk_mul, asr_inb, bd_some, bw_some, bx_inl, bx_inr, bh_inl, bh_inr, b2_eq0, b2_eq1, asr_zok, nz_nI]
  by_cases hl : σ.2.2.2.1.1 = 60
  · rw [if_neg (by omega), if_pos hl]
    exact DI.err h (Or.inr trivial)
  · rw [if_pos (by omega), if_neg hl]
    unfold d_X2_add
    rw [h7]
    simp (disch := omega) only [↓iM_def, i_0, i_1, i_2, i_3, i_4, i_5, i_6, i_7, i_8, i_9, i_10, i_12, i_17, i_29, i_31, i_33, i_36, i_37, i_40, i_41, i_42, i_43, i_44, i_45, i_47, i_48, i_50, i_53, i_55, i_56, i_57, i_58, i_59, i_60, i_61, i_98, i_99, i_100, i_102, i_104, i_106, i_110, i_112, i_119, i_120, i_128, i_392, i_448, nI_add, nI_leI, nI_ltI, nI_eq, nI_clamp, iM_le, iM_lt, iM_nle, iM_nlt, iM_ne, iM_ne', Nat.add_zero, pk_mul, asr_inb, bd_some, bw_some, bx_inl, bx_inr, bh_inl, bh_inr, b2_eq0, b2_eq1, asr_zok, nz_nI, chr_nar hz]
    rw [if_neg (by omega), bd_some]
    have hf : ∀ q, q ≠ 105 → q ≠ 106 → up2 (up2 V 106 σ.2.2.2.1.1 (nI z)) 105 1 (nI (σ.2.2.2.1.1 + 1)) q = V q := fun q q1 q2 => by rw [up2_ne q1, up2_ne q2]
    refine ⟨_, by rw [up2_at, upd_eq]; rfl, ⟨lr_frame (fun q _ _ => hf q (by omega) (by omega)) h1, ⟨o, h2, by rw [hf 28 (by omega) (by omega)]; exact h3, by rw [hf 28 (by omega) (by omega)]; exact h4, fun k r q => lr_frame (fun q _ _ => hf q (by omega) (by omega)) (h5 k r q)⟩, ?_, ⟨by rw [up2_at, upd_eq], fun i hi => ?_⟩, ⟨by rw [hf 0 (by omega) (by omega)]; exact h9, fun i hi => by rw [hf 108 (by omega) (by omega)]; exact h10 i hi⟩, by rw [hf 0 (by omega) (by omega)]; exact h11, by rw [hf 0 (by omega) (by omega)]; exact h12, by rw [hf 0 (by omega) (by omega)]; exact h13⟩, fun q hq => hf q (by omega) (by omega)⟩
    · show SI _ σ.2.2.1
      unfold SI at h6 ⊢
      cases hs : σ.2.2.1 with
      | none => rw [hs] at h6; show up2 _ 105 1 _ 0 8 = _; rw [hf 0 (by omega) (by omega)]; exact h6
      | some r => rw [hs] at h6; exact ⟨by rw [hf 0 (by omega) (by omega)]; exact h6.1, lr_frame (fun q _ _ => hf q (by omega) (by omega)) h6.2⟩
    · rw [up2_ne (by omega), up2_at, upd_if]
      show _ = upd σ.2.2.2.1.2 σ.2.2.2.1.1 (nI z) i
      rw [upd_if]
      by_cases e : i = σ.2.2.2.1.1
      · rw [if_pos e, if_pos e]
      · rw [if_neg e, if_neg e]
        have hi : i < σ.2.2.2.1.1 + 1 := hi
        exact h8 i (by omega)
theorem M_append (h : AJ V σ) (K : OKs σ) (x : Int32) : DM (d_X5_append x V) V (spAppend σ x) := by
  have k60 := K.2.2.2.1.1
  unfold d_X5_append spAppend
  rw [h.2.2.2.1.1]
  simp (disch := omega) only [↓iM_def, i_0, i_1, i_2, i_3, i_4, i_5, i_6, i_7, i_8, i_9, i_10, i_12, i_17, i_29, i_31, i_33, i_36, i_37, i_40, i_41, i_42, i_43, i_44, i_45, i_47, i_48, i_50, i_53, i_55, i_56, i_57, i_58, i_59, i_60, i_61, i_98, i_99, i_100, i_102, i_104, i_106, i_110, i_112, i_119, i_120, i_128, i_392, i_448, nI_add, nI_leI, nI_ltI, nI_eq, nI_clamp, iM_le, iM_lt, iM_nle, iM_nlt, iM_ne, iM_ne', Nat.add_zero, pk_mul, asr_inb, bd_some, bw_some, bx_inl, bx_inr, bh_inl, bh_inr, b2_eq0, b2_eq1, asr_zok, nz_nI]
  by_cases hl : σ.2.2.2.1.1 = 60
  · rw [if_pos hl, if_pos hl]
    unfold d_X5_append_15
    simp only [↓iM_def, i_0, i_1, i_2, i_3, i_4, i_5, i_6, i_7, i_8, i_9, i_10, i_12, i_17, i_29, i_31, i_33, i_36, i_37, i_40, i_41, i_42, i_43, i_44, i_45, i_47, i_48, i_50, i_53, i_55, i_56, i_57, i_58, i_59, i_60, i_61, i_98, i_99, i_100, i_102, i_104, i_106, i_110, i_112, i_119, i_120, i_128, i_392, i_448, m_fail0, m_fail1, m_fail2, e10, eq_self, if_true, if_false, bw_some]
    exact DM.err h _
  · rw [if_neg hl, if_neg hl]
    unfold d_X5_append_15
    simp only [↓iM_def, i_0, i_1, i_2, i_3, i_4, i_5, i_6, i_7, i_8, i_9, i_10, i_12, i_17, i_29, i_31, i_33, i_36, i_37, i_40, i_41, i_42, i_43, i_44, i_45, i_47, i_48, i_50, i_53, i_55, i_56, i_57, i_58, i_59, i_60, i_61, i_98, i_99, i_100, i_102, i_104, i_106, i_110, i_112, i_119, i_120, i_128, i_392, i_448, m_fail0, m_fail1, m_fail2, e10, eq_self, if_true, if_false, bw_some]
    refine DM.pre h (nI 0) (fun V2 hh hc e => ?_)
    rw [e]
    obtain ⟨h1, ⟨h2, h3⟩, h4, ⟨h5, h6⟩, ⟨h7, h8⟩, h9, h10, h11, h12⟩ := hh
    rw [h5]
    simp (disch := omega) only [↓iM_def, i_0, i_1, i_2, i_3, i_4, i_5, i_6, i_7, i_8, i_9, i_10, i_12, i_17, i_29, i_31, i_33, i_36, i_37, i_40, i_41, i_42, i_43, i_44, i_45, i_47, i_48, i_50, i_53, i_55, i_56, i_57, i_58, i_59, i_60, i_61, i_98, i_99, i_100, i_102, i_104, i_106, i_110, i_112, i_119, i_120, i_128, i_392, i_448, nI_add, nI_leI, nI_ltI, nI_eq, nI_clamp, iM_le, iM_lt, iM_nle, iM_nlt, iM_ne, iM_ne', Nat.add_zero, pk_mul, asr_inb, bd_some, bw_some, bx_inl, bx_inr, bh_inl, bh_inr, b2_eq0, b2_eq1, asr_zok, nz_nI]
    have f : ∀ q, q ≠ 109 → q ≠ 114 → up2 (up2 V2 114 σ.2.2.2.1.1 x) 109 11 (nI (σ.2.2.2.1.1 + 1)) q = V2 q := fun q q1 q2 => by rw [up2_ne q1, up2_ne q2]
    have g : ∀ i, i ≠ 11 → up2 (up2 V2 114 σ.2.2.2.1.1 x) 109 11 (nI (σ.2.2.2.1.1 + 1)) 109 i = V2 109 i := fun i hi => by rw [up2_at, upd_ne hi, up2_ne (by omega)]
    refine DM.of rfl ⟨by rw [f 110 (by omega) (by omega)]; exact h1, ⟨by rw [g _ (by omega)]; exact h2, fun k r q i hi => by rw [f 111 (by omega) (by omega)]; exact h3 k r q i hi⟩, ?_, ⟨by rw [up2_at, upd_eq], fun i hi => ?_⟩, ⟨by rw [g _ (by omega)]; exact h7, fun i hi => by rw [f 115 (by omega) (by omega)]; exact h8 i hi⟩, by rw [g _ (by omega)]; exact h9, by rw [g _ (by omega)]; exact h10, by rw [g _ (by omega)]; exact h11, by rw [g _ (by omega)]; exact h12⟩ (fun q hq => f q (by omega) (by omega)) (by rw [g _ (by omega)]; exact hc) (fun v' hv => by cases hv; rfl)
    · show SM _ σ.2.2.1
      unfold SM at h4 ⊢
      cases hs : σ.2.2.1 with
      | none => rw [hs] at h4; show up2 _ 109 11 _ 109 4 = _; rw [g _ (by omega)]; exact h4
      | some r => rw [hs] at h4; exact ⟨by rw [g _ (by omega)]; exact h4.1, fun i hi => by rw [f 112 (by omega) (by omega)]; exact h4.2 i hi⟩
    · rw [up2_ne (by omega), up2_at, upd_if]
      show _ = upd σ.2.2.2.1.2 σ.2.2.2.1.1 x i
      rw [upd_if]
      by_cases e : i = σ.2.2.2.1.1
      · rw [if_pos e, if_pos e]
      · rw [if_neg e, if_neg e]
        have hi : i < σ.2.2.2.1.1 + 1 := hi
        exact h6 i (by omega)
def spChar (σ : Sg) (x : Int32) : (Int32 ⊕ Nat) × Sg :=
  if (decide (nI 0 ≤ x) && decide (x < nI σ.2.2.2.2.1.1)) = true then (.inl (σ.2.2.2.2.1.2 (nt x)), σ) else (.inr 1, σ)
theorem asr_cok {α : Type} {z : Nat} {x : Option α} (h : z < 65536) : asr (cok (nI z)) x = x := asr_t (inb_nI h (by omega))
theorem I_character (h : AI V σ) (K : OKs σ) (x : Int32) : DI eIO E2 (d_X4_character x V) V (spChar σ x) := by
  have k17 := K.2.2.2.2.1
  obtain ⟨h9, h10⟩ := h.2.2.2.2.1
  unfold d_X4_character d_X4_character_12 spChar
  rw [h9]
  simp only [↓jM_def, j_0, j_1, j_2, j_3, j_4, j_5, j_6, j_7, j_8, j_9, j_10, j_11, j_12, j_13, j_14, j_15, j_16, j_17, j_18, j_19, j_20, j_21, j_22, j_23, j_24, j_25, j_26, j_27, j_28, j_29, j_30, j_31, j_32, j_33, j_34, j_35, j_36, j_37, j_38, j_39, j_40, j_41, j_42, j_43, j_44, j_45, j_46, j_47, j_48, j_49, j_50, j_51, j_52, j_53, j_54, j_55, j_56, j_57, j_58, j_59, j_60, j_61, j_62, j_63, j_97, j_98, j_99, j_100, j_101, j_102, j_103, j_104, j_105, j_106, j_107, j_108, j_109, j_110, j_111, j_112, j_113, j_114, j_115, j_116, j_117, j_118, j_119, j_120, j_121, j_122, j_128, j_392, j_448]
  by_cases h1 : x < nI 0
  · rw [if_pos h1, decide_eq_false (Int32.not_le.mpr h1), if_neg (by simp)]
    exact DI.err h (Or.inr trivial)
  · rw [if_neg h1, decide_eq_true (Int32.not_lt.mp h1)]
    by_cases h2 : x < nI σ.2.2.2.2.1.1
    · rw [if_pos h2, decide_eq_true h2, if_pos (by rfl)]
      obtain ⟨a, ha, rfl⟩ := in_rng (n := σ.2.2.2.2.1.1) (x := x) (by omega) (by rw [decide_eq_true h2]; simp; exact Int32.not_lt.mp h1)
      obtain ⟨z, hz, ez⟩ := K.2.2.2.2.2 a ha
      rw [nt_nI (a := a) (by omega)]
      simp (disch := omega) only [asr_inb, nI_clamp, h10, ez, asr_cok hz]
      exact ⟨V, rfl, h, FrI.rf V⟩
    · rw [if_neg h2, decide_eq_false h2, if_neg (by simp)]
      exact DI.err h (Or.inr trivial)
theorem M_character (h : AJ V σ) (K : OKs σ) (x : Int32) : DM (d_X5_character x V) V (spChar σ x) := by
  have k17 := K.2.2.2.2.1
  unfold d_X5_character spChar
  rw [h.2.2.2.2.1.1]
  simp only [m_in, bd_some, ↓iM_def, i_0, i_1, i_2, i_3, i_4, i_5, i_6, i_7, i_8, i_9, i_10, i_12, i_17, i_29, i_31, i_33, i_36, i_37, i_40, i_41, i_42, i_43, i_44, i_45, i_47, i_48, i_50, i_53, i_55, i_56, i_57, i_58, i_59, i_60, i_61, i_98, i_99, i_100, i_102, i_104, i_106, i_110, i_112, i_119, i_120, i_128, i_392, i_448, b2_eq0, lt_pred (n := σ.2.2.2.2.1.1) (by omega)]
  cases hx : (decide (nI 0 ≤ x) && decide (x < nI σ.2.2.2.2.1.1)) with
  | false =>
    rw [if_pos rfl, if_neg (by decide)]
    unfold d_X5_character_20
    simp only [↓iM_def, i_0, i_1, i_2, i_3, i_4, i_5, i_6, i_7, i_8, i_9, i_10, i_12, i_17, i_29, i_31, i_33, i_36, i_37, i_40, i_41, i_42, i_43, i_44, i_45, i_47, i_48, i_50, i_53, i_55, i_56, i_57, i_58, i_59, i_60, i_61, i_98, i_99, i_100, i_102, i_104, i_106, i_110, i_112, i_119, i_120, i_128, i_392, i_448, m_fail0, m_fail1, m_fail2, e10, eq_self, if_true, if_false, bw_some]
    exact DM.err h _
  | true =>
    rw [if_neg (by decide), if_pos rfl]
    obtain ⟨a, ha, rfl⟩ := in_rng (n := σ.2.2.2.2.1.1) (x := x) (by omega) hx
    obtain ⟨z, hz, ez⟩ := K.2.2.2.2.2 a ha
    unfold d_X5_character_20
    simp only [↓iM_def, i_0, i_1, i_2, i_3, i_4, i_5, i_6, i_7, i_8, i_9, i_10, i_12, i_17, i_29, i_31, i_33, i_36, i_37, i_40, i_41, i_42, i_43, i_44, i_45, i_47, i_48, i_50, i_53, i_55, i_56, i_57, i_58, i_59, i_60, i_61, i_98, i_99, i_100, i_102, i_104, i_106, i_110, i_112, i_119, i_120, i_128, i_392, i_448, m_fail0, m_fail1, m_fail2, e10, eq_self, if_true, if_false, bw_some]
    refine DM.pre h (nI 0) (fun V2 h2 hc e => ?_)
    rw [e, nt_nI (a := a) (by omega)]
    have h8 := h2.2.2.2.2.1.2
    simp (disch := omega) only [asr_inb, nI_clamp, h8, ez, asr_cok hz]
    exact DM.of rfl h2 (FrM.rf _) hc (fun v' hv => by cases hv; rfl)
end
