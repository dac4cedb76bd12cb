/-! PURE ROWS: countryOf, hueOf, step, stuck, fulfilled, errorPosition, refusal -/
def plc (g : Row) (c : Nat) : Option Nat := fnd (fun k => decide (st g k = c)) (gS g)
def cOf (g : Row) (c j : Nat) : Int32 := if j = 0 then sz g c else if j = 1 then hu g c else if j = 2 then nI (cnt (tt g c) (gN g)) else if j = 3 then nI (fm g c) else if j = 4 then wi g c else if j = 5 then cr g c else io (plc g c)
def hOf (g : Row) (h j : Nat) : Int32 := if j = 0 then po g h else if j = 1 then (if gU g ≤ h then nI 0 else nI 1) else if j = 2 then nI (cnt (fun c => decide (hu g c = nI h)) (gN g)) else us g h
section
variable {V V' : VT} {σ : Sg} {g : Row} {E2 : String}
theorem i_placeOf (r : LR V 1 g) (w : WF g) {c : Nat} (hc : c < 7) : d_X1_placeOf (nI c) V = some (io (plc g c)) := by
  have s7 := wf_s7 w
  have n7 := wf_n7 w
  unfold d_X1_placeOf d_X1_placeOf_2
  refine lo2_inv (gS g) (fun k y0 => y0 = nI c ∧ fnd (fun k => decide (st g k = c)) k = none) ?_ ?_ FU (show gS g < 1000 by omega) _ ⟨rfl, rfl⟩
  · rintro K k y0 hk ⟨rfl, hf⟩ hK
    have hs := wf_stn w hk
    unfold d_X1_placeOf_2b
    simp (disch := omega) only [↓iM_def, i_0, i_1, i_2, i_3, i_4, i_5, i_6, i_7, i_8, i_9, i_10, i_12, i_17, i_29, i_31, i_33, i_36, i_37, i_40, i_41, i_42, i_43, i_44, i_45, i_47, i_48, i_50, i_53, i_55, i_56, i_57, i_58, i_59, i_60, i_61, i_98, i_99, i_100, i_102, i_104, i_106, i_110, i_112, i_119, i_120, i_128, i_392, i_448, nI_add, nI_leI, nI_ltI, nI_eq, nI_clamp, iM_le, iM_lt, iM_nle, iM_nlt, iM_ne, iM_ne', Nat.add_zero, pk_mul, asr_inb, bd_some, bw_some, bx_inl, bx_inr, bh_inl, bh_inr, b2_eq0, b2_eq1, asr_zok, nz_nI, lr_s r w, lr_st r w]
    rw [if_neg (by omega)]
    by_cases hq : st g k = c
    · rw [if_pos hq]
      unfold plc
      rw [fnd_stop hk hf (by simp [hq])]
      rfl
    · rw [if_neg hq]
      exact hK _ ⟨rfl, fnd_go hf (by simp [hq])⟩
  · rintro K y0 ⟨rfl, hf⟩
    unfold d_X1_placeOf_2b
    simp (disch := omega) only [↓iM_def, i_0, i_1, i_2, i_3, i_4, i_5, i_6, i_7, i_8, i_9, i_10, i_12, i_17, i_29, i_31, i_33, i_36, i_37, i_40, i_41, i_42, i_43, i_44, i_45, i_47, i_48, i_50, i_53, i_55, i_56, i_57, i_58, i_59, i_60, i_61, i_98, i_99, i_100, i_102, i_104, i_106, i_110, i_112, i_119, i_120, i_128, i_392, i_448, nI_add, nI_leI, nI_ltI, nI_eq, nI_clamp, iM_le, iM_lt, iM_nle, iM_nlt, iM_ne, iM_ne', Nat.add_zero, pk_mul, asr_inb, bd_some, bw_some, bx_inl, bx_inr, bh_inl, bh_inr, b2_eq0, b2_eq1, asr_zok, nz_nI, lr_s r w, Nat.le_refl, if_true]
    unfold plc
    rw [hf]
    rfl
theorem m_placeOf (w : WF (V 110)) {c : Nat} (hc : c < 7) : d_X5_placeOf (nI c) V = some (io (plc (V 110) c)) := by
  have s7 := wf_s7 w
  have n7 := wf_n7 w
  unfold d_X5_placeOf d_X5_placeOf_2
  refine lo2_inv (gS (V 110)) (fun k y0 => y0 = nI c ∧ fnd (fun k => decide (st (V 110) k = c)) k = none) ?_ ?_ FU (show gS (V 110) < 1000 by omega) _ ⟨rfl, rfl⟩
  · rintro K k y0 hk ⟨rfl, hf⟩ hK
    have hs := wf_stn w hk
    unfold d_X5_placeOf_2b
    simp (disch := omega) only [↓iM_def, i_0, i_1, i_2, i_3, i_4, i_5, i_6, i_7, i_8, i_9, i_10, i_12, i_17, i_29, i_31, i_33, i_36, i_37, i_40, i_41, i_42, i_43, i_44, i_45, i_47, i_48, i_50, i_53, i_55, i_56, i_57, i_58, i_59, i_60, i_61, i_98, i_99, i_100, i_102, i_104, i_106, i_110, i_112, i_119, i_120, i_128, i_392, i_448, nI_add, nI_leI, nI_ltI, nI_eq, nI_clamp, iM_le, iM_lt, iM_nle, iM_nlt, iM_ne, iM_ne', Nat.add_zero, pk_mul, asr_inb, bd_some, bw_some, bx_inl, bx_inr, bh_inl, bh_inr, b2_eq0, b2_eq1, asr_zok, nz_nI, wf_s w, wf_st w]
    rw [if_neg (by omega)]
    by_cases hq : st (V 110) k = c
    · rw [if_pos hq]
      unfold plc
      rw [fnd_stop hk hf (by simp [hq])]
      rfl
    · rw [if_neg hq]
      exact hK _ ⟨rfl, fnd_go hf (by simp [hq])⟩
  · rintro K y0 ⟨rfl, hf⟩
    unfold d_X5_placeOf_2b
    simp (disch := omega) only [↓iM_def, i_0, i_1, i_2, i_3, i_4, i_5, i_6, i_7, i_8, i_9, i_10, i_12, i_17, i_29, i_31, i_33, i_36, i_37, i_40, i_41, i_42, i_43, i_44, i_45, i_47, i_48, i_50, i_53, i_55, i_56, i_57, i_58, i_59, i_60, i_61, i_98, i_99, i_100, i_102, i_104, i_106, i_110, i_112, i_119, i_120, i_128, i_392, i_448, nI_add, nI_leI, nI_ltI, nI_eq, nI_clamp, iM_le, iM_lt, iM_nle, iM_nlt, iM_ne, iM_ne', Nat.add_zero, pk_mul, asr_inb, bd_some, bw_some, bx_inl, bx_inr, bh_inl, bh_inr, b2_eq0, b2_eq1, asr_zok, nz_nI, wf_s w, Nat.le_refl, if_true]
    unfold plc
    rw [hf]
    rfl
def spCountryOf (σ : Sg) (x y : Int32) : (Int32 ⊕ Nat) × Sg :=
  if isC σ.1 x = true then
    if (decide (nI 0 ≤ y) && decide (y ≤ nI 6)) = true then (.inl (cOf σ.1 (nt x) (nt y)), σ) else (.inr 2, σ)
  else (.inr 1, σ)
theorem I_countryOf (h : AI V σ) (K : OKs σ) (x y : Int32) : DI eIO eIA (d_X4_countryOf x y V) V (spCountryOf σ x y) := by
  have n7 := wf_n7 K.w
  unfold d_X4_countryOf spCountryOf
  cases hx : isC σ.1 x with
  | false =>
    rw [i_stopC_f h K hx, bx_inr, if_neg (by decide)]
    exact DI.err h (Or.inr trivial)
  | true =>
    rw [i_stopC_t h K hx, bx_inl, if_pos rfl]
    obtain ⟨a, ha, rfl⟩ := isC_of K.w hx
    have hm : fm σ.1 a ≤ 5 := cnt_le _ _
    simp (disch := omega) only [↓iM_def, i_0, i_1, i_2, i_3, i_4, i_5, i_6, i_7, i_8, i_9, i_10, i_12, i_17, i_29, i_31, i_33, i_36, i_37, i_40, i_41, i_42, i_43, i_44, i_45, i_47, i_48, i_50, i_53, i_55, i_56, i_57, i_58, i_59, i_60, i_61, i_98, i_99, i_100, i_102, i_104, i_106, i_110, i_112, i_119, i_120, i_128, i_392, i_448, nI_add, nI_leI, nI_ltI, nI_eq, nI_clamp, iM_le, iM_lt, iM_nle, iM_nlt, iM_ne, iM_ne', Nat.add_zero, pk_mul, asr_inb, bd_some, bw_some, bx_inl, bx_inr, bh_inl, bh_inr, b2_eq0, b2_eq1, asr_zok, nz_nI, lr_sz h.1, lr_hu h.1, i_nbs h.1 K.w, pc_nb K.w, i_freeHues h.1 K.w, i_fm, lr_wi h.1, lr_cr h.1, i_placeOf h.1 K.w]
    cases hy : (decide (nI 0 ≤ y) && decide (y ≤ nI 6)) with
    | false =>
      have ne := out_rngc (n := 6) (by omega) hy
      rw [if_neg (ne 0 (by omega)), if_neg (ne 1 (by omega)), if_neg (ne 2 (by omega)), if_neg (ne 3 (by omega)), if_neg (ne 4 (by omega)), if_neg (ne 5 (by omega)), if_neg (ne 6 (by omega)), if_neg (by decide)]
      exact DI.err2 h
    | true =>
      obtain ⟨j, hj, rfl⟩ := in_rngc (n := 6) (by omega) hy
      rw [if_pos rfl, nt_nI (a := j) (by omega)]
      have fin : ∀ v, cOf σ.1 a j = v → DI eIO eIA (some (Sum.inl v, V)) V (.inl (cOf σ.1 a j), σ) := fun v e => by rw [e]; exact ⟨V, rfl, h, FrI.rf V⟩
      rcases (show j = 0 ∨ j = 1 ∨ j = 2 ∨ j = 3 ∨ j = 4 ∨ j = 5 ∨ j = 6 by omega) with rfl | rfl | rfl | rfl | rfl | rfl | rfl <;> simp (disch := omega) only [nI_eq, Nat.reduceEqDiff, if_true, if_false] <;> exact fin _ rfl
theorem M_countryOf (h : AJ V σ) (K : OKs σ) (x y : Int32) : DM (d_X5_countryOf x y V) V (spCountryOf σ x y) := by
  have n7 := wf_n7 K.w
  have wV : WF (V 110) := by rw [h.1]; exact K.w
  unfold d_X5_countryOf spCountryOf
  simp only [m_isCountry wV, m_in, bd_some, ↓iM_def, i_0, i_1, i_2, i_3, i_4, i_5, i_6, i_7, i_8, i_9, i_10, i_12, i_17, i_29, i_31, i_33, i_36, i_37, i_40, i_41, i_42, i_43, i_44, i_45, i_47, i_48, i_50, i_53, i_55, i_56, i_57, i_58, i_59, i_60, i_61, i_98, i_99, i_100, i_102, i_104, i_106, i_110, i_112, i_119, i_120, i_128, i_392, i_448, b2_eq0, h.1]
  cases hx : isC σ.1 x with
  | false =>
    rw [if_pos rfl, if_neg (by decide)]
    unfold d_X5_countryOf_28
    simp only [↓iM_def, i_0, i_1, i_2, i_3, i_4, i_5, i_6, i_7, i_8, i_9, i_10, i_12, i_17, i_29, i_31, i_33, i_36, i_37, i_40, i_41, i_42, i_43, i_44, i_45, i_47, i_48, i_50, i_53, i_55, i_56, i_57, i_58, i_59, i_60, i_61, i_98, i_99, i_100, i_102, i_104, i_106, i_110, i_112, i_119, i_120, i_128, i_392, i_448, m_fail0, m_fail1, m_fail2, e10, eq_self, if_true, if_false, bw_some]
    exact DM.err h _
  | true =>
    rw [if_neg (by decide), if_pos rfl]
    obtain ⟨a, ha, rfl⟩ := isC_of K.w hx
    cases hy : (decide (nI 0 ≤ y) && decide (y ≤ nI 6)) with
    | false =>
      rw [if_pos rfl, if_neg (by decide)]
      unfold d_X5_countryOf_28
      simp only [↓iM_def, i_0, i_1, i_2, i_3, i_4, i_5, i_6, i_7, i_8, i_9, i_10, i_12, i_17, i_29, i_31, i_33, i_36, i_37, i_40, i_41, i_42, i_43, i_44, i_45, i_47, i_48, i_50, i_53, i_55, i_56, i_57, i_58, i_59, i_60, i_61, i_98, i_99, i_100, i_102, i_104, i_106, i_110, i_112, i_119, i_120, i_128, i_392, i_448, m_fail0, m_fail1, m_fail2, e10, eq_self, if_true, if_false, bw_some]
      exact DM.err h _
    | true =>
      obtain ⟨j, hj, rfl⟩ := in_rngc (n := 6) (by omega) hy
      rw [if_neg (by decide), if_pos rfl, nt_nI (a := a) (by omega), nt_nI (a := j) (by omega)]
      unfold d_X5_countryOf_28
      simp only [↓iM_def, i_0, i_1, i_2, i_3, i_4, i_5, i_6, i_7, i_8, i_9, i_10, i_12, i_17, i_29, i_31, i_33, i_36, i_37, i_40, i_41, i_42, i_43, i_44, i_45, i_47, i_48, i_50, i_53, i_55, i_56, i_57, i_58, i_59, i_60, i_61, i_98, i_99, i_100, i_102, i_104, i_106, i_110, i_112, i_119, i_120, i_128, i_392, i_448, m_fail0, m_fail1, m_fail2, e10, eq_self, if_true, if_false, bw_some]
      refine DM.pre h (nI 0) (fun V2 h2 hc e => ?_)
      rw [e]
      have w2 : WF (V2 110) := by rw [h2.1]; exact K.w
      have fin : ∀ v, cOf σ.1 a j = v → DM (some (v, V2)) V2 (.inl (cOf σ.1 a j), σ) := fun v e => DM.of rfl h2 (FrM.rf _) hc (fun v' hv => by cases hv; exact e.symm)
      simp (disch := omega) only [m_neighbours w2, m_freeMany w2, m_wi, m_cr, m_placeOf w2, bd_some, h2.1]
      rcases (show j = 0 ∨ j = 1 ∨ j = 2 ∨ j = 3 ∨ j = 4 ∨ j = 5 ∨ j = 6 by omega) with rfl | rfl | rfl | rfl | rfl | rfl | rfl <;> simp (disch := omega) only [nI_eq, Nat.reduceEqDiff, if_true, if_false, m_sz, m_hu, bd_some, h2.1] <;> exact fin _ rfl
theorem i_paintedIn (r : LR V 1 g) (w : WF g) (x : Int32) : d_X1_countPaintedIn x V = some (nI (cnt (fun c => decide (hu g c = x)) (gN g))) := by
  have n7 := wf_n7 w
  unfold d_X1_countPaintedIn d_X1_countPaintedIn_4
  refine lo3_inv (gN g) (fun k y0 y1 => y0 = x ∧ y1 = nI (cnt (fun c => decide (hu g c = x)) k)) ?_ ?_ FU (show gN g < 1000 by omega) _ _ ⟨rfl, rfl⟩
  · rintro K k y0 y1 hk ⟨rfl, rfl⟩ hK
    have hK := hK y0 _ ⟨rfl, rfl⟩
    rw [cnt_s] at hK
    unfold d_X1_countPaintedIn_4b
    simp (disch := omega) only [↓iM_def, i_0, i_1, i_2, i_3, i_4, i_5, i_6, i_7, i_8, i_9, i_10, i_12, i_17, i_29, i_31, i_33, i_36, i_37, i_40, i_41, i_42, i_43, i_44, i_45, i_47, i_48, i_50, i_53, i_55, i_56, i_57, i_58, i_59, i_60, i_61, i_98, i_99, i_100, i_102, i_104, i_106, i_110, i_112, i_119, i_120, i_128, i_392, i_448, nI_add, nI_leI, nI_ltI, nI_eq, nI_clamp, iM_le, iM_lt, iM_nle, iM_nlt, iM_ne, iM_ne', Nat.add_zero, pk_mul, asr_inb, bd_some, bw_some, bx_inl, bx_inr, bh_inl, bh_inr, b2_eq0, b2_eq1, asr_zok, nz_nI, lr_n r w, lr_hu r]
    rw [if_neg (by omega)]
    by_cases hq : hu g k = y0
    · rw [if_pos hq]
      simpa [hq] using hK
    · rw [if_neg hq]
      simpa [hq] using hK
  · rintro K y0 y1 ⟨rfl, rfl⟩
    unfold d_X1_countPaintedIn_4b
    simp (disch := omega) only [↓iM_def, i_0, i_1, i_2, i_3, i_4, i_5, i_6, i_7, i_8, i_9, i_10, i_12, i_17, i_29, i_31, i_33, i_36, i_37, i_40, i_41, i_42, i_43, i_44, i_45, i_47, i_48, i_50, i_53, i_55, i_56, i_57, i_58, i_59, i_60, i_61, i_98, i_99, i_100, i_102, i_104, i_106, i_110, i_112, i_119, i_120, i_128, i_392, i_448, nI_add, nI_leI, nI_ltI, nI_eq, nI_clamp, iM_le, iM_lt, iM_nle, iM_nlt, iM_ne, iM_ne', Nat.add_zero, pk_mul, asr_inb, bd_some, bw_some, bx_inl, bx_inr, bh_inl, bh_inr, b2_eq0, b2_eq1, asr_zok, nz_nI, lr_n r w, Nat.le_refl, if_true]
theorem m_paintedIn (w : WF (V 110)) (x : Int32) : d_X5_paintedIn x V = some (nI (cnt (fun c => decide (hu (V 110) c = x)) (gN (V 110)))) := by
  have n7 := wf_n7 w
  unfold d_X5_paintedIn d_X5_paintedIn_4
  refine lo3_inv (gN (V 110)) (fun k y0 y1 => y0 = x ∧ y1 = nI (cnt (fun c => decide (hu (V 110) c = x)) k)) ?_ ?_ FU (show gN (V 110) < 1000 by omega) _ _ ⟨rfl, rfl⟩
  · rintro K k y0 y1 hk ⟨rfl, rfl⟩ hK
    have hK := hK y0 _ ⟨rfl, rfl⟩
    rw [cnt_s] at hK
    unfold d_X5_paintedIn_4b
    simp (disch := omega) only [↓iM_def, i_0, i_1, i_2, i_3, i_4, i_5, i_6, i_7, i_8, i_9, i_10, i_12, i_17, i_29, i_31, i_33, i_36, i_37, i_40, i_41, i_42, i_43, i_44, i_45, i_47, i_48, i_50, i_53, i_55, i_56, i_57, i_58, i_59, i_60, i_61, i_98, i_99, i_100, i_102, i_104, i_106, i_110, i_112, i_119, i_120, i_128, i_392, i_448, nI_add, nI_leI, nI_ltI, nI_eq, nI_clamp, iM_le, iM_lt, iM_nle, iM_nlt, iM_ne, iM_ne', Nat.add_zero, pk_mul, asr_inb, bd_some, bw_some, bx_inl, bx_inr, bh_inl, bh_inr, b2_eq0, b2_eq1, asr_zok, nz_nI, wf_n w, m_hu]
    rw [if_neg (by omega)]
    by_cases hq : hu (V 110) k = y0
    · rw [if_pos hq]
      simpa [hq] using hK
    · rw [if_neg hq]
      simpa [hq] using hK
  · rintro K y0 y1 ⟨rfl, rfl⟩
    unfold d_X5_paintedIn_4b
    simp (disch := omega) only [↓iM_def, i_0, i_1, i_2, i_3, i_4, i_5, i_6, i_7, i_8, i_9, i_10, i_12, i_17, i_29, i_31, i_33, i_36, i_37, i_40, i_41, i_42, i_43, i_44, i_45, i_47, i_48, i_50, i_53, i_55, i_56, i_57, i_58, i_59, i_60, i_61, i_98, i_99, i_100, i_102, i_104, i_106, i_110, i_112, i_119, i_120, i_128, i_392, i_448, nI_add, nI_leI, nI_ltI, nI_eq, nI_clamp, iM_le, iM_lt, iM_nle, iM_nlt, iM_ne, iM_ne', Nat.add_zero, pk_mul, asr_inb, bd_some, bw_some, bx_inl, bx_inr, bh_inl, bh_inr, b2_eq0, b2_eq1, asr_zok, nz_nI, wf_n w, Nat.le_refl, if_true]
def spHueOf (σ : Sg) (x y : Int32) : (Int32 ⊕ Nat) × Sg :=
  if isH x = true then
    if (decide (nI 0 ≤ y) && decide (y ≤ nI 3)) = true then (.inl (hOf σ.1 (nt x) (nt y)), σ) else (.inr 2, σ)
  else (.inr 1, σ)
theorem I_hueOf (h : AI V σ) (K : OKs σ) (x y : Int32) : DI eIO eIA (d_X4_hueOf x y V) V (spHueOf σ x y) := by
  have n7 := wf_n7 K.w
  have u5 := wf_u5 K.w
  unfold d_X4_hueOf spHueOf
  cases hx : isH x with
  | false =>
    rw [i_stopH_f hx, bx_inr, if_neg (by decide)]
    exact DI.err h (Or.inr trivial)
  | true =>
    rw [i_stopH_t hx, bx_inl, if_pos rfl]
    obtain ⟨a, ha, rfl⟩ := isH_of hx
    simp (disch := omega) only [↓iM_def, i_0, i_1, i_2, i_3, i_4, i_5, i_6, i_7, i_8, i_9, i_10, i_12, i_17, i_29, i_31, i_33, i_36, i_37, i_40, i_41, i_42, i_43, i_44, i_45, i_47, i_48, i_50, i_53, i_55, i_56, i_57, i_58, i_59, i_60, i_61, i_98, i_99, i_100, i_102, i_104, i_106, i_110, i_112, i_119, i_120, i_128, i_392, i_448, nI_add, nI_leI, nI_ltI, nI_eq, nI_clamp, iM_le, iM_lt, iM_nle, iM_nlt, iM_ne, iM_ne', Nat.add_zero, pk_mul, asr_inb, bd_some, bw_some, bx_inl, bx_inr, bh_inl, bh_inr, b2_eq0, b2_eq1, asr_zok, nz_nI, lr_u h.1 K.w, lr_po h.1, lr_us h.1, i_paintedIn h.1 K.w]
    cases hy : (decide (nI 0 ≤ y) && decide (y ≤ nI 3)) with
    | false =>
      have ne := out_rngc (n := 3) (by omega) hy
      rw [if_neg (ne 0 (by omega)), if_neg (ne 1 (by omega)), if_neg (ne 2 (by omega)), if_neg (ne 3 (by omega)), if_neg (by decide)]
      exact DI.err2 h
    | true =>
      obtain ⟨j, hj, rfl⟩ := in_rngc (n := 3) (by omega) hy
      rw [if_pos rfl, nt_nI (a := j) (by omega)]
      have fin : ∀ v, hOf σ.1 a j = v → DI eIO eIA (some (Sum.inl v, V)) V (.inl (hOf σ.1 a j), σ) := fun v e => by rw [e]; exact ⟨V, rfl, h, FrI.rf V⟩
      rcases (show j = 0 ∨ j = 1 ∨ j = 2 ∨ j = 3 by omega) with rfl | rfl | rfl | rfl <;> simp (disch := omega) only [nI_eq, Nat.reduceEqDiff, if_true, if_false]
      · exact fin _ rfl
      · by_cases q : gU σ.1 ≤ a
        · rw [if_pos q]; exact fin _ (by show (if gU σ.1 ≤ a then nI 0 else nI 1) = _; rw [if_pos q])
        · rw [if_neg q]; exact fin _ (by show (if gU σ.1 ≤ a then nI 0 else nI 1) = _; rw [if_neg q])
      · exact fin _ rfl
      · exact fin _ rfl
theorem M_hueOf (h : AJ V σ) (K : OKs σ) (x y : Int32) : DM (d_X5_hueOf x y V) V (spHueOf σ x y) := by
  have n7 := wf_n7 K.w
  have u5 := wf_u5 K.w
  unfold d_X5_hueOf spHueOf
  simp only [m_isHue, m_in, bd_some, ↓iM_def, i_0, i_1, i_2, i_3, i_4, i_5, i_6, i_7, i_8, i_9, i_10, i_12, i_17, i_29, i_31, i_33, i_36, i_37, i_40, i_41, i_42, i_43, i_44, i_45, i_47, i_48, i_50, i_53, i_55, i_56, i_57, i_58, i_59, i_60, i_61, i_98, i_99, i_100, i_102, i_104, i_106, i_110, i_112, i_119, i_120, i_128, i_392, i_448, b2_eq0]
  cases hx : isH x with
  | false =>
    rw [if_pos rfl, if_neg (by decide)]
    unfold d_X5_hueOf_26
    simp only [↓iM_def, i_0, i_1, i_2, i_3, i_4, i_5, i_6, i_7, i_8, i_9, i_10, i_12, i_17, i_29, i_31, i_33, i_36, i_37, i_40, i_41, i_42, i_43, i_44, i_45, i_47, i_48, i_50, i_53, i_55, i_56, i_57, i_58, i_59, i_60, i_61, i_98, i_99, i_100, i_102, i_104, i_106, i_110, i_112, i_119, i_120, i_128, i_392, i_448, m_fail0, m_fail1, m_fail2, e10, eq_self, if_true, if_false, bw_some]
    exact DM.err h _
  | true =>
    rw [if_neg (by decide), if_pos rfl]
    obtain ⟨a, ha, rfl⟩ := isH_of hx
    cases hy : (decide (nI 0 ≤ y) && decide (y ≤ nI 3)) with
    | false =>
      rw [if_pos rfl, if_neg (by decide)]
      unfold d_X5_hueOf_26
      simp only [↓iM_def, i_0, i_1, i_2, i_3, i_4, i_5, i_6, i_7, i_8, i_9, i_10, i_12, i_17, i_29, i_31, i_33, i_36, i_37, i_40, i_41, i_42, i_43, i_44, i_45, i_47, i_48, i_50, i_53, i_55, i_56, i_57, i_58, i_59, i_60, i_61, i_98, i_99, i_100, i_102, i_104, i_106, i_110, i_112, i_119, i_120, i_128, i_392, i_448, m_fail0, m_fail1, m_fail2, e10, eq_self, if_true, if_false, bw_some]
      exact DM.err h _
    | true =>
      obtain ⟨j, hj, rfl⟩ := in_rngc (n := 3) (by omega) hy
      rw [if_neg (by decide), if_pos rfl, nt_nI (a := a) (by omega), nt_nI (a := j) (by omega)]
      unfold d_X5_hueOf_26
      simp only [↓iM_def, i_0, i_1, i_2, i_3, i_4, i_5, i_6, i_7, i_8, i_9, i_10, i_12, i_17, i_29, i_31, i_33, i_36, i_37, i_40, i_41, i_42, i_43, i_44, i_45, i_47, i_48, i_50, i_53, i_55, i_56, i_57, i_58, i_59, i_60, i_61, i_98, i_99, i_100, i_102, i_104, i_106, i_110, i_112, i_119, i_120, i_128, i_392, i_448, m_fail0, m_fail1, m_fail2, e10, eq_self, if_true, if_false, bw_some]
      refine DM.pre h (nI 0) (fun V2 h2 hc e => ?_)
      rw [e]
      have w2 : WF (V2 110) := by rw [h2.1]; exact K.w
      have fin : ∀ v, hOf σ.1 a j = v → DM (some (v, V2)) V2 (.inl (hOf σ.1 a j), σ) := fun v e => DM.of rfl h2 (FrM.rf _) hc (fun v' hv => by cases hv; exact e.symm)
      simp (disch := omega) only [↓iM_def, i_0, i_1, i_2, i_3, i_4, i_5, i_6, i_7, i_8, i_9, i_10, i_12, i_17, i_29, i_31, i_33, i_36, i_37, i_40, i_41, i_42, i_43, i_44, i_45, i_47, i_48, i_50, i_53, i_55, i_56, i_57, i_58, i_59, i_60, i_61, i_98, i_99, i_100, i_102, i_104, i_106, i_110, i_112, i_119, i_120, i_128, i_392, i_448, nI_add, nI_leI, nI_ltI, nI_eq, nI_clamp, iM_le, iM_lt, iM_nle, iM_nlt, iM_ne, iM_ne', Nat.add_zero, pk_mul, asr_inb, bd_some, bw_some, bx_inl, bx_inr, bh_inl, bh_inr, b2_eq0, b2_eq1, asr_zok, nz_nI, m_paintedIn w2, h2.1, wf_u K.w]
      rcases (show j = 0 ∨ j = 1 ∨ j = 2 ∨ j = 3 by omega) with rfl | rfl | rfl | rfl <;> simp (disch := omega) only [nI_eq, Nat.reduceEqDiff, if_true, if_false]
      · exact fin _ rfl
      · by_cases q : gU σ.1 ≤ a
        · rw [if_pos q]; exact fin _ (by show (if gU σ.1 ≤ a then nI 0 else nI 1) = _; rw [if_pos q])
        · rw [if_neg q]; exact fin _ (by show (if gU σ.1 ≤ a then nI 0 else nI 1) = _; rw [if_neg q])
      · exact fin _ rfl
      · exact fin _ rfl
def spStep (σ : Sg) (x : Int32) : (Int32 ⊕ Nat) × Sg :=
  if (decide (nI 0 ≤ x) && decide (x < nI (gS σ.1))) = true then (.inl (nI (st σ.1 (nt x))), σ) else (.inr 1, σ)
theorem I_step (h : AI V σ) (K : OKs σ) (x : Int32) : DI eNS E2 (d_X4_step x V) V (spStep σ x) := by
  have s7 := wf_s7 K.w
  unfold d_X4_step d_X4_step_15 spStep
  simp only [↓iM_def, i_0, i_1, i_2, i_3, i_4, i_5, i_6, i_7, i_8, i_9, i_10, i_12, i_17, i_29, i_31, i_33, i_36, i_37, i_40, i_41, i_42, i_43, i_44, i_45, i_47, i_48, i_50, i_53, i_55, i_56, i_57, i_58, i_59, i_60, i_61, i_98, i_99, i_100, i_102, i_104, i_106, i_110, i_112, i_119, i_120, i_128, i_392, i_448, lr_s h.1 K.w]
  by_cases h1 : x < nI 0
  · rw [if_pos h1, decide_eq_false (Int32.not_le.mpr h1), if_neg (by simp)]
    exact DI.err h (Or.inr trivial)
  · rw [if_neg h1, decide_eq_true (Int32.not_lt.mp h1)]
    by_cases h2 : x < nI (gS σ.1)
    · rw [if_pos h2, decide_eq_true h2, if_pos (by rfl)]
      obtain ⟨a, ha, rfl⟩ := in_rng (n := gS σ.1) (x := x) (by omega) (by rw [decide_eq_true h2]; simp; exact Int32.not_lt.mp h1)
      rw [nt_nI (a := a) (by omega)]
      simp (disch := omega) only [asr_inb, nI_clamp, lr_st h.1 K.w]
      exact ⟨V, rfl, h, FrI.rf V⟩
    · rw [if_neg h2, decide_eq_false h2, if_neg (by simp)]
      exact DI.err h (Or.inr trivial)
theorem M_step (h : AJ V σ) (K : OKs σ) (x : Int32) : DM (d_X5_step x V) V (spStep σ x) := by
  have s7 := wf_s7 K.w
  unfold d_X5_step spStep
  simp only [m_in, bd_some, ↓iM_def, i_0, i_1, i_2, i_3, i_4, i_5, i_6, i_7, i_8, i_9, i_10, i_12, i_17, i_29, i_31, i_33, i_36, i_37, i_40, i_41, i_42, i_43, i_44, i_45, i_47, i_48, i_50, i_53, i_55, i_56, i_57, i_58, i_59, i_60, i_61, i_98, i_99, i_100, i_102, i_104, i_106, i_110, i_112, i_119, i_120, i_128, i_392, i_448, b2_eq0, h.1, wf_s K.w, lt_pred (n := gS σ.1) (by omega)]
  cases hx : (decide (nI 0 ≤ x) && decide (x < nI (gS σ.1))) with
  | false =>
    rw [if_pos rfl, if_neg (by decide)]
    unfold d_X5_step_23
    simp only [↓iM_def, i_0, i_1, i_2, i_3, i_4, i_5, i_6, i_7, i_8, i_9, i_10, i_12, i_17, i_29, i_31, i_33, i_36, i_37, i_40, i_41, i_42, i_43, i_44, i_45, i_47, i_48, i_50, i_53, i_55, i_56, i_57, i_58, i_59, i_60, i_61, i_98, i_99, i_100, i_102, i_104, i_106, i_110, i_112, i_119, i_120, i_128, i_392, i_448, m_fail0, m_fail1, m_fail2, e10, eq_self, if_true, if_false, bw_some]
    exact DM.err h _
  | true =>
    rw [if_neg (by decide), if_pos rfl]
    obtain ⟨a, ha, rfl⟩ := in_rng (n := gS σ.1) (x := x) (by omega) hx
    unfold d_X5_step_23
    simp only [↓iM_def, i_0, i_1, i_2, i_3, i_4, i_5, i_6, i_7, i_8, i_9, i_10, i_12, i_17, i_29, i_31, i_33, i_36, i_37, i_40, i_41, i_42, i_43, i_44, i_45, i_47, i_48, i_50, i_53, i_55, i_56, i_57, i_58, i_59, i_60, i_61, i_98, i_99, i_100, i_102, i_104, i_106, i_110, i_112, i_119, i_120, i_128, i_392, i_448, m_fail0, m_fail1, m_fail2, e10, eq_self, if_true, if_false, bw_some]
    refine DM.pre h (nI 0) (fun V2 h2 hc e => ?_)
    rw [e, nt_nI (a := a) (by omega)]
    simp (disch := omega) only [↓iM_def, i_0, i_1, i_2, i_3, i_4, i_5, i_6, i_7, i_8, i_9, i_10, i_12, i_17, i_29, i_31, i_33, i_36, i_37, i_40, i_41, i_42, i_43, i_44, i_45, i_47, i_48, i_50, i_53, i_55, i_56, i_57, i_58, i_59, i_60, i_61, i_98, i_99, i_100, i_102, i_104, i_106, i_110, i_112, i_119, i_120, i_128, i_392, i_448, nI_add, nI_leI, nI_ltI, nI_eq, nI_clamp, iM_le, iM_lt, iM_nle, iM_nlt, iM_ne, iM_ne', Nat.add_zero, pk_mul, asr_inb, bd_some, bw_some, bx_inl, bx_inr, bh_inl, bh_inr, b2_eq0, b2_eq1, asr_zok, nz_nI, h2.1, wf_st K.w]
    exact DM.of rfl h2 (FrM.rf _) hc (fun v' hv => by cases hv; rfl)
def spStuck (σ : Sg) : (Int32 ⊕ Nat) × Sg := match fnd (stk σ.1) (gN σ.1) with
  | some c => (.inl (nI c), σ)
  | none => (.inr 1, σ)
theorem I_stuck (h : AI V σ) (K : OKs σ) : DI eNS E2 (d_X4_stuck V) V (spStuck σ) := by
  have n7 := wf_n7 K.w
  have e : d_X1_firstStuck V = some (io (fnd (stk σ.1) (gN σ.1))) := by
    unfold d_X1_firstStuck d_X1_firstStuck_2
    refine lo1_inv (gN σ.1) (fun k => fnd (stk σ.1) k = none) ?_ ?_ FU (show gN σ.1 < 1000 by omega) rfl
    · rintro Kk k hk hf hK
      unfold d_X1_firstStuck_2b
      simp (disch := omega) only [↓iM_def, i_0, i_1, i_2, i_3, i_4, i_5, i_6, i_7, i_8, i_9, i_10, i_12, i_17, i_29, i_31, i_33, i_36, i_37, i_40, i_41, i_42, i_43, i_44, i_45, i_47, i_48, i_50, i_53, i_55, i_56, i_57, i_58, i_59, i_60, i_61, i_98, i_99, i_100, i_102, i_104, i_106, i_110, i_112, i_119, i_120, i_128, i_392, i_448, nI_add, nI_leI, nI_ltI, nI_eq, nI_clamp, iM_le, iM_lt, iM_nle, iM_nlt, iM_ne, iM_ne', Nat.add_zero, pk_mul, asr_inb, bd_some, bw_some, bx_inl, bx_inr, bh_inl, bh_inr, b2_eq0, b2_eq1, asr_zok, nz_nI, lr_n h.1 K.w, i_isStuck h.1 K.w]
      rw [if_neg (by omega)]
      cases hq : stk σ.1 k with
      | false => rw [if_pos rfl]; exact hK (fnd_go hf hq)
      | true =>
        rw [if_neg (by decide), fnd_stop hk hf hq]
        rfl
    · rintro Kk hf
      unfold d_X1_firstStuck_2b
      simp (disch := omega) only [↓iM_def, i_0, i_1, i_2, i_3, i_4, i_5, i_6, i_7, i_8, i_9, i_10, i_12, i_17, i_29, i_31, i_33, i_36, i_37, i_40, i_41, i_42, i_43, i_44, i_45, i_47, i_48, i_50, i_53, i_55, i_56, i_57, i_58, i_59, i_60, i_61, i_98, i_99, i_100, i_102, i_104, i_106, i_110, i_112, i_119, i_120, i_128, i_392, i_448, nI_add, nI_leI, nI_ltI, nI_eq, nI_clamp, iM_le, iM_lt, iM_nle, iM_nlt, iM_ne, iM_ne', Nat.add_zero, pk_mul, asr_inb, bd_some, bw_some, bx_inl, bx_inr, bh_inl, bh_inr, b2_eq0, b2_eq1, asr_zok, nz_nI, lr_n h.1 K.w, Nat.le_refl, if_true]
      rw [hf]
      rfl
  unfold d_X4_stuck spStuck
  rw [e, bd_some]
  simp only [↓iM_def, io_m (o := fnd (stk σ.1) (gN σ.1)) (n := gN σ.1) (by omega) (fun k hk => fnd_lt hk)]
  cases fnd (stk σ.1) (gN σ.1) with
  | none => rw [if_pos rfl]; exact DI.err h (Or.inr trivial)
  | some c => rw [if_neg (by intro q; cases q)]; exact ⟨V, rfl, h, FrI.rf V⟩
theorem M_stuck (h : AJ V σ) (K : OKs σ) : DM (d_X5_stuck V) V (spStuck σ) := by
  have n7 := wf_n7 K.w
  have wV : WF (V 110) := by rw [h.1]; exact K.w
  have e : d_X5_stuck V = some (match fnd (stk σ.1) (gN σ.1) with | some c => (nI c, up2 V 109 7 (nI 0)) | none => (nI 0, up2 V 109 7 (nI 1))) := by
    unfold d_X5_stuck d_X5_stuck_2
    refine lo1W_inv (gN σ.1) (fun k Vk => Vk = V ∧ fnd (stk σ.1) k = none) ?_ ?_ FU (show gN σ.1 < 1000 by omega) _ ⟨rfl, rfl⟩
    · rintro Kk k Vk hk ⟨rfl, hf⟩ hK
      unfold d_X5_stuck_2b d_X5_stuck_26 d_X5_stuck_42
      simp (disch := omega) only [↓iM_def, i_0, i_1, i_2, i_3, i_4, i_5, i_6, i_7, i_8, i_9, i_10, i_12, i_17, i_29, i_31, i_33, i_36, i_37, i_40, i_41, i_42, i_43, i_44, i_45, i_47, i_48, i_50, i_53, i_55, i_56, i_57, i_58, i_59, i_60, i_61, i_98, i_99, i_100, i_102, i_104, i_106, i_110, i_112, i_119, i_120, i_128, i_392, i_448, nI_add, nI_leI, nI_ltI, nI_eq, nI_clamp, iM_le, iM_lt, iM_nle, iM_nlt, iM_ne, iM_ne', Nat.add_zero, pk_mul, asr_inb, bd_some, bw_some, bx_inl, bx_inr, bh_inl, bh_inr, b2_eq0, b2_eq1, asr_zok, nz_nI, h.1, wf_n K.w, m_isStuck wV]
      rw [if_neg (by omega)]
      cases hq : stk σ.1 k with
      | false => rw [if_pos rfl]; exact hK _ ⟨rfl, fnd_go hf hq⟩
      | true =>
        rw [if_neg (by decide), if_neg (by omega), fnd_stop hk hf hq]
        simp only [↓iM_def, i_0, i_1, i_2, i_3, i_4, i_5, i_6, i_7, i_8, i_9, i_10, i_12, i_17, i_29, i_31, i_33, i_36, i_37, i_40, i_41, i_42, i_43, i_44, i_45, i_47, i_48, i_50, i_53, i_55, i_56, i_57, i_58, i_59, i_60, i_61, i_98, i_99, i_100, i_102, i_104, i_106, i_110, i_112, i_119, i_120, i_128, i_392, i_448, m_fail0, m_fail1, m_fail2, e10, eq_self, if_true, if_false, bw_some]
    · rintro Kk Vk ⟨rfl, hf⟩
      unfold d_X5_stuck_2b d_X5_stuck_26 d_X5_stuck_42
      simp (disch := omega) only [↓iM_def, i_0, i_1, i_2, i_3, i_4, i_5, i_6, i_7, i_8, i_9, i_10, i_12, i_17, i_29, i_31, i_33, i_36, i_37, i_40, i_41, i_42, i_43, i_44, i_45, i_47, i_48, i_50, i_53, i_55, i_56, i_57, i_58, i_59, i_60, i_61, i_98, i_99, i_100, i_102, i_104, i_106, i_110, i_112, i_119, i_120, i_128, i_392, i_448, nI_add, nI_leI, nI_ltI, nI_eq, nI_clamp, iM_le, iM_lt, iM_nle, iM_nlt, iM_ne, iM_ne', Nat.add_zero, pk_mul, asr_inb, bd_some, bw_some, bx_inl, bx_inr, bh_inl, bh_inr, b2_eq0, b2_eq1, asr_zok, nz_nI, h.1, wf_n K.w, Nat.le_refl, if_true]
      rw [hf]
      simp only [↓iM_def, i_0, i_1, i_2, i_3, i_4, i_5, i_6, i_7, i_8, i_9, i_10, i_12, i_17, i_29, i_31, i_33, i_36, i_37, i_40, i_41, i_42, i_43, i_44, i_45, i_47, i_48, i_50, i_53, i_55, i_56, i_57, i_58, i_59, i_60, i_61, i_98, i_99, i_100, i_102, i_104, i_106, i_110, i_112, i_119, i_120, i_128, i_392, i_448, m_fail0, m_fail1, m_fail2, e10, eq_self, if_true, if_false, bw_some]
  unfold spStuck
  rw [e]
  cases fnd (stk σ.1) (gN σ.1) with
  | none => exact DM.err h _
  | some c => exact DM.of rfl (h.c7 _) (fr7 _ _ _) (by rw [up2_at, upd_eq]; rfl) (fun v' hv => by cases hv; rfl)
def sumFul (g : Row) : Int32 := smI (fun c => if ful g c = true then cr g c else nI 0) (gN g)
theorem add0 (x : Int32) : x + nI 0 = x := Int32.add_zero x
theorem I_fulfilled (h : AI V σ) (K : OKs σ) : d_X4_fulfilled V = some (sumFul σ.1) := by
  have n7 := wf_n7 K.w
  unfold d_X4_fulfilled d_X1_sumFulfilledCrowns d_X1_sumFulfilledCrowns_4
  have e : lo2 (d_X1_sumFulfilledCrowns_4b V) FU 0 0 = some (sumFul σ.1) := by
    refine lo2_inv (gN σ.1) (fun k y0 => y0 = smI (fun c => if ful σ.1 c = true then cr σ.1 c else nI 0) k) ?_ ?_ FU (show gN σ.1 < 1000 by omega) _ rfl
    · rintro Kk k y0 hk rfl hK
      have hK := hK _ rfl
      have e1 : smI (fun c => if ful σ.1 c = true then cr σ.1 c else nI 0) (k + 1) = smI (fun c => if ful σ.1 c = true then cr σ.1 c else nI 0) k + (if ful σ.1 k = true then cr σ.1 k else nI 0) := rfl
      rw [e1] at hK
      unfold d_X1_sumFulfilledCrowns_4b
      simp (disch := omega) only [↓iM_def, i_0, i_1, i_2, i_3, i_4, i_5, i_6, i_7, i_8, i_9, i_10, i_12, i_17, i_29, i_31, i_33, i_36, i_37, i_40, i_41, i_42, i_43, i_44, i_45, i_47, i_48, i_50, i_53, i_55, i_56, i_57, i_58, i_59, i_60, i_61, i_98, i_99, i_100, i_102, i_104, i_106, i_110, i_112, i_119, i_120, i_128, i_392, i_448, nI_add, nI_leI, nI_ltI, nI_eq, nI_clamp, iM_le, iM_lt, iM_nle, iM_nlt, iM_ne, iM_ne', Nat.add_zero, pk_mul, asr_inb, bd_some, bw_some, bx_inl, bx_inr, bh_inl, bh_inr, b2_eq0, b2_eq1, asr_zok, nz_nI, lr_n h.1 K.w, i_isFul h.1, lr_cr h.1]
      rw [if_neg (by omega)]
      cases hq : ful σ.1 k with
      | false =>
        rw [hq, if_neg (by decide), add0] at hK
        rw [if_pos rfl]; exact hK
      | true =>
        rw [hq, if_pos rfl] at hK
        rw [if_neg (by decide)]; exact hK
    · rintro Kk y0 rfl
      unfold d_X1_sumFulfilledCrowns_4b
      simp (disch := omega) only [↓iM_def, i_0, i_1, i_2, i_3, i_4, i_5, i_6, i_7, i_8, i_9, i_10, i_12, i_17, i_29, i_31, i_33, i_36, i_37, i_40, i_41, i_42, i_43, i_44, i_45, i_47, i_48, i_50, i_53, i_55, i_56, i_57, i_58, i_59, i_60, i_61, i_98, i_99, i_100, i_102, i_104, i_106, i_110, i_112, i_119, i_120, i_128, i_392, i_448, nI_add, nI_leI, nI_ltI, nI_eq, nI_clamp, iM_le, iM_lt, iM_nle, iM_nlt, iM_ne, iM_ne', Nat.add_zero, pk_mul, asr_inb, bd_some, bw_some, bx_inl, bx_inr, bh_inl, bh_inr, b2_eq0, b2_eq1, asr_zok, nz_nI, lr_n h.1 K.w, Nat.le_refl, if_true]
      rfl
  rw [e]
  rfl
theorem M_fulfilled (h : AJ V σ) (K : OKs σ) : DM (d_X5_fulfilled V) V (.inl (sumFul σ.1), σ) := by
  have n7 := wf_n7 K.w
  unfold d_X5_fulfilled d_X5_fulfilled_9
  refine DM.pre h (nI 0) (fun V2 h2 hc e => ?_)
  rw [i_0, e]
  have w2 : WF (V2 110) := by rw [h2.1]; exact K.w
  have e : lo2W d_X5_fulfilled_9b FU (nI 0) (nI 0) V2 = some (sumFul σ.1, V2) := by
    refine lo2W_inv (gN σ.1) (fun k y0 Vk => Vk = V2 ∧ y0 = smI (fun c => if ful σ.1 c = true then cr σ.1 c else nI 0) k) ?_ ?_ FU (show gN σ.1 < 1000 by omega) _ _ ⟨rfl, rfl⟩
    · rintro Kk k y0 Vk hk ⟨rfl, rfl⟩ hK
      have hK := hK _ _ ⟨rfl, rfl⟩
      have e1 : smI (fun c => if ful σ.1 c = true then cr σ.1 c else nI 0) (k + 1) = smI (fun c => if ful σ.1 c = true then cr σ.1 c else nI 0) k + (if ful σ.1 k = true then cr σ.1 k else nI 0) := rfl
      rw [e1] at hK
      unfold d_X5_fulfilled_9b
      simp (disch := omega) only [↓iM_def, i_0, i_1, i_2, i_3, i_4, i_5, i_6, i_7, i_8, i_9, i_10, i_12, i_17, i_29, i_31, i_33, i_36, i_37, i_40, i_41, i_42, i_43, i_44, i_45, i_47, i_48, i_50, i_53, i_55, i_56, i_57, i_58, i_59, i_60, i_61, i_98, i_99, i_100, i_102, i_104, i_106, i_110, i_112, i_119, i_120, i_128, i_392, i_448, nI_add, nI_leI, nI_ltI, nI_eq, nI_clamp, iM_le, iM_lt, iM_nle, iM_nlt, iM_ne, iM_ne', Nat.add_zero, pk_mul, asr_inb, bd_some, bw_some, bx_inl, bx_inr, bh_inl, bh_inr, b2_eq0, b2_eq1, asr_zok, nz_nI, wf_n K.w, h2.1, m_isFul w2, m_cr]
      rw [if_neg (by omega)]
      cases hq : ful σ.1 k with
      | false =>
        rw [hq, if_neg (by decide)] at hK
        rw [if_pos rfl]; exact hK
      | true =>
        rw [hq, if_pos rfl] at hK
        rw [if_neg (by decide)]; exact hK
    · rintro Kk y0 Vk ⟨rfl, rfl⟩
      unfold d_X5_fulfilled_9b
      simp (disch := omega) only [↓iM_def, i_0, i_1, i_2, i_3, i_4, i_5, i_6, i_7, i_8, i_9, i_10, i_12, i_17, i_29, i_31, i_33, i_36, i_37, i_40, i_41, i_42, i_43, i_44, i_45, i_47, i_48, i_50, i_53, i_55, i_56, i_57, i_58, i_59, i_60, i_61, i_98, i_99, i_100, i_102, i_104, i_106, i_110, i_112, i_119, i_120, i_128, i_392, i_448, nI_add, nI_leI, nI_ltI, nI_eq, nI_clamp, iM_le, iM_lt, iM_nle, iM_nlt, iM_ne, iM_ne', Nat.add_zero, pk_mul, asr_inb, bd_some, bw_some, bx_inl, bx_inr, bh_inl, bh_inr, b2_eq0, b2_eq1, asr_zok, nz_nI, wf_n K.w, h2.1, Nat.le_refl, if_true]
      rfl
  rw [e]
  exact DM.of rfl h2 (FrM.rf _) hc (fun v' hv => by cases hv; rfl)
theorem I_errorPosition (h : AI V σ) : d_X4_errorPosition V = some σ.2.2.2.2.2.1 := by
  unfold d_X4_errorPosition
  rw [h.2.2.2.2.2.1]
theorem M_errorPosition (h : AJ V σ) : DM (d_X5_errorPosition V) V (.inl σ.2.2.2.2.2.1, σ) := by
  unfold d_X5_errorPosition
  exact DM.of rfl (h.c7 _) (fr7 _ _ _) (by rw [up2_at, upd_eq]; rfl) (fun v' hv => by cases hv; exact h.2.2.2.2.2.1)
def spRefusal (σ : Sg) (x : Int32) : (Int32 ⊕ Nat) × Sg :=
  if σ.2.2.2.2.2.2.1 = (0 : Int32) then (.inr 1, σ) else (.inl (if x = (0 : Int32) then σ.2.2.2.2.2.2.1 else σ.2.2.2.2.2.2.2), σ)
theorem m_failL0 : d_X5_fails (0 : Int32) V = some ((0 : Int32), up2 V 109 7 (nI 0)) := rfl
theorem m_failL1 : d_X5_fails (1 : Int32) V = some ((1 : Int32), up2 V 109 7 (nI 1)) := rfl
theorem I_refusal (h : AI V σ) (x : Int32) : DI eNS E2 (d_X4_refusal x V) V (spRefusal σ x) := by
  unfold d_X4_refusal spRefusal
  rw [h.2.2.2.2.2.2.1, h.2.2.2.2.2.2.2]
  by_cases h1 : σ.2.2.2.2.2.2.1 = (0 : Int32)
  · rw [if_pos h1, if_pos h1]
    exact DI.err h (Or.inr trivial)
  · rw [if_neg h1, if_neg h1]
    by_cases h2 : x = (0 : Int32)
    · rw [if_pos h2, if_pos h2]; exact ⟨V, rfl, h, FrI.rf V⟩
    · rw [if_neg h2, if_neg h2]; exact ⟨V, rfl, h, FrI.rf V⟩
theorem M_refusal (h : AJ V σ) (x : Int32) : DM (d_X5_refusal x V) V (spRefusal σ x) := by
  unfold d_X5_refusal d_X5_refusal_13 spRefusal
  rw [h.2.2.2.2.2.2.1]
  by_cases h1 : σ.2.2.2.2.2.2.1 = (0 : Int32)
  · rw [if_pos h1, if_pos h1, m_failL1, bw_some, if_neg (by decide)]
    exact DM.err h _
  · rw [if_neg h1, if_neg h1, m_failL0, bw_some, if_pos rfl]
    refine DM.pre h (nI 0) (fun V2 h2 hc e => ?_)
    rw [e, h2.2.2.2.2.2.2.1, h2.2.2.2.2.2.2.2.1]
    by_cases h3 : x = (0 : Int32)
    · rw [if_pos h3, if_pos h3]; exact DM.of rfl h2 (FrM.rf _) hc (fun v' hv => by cases hv; rfl)
    · rw [if_neg h3, if_neg h3]; exact DM.of rfl h2 (FrM.rf _) hc (fun v' hv => by cases hv; rfl)
end
