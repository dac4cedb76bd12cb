/-! PURE ROWS: what the questions of the reference answer, over its row V 110 -/
def isC (g : Row) (x : Int32) : Bool := decide (0 ≤ x) && decide (x < nI (gN g))
def isH (x : Int32) : Bool := decide (0 ≤ x) && decide (x < nI 5)
theorem lt_pred {x : Int32} {n : Nat} (h : n < 2 ^ 30) : (x ≤ nI n - nI 1) = (x < nI n) := by
  apply propext
  rw [Int32.le_iff_toInt_le, Int32.lt_iff_toInt_lt, pk_sub_toInt h (by omega), nI_toInt (by omega)]
  omega
theorem in_rng {x : Int32} {n : Nat} (hn : n < 2 ^ 31) (h : (decide (0 ≤ x) && decide (x < nI n)) = true) : ∃ c, c < n ∧ x = nI c := by
  simp only [Bool.and_eq_true, decide_eq_true_eq] at h
  obtain ⟨j, h1, rfl⟩ := nI_of (x := x) (Int32.not_lt.mpr h.1)
  exact ⟨j, (nI_ltI h1 hn).mp h.2, rfl⟩
theorem in_rng' {c n : Nat} (hn : n < 2 ^ 31) (h : c < n) : (decide (0 ≤ nI c) && decide (nI c < nI n)) = true := by
  have h1 : (0 : Int32) ≤ nI c := nI_pos' (by omega)
  have h2 : nI c < nI n := (nI_ltI (by omega) hn).mpr h
  simp [h1, h2]
theorem isC_of {g : Row} (w : WF g) {x : Int32} (h : isC g x = true) : ∃ c, c < gN g ∧ x = nI c := in_rng (by have := wf_n7 w; omega) h
theorem isC_nI {g : Row} (w : WF g) {c : Nat} (h : c < gN g) : isC g (nI c) = true := in_rng' (by have := wf_n7 w; omega) h
theorem isH_of {x : Int32} (h : isH x = true) : ∃ c, c < 5 ∧ x = nI c := in_rng (by omega) h
theorem isH_nI {c : Nat} (h : c < 5) : isH (nI c) = true := in_rng' (by omega) h
section
variable {V : VT}
theorem m_in (x a b : Int32) : d_X5_in x a b V = some (b2 (decide (a ≤ x) && decide (x ≤ b))) := by
  unfold d_X5_in
  by_cases h1 : x < a
  · rw [if_pos h1, decide_eq_false (Int32.not_le.mpr h1)]; rfl
  · rw [if_neg h1, decide_eq_true (Int32.not_lt.mp h1)]
    by_cases h2 : b < x
    · rw [if_pos h2, decide_eq_false (Int32.not_le.mpr h2)]; rfl
    · rw [if_neg h2, decide_eq_true (Int32.not_lt.mp h2)]; rfl
theorem m_isCountry (w : WF (V 110)) (x : Int32) : d_X5_isCountry x V = some (b2 (isC (V 110) x)) := by
  have n7 := wf_n7 w
  unfold d_X5_isCountry isC
  simp only [m_in, bd_some, asr_zok, wf_n w]
  have e : (x ≤ nI (gN (V 110)) - (1 : Int32)) = (x < nI (gN (V 110))) := lt_pred (by omega)
  simp only [e]
theorem m_isHue (x : Int32) : d_X5_isHue x V = some (b2 (isH x)) := by
  unfold d_X5_isHue isH
  simp only [m_in, bd_some, asr_zok]
  have e : (x ≤ (4 : Int32)) = (x < nI 5) := lt_pred (n := 5) (by omega)
  simp only [e]
theorem m_of {c j : Nat} (hc : c < 7) (hj : j < 4) : d_X5_of (nI c) (nI j) V = some (V 110 (1 + 4 * c + j)) := by
  unfold d_X5_of
  simp (disch := omega) only [↓iM_def, i_0, i_1, i_2, i_3, i_4, i_5, i_6, i_7, i_8, i_9, i_10, i_12, i_17, i_29, i_31, i_33, i_36, i_37, i_40, i_41, i_42, i_43, i_44, i_45, i_47, i_48, i_50, i_53, i_55, i_56, i_57, i_58, i_59, i_60, i_61, i_98, i_99, i_100, i_102, i_104, i_106, i_110, i_112, i_119, i_120, i_128, i_392, i_448, nI_add, nI_leI, nI_ltI, nI_eq, nI_clamp, iM_le, iM_lt, iM_nle, iM_nlt, iM_ne, iM_ne', Nat.add_zero, pk_mul, asr_inb, bd_some, bw_some, bx_inl, bx_inr, bh_inl, bh_inr, b2_eq0, b2_eq1, asr_zok, nz_nI]
theorem m_sz {c : Nat} (hc : c < 7) : d_X5_of (nI c) (nI 0) V = some (sz (V 110) c) := m_of hc (by omega)
theorem m_hu {c : Nat} (hc : c < 7) : d_X5_of (nI c) (nI 1) V = some (hu (V 110) c) := m_of hc (by omega)
theorem m_wi {c : Nat} (hc : c < 7) : d_X5_of (nI c) (nI 2) V = some (wi (V 110) c) := m_of hc (by omega)
theorem m_cr {c : Nat} (hc : c < 7) : d_X5_of (nI c) (nI 3) V = some (cr (V 110) c) := m_of hc (by omega)
theorem m_lays {c j : Nat} (x : Int32) (hc : c < 7) (hj : j < 4) : d_X5_lays (nI c) (nI j) x V = some (up2 V 110 (1 + 4 * c + j) x) := by
  unfold d_X5_lays
  simp (disch := omega) only [↓iM_def, i_0, i_1, i_2, i_3, i_4, i_5, i_6, i_7, i_8, i_9, i_10, i_12, i_17, i_29, i_31, i_33, i_36, i_37, i_40, i_41, i_42, i_43, i_44, i_45, i_47, i_48, i_50, i_53, i_55, i_56, i_57, i_58, i_59, i_60, i_61, i_98, i_99, i_100, i_102, i_104, i_106, i_110, i_112, i_119, i_120, i_128, i_392, i_448, nI_add, nI_leI, nI_ltI, nI_eq, nI_clamp, iM_le, iM_lt, iM_nle, iM_nlt, iM_ne, iM_ne', Nat.add_zero, pk_mul, asr_inb, bd_some, bw_some, bx_inl, bx_inr, bh_inl, bh_inr, b2_eq0, b2_eq1, asr_zok, nz_nI]
theorem hu_lt (w : WF (V 110)) {c : Nat} (hc : c < 7) : (hu (V 110) c < nI 0) = (ptd (V 110) c = false) := by
  rw [ptd_f]
  rcases wf_hu w c hc with h | ⟨x, x5, h⟩
  · rw [h]; simp (disch := omega) only [nI_add, nI_leI, nI_ltI, nI_eq, nI_clamp, iM_le, iM_lt, iM_nle, iM_nlt, iM_ne, iM_ne', Nat.add_zero, pk_mul]
  · rw [h]; simp (disch := omega) only [nI_add, nI_leI, nI_ltI, nI_eq, nI_clamp, iM_le, iM_lt, iM_nle, iM_nlt, iM_ne, iM_ne', Nat.add_zero, pk_mul]
    simp
theorem m_isP (w : WF (V 110)) {c : Nat} (hc : c < 7) : d_X5_isPainted (nI c) V = some (b2 (ptd (V 110) c)) := by
  unfold d_X5_isPainted
  simp (disch := omega) only [↓iM_def, i_0, i_1, i_2, i_3, i_4, i_5, i_6, i_7, i_8, i_9, i_10, i_12, i_17, i_29, i_31, i_33, i_36, i_37, i_40, i_41, i_42, i_43, i_44, i_45, i_47, i_48, i_50, i_53, i_55, i_56, i_57, i_58, i_59, i_60, i_61, i_98, i_99, i_100, i_102, i_104, i_106, i_110, i_112, i_119, i_120, i_128, i_392, i_448, nI_add, nI_leI, nI_ltI, nI_eq, nI_clamp, iM_le, iM_lt, iM_nle, iM_nlt, iM_ne, iM_ne', Nat.add_zero, pk_mul, asr_inb, bd_some, bw_some, bx_inl, bx_inr, bh_inl, bh_inr, b2_eq0, b2_eq1, asr_zok, nz_nI, m_hu, hu_lt w]
  cases ptd (V 110) c <;> simp [b2_t, b2_f]
theorem m_touches (w : WF (V 110)) {a b : Nat} (ha : a < 7) (hb : b < 7) : d_X5_touches (nI a) (nI b) V = some (b2 (tt (V 110) a b)) := by
  have h1 := wf_nb7 w ha
  unfold d_X5_touches
  simp (disch := omega) only [↓iM_def, i_0, i_1, i_2, i_3, i_4, i_5, i_6, i_7, i_8, i_9, i_10, i_12, i_17, i_29, i_31, i_33, i_36, i_37, i_40, i_41, i_42, i_43, i_44, i_45, i_47, i_48, i_50, i_53, i_55, i_56, i_57, i_58, i_59, i_60, i_61, i_98, i_99, i_100, i_102, i_104, i_106, i_110, i_112, i_119, i_120, i_128, i_392, i_448, nI_add, nI_leI, nI_ltI, nI_eq, nI_clamp, iM_le, iM_lt, iM_nle, iM_nlt, iM_ne, iM_ne', Nat.add_zero, pk_mul, asr_inb, bd_some, bw_some, bx_inl, bx_inr, bh_inl, bh_inr, b2_eq0, b2_eq1, asr_zok, nz_nI, wf_nb w, bt_nI]
  unfold tt
  cases (nb (V 110) a).testBit b <;> simp [b2_t, b2_f]
theorem m_nbIn (w : WF (V 110)) {c : Nat} (hc : c < 7) (x : Int32) : d_X5_neighbourIn (nI c) x V = some (io (nbIn (V 110) c x)) := by
  have n7 := wf_n7 w
  unfold d_X5_neighbourIn d_X5_neighbourIn_2
  refine lo3_inv (gN (V 110)) (fun k y0 y1 => y0 = nI c ∧ y1 = x ∧ fnd (fun o => tt (V 110) c o && decide (hu (V 110) o = x)) k = none) ?_ ?_ FU (show gN (V 110) < 1000 by omega) _ _ ⟨rfl, rfl, rfl⟩
  · rintro K k y0 y1 hk ⟨rfl, rfl, hf⟩ hK
    unfold d_X5_neighbourIn_2b
    simp (disch := omega) only [↓iM_def, i_0, i_1, i_2, i_3, i_4, i_5, i_6, i_7, i_8, i_9, i_10, i_12, i_17, i_29, i_31, i_33, i_36, i_37, i_40, i_41, i_42, i_43, i_44, i_45, i_47, i_48, i_50, i_53, i_55, i_56, i_57, i_58, i_59, i_60, i_61, i_98, i_99, i_100, i_102, i_104, i_106, i_110, i_112, i_119, i_120, i_128, i_392, i_448, nI_add, nI_leI, nI_ltI, nI_eq, nI_clamp, iM_le, iM_lt, iM_nle, iM_nlt, iM_ne, iM_ne', Nat.add_zero, pk_mul, asr_inb, bd_some, bw_some, bx_inl, bx_inr, bh_inl, bh_inr, b2_eq0, b2_eq1, asr_zok, nz_nI, wf_n w, m_hu, m_touches w]
    rw [if_neg (by omega)]
    cases ht : tt (V 110) c k with
    | false =>
      simp only [if_true]
      exact hK _ _ ⟨rfl, rfl, fnd_go hf (by simp [ht])⟩
    | true =>
      simp only [Bool.true_eq_false, if_false]
      by_cases hq : hu (V 110) k = y1
      · rw [if_pos hq]
        unfold nbIn
        rw [fnd_stop hk hf (by simp [ht, hq])]
        rfl
      · rw [if_neg hq]
        exact hK _ _ ⟨rfl, rfl, fnd_go hf (by simp [ht, hq])⟩
  · rintro K y0 y1 ⟨rfl, rfl, hf⟩
    unfold d_X5_neighbourIn_2b
    simp (disch := omega) only [↓iM_def, i_0, i_1, i_2, i_3, i_4, i_5, i_6, i_7, i_8, i_9, i_10, i_12, i_17, i_29, i_31, i_33, i_36, i_37, i_40, i_41, i_42, i_43, i_44, i_45, i_47, i_48, i_50, i_53, i_55, i_56, i_57, i_58, i_59, i_60, i_61, i_98, i_99, i_100, i_102, i_104, i_106, i_110, i_112, i_119, i_120, i_128, i_392, i_448, nI_add, nI_leI, nI_ltI, nI_eq, nI_clamp, iM_le, iM_lt, iM_nle, iM_nlt, iM_ne, iM_ne', Nat.add_zero, pk_mul, asr_inb, bd_some, bw_some, bx_inl, bx_inr, bh_inl, bh_inr, b2_eq0, b2_eq1, asr_zok, nz_nI, wf_n w, Nat.le_refl, if_true]
    unfold nbIn
    rw [hf]
    rfl
theorem nbIn_lt {g : Row} {c k : Nat} {x : Int32} (h : nbIn g c x = some k) : k < gN g := fnd_lt h
theorem io_nb_le (w : WF (V 110)) (c : Nat) (x : Int32) : (nI 0 ≤ io (nbIn (V 110) c x)) = (nbIn (V 110) c x ≠ none) := io_le (n := gN (V 110)) (by have := wf_n7 w; omega) (fun k hk => nbIn_lt hk)
theorem io_nb_lt (w : WF (V 110)) (c : Nat) (x : Int32) : (io (nbIn (V 110) c x) < nI 0) = (nbIn (V 110) c x = none) := io_lt (n := gN (V 110)) (by have := wf_n7 w; omega) (fun k hk => nbIn_lt hk)
theorem m_isFree (w : WF (V 110)) {c h : Nat} (hc : c < 7) (hh : h < 5) : d_X5_isFree (nI c) (nI h) V = some (b2 (fre (V 110) c h)) := by
  have u5 := wf_u5 w
  unfold d_X5_isFree
  simp (disch := omega) only [↓iM_def, i_0, i_1, i_2, i_3, i_4, i_5, i_6, i_7, i_8, i_9, i_10, i_12, i_17, i_29, i_31, i_33, i_36, i_37, i_40, i_41, i_42, i_43, i_44, i_45, i_47, i_48, i_50, i_53, i_55, i_56, i_57, i_58, i_59, i_60, i_61, i_98, i_99, i_100, i_102, i_104, i_106, i_110, i_112, i_119, i_120, i_128, i_392, i_448, nI_add, nI_leI, nI_ltI, nI_eq, nI_clamp, iM_le, iM_lt, iM_nle, iM_nlt, iM_ne, iM_ne', Nat.add_zero, pk_mul, asr_inb, bd_some, bw_some, bx_inl, bx_inr, bh_inl, bh_inr, b2_eq0, b2_eq1, asr_zok, nz_nI, m_isP w, wf_u w, m_nbIn w, m_sz, io_nb_le w]
  unfold fre
  cases hp : ptd (V 110) c with
  | true => simp [b2_f]
  | false =>
    simp only [if_true]
    by_cases h1 : gU (V 110) ≤ h
    · rw [if_pos h1, decide_eq_false (show ¬ h < gU (V 110) by omega)]; simp [b2_f]
    · rw [if_neg h1, decide_eq_true (show h < gU (V 110) by omega)]
      cases hn : nbIn (V 110) c (nI h) with
      | some k => simp [b2_f]
      | none =>
        simp only [ne_eq, not_true_eq_false, if_false]
        by_cases h2 : po (V 110) h < sz (V 110) c
        · have h2' : V 110 (37 + h) < sz (V 110) c := h2
          rw [if_pos h2']; simp [h2, b2_f]
        · have h2' : ¬ V 110 (37 + h) < sz (V 110) c := h2
          rw [if_neg h2']; simp [h2, b2_t]
theorem m_freeMany (w : WF (V 110)) {c : Nat} (hc : c < 7) : d_X5_freeMany (nI c) V = some (nI (fm (V 110) c)) := by
  unfold d_X5_freeMany d_X5_freeMany_4
  refine lo3_inv 5 (fun k y0 y1 => y0 = nI c ∧ y1 = nI (cnt (fre (V 110) c) k)) ?_ ?_ FU (show 5 < 1000 by omega) _ _ ⟨rfl, rfl⟩
  · rintro K k y0 y1 hk ⟨rfl, rfl⟩ hK
    have hK := hK (nI c) _ ⟨rfl, rfl⟩
    have hle := cnt_le (fre (V 110) c) k
    rw [cnt_s] at hK
    unfold d_X5_freeMany_4b
    simp (disch := omega) only [↓iM_def, i_0, i_1, i_2, i_3, i_4, i_5, i_6, i_7, i_8, i_9, i_10, i_12, i_17, i_29, i_31, i_33, i_36, i_37, i_40, i_41, i_42, i_43, i_44, i_45, i_47, i_48, i_50, i_53, i_55, i_56, i_57, i_58, i_59, i_60, i_61, i_98, i_99, i_100, i_102, i_104, i_106, i_110, i_112, i_119, i_120, i_128, i_392, i_448, nI_add, nI_leI, nI_ltI, nI_eq, nI_clamp, iM_le, iM_lt, iM_nle, iM_nlt, iM_ne, iM_ne', Nat.add_zero, pk_mul, asr_inb, bd_some, bw_some, bx_inl, bx_inr, bh_inl, bh_inr, b2_eq0, b2_eq1, asr_zok, nz_nI, m_isFree w]
    rw [if_neg (by omega)]
    cases hf : fre (V 110) c k <;> rw [hf] at hK <;> simpa using hK
  · rintro K y0 y1 ⟨rfl, rfl⟩
    unfold d_X5_freeMany_4b
    simp (disch := omega) only [↓iM_def, i_0, i_1, i_2, i_3, i_4, i_5, i_6, i_7, i_8, i_9, i_10, i_12, i_17, i_29, i_31, i_33, i_36, i_37, i_40, i_41, i_42, i_43, i_44, i_45, i_47, i_48, i_50, i_53, i_55, i_56, i_57, i_58, i_59, i_60, i_61, i_98, i_99, i_100, i_102, i_104, i_106, i_110, i_112, i_119, i_120, i_128, i_392, i_448, nI_add, nI_leI, nI_ltI, nI_eq, nI_clamp, iM_le, iM_lt, iM_nle, iM_nlt, iM_ne, iM_ne', Nat.add_zero, pk_mul, asr_inb, bd_some, bw_some, bx_inl, bx_inr, bh_inl, bh_inr, b2_eq0, b2_eq1, asr_zok, nz_nI, Nat.le_refl, if_true]
    rfl
theorem m_neighbours (w : WF (V 110)) {c : Nat} (hc : c < 7) : d_X5_neighbours (nI c) V = some (nI (cnt (tt (V 110) c) (gN (V 110)))) := by
  have n7 := wf_n7 w
  unfold d_X5_neighbours d_X5_neighbours_4
  refine lo3_inv (gN (V 110)) (fun k y0 y1 => y0 = nI c ∧ y1 = nI (cnt (tt (V 110) c) k)) ?_ ?_ FU (show gN (V 110) < 1000 by omega) _ _ ⟨rfl, rfl⟩
  · rintro K k y0 y1 hk ⟨rfl, rfl⟩ hK
    have hK := hK (nI c) _ ⟨rfl, rfl⟩
    have hle := cnt_le (tt (V 110) c) k
    rw [cnt_s] at hK
    unfold d_X5_neighbours_4b
    simp (disch := omega) only [↓iM_def, i_0, i_1, i_2, i_3, i_4, i_5, i_6, i_7, i_8, i_9, i_10, i_12, i_17, i_29, i_31, i_33, i_36, i_37, i_40, i_41, i_42, i_43, i_44, i_45, i_47, i_48, i_50, i_53, i_55, i_56, i_57, i_58, i_59, i_60, i_61, i_98, i_99, i_100, i_102, i_104, i_106, i_110, i_112, i_119, i_120, i_128, i_392, i_448, nI_add, nI_leI, nI_ltI, nI_eq, nI_clamp, iM_le, iM_lt, iM_nle, iM_nlt, iM_ne, iM_ne', Nat.add_zero, pk_mul, asr_inb, bd_some, bw_some, bx_inl, bx_inr, bh_inl, bh_inr, b2_eq0, b2_eq1, asr_zok, nz_nI, wf_n w, m_touches w]
    rw [if_neg (by omega)]
    cases hf : tt (V 110) c k <;> rw [hf] at hK <;> simpa using hK
  · rintro K y0 y1 ⟨rfl, rfl⟩
    unfold d_X5_neighbours_4b
    simp (disch := omega) only [↓iM_def, i_0, i_1, i_2, i_3, i_4, i_5, i_6, i_7, i_8, i_9, i_10, i_12, i_17, i_29, i_31, i_33, i_36, i_37, i_40, i_41, i_42, i_43, i_44, i_45, i_47, i_48, i_50, i_53, i_55, i_56, i_57, i_58, i_59, i_60, i_61, i_98, i_99, i_100, i_102, i_104, i_106, i_110, i_112, i_119, i_120, i_128, i_392, i_448, nI_add, nI_leI, nI_ltI, nI_eq, nI_clamp, iM_le, iM_lt, iM_nle, iM_nlt, iM_ne, iM_ne', Nat.add_zero, pk_mul, asr_inb, bd_some, bw_some, bx_inl, bx_inr, bh_inl, bh_inr, b2_eq0, b2_eq1, asr_zok, nz_nI, wf_n w, Nat.le_refl, if_true]
theorem m_isStuck (w : WF (V 110)) {c : Nat} (hc : c < 7) : d_X5_isStuck (nI c) V = some (b2 (stk (V 110) c)) := by
  have h5 : fm (V 110) c ≤ 5 := cnt_le _ _
  unfold d_X5_isStuck
  simp (disch := omega) only [↓iM_def, i_0, i_1, i_2, i_3, i_4, i_5, i_6, i_7, i_8, i_9, i_10, i_12, i_17, i_29, i_31, i_33, i_36, i_37, i_40, i_41, i_42, i_43, i_44, i_45, i_47, i_48, i_50, i_53, i_55, i_56, i_57, i_58, i_59, i_60, i_61, i_98, i_99, i_100, i_102, i_104, i_106, i_110, i_112, i_119, i_120, i_128, i_392, i_448, nI_add, nI_leI, nI_ltI, nI_eq, nI_clamp, iM_le, iM_lt, iM_nle, iM_nlt, iM_ne, iM_ne', Nat.add_zero, pk_mul, asr_inb, bd_some, bw_some, bx_inl, bx_inr, bh_inl, bh_inr, b2_eq0, b2_eq1, asr_zok, nz_nI, m_isP w, m_freeMany w]
  unfold stk
  cases ptd (V 110) c
  · by_cases h : fm (V 110) c = 0 <;> simp [h, b2_t, b2_f]
  · simp [b2_f]
theorem m_isFul (w : WF (V 110)) {c : Nat} (hc : c < 7) : d_X5_isFulfilled (nI c) V = some (b2 (ful (V 110) c)) := by
  unfold d_X5_isFulfilled
  simp (disch := omega) only [↓iM_def, i_0, i_1, i_2, i_3, i_4, i_5, i_6, i_7, i_8, i_9, i_10, i_12, i_17, i_29, i_31, i_33, i_36, i_37, i_40, i_41, i_42, i_43, i_44, i_45, i_47, i_48, i_50, i_53, i_55, i_56, i_57, i_58, i_59, i_60, i_61, i_98, i_99, i_100, i_102, i_104, i_106, i_110, i_112, i_119, i_120, i_128, i_392, i_448, nI_add, nI_leI, nI_ltI, nI_eq, nI_clamp, iM_le, iM_lt, iM_nle, iM_nlt, iM_ne, iM_ne', Nat.add_zero, pk_mul, asr_inb, bd_some, bw_some, bx_inl, bx_inr, bh_inl, bh_inr, b2_eq0, b2_eq1, asr_zok, nz_nI, m_isP w, m_hu, m_wi]
  unfold ful
  cases ptd (V 110) c
  · simp [b2_f]
  · by_cases h : wi (V 110) c = hu (V 110) c
    · simp [h, b2_t, b2_f]
    · have h' : ¬ hu (V 110) c = wi (V 110) c := fun q => h q.symm
      simp [h, h', b2_t, b2_f]
theorem pc_nb {g : Row} (w : WF g) {c : Nat} (hc : c < 7) : pc (nb g c) = cnt (tt g c) (gN g) := by
  have n7 := wf_n7 w
  obtain ⟨d, hd⟩ : ∃ d, 7 = gN g + d := ⟨7 - gN g, by omega⟩
  show cnt (tt g c) 7 = _
  have e : cnt (fun i => tt g c (gN g + i)) d = 0 := cnt_0.mpr (fun i hi => by
    cases q : tt g c (gN g + i) with
    | false => rfl
    | true => have := (wf_tt w hc (show gN g + i < 7 by omega) q).2.1; omega)
  rw [hd, cnt_split, e, Nat.add_zero]
end
