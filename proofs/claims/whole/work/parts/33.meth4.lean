/-! PURE ROWS: paint, bars, back, wish, countryOf, hueOf -/
section
variable {V V' : VT} {σ : Sg} {g : Row} {E2 : String}
theorem in_rngc {x : Int32} {n : Nat} (hn : n < 2 ^ 31) (h : (decide (nI 0 ≤ x) && decide (x ≤ nI n)) = true) : ∃ j, j ≤ n ∧ x = nI j := by
  simp only [Bool.and_eq_true, decide_eq_true_eq] at h
  exact nI_of2 (nI_toInt hn) (Int32.not_lt.mpr h.1) h.2
theorem out_rngc {x : Int32} {n : Nat} (hn : n < 2 ^ 31) (h : (decide (nI 0 ≤ x) && decide (x ≤ nI n)) = false) : ∀ j, j ≤ n → ¬ x = nI j := by
  rintro j hj rfl
  have h1 : nI 0 ≤ nI j := (nI_leI (by omega) (by omega)).mpr (by omega)
  have h2 : nI j ≤ nI n := (nI_leI (by omega) hn).mpr hj
  simp [h1, h2] at h
def agn (g : Row) (c h : Nat) : Nat := if ptd g c = true then 2 else if gU g ≤ h then 10 else if nbIn g c (nI h) ≠ none then 3 else if po g h < sz g c then 4 else 0
theorem agn_or (g : Row) (c h : Nat) : (agn g c h = 2) ∨ (agn g c h = 10) ∨ (agn g c h = 3 ∧ nbIn g c (nI h) ≠ none) ∨ (agn g c h = 4) ∨ (agn g c h = 0 ∧ ptd g c = false ∧ nbIn g c (nI h) = none ∧ h < gU g ∧ ¬ po g h < sz g c) := by
  unfold agn
  by_cases h1 : ptd g c = true
  · rw [if_pos h1]; exact Or.inl rfl
  · rw [if_neg h1]
    by_cases h2 : gU g ≤ h
    · rw [if_pos h2]; exact Or.inr (Or.inl rfl)
    · rw [if_neg h2]
      by_cases h3 : nbIn g c (nI h) ≠ none
      · rw [if_pos h3]; exact Or.inr (Or.inr (Or.inl ⟨rfl, h3⟩))
      · rw [if_neg h3]
        by_cases h4 : po g h < sz g c
        · rw [if_pos h4]; exact Or.inr (Or.inr (Or.inr (Or.inl rfl)))
        · rw [if_neg h4]; exact Or.inr (Or.inr (Or.inr (Or.inr ⟨rfl, by simpa using h1, by simpa using h3, by omega, h4⟩)))
theorem i_rap (r : LR V 1 g) (w : WF g) {c h : Nat} (hc : c < 7) (hh : h < 5) : d_X1_reasonAgainstPaint (nI c) (nI h) V = some (nI (agn g c h)) := by
  have n7 := wf_n7 w
  have u5 := wf_u5 w
  unfold d_X1_reasonAgainstPaint agn
  simp (disch := omega) only [↓iM_def, i_0, i_1, i_2, i_3, i_4, i_5, i_6, i_7, i_8, i_9, i_10, i_12, i_17, i_29, i_31, i_33, i_36, i_37, i_40, i_41, i_42, i_43, i_44, i_45, i_47, i_48, i_50, i_53, i_55, i_56, i_57, i_58, i_59, i_60, i_61, i_98, i_99, i_100, i_102, i_104, i_106, i_110, i_112, i_119, i_120, i_128, i_392, i_448, nI_add, nI_leI, nI_ltI, nI_eq, nI_clamp, iM_le, iM_lt, iM_nle, iM_nlt, iM_ne, iM_ne', Nat.add_zero, pk_mul, asr_inb, bd_some, bw_some, bx_inl, bx_inr, bh_inl, bh_inr, b2_eq0, b2_eq1, asr_zok, nz_nI, i_isP r, lr_u r w, i_lnb r w, lr_sz r, lr_po r, io_m (o := nbIn g c (nI h)) (n := gN g) (by omega) (fun k hk => nbIn_lt hk)]
  cases hp : ptd g c with
  | true => simp
  | false =>
    simp only [if_true, Bool.false_eq_true, if_false]
    by_cases h1 : h < gU g
    · rw [if_pos h1, if_neg (show ¬ gU g ≤ h by omega)]
      by_cases h2 : nbIn g c (nI h) = none
      · rw [if_pos h2, if_neg (show ¬ (nbIn g c (nI h) ≠ none) from fun q => q h2)]
        by_cases h3 : po g h < sz g c
        · rw [if_pos h3, if_neg (Int32.not_le.mpr h3)]
        · rw [if_neg h3, if_pos (Int32.not_lt.mp h3)]
      · rw [if_neg h2, if_pos (show nbIn g c (nI h) ≠ none from h2)]
    · rw [if_neg h1, if_pos (show gU g ≤ h by omega)]
theorem m_against (w : WF (V 110)) {c h : Nat} (hc : c < 7) (hh : h < 5) : d_X5_against (nI c) (nI h) V = some (nI (agn (V 110) c h)) := by
  have n7 := wf_n7 w
  have u5 := wf_u5 w
  unfold d_X5_against agn
  simp (disch := omega) only [↓iM_def, i_0, i_1, i_2, i_3, i_4, i_5, i_6, i_7, i_8, i_9, i_10, i_12, i_17, i_29, i_31, i_33, i_36, i_37, i_40, i_41, i_42, i_43, i_44, i_45, i_47, i_48, i_50, i_53, i_55, i_56, i_57, i_58, i_59, i_60, i_61, i_98, i_99, i_100, i_102, i_104, i_106, i_110, i_112, i_119, i_120, i_128, i_392, i_448, nI_add, nI_leI, nI_ltI, nI_eq, nI_clamp, iM_le, iM_lt, iM_nle, iM_nlt, iM_ne, iM_ne', Nat.add_zero, pk_mul, asr_inb, bd_some, bw_some, bx_inl, bx_inr, bh_inl, bh_inr, b2_eq0, b2_eq1, asr_zok, nz_nI, m_isP w, wf_u w, m_nbIn w, m_sz, io_nb_lt w]
  cases hp : ptd (V 110) c with
  | true => simp
  | false =>
    simp only [if_true, Bool.false_eq_true, if_false]
    by_cases h1 : h < gU (V 110)
    · rw [if_pos h1, if_neg (show ¬ gU (V 110) ≤ h by omega)]
      by_cases h2 : nbIn (V 110) c (nI h) = none
      · rw [if_pos h2, if_neg (show ¬ (nbIn (V 110) c (nI h) ≠ none) from fun q => q h2)]
        by_cases h3 : po (V 110) h < sz (V 110) c
        · have h3' : ¬ sz (V 110) c ≤ V 110 (37 + h) := Int32.not_le.mpr h3
          rw [if_pos h3, if_neg h3']
        · have h3' : sz (V 110) c ≤ V 110 (37 + h) := Int32.not_lt.mp h3
          rw [if_neg h3, if_pos h3']
      · rw [if_neg h2, if_pos (show nbIn (V 110) c (nI h) ≠ none from h2)]
    · rw [if_neg h1, if_pos (show gU (V 110) ≤ h by omega)]
def detP (g : Row) (c h r : Nat) : Int32 := if r = 2 then hu g c else if r = 10 then nI h else if r = 3 then io (nbIn g c (nI h)) else sz g c - po g h
theorem i_detP (r : LR V 1 g) (w : WF g) {c h : Nat} (hc : c < 7) (hh : h < 5) (hn : agn g c h ≠ 0) : d_X1_detailOf (nI (agn g c h)) (nI c) (nI h) V = some (detP g c h (agn g c h)) := by
  unfold detP
  rcases agn_or g c h with e | e | ⟨e, -⟩ | e | ⟨e, -⟩
  · rw [e, if_pos rfl]
    have h5 : d_X1_detailOf (nI 2) (nI c) (nI h) V = asr (inb (nI c) 7) (some (V 3 (nI c).toNatClampNeg)) := rfl
    rw [h5]
    simp (disch := omega) only [asr_inb, nI_clamp, lr_hu r]
  · rw [e, if_neg (by decide), if_pos rfl]
    rfl
  · rw [e, if_neg (by decide), if_neg (by decide), if_pos rfl]
    have h5 : d_X1_detailOf (nI 3) (nI c) (nI h) V = bd (d_X1_lowestNeighbourIn (nI c) (nI h) V) fun r => some r := rfl
    rw [h5, i_lnb r w hc]
    rfl
  · rw [e, if_neg (by decide), if_neg (by decide), if_neg (by decide)]
    have h5 : d_X1_detailOf (nI 4) (nI c) (nI h) V = asr (inb (nI c) 7) (asr (inb (nI h) 5) (some (V 2 (nI c).toNatClampNeg - V 8 (nI h).toNatClampNeg))) := rfl
    rw [h5]
    simp (disch := omega) only [asr_inb, nI_clamp, lr_sz r, lr_po r]
  · exact absurd e hn
def spPaint (σ : Sg) (x y : Int32) : (Int32 ⊕ Nat) × Sg :=
  if isC σ.1 x = true ∧ isH y = true then
    if agn σ.1 (nt x) (nt y) = 0 then (.inl (nI (gS σ.1 + 1)), chg σ (aCover σ.1 (nt x) (nt y)))
    else (.inr 2, refu σ (nI (agn σ.1 (nt x) (nt y))) (detP σ.1 (nt x) (nt y) (agn σ.1 (nt x) (nt y))))
  else (.inr 1, σ)
theorem agn_0 {c d : Nat} (h : agn g c d = 0) : ptd g c = false ∧ nbIn g c (nI d) = none := by
  rcases agn_or g c d with e | e | ⟨e, -⟩ | e | ⟨e, h1, h2, -⟩
  · rw [e] at h; cases h
  · rw [e] at h; cases h
  · rw [e] at h; cases h
  · rw [e] at h; cases h
  · exact ⟨h1, h2⟩
theorem K_paint (K : OKs σ) (x y : Int32) : OKs (spPaint σ x y).2 := by
  have n7 := wf_n7 K.w
  unfold spPaint
  by_cases hc : isC σ.1 x = true ∧ isH y = true
  · rw [if_pos hc]
    obtain ⟨a, ha, rfl⟩ := isC_of K.w hc.1
    obtain ⟨b, hb, rfl⟩ := isH_of hc.2
    rw [nt_nI (a := a) (by omega), nt_nI (a := b) (by omega)]
    by_cases h1 : agn σ.1 a b = 0
    · rw [if_pos h1]
      obtain ⟨p1, p2⟩ := agn_0 h1
      exact K.chg (wf_cover K.w ha p1 hb p2)
    · rw [if_neg h1]; exact K
  · rw [if_neg hc]; exact K
theorem I_paint (h : AI V σ) (K : OKs σ) (x y : Int32) : DI eIO eUO (d_X4_paint x y V) V (spPaint σ x y) := by
  have n7 := wf_n7 K.w
  unfold d_X4_paint spPaint
  cases hx : isC σ.1 x with
  | false =>
    rw [i_stopC_f h K hx, bx_inr, if_neg (by simp)]
    exact DI.err h (Or.inr trivial)
  | true =>
    rw [i_stopC_t h K hx, bx_inl]
    cases hy : isH y with
    | false =>
      rw [i_stopH_f hy, bx_inr, if_neg (by simp)]
      exact DI.err h (Or.inr trivial)
    | true =>
      rw [i_stopH_t hy, bx_inl, if_pos ⟨rfl, rfl⟩]
      obtain ⟨a, ha, rfl⟩ := isC_of K.w hx
      obtain ⟨b, hb, rfl⟩ := isH_of hy
      rw [nt_nI (a := a) (by omega), nt_nI (a := b) (by omega), i_rap h.1 K.w (by omega) hb, bd_some]
      by_cases h1 : agn σ.1 a b = 0
      · rw [if_pos h1, h1, i_stop0, bx_inl]
        obtain ⟨p1, p2⟩ := agn_0 h1
        obtain ⟨V1, a1, a2, a3, a4⟩ := h.change K
        obtain ⟨V2, b1, b2, b3⟩ := i_cover a2 K.w ha p1 hb
        rw [a1, bd_some, b1, bd_some]
        obtain ⟨c1, c2⟩ := a4 b2 b3
        have hs := s_room K.w ha p1
        rw [lr_s b2 (wf_cover K.w ha p1 hb p2), cover_S _ (by omega)]
        exact ⟨V2, rfl, c1, c2⟩
      · rw [if_neg h1]
        refine DI.refuse h _ _ _ ?_ (i_detP (h.up10 _) K.w (by omega) hb h1) _
        rcases agn_or σ.1 a b with e | e | ⟨e, -⟩ | e | ⟨e, -⟩
        · rw [e]; decide +kernel
        · rw [e]; decide +kernel
        · rw [e]; decide +kernel
        · rw [e]; decide +kernel
        · exact absurd e h1
theorem m_paints (w : WF (V 110)) {c h : Nat} (hc : c < gN (V 110)) (hp : ptd (V 110) c = false) (hh : h < 5) : d_X5_paints (nI c) (nI h) V = some (setc V 110 (aCover (V 110) c h)) := by
  have n7 := wf_n7 w
  have hs := s_room w hc hp
  unfold d_X5_paints
  simp (disch := omega) only [↓iM_def, i_0, i_1, i_2, i_3, i_4, i_5, i_6, i_7, i_8, i_9, i_10, i_12, i_17, i_29, i_31, i_33, i_36, i_37, i_40, i_41, i_42, i_43, i_44, i_45, i_47, i_48, i_50, i_53, i_55, i_56, i_57, i_58, i_59, i_60, i_61, i_98, i_99, i_100, i_102, i_104, i_106, i_110, i_112, i_119, i_120, i_128, i_392, i_448, nI_add, nI_leI, nI_ltI, nI_eq, nI_clamp, iM_le, iM_lt, iM_nle, iM_nlt, iM_ne, iM_ne', Nat.add_zero, pk_mul, asr_inb, bd_some, bw_some, bx_inl, bx_inr, bh_inl, bh_inr, b2_eq0, b2_eq1, asr_zok, nz_nI, m_lays, m_sz, up2_setc, setc_at, setc_setc, setc_ne, sz_o, upd_ne, wf_s w]
  rfl
/-- a country and a hue, or the first exception -/
theorem M_ch {F : Int32 → Int32 → Int32 → VT → Option (Int32 × VT)} (h : AJ V σ) (K : OKs σ) (x y : Int32) {sp : Sg → Int32 → Int32 → (Int32 ⊕ Nat) × Sg}
    (hbad : F x y (nI 1) V = some (nI 0, up2 V 109 7 (nI 1)))
    (k : ∀ a b, a < gN σ.1 → b < 5 → x = nI a → y = nI b → DM (F (nI a) (nI b) (nI 0) V) V (sp σ (nI a) (nI b))) :
    DM (bd (d_X5_isCountry x V) fun r2 => if r2 = nI 0 then F x y (nI 1) V else bd (d_X5_isHue y V) fun r5 => if r5 = nI 0 then F x y (nI 1) V else F x y (nI 0) V) V (if isC σ.1 x = true ∧ isH y = true then sp σ x y else (.inr 1, σ)) := by
  have wV : WF (V 110) := by rw [h.1]; exact K.w
  simp only [m_isCountry wV, m_isHue, bd_some, b2_eq0, h.1]
  cases hx : isC σ.1 x with
  | false =>
    rw [if_pos rfl, if_neg (by simp), hbad]
    exact DM.err h _
  | true =>
    rw [if_neg (by decide)]
    cases hy : isH y with
    | false =>
      rw [if_pos rfl, if_neg (by simp), hbad]
      exact DM.err h _
    | true =>
      rw [if_neg (by decide), if_pos ⟨rfl, rfl⟩]
      obtain ⟨a, ha, rfl⟩ := isC_of K.w hx
      obtain ⟨b, hb, rfl⟩ := isH_of hy
      exact k a b ha hb rfl rfl
theorem M_paint (h : AJ V σ) (K : OKs σ) (x y : Int32) : DM (d_X5_paint x y V) V (spPaint σ x y) := by
  have n7 := wf_n7 K.w
  unfold d_X5_paint d_X5_paint_20 spPaint
  simp only [↓iM_def, i_0, i_1, i_2, i_3, i_4, i_5, i_6, i_7, i_8, i_9, i_10, i_12, i_17, i_29, i_31, i_33, i_36, i_37, i_40, i_41, i_42, i_43, i_44, i_45, i_47, i_48, i_50, i_53, i_55, i_56, i_57, i_58, i_59, i_60, i_61, i_98, i_99, i_100, i_102, i_104, i_106, i_110, i_112, i_119, i_120, i_128, i_392, i_448]
  refine M_ch (F := d_X5_paint_21) (sp := fun σ x y => if agn σ.1 (nt x) (nt y) = 0 then (.inl (nI (gS σ.1 + 1)), chg σ (aCover σ.1 (nt x) (nt y))) else (.inr 2, refu σ (nI (agn σ.1 (nt x) (nt y))) (detP σ.1 (nt x) (nt y) (agn σ.1 (nt x) (nt y))))) h K x y ?_ ?_
  · unfold d_X5_paint_21
    simp only [↓iM_def, i_0, i_1, i_2, i_3, i_4, i_5, i_6, i_7, i_8, i_9, i_10, i_12, i_17, i_29, i_31, i_33, i_36, i_37, i_40, i_41, i_42, i_43, i_44, i_45, i_47, i_48, i_50, i_53, i_55, i_56, i_57, i_58, i_59, i_60, i_61, i_98, i_99, i_100, i_102, i_104, i_106, i_110, i_112, i_119, i_120, i_128, i_392, i_448, m_fail0, m_fail1, m_fail2, e10, eq_self, if_true, if_false, bw_some]
  · intro a b ha hb _ _
    rw [nt_nI (a := a) (by omega), nt_nI (a := b) (by omega)]
    unfold d_X5_paint_21
    simp only [↓iM_def, i_0, i_1, i_2, i_3, i_4, i_5, i_6, i_7, i_8, i_9, i_10, i_12, i_17, i_29, i_31, i_33, i_36, i_37, i_40, i_41, i_42, i_43, i_44, i_45, i_47, i_48, i_50, i_53, i_55, i_56, i_57, i_58, i_59, i_60, i_61, i_98, i_99, i_100, i_102, i_104, i_106, i_110, i_112, i_119, i_120, i_128, i_392, i_448, m_fail0, m_fail1, m_fail2, e10, eq_self, if_true, if_false, bw_some, m_refuses]
    refine DM.pre h (nI 0) (fun V2 h2 hc e => ?_)
    rw [e]
    have w2 : WF (V2 110) := by rw [h2.1]; exact K.w
    rw [m_against w2 (by omega) hb, bd_some]
    simp (disch := omega) only [↓iM_def, i_0, i_1, i_2, i_3, i_4, i_5, i_6, i_7, i_8, i_9, i_10, i_12, i_17, i_29, i_31, i_33, i_36, i_37, i_40, i_41, i_42, i_43, i_44, i_45, i_47, i_48, i_50, i_53, i_55, i_56, i_57, i_58, i_59, i_60, i_61, i_98, i_99, i_100, i_102, i_104, i_106, i_110, i_112, i_119, i_120, i_128, i_392, i_448, nI_add, nI_leI, nI_ltI, nI_eq, nI_clamp, iM_le, iM_lt, iM_nle, iM_nlt, iM_ne, iM_ne', Nat.add_zero, pk_mul, asr_inb, bd_some, bw_some, bx_inl, bx_inr, bh_inl, bh_inr, b2_eq0, b2_eq1, asr_zok, nz_nI, m_hu, m_sz, m_nbIn w2, h2.1]
    rcases agn_or σ.1 a b with e | e | ⟨e, -⟩ | e | ⟨e, h3, h4, -⟩
    · rw [e]
      simp (disch := omega) only [nI_eq, Nat.reduceEqDiff, if_true, if_false]
      exact DM.refuse (k := 2) h2 _ _ _
    · rw [e]
      simp (disch := omega) only [nI_eq, Nat.reduceEqDiff, if_true, if_false]
      exact DM.refuse (k := 2) h2 _ _ _
    · rw [e]
      simp (disch := omega) only [nI_eq, Nat.reduceEqDiff, if_true, if_false]
      exact DM.refuse (k := 2) h2 _ _ _
    · rw [e]
      simp (disch := omega) only [nI_eq, Nat.reduceEqDiff, if_true, if_false]
      exact DM.refuse (k := 2) h2 _ _ _
    · rw [e]
      simp (disch := omega) only [nI_eq, Nat.reduceEqDiff, if_true, if_false]
      obtain ⟨V7, a1, a2, a3, a4⟩ := h2.keep K
      have a5 : V7 110 = σ.1 := a2.1
      have hs := s_room K.w ha h3
      rw [a1, bd_some, m_paints (by rw [a5]; exact K.w) (by rw [a5]; exact ha) (by rw [a5]; exact h3) hb, bd_some, a5, setc_at]
      refine DM.of rfl a2.row (a3.tr (fr110 _ _)) (by rw [setc_ne (by omega), a4, hc]; rfl) (fun v hv => ?_)
      cases hv
      have e6 := wf_s (wf_cover K.w ha h3 hb h4)
      rw [cover_S _ (by omega)] at e6
      exact e6
def spBars (σ : Sg) (x y : Int32) : (Int32 ⊕ Nat) × Sg :=
  if isC σ.1 x = true ∧ isH y = true then (.inl (nI (agn σ.1 (nt x) (nt y))), σ) else (.inr 1, σ)
theorem I_bars (h : AI V σ) (K : OKs σ) (x y : Int32) : DI eIO E2 (d_X4_bars x y V) V (spBars σ x y) := by
  have n7 := wf_n7 K.w
  unfold d_X4_bars spBars
  cases hx : isC σ.1 x with
  | false =>
    rw [i_stopC_f h K hx, bx_inr, if_neg (by simp)]
    exact DI.err h (Or.inr trivial)
  | true =>
    rw [i_stopC_t h K hx, bx_inl]
    cases hy : isH y with
    | false =>
      rw [i_stopH_f hy, bx_inr, if_neg (by simp)]
      exact DI.err h (Or.inr trivial)
    | true =>
      rw [i_stopH_t hy, bx_inl, if_pos ⟨rfl, rfl⟩]
      obtain ⟨a, ha, rfl⟩ := isC_of K.w hx
      obtain ⟨b, hb, rfl⟩ := isH_of hy
      rw [nt_nI (a := a) (by omega), nt_nI (a := b) (by omega), i_rap h.1 K.w (by omega) hb, bd_some]
      exact ⟨V, rfl, h, FrI.rf V⟩
theorem M_bars (h : AJ V σ) (K : OKs σ) (x y : Int32) : DM (d_X5_bars x y V) V (spBars σ x y) := by
  have n7 := wf_n7 K.w
  unfold d_X5_bars d_X5_bars_20 spBars
  simp only [↓iM_def, i_0, i_1, i_2, i_3, i_4, i_5, i_6, i_7, i_8, i_9, i_10, i_12, i_17, i_29, i_31, i_33, i_36, i_37, i_40, i_41, i_42, i_43, i_44, i_45, i_47, i_48, i_50, i_53, i_55, i_56, i_57, i_58, i_59, i_60, i_61, i_98, i_99, i_100, i_102, i_104, i_106, i_110, i_112, i_119, i_120, i_128, i_392, i_448]
  refine M_ch (F := d_X5_bars_21) (sp := fun σ x y => (.inl (nI (agn σ.1 (nt x) (nt y))), σ)) h K x y ?_ ?_
  · unfold d_X5_bars_21
    simp only [↓iM_def, i_0, i_1, i_2, i_3, i_4, i_5, i_6, i_7, i_8, i_9, i_10, i_12, i_17, i_29, i_31, i_33, i_36, i_37, i_40, i_41, i_42, i_43, i_44, i_45, i_47, i_48, i_50, i_53, i_55, i_56, i_57, i_58, i_59, i_60, i_61, i_98, i_99, i_100, i_102, i_104, i_106, i_110, i_112, i_119, i_120, i_128, i_392, i_448, m_fail0, m_fail1, m_fail2, e10, eq_self, if_true, if_false, bw_some]
  · intro a b ha hb _ _
    rw [nt_nI (a := a) (by omega), nt_nI (a := b) (by omega)]
    unfold d_X5_bars_21
    simp only [↓iM_def, i_0, i_1, i_2, i_3, i_4, i_5, i_6, i_7, i_8, i_9, i_10, i_12, i_17, i_29, i_31, i_33, i_36, i_37, i_40, i_41, i_42, i_43, i_44, i_45, i_47, i_48, i_50, i_53, i_55, i_56, i_57, i_58, i_59, i_60, i_61, i_98, i_99, i_100, i_102, i_104, i_106, i_110, i_112, i_119, i_120, i_128, i_392, i_448, m_fail0, m_fail1, m_fail2, e10, eq_self, if_true, if_false, bw_some]
    refine DM.pre h (nI 0) (fun V2 h2 hc e => ?_)
    rw [e]
    have w2 : WF (V2 110) := by rw [h2.1]; exact K.w
    rw [m_against w2 (by omega) hb, bd_some, h2.1]
    exact DM.of rfl h2 (FrM.rf _) hc (fun v hv => by cases hv; rfl)
def spBack (σ : Sg) : (Int32 ⊕ Nat) × Sg := if gS σ.1 = 0 then (.inr 1, refu σ (nI 8) (nI 0)) else (.inl (nI (st σ.1 (gS σ.1 - 1))), chg σ (aBack σ.1))
theorem K_back (K : OKs σ) : OKs (spBack σ).2 := by
  unfold spBack
  by_cases h : gS σ.1 = 0
  · rw [if_pos h]; exact K
  · rw [if_neg h]; exact K.chg (wf_back K.w (by omega))
theorem I_back (h : AI V σ) (K : OKs σ) : DI eUO E2 (d_X4_back V) V (spBack σ) := by
  have s7 := wf_s7 K.w
  unfold d_X4_back spBack d_X1_reasonAgainstBack
  simp (disch := omega) only [↓iM_def, i_0, i_1, i_2, i_3, i_4, i_5, i_6, i_7, i_8, i_9, i_10, i_12, i_17, i_29, i_31, i_33, i_36, i_37, i_40, i_41, i_42, i_43, i_44, i_45, i_47, i_48, i_50, i_53, i_55, i_56, i_57, i_58, i_59, i_60, i_61, i_98, i_99, i_100, i_102, i_104, i_106, i_110, i_112, i_119, i_120, i_128, i_392, i_448, nI_add, nI_leI, nI_ltI, nI_eq, nI_clamp, iM_le, iM_lt, iM_nle, iM_nlt, iM_ne, iM_ne', Nat.add_zero, pk_mul, asr_inb, bd_some, bw_some, bx_inl, bx_inr, bh_inl, bh_inr, b2_eq0, b2_eq1, asr_zok, nz_nI, lr_s h.1 K.w]
  by_cases h1 : gS σ.1 = 0
  · rw [if_pos h1, if_pos h1, bd_some, i_stopR (r := 8) _ _ (nI 0) (by decide +kernel) rfl]
    exact ⟨_, rfl, h.why _ _, FrI.why _ _ _⟩
  · rw [if_neg h1, if_neg h1, bd_some, i_stop0, bx_inl]
    obtain ⟨V1, a1, a2, a3, a4⟩ := h.change K
    obtain ⟨V2, b1, b2, b3⟩ := i_back a2 K.w (by omega)
    rw [a1, bd_some, b1, bw_some]
    obtain ⟨c1, c2⟩ := a4 b2 b3
    exact ⟨V2, rfl, c1, c2⟩
theorem M_back (h : AJ V σ) (K : OKs σ) : DM (d_X5_back V) V (spBack σ) := by
  have s7 := wf_s7 K.w
  have n7 := wf_n7 K.w
  unfold d_X5_back spBack
  simp (disch := omega) only [↓iM_def, i_0, i_1, i_2, i_3, i_4, i_5, i_6, i_7, i_8, i_9, i_10, i_12, i_17, i_29, i_31, i_33, i_36, i_37, i_40, i_41, i_42, i_43, i_44, i_45, i_47, i_48, i_50, i_53, i_55, i_56, i_57, i_58, i_59, i_60, i_61, i_98, i_99, i_100, i_102, i_104, i_106, i_110, i_112, i_119, i_120, i_128, i_392, i_448, m_fail0, m_fail1, m_fail2, e10, eq_self, if_true, if_false, bw_some, m_refuses, h.1, wf_s K.w, nI_eq]
  by_cases h1 : gS σ.1 = 0
  · rw [if_pos h1, if_pos h1]
    refine DM.pre h (nI 0) (fun V2 h2 hc e => ?_)
    rw [e]
    exact DM.refuse (k := 1) h2 _ _ _
  · rw [if_neg h1, if_neg h1]
    refine DM.pre h (nI 0) (fun V2 h2 hc e => ?_)
    rw [e]
    obtain ⟨V7, a1, a2, a3, a4⟩ := h2.keep K
    have a5 : V7 110 = σ.1 := a2.1
    have e1 : nI (gS σ.1) - nI 1 = nI (gS σ.1 - 1) := pk_sub (by omega)
    have hl : gS σ.1 - 1 < gS σ.1 := by omega
    have hn := wf_stn K.w hl
    simp (disch := omega) only [↓iM_def, i_0, i_1, i_2, i_3, i_4, i_5, i_6, i_7, i_8, i_9, i_10, i_12, i_17, i_29, i_31, i_33, i_36, i_37, i_40, i_41, i_42, i_43, i_44, i_45, i_47, i_48, i_50, i_53, i_55, i_56, i_57, i_58, i_59, i_60, i_61, i_98, i_99, i_100, i_102, i_104, i_106, i_110, i_112, i_119, i_120, i_128, i_392, i_448, nI_add, nI_leI, nI_ltI, nI_eq, nI_clamp, iM_le, iM_lt, iM_nle, iM_nlt, iM_ne, iM_ne', Nat.add_zero, pk_mul, asr_inb, bd_some, bw_some, bx_inl, bx_inr, bh_inl, bh_inr, b2_eq0, b2_eq1, asr_zok, nz_nI, up2_setc, setc_at, setc_setc, setc_ne, a1, a5, wf_s K.w, e1, upd_ne, wf_st K.w, m_lays]
    exact DM.of rfl a2.row (a3.tr (fr110 _ _)) (by rw [setc_ne (by omega), a4, hc]; rfl) (fun v hv => by cases hv; rfl)
def spWish (σ : Sg) (x y z : Int32) : (Int32 ⊕ Nat) × Sg :=
  if isC σ.1 x = true ∧ isH y = true then
    if isCr z = true then (.inl (wi σ.1 (nt x)), chg σ (aWish σ.1 (nt x) y z)) else (.inr 2, σ)
  else (.inr 1, σ)
theorem K_wish (K : OKs σ) (x y z : Int32) : OKs (spWish σ x y z).2 := by
  have n7 := wf_n7 K.w
  unfold spWish
  by_cases hc : isC σ.1 x = true ∧ isH y = true
  · rw [if_pos hc]
    obtain ⟨a, ha, rfl⟩ := isC_of K.w hc.1
    obtain ⟨b, hb, rfl⟩ := isH_of hc.2
    by_cases h1 : isCr z = true
    · rw [if_pos h1, nt_nI (a := a) (by omega)]
      exact K.chg (wf_wish K.w (by omega) hb z)
    · rw [if_neg h1]; exact K
  · rw [if_neg hc]; exact K
theorem I_wish (h : AI V σ) (K : OKs σ) (x y z : Int32) : DI eIO eIA (d_X4_wish x y z V) V (spWish σ x y z) := by
  have n7 := wf_n7 K.w
  unfold d_X4_wish spWish
  cases hx : isC σ.1 x with
  | false =>
    rw [i_stopC_f h K hx, bx_inr, if_neg (by simp)]
    exact DI.err h (Or.inr trivial)
  | true =>
    rw [i_stopC_t h K hx, bx_inl]
    cases hy : isH y with
    | false =>
      rw [i_stopH_f hy, bx_inr, if_neg (by simp)]
      exact DI.err h (Or.inr trivial)
    | true =>
      rw [i_stopH_t hy, bx_inl, if_pos ⟨rfl, rfl⟩, i_isCr, bd_some]
      obtain ⟨a, ha, rfl⟩ := isC_of K.w hx
      obtain ⟨b, hb, rfl⟩ := isH_of hy
      rw [nt_nI (a := a) (by omega)]
      simp only [i_0, b2_eq0]
      cases hz : isCr z with
      | false =>
        rw [if_pos rfl, if_neg (by decide)]
        exact DI.err2 h
      | true =>
        rw [if_neg (by decide), if_pos rfl]
        obtain ⟨V1, a1, a2, a3, a4⟩ := h.change K
        obtain ⟨V2, b1, b2, b3⟩ := i_wish a2 K.w (c := a) (by omega) (nI b) z
        simp (disch := omega) only [↓iM_def, i_0, i_1, i_2, i_3, i_4, i_5, i_6, i_7, i_8, i_9, i_10, i_12, i_17, i_29, i_31, i_33, i_36, i_37, i_40, i_41, i_42, i_43, i_44, i_45, i_47, i_48, i_50, i_53, i_55, i_56, i_57, i_58, i_59, i_60, i_61, i_98, i_99, i_100, i_102, i_104, i_106, i_110, i_112, i_119, i_120, i_128, i_392, i_448, nI_add, nI_leI, nI_ltI, nI_eq, nI_clamp, iM_le, iM_lt, iM_nle, iM_nlt, iM_ne, iM_ne', Nat.add_zero, pk_mul, asr_inb, bd_some, bw_some, bx_inl, bx_inr, bh_inl, bh_inr, b2_eq0, b2_eq1, asr_zok, nz_nI, a1, b1, lr_wi a2]
        obtain ⟨c1, c2⟩ := a4 b2 b3
        exact ⟨V2, rfl, c1, c2⟩
theorem M_wish (h : AJ V σ) (K : OKs σ) (x y z : Int32) : DM (d_X5_wish x y z V) V (spWish σ x y z) := by
  have n7 := wf_n7 K.w
  have wV : WF (V 110) := by rw [h.1]; exact K.w
  unfold d_X5_wish d_X5_wish_16 spWish
  simp only [m_isCountry wV, m_isHue, m_in, bd_some, ↓iM_def, i_0, i_1, i_2, i_3, i_4, i_5, i_6, i_7, i_8, i_9, i_10, i_12, i_17, i_29, i_31, i_33, i_36, i_37, i_40, i_41, i_42, i_43, i_44, i_45, i_47, i_48, i_50, i_53, i_55, i_56, i_57, i_58, i_59, i_60, i_61, i_98, i_99, i_100, i_102, i_104, i_106, i_110, i_112, i_119, i_120, i_128, i_392, i_448, b2_eq0, h.1]
  have e0 : (decide (nI 0 ≤ z) && decide (z ≤ nI 9)) = isCr z := rfl
  rw [e0]
  have bad : ∀ k, k = 1 ∨ k = 2 → d_X5_wish_35 x y z (nI k) V = some (nI 0, up2 V 109 7 (nI k)) := by
    rintro k (rfl | rfl)
    · unfold d_X5_wish_35
      simp only [↓iM_def, i_0, i_1, i_2, i_3, i_4, i_5, i_6, i_7, i_8, i_9, i_10, i_12, i_17, i_29, i_31, i_33, i_36, i_37, i_40, i_41, i_42, i_43, i_44, i_45, i_47, i_48, i_50, i_53, i_55, i_56, i_57, i_58, i_59, i_60, i_61, i_98, i_99, i_100, i_102, i_104, i_106, i_110, i_112, i_119, i_120, i_128, i_392, i_448, m_fail0, m_fail1, m_fail2, e10, eq_self, if_true, if_false, bw_some]
    · unfold d_X5_wish_35
      simp only [↓iM_def, i_0, i_1, i_2, i_3, i_4, i_5, i_6, i_7, i_8, i_9, i_10, i_12, i_17, i_29, i_31, i_33, i_36, i_37, i_40, i_41, i_42, i_43, i_44, i_45, i_47, i_48, i_50, i_53, i_55, i_56, i_57, i_58, i_59, i_60, i_61, i_98, i_99, i_100, i_102, i_104, i_106, i_110, i_112, i_119, i_120, i_128, i_392, i_448, m_fail0, m_fail1, m_fail2, e10, eq_self, if_true, if_false, bw_some]
  cases hx : isC σ.1 x with
  | false =>
    rw [if_pos rfl, if_neg (by simp), bad 1 (Or.inl rfl)]
    exact DM.err h _
  | true =>
    rw [if_neg (by decide)]
    cases hy : isH y with
    | false =>
      rw [if_pos rfl, if_neg (by simp), bad 1 (Or.inl rfl)]
      exact DM.err h _
    | true =>
      rw [if_neg (by decide), if_pos (show true = true ∧ true = true from ⟨rfl, rfl⟩)]
      cases hz : isCr z with
      | false =>
        rw [if_pos rfl, if_neg (by decide), bad 2 (Or.inr rfl)]
        exact DM.err h _
      | true =>
        rw [if_neg (by decide), if_pos rfl]
        obtain ⟨a, ha, rfl⟩ := isC_of K.w hx
        obtain ⟨b, hb, rfl⟩ := isH_of hy
        rw [nt_nI (a := a) (by omega)]
        unfold d_X5_wish_35
        simp only [↓iM_def, i_0, i_1, i_2, i_3, i_4, i_5, i_6, i_7, i_8, i_9, i_10, i_12, i_17, i_29, i_31, i_33, i_36, i_37, i_40, i_41, i_42, i_43, i_44, i_45, i_47, i_48, i_50, i_53, i_55, i_56, i_57, i_58, i_59, i_60, i_61, i_98, i_99, i_100, i_102, i_104, i_106, i_110, i_112, i_119, i_120, i_128, i_392, i_448, m_fail0, m_fail1, m_fail2, e10, eq_self, if_true, if_false, bw_some]
        refine DM.pre h (nI 0) (fun V2 h2 hc e => ?_)
        rw [e]
        obtain ⟨V7, a1, a2, a3, a4⟩ := h2.keep K
        have a5 : V7 110 = σ.1 := a2.1
        simp (disch := omega) only [↓iM_def, i_0, i_1, i_2, i_3, i_4, i_5, i_6, i_7, i_8, i_9, i_10, i_12, i_17, i_29, i_31, i_33, i_36, i_37, i_40, i_41, i_42, i_43, i_44, i_45, i_47, i_48, i_50, i_53, i_55, i_56, i_57, i_58, i_59, i_60, i_61, i_98, i_99, i_100, i_102, i_104, i_106, i_110, i_112, i_119, i_120, i_128, i_392, i_448, nI_add, nI_leI, nI_ltI, nI_eq, nI_clamp, iM_le, iM_lt, iM_nle, iM_nlt, iM_ne, iM_ne', Nat.add_zero, pk_mul, asr_inb, bd_some, bw_some, bx_inl, bx_inr, bh_inl, bh_inr, b2_eq0, b2_eq1, asr_zok, nz_nI, up2_setc, setc_at, setc_setc, setc_ne, a1, a5, m_wi, m_lays]
        exact DM.of rfl a2.row (a3.tr (fr110 _ _)) (by rw [setc_ne (by omega), a4, hc]; rfl) (fun v hv => by cases hv; rfl)
end
