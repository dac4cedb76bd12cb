/-! PURE ROWS: erase, hasBorder, hues, pots, paint, bars, back, wish -/
section
variable {V V' : VT} {σ : Sg} {g : Row}
theorem nt_nI {a : Nat} (h : a < 2 ^ 31) : nt (nI a) = a := nI_clamp h
def spErase (σ : Sg) (x y : Int32) : (Int32 ⊕ Nat) × Sg :=
  if isC σ.1 x = true ∧ isC σ.1 y = true then
    if x = y then (.inr 2, refu σ (nI 5) x)
    else if tt σ.1 (nt x) (nt y) = true then (.inl (nI (bor (aPart σ.1 (nt x) (nt y)))), chg σ (aPart σ.1 (nt x) (nt y)))
    else (.inr 2, refu σ (nI 6) y)
  else (.inr 1, σ)
theorem K_erase (K : OKs σ) (x y : Int32) : OKs (spErase σ x y).2 := by
  have n7 := wf_n7 K.w
  unfold spErase
  by_cases hc : isC σ.1 x = true ∧ isC σ.1 y = true
  · rw [if_pos hc]
    obtain ⟨a, ha, rfl⟩ := isC_of K.w hc.1
    obtain ⟨b, hb, rfl⟩ := isC_of K.w hc.2
    rw [nt_nI (a := a) (by omega), nt_nI (a := b) (by omega)]
    by_cases h1 : nI a = nI b
    · rw [if_pos h1]; exact K
    · rw [if_neg h1]
      by_cases h2 : tt σ.1 a b = true
      · rw [if_pos h2]; exact K.chg (wf_part K.w ha hb (fun q => h1 (by rw [q])))
      · rw [if_neg h2]; exact K
  · rw [if_neg hc]; exact K
theorem I_erase (h : AI V σ) (K : OKs σ) (x y : Int32) : DI eIO eUO (d_X4_erase x y V) V (spErase σ x y) := by
  have n7 := wf_n7 K.w
  unfold d_X4_erase spErase
  cases hx : isC σ.1 x with
  | false =>
    rw [i_stopC_f h K hx, bx_inr, if_neg (by simp)]
    exact DI.err h (Or.inr trivial)
  | true =>
    rw [i_stopC_t h K hx, bx_inl]
    cases hy : isC σ.1 y with
    | false =>
      rw [i_stopC_f h K hy, bx_inr, if_neg (by simp)]
      exact DI.err h (Or.inr trivial)
    | true =>
      rw [i_stopC_t h K hy, bx_inl, if_pos ⟨rfl, rfl⟩]
      obtain ⟨a, ha, rfl⟩ := isC_of K.w hx
      obtain ⟨b, hb, rfl⟩ := isC_of K.w hy
      rw [nt_nI (a := a) (by omega), nt_nI (a := b) (by omega)]
      unfold d_X1_reasonAgainstErasing
      by_cases h1 : nI a = nI b
      · rw [if_pos h1, if_pos h1, bd_some]
        exact DI.refuse (r := 5) h _ _ _ (by decide +kernel) rfl _
      · rw [if_neg h1, if_neg h1]
        have hab : a ≠ b := fun q => h1 (by rw [q])
        simp (disch := omega) only [↓iM_def, i_0, i_1, i_2, i_3, i_4, i_5, i_6, i_7, i_8, i_9, i_10, i_12, i_17, i_29, i_31, i_33, i_36, i_37, i_40, i_41, i_42, i_43, i_44, i_45, i_47, i_48, i_50, i_53, i_55, i_56, i_57, i_58, i_59, i_60, i_61, i_98, i_99, i_100, i_102, i_104, i_106, i_110, i_112, i_119, i_120, i_128, i_392, i_448, nI_add, nI_leI, nI_ltI, nI_eq, nI_clamp, iM_le, iM_lt, iM_nle, iM_nlt, iM_ne, iM_ne', Nat.add_zero, pk_mul, asr_inb, bd_some, bw_some, bx_inl, bx_inr, bh_inl, bh_inr, b2_eq0, b2_eq1, asr_zok, nz_nI, i_areNb h.1 K.w]
        cases h2 : tt σ.1 a b with
        | false =>
          simp only [Bool.false_eq_true, if_false, if_true, bd_some]
          exact DI.refuse (r := 6) h _ _ _ (by decide +kernel) rfl _
        | true =>
          simp only [Bool.true_eq_false, if_false, if_true, bd_some]
          rw [i_stop0, bx_inl]
          obtain ⟨V1, a1, a2, a3, a4⟩ := h.change K
          obtain ⟨V2, b1, b2, b3⟩ := i_part a2 K.w ha hb hab
          rw [a1, bd_some, b1, bd_some, i_borders b2 (wf_part K.w ha hb hab), bd_some]
          obtain ⟨c1, c2⟩ := a4 b2 b3
          exact ⟨V2, rfl, c1, c2⟩
/-- two countries, or the first exception -/
theorem M_two {F : Int32 → Int32 → Int32 → VT → Option (Int32 × VT)} (h : AJ V σ) (K : OKs σ) (x y : Int32) {sp : Sg → Int32 → Int32 → (Int32 ⊕ Nat) × Sg}
    (hbad : F x y (nI 1) V = some (nI 0, up2 V 109 7 (nI 1)))
    (k : ∀ a b, a < gN σ.1 → b < gN σ.1 → x = nI a → y = nI b → DM (F (nI a) (nI b) (nI 0) V) V (sp σ (nI a) (nI b))) :
    DM (bd (d_X5_isCountry x V) fun r2 => if r2 = nI 0 then F x y (nI 1) V else bd (d_X5_isCountry y V) fun r5 => if r5 = nI 0 then F x y (nI 1) V else F x y (nI 0) V) V (if isC σ.1 x = true ∧ isC σ.1 y = true then sp σ x y else (.inr 1, σ)) := by
  have wV : WF (V 110) := by rw [h.1]; exact K.w
  simp only [m_isCountry wV, bd_some, b2_eq0, h.1]
  cases hx : isC σ.1 x with
  | false =>
    rw [if_pos rfl, if_neg (by simp), hbad]
    exact DM.err h _
  | true =>
    rw [if_neg (by decide)]
    cases hy : isC σ.1 y with
    | false =>
      rw [if_pos rfl, if_neg (by simp), hbad]
      exact DM.err h _
    | true =>
      rw [if_neg (by decide), if_pos ⟨rfl, rfl⟩]
      obtain ⟨a, ha, rfl⟩ := isC_of K.w hx
      obtain ⟨b, hb, rfl⟩ := isC_of K.w hy
      exact k a b ha hb rfl rfl
theorem M_erase (h : AJ V σ) (K : OKs σ) (x y : Int32) : DM (d_X5_erase x y V) V (spErase σ x y) := by
  have n7 := wf_n7 K.w
  unfold d_X5_erase d_X5_erase_21 spErase
  simp only [↓iM_def, i_0, i_1, i_2, i_3, i_4, i_5, i_6, i_7, i_8, i_9, i_10, i_12, i_17, i_29, i_31, i_33, i_36, i_37, i_40, i_41, i_42, i_43, i_44, i_45, i_47, i_48, i_50, i_53, i_55, i_56, i_57, i_58, i_59, i_60, i_61, i_98, i_99, i_100, i_102, i_104, i_106, i_110, i_112, i_119, i_120, i_128, i_392, i_448]
  refine M_two (F := d_X5_erase_22) (sp := fun σ x y => if x = y then (.inr 2, refu σ (nI 5) x) else if tt σ.1 (nt x) (nt y) = true then (.inl (nI (bor (aPart σ.1 (nt x) (nt y)))), chg σ (aPart σ.1 (nt x) (nt y))) else (.inr 2, refu σ (nI 6) y)) h K x y ?_ ?_
  · unfold d_X5_erase_22
    simp only [↓iM_def, i_0, i_1, i_2, i_3, i_4, i_5, i_6, i_7, i_8, i_9, i_10, i_12, i_17, i_29, i_31, i_33, i_36, i_37, i_40, i_41, i_42, i_43, i_44, i_45, i_47, i_48, i_50, i_53, i_55, i_56, i_57, i_58, i_59, i_60, i_61, i_98, i_99, i_100, i_102, i_104, i_106, i_110, i_112, i_119, i_120, i_128, i_392, i_448, m_fail0, m_fail1, m_fail2, e10, eq_self, if_true, if_false, bw_some]
  · intro a b ha hb _ _
    rw [nt_nI (a := a) (by omega), nt_nI (a := b) (by omega)]
    unfold d_X5_erase_22
    simp only [↓iM_def, i_0, i_1, i_2, i_3, i_4, i_5, i_6, i_7, i_8, i_9, i_10, i_12, i_17, i_29, i_31, i_33, i_36, i_37, i_40, i_41, i_42, i_43, i_44, i_45, i_47, i_48, i_50, i_53, i_55, i_56, i_57, i_58, i_59, i_60, i_61, i_98, i_99, i_100, i_102, i_104, i_106, i_110, i_112, i_119, i_120, i_128, i_392, i_448, m_fail0, m_fail1, m_fail2, e10, eq_self, if_true, if_false, bw_some, m_refuses]
    refine DM.pre h (nI 0) (fun V2 h2 hc e => ?_)
    rw [e]
    have w2 : WF (V2 110) := by rw [h2.1]; exact K.w
    by_cases h1 : nI a = nI b
    · rw [if_pos h1, if_pos h1]
      exact DM.refuse (k := 2) h2 _ _ _
    · rw [if_neg h1, if_neg h1]
      have hab : a ≠ b := fun q => h1 (by rw [q])
      obtain ⟨V7, a1, a2, a3, a4⟩ := h2.keep K
      have a5 : V7 110 = σ.1 := a2.1
      have w7 := K.w
      simp (disch := omega) only [↓iM_def, i_0, i_1, i_2, i_3, i_4, i_5, i_6, i_7, i_8, i_9, i_10, i_12, i_17, i_29, i_31, i_33, i_36, i_37, i_40, i_41, i_42, i_43, i_44, i_45, i_47, i_48, i_50, i_53, i_55, i_56, i_57, i_58, i_59, i_60, i_61, i_98, i_99, i_100, i_102, i_104, i_106, i_110, i_112, i_119, i_120, i_128, i_392, i_448, nI_add, nI_leI, nI_ltI, nI_eq, nI_clamp, iM_le, iM_lt, iM_nle, iM_nlt, iM_ne, iM_ne', Nat.add_zero, pk_mul, asr_inb, bd_some, bw_some, bx_inl, bx_inr, bh_inl, bh_inr, b2_eq0, b2_eq1, asr_zok, nz_nI, up2_setc, setc_at, setc_setc, setc_ne, m_touches w2, m_isP w2, m_hu, h2.1, a1, a5, wf_nb w7, upd_ne, upd_eq, clr_nI]
      cases h5 : tt σ.1 a b with
      | false =>
        simp only [Bool.false_eq_true, if_false, if_true]
        exact DM.refuseS (k := 2) h2 _ _ _
      | true =>
        simp only [Bool.true_eq_false, if_false, if_true]
        have wj := wf_part K.w ha hb hab
        have e2 : ∀ o, DM (bd (d_X5_borders (setc V7 110 (aPart σ.1 a b))) fun r8 => some (r8, setc V7 110 (aPart σ.1 a b))) V2 o → DM (bd (d_X5_borders (setc V7 110 (upd (upd σ.1 (29 + a) (nI (nb σ.1 a &&& bnot (2 ^ b)))) (29 + b) (nI (nb σ.1 b &&& bnot (2 ^ a)))))) fun r16 => some (r16, setc V7 110 (upd (upd σ.1 (29 + a) (nI (nb σ.1 a &&& bnot (2 ^ b)))) (29 + b) (nI (nb σ.1 b &&& bnot (2 ^ a)))))) V2 o := fun o h => h
        refine e2 _ ?_
        rw [m_borders (by rw [setc_at]; exact wj), bd_some, setc_at]
        exact DM.of rfl a2.row (a3.tr (fr110 _ _)) (by rw [setc_ne (by omega), a4, hc]; rfl) (fun v hv => by cases hv; rfl)
def spHasBorder (σ : Sg) (x y : Int32) : (Int32 ⊕ Nat) × Sg :=
  if isC σ.1 x = true ∧ isC σ.1 y = true then (.inl (b2 (tt σ.1 (nt x) (nt y))), σ) else (.inr 1, σ)
theorem I_hasBorder (h : AI V σ) (K : OKs σ) (x y : Int32) : DI eIO eUO (d_X4_hasBorder x y V) V (spHasBorder σ x y) := by
  have n7 := wf_n7 K.w
  unfold d_X4_hasBorder spHasBorder
  cases hx : isC σ.1 x with
  | false =>
    rw [i_stopC_f h K hx, bx_inr, if_neg (by simp)]
    exact DI.err h (Or.inr trivial)
  | true =>
    rw [i_stopC_t h K hx, bx_inl]
    cases hy : isC σ.1 y with
    | false =>
      rw [i_stopC_f h K hy, bx_inr, if_neg (by simp)]
      exact DI.err h (Or.inr trivial)
    | true =>
      rw [i_stopC_t h K hy, bx_inl, if_pos ⟨rfl, rfl⟩]
      obtain ⟨a, ha, rfl⟩ := isC_of K.w hx
      obtain ⟨b, hb, rfl⟩ := isC_of K.w hy
      rw [nt_nI (a := a) (by omega), nt_nI (a := b) (by omega), i_areNb h.1 K.w (by omega) (by omega), bd_some, asr_zok]
      exact ⟨V, rfl, h, FrI.rf V⟩
theorem M_hasBorder (h : AJ V σ) (K : OKs σ) (x y : Int32) : DM (d_X5_hasBorder x y V) V (spHasBorder σ x y) := by
  have n7 := wf_n7 K.w
  unfold d_X5_hasBorder d_X5_hasBorder_21 spHasBorder
  simp only [↓iM_def, i_0, i_1, i_2, i_3, i_4, i_5, i_6, i_7, i_8, i_9, i_10, i_12, i_17, i_29, i_31, i_33, i_36, i_37, i_40, i_41, i_42, i_43, i_44, i_45, i_47, i_48, i_50, i_53, i_55, i_56, i_57, i_58, i_59, i_60, i_61, i_98, i_99, i_100, i_102, i_104, i_106, i_110, i_112, i_119, i_120, i_128, i_392, i_448]
  refine M_two (F := d_X5_hasBorder_22) (sp := fun σ x y => (.inl (b2 (tt σ.1 (nt x) (nt y))), σ)) h K x y ?_ ?_
  · unfold d_X5_hasBorder_22
    simp only [↓iM_def, i_0, i_1, i_2, i_3, i_4, i_5, i_6, i_7, i_8, i_9, i_10, i_12, i_17, i_29, i_31, i_33, i_36, i_37, i_40, i_41, i_42, i_43, i_44, i_45, i_47, i_48, i_50, i_53, i_55, i_56, i_57, i_58, i_59, i_60, i_61, i_98, i_99, i_100, i_102, i_104, i_106, i_110, i_112, i_119, i_120, i_128, i_392, i_448, m_fail0, m_fail1, m_fail2, e10, eq_self, if_true, if_false, bw_some]
  · intro a b ha hb _ _
    rw [nt_nI (a := a) (by omega), nt_nI (a := b) (by omega)]
    unfold d_X5_hasBorder_22
    simp only [↓iM_def, i_0, i_1, i_2, i_3, i_4, i_5, i_6, i_7, i_8, i_9, i_10, i_12, i_17, i_29, i_31, i_33, i_36, i_37, i_40, i_41, i_42, i_43, i_44, i_45, i_47, i_48, i_50, i_53, i_55, i_56, i_57, i_58, i_59, i_60, i_61, i_98, i_99, i_100, i_102, i_104, i_106, i_110, i_112, i_119, i_120, i_128, i_392, i_448, m_fail0, m_fail1, m_fail2, e10, eq_self, if_true, if_false, bw_some]
    refine DM.pre h (nI 0) (fun V2 h2 hc e => ?_)
    rw [e]
    have w2 : WF (V2 110) := by rw [h2.1]; exact K.w
    simp (disch := omega) only [↓iM_def, i_0, i_1, i_2, i_3, i_4, i_5, i_6, i_7, i_8, i_9, i_10, i_12, i_17, i_29, i_31, i_33, i_36, i_37, i_40, i_41, i_42, i_43, i_44, i_45, i_47, i_48, i_50, i_53, i_55, i_56, i_57, i_58, i_59, i_60, i_61, i_98, i_99, i_100, i_102, i_104, i_106, i_110, i_112, i_119, i_120, i_128, i_392, i_448, nI_add, nI_leI, nI_ltI, nI_eq, nI_clamp, iM_le, iM_lt, iM_nle, iM_nlt, iM_ne, iM_ne', Nat.add_zero, pk_mul, asr_inb, bd_some, bw_some, bx_inl, bx_inr, bh_inl, bh_inr, b2_eq0, b2_eq1, asr_zok, nz_nI, m_touches w2, h2.1]
    cases h5 : tt σ.1 a b with
    | false =>
      rw [if_pos rfl]
      exact DM.of rfl h2 (FrM.rf _) hc (fun v hv => by cases hv; rfl)
    | true =>
      rw [if_neg (by decide)]
      exact DM.of rfl h2 (FrM.rf _) hc (fun v hv => by cases hv; rfl)
/-! hues, pots -/
def isMH (x : Int32) : Bool := decide (nI 1 ≤ x) && decide (x ≤ nI 5)
def isMP (x : Int32) : Bool := decide (nI 1 ≤ x) && decide (x ≤ nI 50)
def isCr (x : Int32) : Bool := decide (nI 0 ≤ x) && decide (x ≤ nI 9)
theorem i_rng (lo hi x : Int32) : (if x < lo then some (nI 0) else if hi < x then some (nI 0) else some (nI 1)) = some (b2 (decide (lo ≤ x) && decide (x ≤ hi))) := by
  by_cases h1 : x < lo
  · rw [if_pos h1, decide_eq_false (Int32.not_le.mpr h1)]; rfl
  · rw [if_neg h1, decide_eq_true (Int32.not_lt.mp h1)]
    by_cases h2 : hi < x
    · rw [if_pos h2, decide_eq_false (Int32.not_le.mpr h2)]; rfl
    · rw [if_neg h2, decide_eq_true (Int32.not_lt.mp h2)]; rfl
theorem i_isMH (x : Int32) : d_X4_isManyHues x V = some (b2 (isMH x)) := i_rng (nI 1) (nI 5) x
theorem i_isMP (x : Int32) : d_X4_isManyPots x V = some (b2 (isMP x)) := i_rng (nI 1) (nI 50) x
theorem i_isCr (x : Int32) : d_X4_isCrown x V = some (b2 (isCr x)) := i_rng (nI 0) (nI 9) x
theorem isMH_of {x : Int32} (h : isMH x = true) : ∃ u, 1 ≤ u ∧ u ≤ 5 ∧ x = nI u := by
  unfold isMH at h
  simp only [Bool.and_eq_true, decide_eq_true_eq] at h
  obtain ⟨z, hz, rfl⟩ := rng19 h.1 (Int32.le_trans h.2 (by decide +kernel))
  rw [nI_leI (by omega) (by omega), nI_leI (by omega) (by omega)] at h
  exact ⟨z, h.1, h.2, rfl⟩
def spHues (σ : Sg) (x : Int32) : (Int32 ⊕ Nat) × Sg :=
  if isMH x = true then
    match lpb σ.1 x with
    | some c => (.inr 2, refu σ (nI 9) (nI c))
    | none => (.inl (nI (gU σ.1)), chg σ (aHues σ.1 (nt x)))
  else (.inr 1, σ)
theorem K_hues (K : OKs σ) (x : Int32) : OKs (spHues σ x).2 := by
  unfold spHues
  by_cases h : isMH x = true
  · rw [if_pos h]
    obtain ⟨u, u1, u5, rfl⟩ := isMH_of h
    cases lpb σ.1 (nI u) with
    | some c => exact K
    | none => rw [nt_nI (a := u) (by omega)]; exact K.chg (wf_hues K.w u1 u5)
  · rw [if_neg h]; exact K
theorem lpb_lt {x : Int32} {c : Nat} (h : lpb g x = some c) : c < gN g := fnd_lt h
theorem i_rah (r : LR V 1 g) (w : WF g) (x : Int32) : d_X1_reasonAgainstHues x V = some (if lpb g x = none then nI 0 else nI 9) := by
  have n7 := wf_n7 w
  unfold d_X1_reasonAgainstHues
  rw [i_lpb r w, bd_some]
  simp only [↓iM_def, io_m (o := lpb g x) (n := gN g) (by omega) (fun k hk => lpb_lt hk)]
  by_cases h : lpb g x = none
  · rw [if_pos h, if_pos h]; rfl
  · rw [if_neg h, if_neg h]; rfl
theorem I_hues (h : AI V σ) (K : OKs σ) (x : Int32) : DI eIA eUO (d_X4_hues x V) V (spHues σ x) := by
  have n7 := wf_n7 K.w
  unfold d_X4_hues spHues
  simp only [i_isMH, bd_some, i_0, b2_eq0, i_rah h.1 K.w]
  cases hm : isMH x with
  | false =>
    rw [if_pos rfl, if_neg (by decide)]
    exact DI.err h (Or.inr trivial)
  | true =>
    rw [if_neg (by decide), if_pos rfl]
    obtain ⟨u, u1, u5, rfl⟩ := isMH_of hm
    cases hl : lpb σ.1 (nI u) with
    | some c =>
      simp only [reduceCtorEq, if_false]
      refine DI.refuse (r := 9) h _ _ _ (by decide +kernel) ?_ _
      have h5 : d_X1_detailOf (nI 9) (nI u) (nI 0) (up2 V 0 10 (nI 9)) = bd (d_X1_lowestPaintedBeyond (nI u) (up2 V 0 10 (nI 9))) fun r => some r := rfl
      rw [h5, i_lpb (h.up10 (nI 9)) K.w, hl]
      rfl
    | none =>
      simp only [if_true]
      rw [i_stop0, bx_inl]
      obtain ⟨V1, a1, a2, a3, a4⟩ := h.change K
      obtain ⟨b2', b3⟩ := i_hues a2 K.w u
      rw [a1, bd_some, nt_nI (a := u) (by omega)]
      obtain ⟨c1, c2⟩ := a4 b2' b3
      refine ⟨_, ?_, c1, c2⟩
      rw [lr_u a2 K.w]
      rfl
theorem M_hues (h : AJ V σ) (K : OKs σ) (x : Int32) : DM (d_X5_hues x V) V (spHues σ x) := by
  have n7 := wf_n7 K.w
  unfold d_X5_hues spHues
  simp only [m_in, bd_some, ↓iM_def, i_0, i_1, i_2, i_3, i_4, i_5, i_6, i_7, i_8, i_9, i_10, i_12, i_17, i_29, i_31, i_33, i_36, i_37, i_40, i_41, i_42, i_43, i_44, i_45, i_47, i_48, i_50, i_53, i_55, i_56, i_57, i_58, i_59, i_60, i_61, i_98, i_99, i_100, i_102, i_104, i_106, i_110, i_112, i_119, i_120, i_128, i_392, i_448, b2_eq0]
  have e0 : (decide (nI 1 ≤ x) && decide (x ≤ nI 5)) = isMH x := rfl
  rw [e0]
  cases hm : isMH x with
  | false =>
    rw [if_pos rfl, if_neg (by decide)]
    unfold d_X5_hues_15
    simp only [↓iM_def, i_0, i_1, i_2, i_3, i_4, i_5, i_6, i_7, i_8, i_9, i_10, i_12, i_17, i_29, i_31, i_33, i_36, i_37, i_40, i_41, i_42, i_43, i_44, i_45, i_47, i_48, i_50, i_53, i_55, i_56, i_57, i_58, i_59, i_60, i_61, i_98, i_99, i_100, i_102, i_104, i_106, i_110, i_112, i_119, i_120, i_128, i_392, i_448, m_fail0, m_fail1, m_fail2, e10, eq_self, if_true, if_false, bw_some]
    exact DM.err h _
  | true =>
    rw [if_neg (by decide), if_pos rfl]
    obtain ⟨u, u1, u5, rfl⟩ := isMH_of hm
    unfold d_X5_hues_15
    simp only [↓iM_def, i_0, i_1, i_2, i_3, i_4, i_5, i_6, i_7, i_8, i_9, i_10, i_12, i_17, i_29, i_31, i_33, i_36, i_37, i_40, i_41, i_42, i_43, i_44, i_45, i_47, i_48, i_50, i_53, i_55, i_56, i_57, i_58, i_59, i_60, i_61, i_98, i_99, i_100, i_102, i_104, i_106, i_110, i_112, i_119, i_120, i_128, i_392, i_448, m_fail0, m_fail1, m_fail2, e10, eq_self, if_true, if_false, bw_some]
    refine DM.pre h (nI 0) (fun V2 h2 hc e => ?_)
    rw [e, nt_nI (a := u) (by omega)]
    have w2 : WF (V2 110) := by rw [h2.1]; exact K.w
    obtain ⟨V7, a1, a2, a3, a4⟩ := h2.keep K
    have a5 : V7 110 = σ.1 := a2.1
    obtain ⟨b, V', q1, q2⟩ : DM (match lpb σ.1 (nI u) with | some c => some (nI 0, setc V2 109 (upd (upd (upd (V2 109) 7 (nI 2)) 8 (nI 9)) 9 (nI c))) | none => some (nI (gU σ.1), setc V7 110 (aHues σ.1 u))) V2 (match lpb σ.1 (nI u) with | some c => (.inr 2, refu σ (nI 9) (nI c)) | none => (.inl (nI (gU σ.1)), chg σ (aHues σ.1 u))) := by
      cases lpb σ.1 (nI u) with
      | some c => exact DM.refuseS (k := 2) h2 _ _ _
      | none => exact DM.of rfl a2.row (a3.tr (fr110 _ _)) (by rw [setc_ne (by omega), a4, hc]; rfl) (fun v hv => by cases hv; rfl)
    refine ⟨b, V', ?_, q2⟩
    rw [← q1]
    unfold d_X5_hues_25
    refine lo2W_inv (gN σ.1) (fun k y0 Vk => y0 = nI u ∧ Vk = V2 ∧ fnd (fun o => !decide (hu σ.1 o < nI u)) k = none) ?_ ?_ FU (show gN σ.1 < 1000 by omega) _ _ ⟨rfl, rfl, rfl⟩
    · rintro Kk k y0 Vk hk ⟨rfl, rfl, hf⟩ hK
      unfold d_X5_hues_25b
      simp (disch := omega) only [↓iM_def, i_0, i_1, i_2, i_3, i_4, i_5, i_6, i_7, i_8, i_9, i_10, i_12, i_17, i_29, i_31, i_33, i_36, i_37, i_40, i_41, i_42, i_43, i_44, i_45, i_47, i_48, i_50, i_53, i_55, i_56, i_57, i_58, i_59, i_60, i_61, i_98, i_99, i_100, i_102, i_104, i_106, i_110, i_112, i_119, i_120, i_128, i_392, i_448, nI_add, nI_leI, nI_ltI, nI_eq, nI_clamp, iM_le, iM_lt, iM_nle, iM_nlt, iM_ne, iM_ne', Nat.add_zero, pk_mul, asr_inb, bd_some, bw_some, bx_inl, bx_inr, bh_inl, bh_inr, b2_eq0, b2_eq1, asr_zok, nz_nI, up2_setc, setc_at, setc_setc, setc_ne, m_hu, h2.1, wf_n K.w, m_refuses]
      rw [if_neg (by omega)]
      by_cases hq : hu σ.1 k < nI u
      · rw [if_pos hq]
        exact hK _ _ ⟨rfl, rfl, fnd_go hf (by simp [hq])⟩
      · rw [if_neg hq]
        have e9 : lpb σ.1 (nI u) = some k := fnd_stop hk hf (by simp [hq])
        rw [e9]
    · rintro Kk y0 Vk ⟨rfl, rfl, hf⟩
      unfold d_X5_hues_25b
      have e9 : lpb σ.1 (nI u) = none := hf
      simp (disch := omega) only [↓iM_def, i_0, i_1, i_2, i_3, i_4, i_5, i_6, i_7, i_8, i_9, i_10, i_12, i_17, i_29, i_31, i_33, i_36, i_37, i_40, i_41, i_42, i_43, i_44, i_45, i_47, i_48, i_50, i_53, i_55, i_56, i_57, i_58, i_59, i_60, i_61, i_98, i_99, i_100, i_102, i_104, i_106, i_110, i_112, i_119, i_120, i_128, i_392, i_448, nI_add, nI_leI, nI_ltI, nI_eq, nI_clamp, iM_le, iM_lt, iM_nle, iM_nlt, iM_ne, iM_ne', Nat.add_zero, pk_mul, asr_inb, bd_some, bw_some, bx_inl, bx_inr, bh_inl, bh_inr, b2_eq0, b2_eq1, asr_zok, nz_nI, up2_setc, setc_at, setc_setc, setc_ne, h2.1, wf_n K.w, Nat.le_refl, if_true, a1, a5, wf_u K.w, e9]
      rfl
def spPots (σ : Sg) (x y : Int32) : (Int32 ⊕ Nat) × Sg :=
  if isH x = true then
    if isMP y = true then (.inl (po (aBring σ.1 (nt x) y) (nt x)), chg σ (aBring σ.1 (nt x) y)) else (.inr 2, σ)
  else (.inr 1, σ)
theorem K_pots (K : OKs σ) (x y : Int32) : OKs (spPots σ x y).2 := by
  unfold spPots
  by_cases h : isH x = true
  · rw [if_pos h]
    obtain ⟨u, u5, rfl⟩ := isH_of h
    by_cases h2 : isMP y = true
    · rw [if_pos h2, nt_nI (a := u) (by omega)]; exact K.chg (wf_bring K.w u5 _)
    · rw [if_neg h2]; exact K
  · rw [if_neg h]; exact K
theorem I_pots (h : AI V σ) (K : OKs σ) (x y : Int32) : DI eIO eIA (d_X4_pots x y V) V (spPots σ x y) := by
  unfold d_X4_pots spPots
  cases hx : isH x with
  | false =>
    rw [i_stopH_f hx, bx_inr, if_neg (by simp)]
    exact DI.err h (Or.inr trivial)
  | true =>
    obtain ⟨u, u5, rfl⟩ := isH_of hx
    rw [i_stopH_t hx, bx_inl, if_pos rfl, i_isMP, bd_some, nt_nI (a := u) (by omega)]
    simp only [i_0, b2_eq0]
    cases hy : isMP y with
    | false =>
      rw [if_pos rfl, if_neg (by decide)]
      exact DI.err2 h
    | true =>
      rw [if_neg (by decide), if_pos rfl]
      obtain ⟨V1, a1, a2, a3, a4⟩ := h.change K
      obtain ⟨V2, b1, b2, b3⟩ := i_bring a2 K.w u5 y
      rw [a1, bd_some, b1, bd_some]
      obtain ⟨c1, c2⟩ := a4 b2 b3
      simp (disch := omega) only [asr_inb, nI_clamp, lr_po b2]
      exact ⟨V2, rfl, c1, c2⟩
theorem M_pots (h : AJ V σ) (K : OKs σ) (x y : Int32) : DM (d_X5_pots x y V) V (spPots σ x y) := by
  unfold d_X5_pots spPots
  simp only [m_isHue, bd_some, ↓iM_def, i_0, i_1, i_2, i_3, i_4, i_5, i_6, i_7, i_8, i_9, i_10, i_12, i_17, i_29, i_31, i_33, i_36, i_37, i_40, i_41, i_42, i_43, i_44, i_45, i_47, i_48, i_50, i_53, i_55, i_56, i_57, i_58, i_59, i_60, i_61, i_98, i_99, i_100, i_102, i_104, i_106, i_110, i_112, i_119, i_120, i_128, i_392, i_448, b2_eq0, m_in]
  cases hx : isH x with
  | false =>
    rw [if_pos rfl, if_neg (by decide)]
    unfold d_X5_pots_27
    simp only [↓iM_def, i_0, i_1, i_2, i_3, i_4, i_5, i_6, i_7, i_8, i_9, i_10, i_12, i_17, i_29, i_31, i_33, i_36, i_37, i_40, i_41, i_42, i_43, i_44, i_45, i_47, i_48, i_50, i_53, i_55, i_56, i_57, i_58, i_59, i_60, i_61, i_98, i_99, i_100, i_102, i_104, i_106, i_110, i_112, i_119, i_120, i_128, i_392, i_448, m_fail0, m_fail1, m_fail2, e10, eq_self, if_true, if_false, bw_some]
    exact DM.err h _
  | true =>
    rw [if_neg (by decide), if_pos rfl]
    obtain ⟨u, u5, rfl⟩ := isH_of hx
    have e0 : (decide (nI 1 ≤ y) && decide (y ≤ nI 50)) = isMP y := rfl
    rw [e0]
    cases hy : isMP y with
    | false =>
      rw [if_pos rfl, if_neg (by decide)]
      unfold d_X5_pots_27
      simp only [↓iM_def, i_0, i_1, i_2, i_3, i_4, i_5, i_6, i_7, i_8, i_9, i_10, i_12, i_17, i_29, i_31, i_33, i_36, i_37, i_40, i_41, i_42, i_43, i_44, i_45, i_47, i_48, i_50, i_53, i_55, i_56, i_57, i_58, i_59, i_60, i_61, i_98, i_99, i_100, i_102, i_104, i_106, i_110, i_112, i_119, i_120, i_128, i_392, i_448, m_fail0, m_fail1, m_fail2, e10, eq_self, if_true, if_false, bw_some]
      exact DM.err h _
    | true =>
      rw [if_neg (by decide), if_pos rfl, nt_nI (a := u) (by omega)]
      unfold d_X5_pots_27
      simp only [↓iM_def, i_0, i_1, i_2, i_3, i_4, i_5, i_6, i_7, i_8, i_9, i_10, i_12, i_17, i_29, i_31, i_33, i_36, i_37, i_40, i_41, i_42, i_43, i_44, i_45, i_47, i_48, i_50, i_53, i_55, i_56, i_57, i_58, i_59, i_60, i_61, i_98, i_99, i_100, i_102, i_104, i_106, i_110, i_112, i_119, i_120, i_128, i_392, i_448, m_fail0, m_fail1, m_fail2, e10, eq_self, if_true, if_false, bw_some]
      refine DM.pre h (nI 0) (fun V2 h2 hc e => ?_)
      rw [e]
      obtain ⟨V7, a1, a2, a3, a4⟩ := h2.keep K
      have a5 : V7 110 = σ.1 := a2.1
      have el : d_X5_less (nI 99) (po σ.1 u + y) V7 = some (mn99 (po σ.1 u + y)) := by
        unfold d_X5_less mn99
        by_cases c : po σ.1 u + y < nI 99
        · rw [if_pos (Int32.le_of_lt c), if_pos c]
        · rw [if_neg c]
          by_cases c2 : po σ.1 u + y ≤ nI 99
          · rw [if_pos c2, Int32.le_antisymm c2 (Int32.not_lt.mp c)]
          · rw [if_neg c2]
      have el' : d_X5_less (nI 99) (σ.1 (37 + u) + y) V7 = some (mn99 (po σ.1 u + y)) := el
      simp (disch := omega) only [↓iM_def, i_0, i_1, i_2, i_3, i_4, i_5, i_6, i_7, i_8, i_9, i_10, i_12, i_17, i_29, i_31, i_33, i_36, i_37, i_40, i_41, i_42, i_43, i_44, i_45, i_47, i_48, i_50, i_53, i_55, i_56, i_57, i_58, i_59, i_60, i_61, i_98, i_99, i_100, i_102, i_104, i_106, i_110, i_112, i_119, i_120, i_128, i_392, i_448, nI_add, nI_leI, nI_ltI, nI_eq, nI_clamp, iM_le, iM_lt, iM_nle, iM_nlt, iM_ne, iM_ne', Nat.add_zero, pk_mul, asr_inb, bd_some, bw_some, bx_inl, bx_inr, bh_inl, bh_inr, b2_eq0, b2_eq1, asr_zok, nz_nI, up2_setc, setc_at, setc_setc, setc_ne, a1, a5, el', upd_eq]
      have e3 : po (aBring σ.1 u y) u = mn99 (po σ.1 u + y) := by unfold aBring; rw [po_at]
      rw [e3]
      exact DM.of rfl a2.row (a3.tr (fr110 _ _)) (by rw [setc_ne (by omega), a4, hc]; rfl) (fun v hv => by cases hv; rfl)
end
