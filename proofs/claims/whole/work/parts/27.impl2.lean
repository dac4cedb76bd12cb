/-! PURE ROWS: the other changes of the landed text -/
section
variable {g : Row} {V : VT}
theorem i_part (r : LR V 1 g) (w : WF g) {a b : Nat} (ha : a < gN g) (hb : b < gN g) (hn : a ≠ b) : ∃ V', d_X1_part (nI a) (nI b) V = some V' ∧ LR V' 1 (aPart g a b) ∧ ∀ q, q = 0 ∨ 10 ≤ q → V' q = V q := by
  have n7 := wf_n7 w
  have s7 := wf_s7 w
  unfold d_X1_part
  simp (disch := omega) only [↓iM_def, i_0, i_1, i_2, i_3, i_4, i_5, i_6, i_7, i_8, i_9, i_10, i_12, i_17, i_29, i_31, i_33, i_36, i_37, i_40, i_41, i_42, i_43, i_44, i_45, i_47, i_48, i_50, i_53, i_55, i_56, i_57, i_58, i_59, i_60, i_61, i_98, i_99, i_100, i_102, i_104, i_106, i_110, i_112, i_119, i_120, i_128, i_392, i_448, nI_add, nI_leI, nI_ltI, nI_eq, nI_clamp, iM_le, iM_lt, iM_nle, iM_nlt, iM_ne, iM_ne', Nat.add_zero, pk_mul, asr_inb, bd_some, bw_some, bx_inl, bx_inr, bh_inl, bh_inr, b2_eq0, b2_eq1, asr_zok, nz_nI, lr_nb r w, clr_nI, up2_at, upd_ne]
  refine ⟨_, rfl, LR1 ?_ ?_ ?_ ?_ (fun c hc => ⟨?_, ?_, ?_, ?_, ?_⟩) (fun h hh => ⟨?_, ?_⟩) (fun k hk => ?_), fun q hq => ?_⟩
  · simp (disch := omega) only [up2_ne, aPart, upd_ne]; exact lr_8 r
  · simp (disch := omega) only [up2_ne, aPart, upd_ne]; exact lr_9 r
  · simp (disch := omega) only [up2_ne, aPart, upd_ne]; exact lr_10 r
  · simp (disch := omega) only [up2_ne, aPart, upd_ne]; exact lr_o r
  · simp (disch := omega) only [up2_ne, aPart, sz_o]; exact lr_sz r hc
  · simp (disch := omega) only [up2_ne, aPart, hu_o]; exact lr_hu r hc
  · simp (disch := omega) only [up2_ne, aPart, wi_o]; exact lr_wi r hc
  · simp (disch := omega) only [up2_ne, aPart, cr_o]; exact lr_cr r hc
  · unfold aPart
    rw [up2_at, up2_at]
    by_cases e1 : c = b
    · rw [e1, upd_eq, upd_eq]
    · rw [upd_ne e1, upd_ne (show 29 + c ≠ 29 + b by omega)]
      by_cases e2 : c = a
      · rw [e2, upd_eq, upd_eq]
      · rw [upd_ne e2, upd_ne (show 29 + c ≠ 29 + a by omega)]; exact lr_6 r hc
  · simp (disch := omega) only [up2_ne, aPart, po_o]; exact lr_po r hh
  · simp (disch := omega) only [up2_ne, aPart, us_o]; exact lr_us r hh
  · have hk : k < gS g := by unfold aPart at hk; rw [gS_o (by omega), gS_o (by omega)] at hk; exact hk
    simp (disch := omega) only [up2_ne, aPart, upd_ne]; exact lr_7 r hk
  · rw [up2_ne (by omega), up2_ne (by omega)]
theorem i_bring (r : LR V 1 g) (w : WF g) {h : Nat} (hh : h < 5) (m : Int32) : ∃ V', d_X1_bring (nI h) m V = some V' ∧ LR V' 1 (aBring g h m) ∧ ∀ q, q = 0 ∨ 10 ≤ q → V' q = V q := by
  have s7 := wf_s7 w
  have e : d_J9_min_7cf53 (nI 99) (po g h + m) V = some (mn99 (po g h + m)) := by
    unfold d_J9_min_7cf53 mn99
    by_cases c : po g h + m < nI 99
    · rw [if_pos c, if_pos c]
    · rw [if_neg c, if_neg c]
  unfold d_X1_bring
  simp (disch := omega) only [↓iM_def, i_0, i_1, i_2, i_3, i_4, i_5, i_6, i_7, i_8, i_9, i_10, i_12, i_17, i_29, i_31, i_33, i_36, i_37, i_40, i_41, i_42, i_43, i_44, i_45, i_47, i_48, i_50, i_53, i_55, i_56, i_57, i_58, i_59, i_60, i_61, i_98, i_99, i_100, i_102, i_104, i_106, i_110, i_112, i_119, i_120, i_128, i_392, i_448, nI_add, nI_leI, nI_ltI, nI_eq, nI_clamp, iM_le, iM_lt, iM_nle, iM_nlt, iM_ne, iM_ne', Nat.add_zero, pk_mul, asr_inb, bd_some, bw_some, bx_inl, bx_inr, bh_inl, bh_inr, b2_eq0, b2_eq1, asr_zok, nz_nI, lr_po r, e]
  refine ⟨_, rfl, LR1 ?_ ?_ ?_ ?_ (fun c hc => ⟨?_, ?_, ?_, ?_, ?_⟩) (fun d hd => ⟨?_, ?_⟩) (fun k hk => ?_), fun q hq => ?_⟩
  · simp (disch := omega) only [up2_ne, aBring, upd_ne]; exact lr_8 r
  · simp (disch := omega) only [up2_ne, aBring, upd_ne]; exact lr_9 r
  · simp (disch := omega) only [up2_ne, aBring, upd_ne]; exact lr_10 r
  · simp (disch := omega) only [up2_ne, aBring, upd_ne]; exact lr_o r
  · simp (disch := omega) only [up2_ne, aBring, sz_o]; exact lr_sz r hc
  · simp (disch := omega) only [up2_ne, aBring, hu_o]; exact lr_hu r hc
  · simp (disch := omega) only [up2_ne, aBring, wi_o]; exact lr_wi r hc
  · simp (disch := omega) only [up2_ne, aBring, cr_o]; exact lr_cr r hc
  · simp (disch := omega) only [up2_ne, aBring, upd_ne]; exact lr_6 r hc
  · unfold aBring
    rw [up2_at]
    by_cases e1 : d = h
    · rw [e1, upd_eq, po_at]
    · rw [upd_ne e1, po_o (by omega)]; exact lr_po r hd
  · simp (disch := omega) only [up2_ne, aBring, us_o]; exact lr_us r hd
  · have hk : k < gS g := by unfold aBring at hk; rw [gS_o (by omega)] at hk; exact hk
    simp (disch := omega) only [up2_ne, aBring, upd_ne]; exact lr_7 r hk
  · rw [up2_ne (by omega)]
theorem i_wish (r : LR V 1 g) (w : WF g) {c : Nat} (hc : c < 7) (h x : Int32) : ∃ V', d_X1_setWish (nI c) h x V = some V' ∧ LR V' 1 (aWish g c h x) ∧ ∀ q, q = 0 ∨ 10 ≤ q → V' q = V q := by
  have s7 := wf_s7 w
  unfold d_X1_setWish
  simp (disch := omega) only [↓iM_def, i_0, i_1, i_2, i_3, i_4, i_5, i_6, i_7, i_8, i_9, i_10, i_12, i_17, i_29, i_31, i_33, i_36, i_37, i_40, i_41, i_42, i_43, i_44, i_45, i_47, i_48, i_50, i_53, i_55, i_56, i_57, i_58, i_59, i_60, i_61, i_98, i_99, i_100, i_102, i_104, i_106, i_110, i_112, i_119, i_120, i_128, i_392, i_448, nI_add, nI_leI, nI_ltI, nI_eq, nI_clamp, iM_le, iM_lt, iM_nle, iM_nlt, iM_ne, iM_ne', Nat.add_zero, pk_mul, asr_inb, bd_some, bw_some, bx_inl, bx_inr, bh_inl, bh_inr, b2_eq0, b2_eq1, asr_zok, nz_nI]
  refine ⟨_, rfl, LR1 ?_ ?_ ?_ ?_ (fun d hd => ⟨?_, ?_, ?_, ?_, ?_⟩) (fun d hd => ⟨?_, ?_⟩) (fun k hk => ?_), fun q hq => ?_⟩
  · simp (disch := omega) only [up2_ne, aWish, upd_ne]; exact lr_8 r
  · simp (disch := omega) only [up2_ne, aWish, upd_ne]; exact lr_9 r
  · simp (disch := omega) only [up2_ne, aWish, upd_ne]; exact lr_10 r
  · simp (disch := omega) only [up2_ne, aWish, upd_ne]; exact lr_o r
  · simp (disch := omega) only [up2_ne, aWish, sz_o]; exact lr_sz r hd
  · simp (disch := omega) only [up2_ne, aWish, hu_o]; exact lr_hu r hd
  · unfold aWish
    rw [up2_ne (by omega), up2_at, wi_o (by omega)]
    by_cases e1 : d = c
    · rw [e1, upd_eq, wi_at]
    · rw [upd_ne e1, wi_o (by omega)]; exact lr_wi r hd
  · unfold aWish
    rw [up2_at, up2_ne (by omega)]
    by_cases e1 : d = c
    · rw [e1, upd_eq, cr_at]
    · rw [upd_ne e1, cr_o (by omega), cr_o (by omega)]; exact lr_cr r hd
  · simp (disch := omega) only [up2_ne, aWish, upd_ne]; exact lr_6 r hd
  · simp (disch := omega) only [up2_ne, aWish, po_o]; exact lr_po r hd
  · simp (disch := omega) only [up2_ne, aWish, us_o]; exact lr_us r hd
  · have hk : k < gS g := by unfold aWish at hk; rw [gS_o (by omega), gS_o (by omega)] at hk; exact hk
    simp (disch := omega) only [up2_ne, aWish, upd_ne]; exact lr_7 r hk
  · rw [up2_ne (by omega), up2_ne (by omega)]
theorem i_hues (r : LR V 1 g) (w : WF g) (u : Nat) : LR (up2 V 1 9 (nI u)) 1 (aHues g u) ∧ ∀ q, q = 0 ∨ 10 ≤ q → up2 V 1 9 (nI u) q = V q := by
  have s7 := wf_s7 w
  refine ⟨LR1 ?_ ?_ ?_ ?_ (fun d hd => ⟨?_, ?_, ?_, ?_, ?_⟩) (fun d hd => ⟨?_, ?_⟩) (fun k hk => ?_), fun q hq => ?_⟩
  · simp (disch := omega) only [up2_at, aHues, upd_ne]; exact lr_8 r
  · simp (disch := omega) only [up2_at, aHues, upd_eq]
  · simp (disch := omega) only [up2_at, aHues, upd_ne]; exact lr_10 r
  · simp (disch := omega) only [up2_at, aHues, upd_ne]; exact lr_o r
  · simp (disch := omega) only [up2_ne, aHues, sz_o]; exact lr_sz r hd
  · simp (disch := omega) only [up2_ne, aHues, hu_o]; exact lr_hu r hd
  · simp (disch := omega) only [up2_ne, aHues, wi_o]; exact lr_wi r hd
  · simp (disch := omega) only [up2_ne, aHues, cr_o]; exact lr_cr r hd
  · simp (disch := omega) only [up2_ne, aHues, upd_ne]; exact lr_6 r hd
  · simp (disch := omega) only [up2_ne, aHues, po_o]; exact lr_po r hd
  · simp (disch := omega) only [up2_ne, aHues, us_o]; exact lr_us r hd
  · have hk : k < gS g := by unfold aHues at hk; rw [gS_o (by omega)] at hk; exact hk
    simp (disch := omega) only [up2_ne, aHues, upd_ne]; exact lr_7 r hk
  · rw [up2_ne (by omega)]
theorem i_cover (r : LR V 1 g) (w : WF g) {c h : Nat} (hc : c < gN g) (hp : ptd g c = false) (hh : h < 5) : ∃ V', d_X1_cover (nI c) (nI h) V = some V' ∧ LR V' 1 (aCover g c h) ∧ ∀ q, q = 0 ∨ 10 ≤ q → V' q = V q := by
  have n7 := wf_n7 w
  have hs := s_room w hc hp
  have hs7 : gS g < 7 := by omega
  unfold d_X1_cover
  simp (disch := omega) only [↓iM_def, i_0, i_1, i_2, i_3, i_4, i_5, i_6, i_7, i_8, i_9, i_10, i_12, i_17, i_29, i_31, i_33, i_36, i_37, i_40, i_41, i_42, i_43, i_44, i_45, i_47, i_48, i_50, i_53, i_55, i_56, i_57, i_58, i_59, i_60, i_61, i_98, i_99, i_100, i_102, i_104, i_106, i_110, i_112, i_119, i_120, i_128, i_392, i_448, nI_add, nI_leI, nI_ltI, nI_eq, nI_clamp, iM_le, iM_lt, iM_nle, iM_nlt, iM_ne, iM_ne', Nat.add_zero, pk_mul, asr_inb, bd_some, bw_some, bx_inl, bx_inr, bh_inl, bh_inr, b2_eq0, b2_eq1, asr_zok, nz_nI, lr_s r w, lr_sz r, lr_po r, lr_us r]
  rw [if_neg (by omega)]
  refine ⟨_, rfl, LR1 ?_ ?_ ?_ ?_ (fun d hd => ⟨?_, ?_, ?_, ?_, ?_⟩) (fun d hd => ⟨?_, ?_⟩) (fun k hk => ?_), fun q hq => ?_⟩
  · simp (disch := omega) only [up2_at, up2_ne, aCover, upd_ne]; exact lr_8 r
  · simp (disch := omega) only [up2_at, up2_ne, aCover, upd_ne]; exact lr_9 r
  · simp (disch := omega) only [up2_at, aCover, upd_eq]
  · simp (disch := omega) only [up2_at, up2_ne, aCover, upd_ne]; exact lr_o r
  · simp (disch := omega) only [up2_ne, aCover, sz_o]; exact lr_sz r hd
  · rw [cover_hu g (by omega) hh hd]
    simp (disch := omega) only [up2_ne, up2_at]
    rw [upd_if, lr_hu r hd]
  · simp (disch := omega) only [up2_ne, aCover, wi_o]; exact lr_wi r hd
  · simp (disch := omega) only [up2_ne, aCover, cr_o]; exact lr_cr r hd
  · simp (disch := omega) only [up2_ne, aCover, upd_ne]; exact lr_6 r hd
  · unfold aCover
    simp (disch := omega) only [up2_ne, up2_at, po_o]
    by_cases e1 : d = h
    · rw [e1, upd_eq, po_at]
    · rw [upd_ne e1, po_o (by omega), po_o (by omega)]; exact lr_po r hd
  · unfold aCover
    simp (disch := omega) only [up2_ne, up2_at, us_o]
    by_cases e1 : d = h
    · rw [e1, upd_eq, us_at]
    · rw [upd_ne e1, us_o (by omega), us_o (by omega), us_o (by omega)]; exact lr_us r hd
  · rw [cover_S g hs7] at hk
    unfold aCover
    simp (disch := omega) only [up2_ne, up2_at]
    rw [upd_ne (show 48 + k ≠ 47 by omega)]
    by_cases e1 : k = gS g
    · rw [e1, upd_eq, upd_eq]
    · rw [upd_ne e1, upd_ne (by omega), upd_ne (by omega), upd_ne (by omega), upd_ne (by omega)]; exact lr_7 r (by omega)
  · rw [up2_ne (by omega), up2_ne (by omega), up2_ne (by omega), up2_ne (by omega), up2_ne (by omega)]
theorem i_isC (r : LR V 1 g) (w : WF g) (x : Int32) : d_X1_isCountry x V = some (b2 (isC g x)) := i_isCountry r w x
theorem i_back (r : LR V 1 g) (w : WF g) (h0 : 0 < gS g) : ∃ V', d_X1_stepBack V = some (nI (st g (gS g - 1)), V') ∧ LR V' 1 (aBack g) ∧ ∀ q, q = 0 ∨ 10 ≤ q → V' q = V q := by
  have n7 := wf_n7 w
  have s7 := wf_s7 w
  have hl : gS g - 1 < gS g := by omega
  have hc := wf_stn w hl
  have ic : ∀ x, d_X1_isCountry x (up2 V 1 10 (nI (gS g - 1))) = some (b2 (isC g x)) := fun x => i_isC r w x
  have e1 : nI (gS g) - nI 1 = nI (gS g - 1) := pk_sub (by omega)
  unfold d_X1_stepBack
  simp (disch := omega) only [↓iM_def, i_0, i_1, i_2, i_3, i_4, i_5, i_6, i_7, i_8, i_9, i_10, i_12, i_17, i_29, i_31, i_33, i_36, i_37, i_40, i_41, i_42, i_43, i_44, i_45, i_47, i_48, i_50, i_53, i_55, i_56, i_57, i_58, i_59, i_60, i_61, i_98, i_99, i_100, i_102, i_104, i_106, i_110, i_112, i_119, i_120, i_128, i_392, i_448, nI_add, nI_leI, nI_ltI, nI_eq, nI_clamp, iM_le, iM_lt, iM_nle, iM_nlt, iM_ne, iM_ne', Nat.add_zero, pk_mul, asr_inb, bd_some, bw_some, bx_inl, bx_inr, bh_inl, bh_inr, b2_eq0, b2_eq1, asr_zok, nz_nI, lr_s r w, e1, lr_st r w, ic, isC_nI w]
  rw [if_neg (by omega), if_pos (by omega), if_neg (by decide)]
  refine ⟨_, rfl, LR1 ?_ ?_ ?_ ?_ (fun d hd => ⟨?_, ?_, ?_, ?_, ?_⟩) (fun d hd => ⟨?_, ?_⟩) (fun k hk => ?_), fun q hq => ?_⟩
  · simp (disch := omega) only [up2_at, up2_ne, aBack, upd_ne]; exact lr_8 r
  · simp (disch := omega) only [up2_at, up2_ne, aBack, upd_ne]; exact lr_9 r
  · simp (disch := omega) only [up2_at, up2_ne, aBack, upd_ne, upd_eq]
  · simp (disch := omega) only [up2_at, up2_ne, aBack, upd_eq, lr_o r]
  · simp (disch := omega) only [up2_ne, aBack, sz_o]; exact lr_sz r hd
  · unfold aBack
    simp (disch := omega) only [up2_ne, up2_at, hu_o]
    by_cases e : d = st g (gS g - 1)
    · rw [← e, upd_eq, hu_at]
    · rw [upd_ne e, hu_o (by omega), hu_o (by omega), hu_o (by omega)]; exact lr_hu r hd
  · simp (disch := omega) only [up2_ne, aBack, wi_o]; exact lr_wi r hd
  · simp (disch := omega) only [up2_ne, aBack, cr_o]; exact lr_cr r hd
  · simp (disch := omega) only [up2_ne, aBack, upd_ne]; exact lr_6 r hd
  · simp (disch := omega) only [up2_ne, aBack, po_o]; exact lr_po r hd
  · simp (disch := omega) only [up2_ne, aBack, us_o]; exact lr_us r hd
  · have hk : k < gS g - 1 := by unfold aBack at hk; rw [gS_o (by omega), gS_o (by omega), gS_o (by omega), gS_at (by omega)] at hk; exact hk
    unfold aBack
    simp (disch := omega) only [up2_ne, upd_ne]; exact lr_7 r (by omega)
  · rw [up2_ne (by omega), up2_ne (by omega), up2_ne (by omega)]
theorem i_country (r : LR V 1 g) (w : WF g) (x : Int32) (hn : gN g < 7) : ∃ V', d_X1_addCountry x V = some (nI (gN g), V') ∧ LR V' 1 (aCountry g x) ∧ ∀ q, q = 0 ∨ 10 ≤ q → V' q = V q := by
  have s7 := wf_s7 w
  unfold d_X1_addCountry
  simp (disch := omega) only [↓iM_def, i_0, i_1, i_2, i_3, i_4, i_5, i_6, i_7, i_8, i_9, i_10, i_12, i_17, i_29, i_31, i_33, i_36, i_37, i_40, i_41, i_42, i_43, i_44, i_45, i_47, i_48, i_50, i_53, i_55, i_56, i_57, i_58, i_59, i_60, i_61, i_98, i_99, i_100, i_102, i_104, i_106, i_110, i_112, i_119, i_120, i_128, i_392, i_448, nI_add, nI_leI, nI_ltI, nI_eq, nI_clamp, iM_le, iM_lt, iM_nle, iM_nlt, iM_ne, iM_ne', Nat.add_zero, pk_mul, asr_inb, bd_some, bw_some, bx_inl, bx_inr, bh_inl, bh_inr, b2_eq0, b2_eq1, asr_zok, nz_nI, lr_n r w]
  rw [if_neg (by omega)]
  refine ⟨_, rfl, LR1 ?_ ?_ ?_ ?_ (fun d hd => ⟨?_, ?_, ?_, ?_, ?_⟩) (fun d hd => ⟨?_, ?_⟩) (fun k hk => ?_), fun q hq => ?_⟩
  · simp (disch := omega) only [up2_at, aCountry, upd_ne, upd_eq]
  · simp (disch := omega) only [up2_at, up2_ne, aCountry, upd_ne]; exact lr_9 r
  · simp (disch := omega) only [up2_at, up2_ne, aCountry, upd_ne]; exact lr_10 r
  · simp (disch := omega) only [up2_at, up2_ne, aCountry, upd_ne]; exact lr_o r
  · unfold aCountry
    simp (disch := omega) only [up2_ne, up2_at, sz_o]
    by_cases e : d = gN g
    · rw [← e, upd_eq, sz_at]
    · rw [upd_ne e, sz_o (by omega), sz_o (by omega)]; exact lr_sz r hd
  · unfold aCountry
    simp (disch := omega) only [up2_ne, up2_at, hu_o]
    by_cases e : d = gN g
    · rw [← e, upd_eq, hu_at]
    · rw [upd_ne e, hu_o (by omega), hu_o (by omega), hu_o (by omega)]; exact lr_hu r hd
  · unfold aCountry
    simp (disch := omega) only [up2_ne, up2_at, wi_o]
    by_cases e : d = gN g
    · rw [← e, upd_eq, wi_at]
    · rw [upd_ne e, wi_o (by omega), wi_o (by omega), wi_o (by omega), wi_o (by omega)]; exact lr_wi r hd
  · unfold aCountry
    simp (disch := omega) only [up2_ne, up2_at, cr_o]
    by_cases e : d = gN g
    · rw [← e, upd_eq, cr_at]
    · rw [upd_ne e, cr_o (by omega), cr_o (by omega), cr_o (by omega), cr_o (by omega), cr_o (by omega)]; exact lr_cr r hd
  · unfold aCountry
    simp (disch := omega) only [up2_ne, up2_at]
    by_cases e : d = gN g
    · rw [← e, upd_eq, upd_eq]
    · rw [upd_ne e, upd_ne (by omega), upd_ne (by omega), upd_ne (by omega), upd_ne (by omega), upd_ne (by omega), upd_ne (by omega)]; exact lr_6 r hd
  · simp (disch := omega) only [up2_ne, aCountry, po_o]; exact lr_po r hd
  · simp (disch := omega) only [up2_ne, aCountry, us_o]; exact lr_us r hd
  · have hk : k < gS g := by unfold aCountry at hk; rw [gS_o (by omega), gS_o (by omega), gS_o (by omega), gS_o (by omega), gS_o (by omega), gS_o (by omega)] at hk; exact hk
    simp (disch := omega) only [up2_ne, aCountry, upd_ne]; exact lr_7 r hk
  · rw [up2_ne (by omega), up2_ne (by omega), up2_ne (by omega), up2_ne (by omega), up2_ne (by omega), up2_ne (by omega)]
end
