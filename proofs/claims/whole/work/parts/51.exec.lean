/-! PURE ROWS: the landed carrying out of one order -/
def CW (V0 : VT) (n : Nat) (σ : Sg) (V : VT) (i : Nat) : Prop := LR V 1 σ.1 ∧ V 0 10 = σ.2.2.2.2.2.2.1 ∧ V 0 11 = σ.2.2.2.2.2.2.2 ∧ (∀ j, j ≠ 10 → j ≠ 11 → V 0 j = V0 0 j) ∧ (∀ q, 10 ≤ q → q ≠ 105 → q ≠ 107 → V q = V0 q) ∧ V 105 1 = nI n ∧ V 105 2 = nI i
def isRf (L : Int32) (c : Nat) : Bool := if L = nI 120 then decide (c = 1) else if L = nI 112 then decide (c = 2) else if L = nI 98 then decide (c = 2) else if L = nI 104 then decide (c = 2) else false
def RS9 (jd : Option (Int32 × VT)) (pf : Option VT) (V0 V : VT) (n i : Nat) (rf : Nat → Bool) (r : (Int32 ⊕ Nat) × Sg) : Prop := match r.1 with
  | .inl _ => jd = some (nI 0, V) ∧ ∃ V', pf = some V' ∧ CW V0 n r.2 V' i
  | .inr c => ∃ V1, jd = some (if rf c = true then (-1 : Int32) else (-2 : Int32), V1) ∧ CW V0 n r.2 V1 i
section
variable {V0 V V1 V' : VT} {σ σ' : Sg} {n i : Nat} {jd : Option (Int32 × VT)} {pf : Option VT} {rf : Nat → Bool}
theorem RS9.ok {v : Int32} (hj : jd = some (nI 0, V)) (hp : pf = some V') (hc : CW V0 n σ' V' i) : RS9 jd pf V0 V n i rf (.inl v, σ') := ⟨hj, V', hp, hc⟩
theorem RS9.bad {c : Nat} (hj : jd = some ((-2 : Int32), V)) (hc : CW V0 n σ V i) (hr : rf c = false) : RS9 jd pf V0 V n i rf (.inr c, σ) := ⟨V, by rw [hj, hr]; rfl, hc⟩
theorem RS9.no {c : Nat} (hj : jd = some ((-1 : Int32), V1)) (hc : CW V0 n σ' V1 i) (hr : rf c = true) : RS9 jd pf V0 V n i rf (.inr c, σ') := ⟨V1, by rw [hj, hr]; rfl, hc⟩
theorem CW.land (h : CW V0 n σ V i) {g' : Row} (hl : LR V' 1 g') (hf : ∀ q, q = 0 ∨ 10 ≤ q → V' q = V q) : CW V0 n (chw σ g') V' i := by
  obtain ⟨h1, h2, h3, h4, h5, h6, h7⟩ := h
  have e := hf 0 (by omega)
  have f := hf 105 (by omega)
  exact ⟨hl, by rw [e]; exact h2, by rw [e]; exact h3, fun j a b => by rw [e]; exact h4 j a b, fun q a b c => (hf q (by omega)).trans (h5 q a b c), by rw [f]; exact h6, by rw [f]; exact h7⟩
theorem CW.why (h : CW V0 n σ V i) (r d : Int32) : CW V0 n (refu σ r d) (up2 (up2 V 0 10 r) 0 11 d) i := by
  obtain ⟨h1, h2, h3, h4, h5, h6, h7⟩ := h
  have hf : ∀ q, q ≠ 0 → up2 (up2 V 0 10 r) 0 11 d q = V q := fun q hq => by rw [up2_ne hq, up2_ne hq]
  exact ⟨lr_frame (fun q _ _ => hf q (by omega)) h1, by rw [up2_at, upd_ne (by omega), up2_at, upd_eq]; rfl, by rw [up2_at, upd_eq]; rfl, fun j a b => by rw [up2_at, upd_ne b, up2_at, upd_ne a]; exact h4 j a b, fun q a b c => (hf q (by omega)).trans (h5 q a b c), by rw [hf 105 (by omega)]; exact h6, by rw [hf 105 (by omega)]; exact h7⟩
theorem CW.up10 (h : CW V0 n σ V i) (r : Int32) : LR (up2 V 0 10 r) 1 σ.1 := lr_frame (fun q _ _ => up2_ne (by omega)) h.1
theorem jg_bad {L x y z : Int32} (h : d_X4_isInRange L x y z V = some (nI 0)) : d_X4_judge L x y z V = some ((-2 : Int32), V) := by
  unfold d_X4_judge
  rw [h, bd_some]
  exact if_pos rfl
theorem jg_ok {L x y z : Int32} (h : d_X4_isInRange L x y z V = some (nI 1)) (h2 : d_X4_reasonAgainstOrder L x y V = some (nI 0)) : d_X4_judge L x y z V = some (nI 0, V) := by
  unfold d_X4_judge
  rw [h, bd_some, h2, bd_some, if_neg (show ¬ nI 1 = (0 : Int32) by decide +kernel)]
  exact if_pos rfl
theorem jg_no {L x y z d : Int32} {r : Nat} (h : d_X4_isInRange L x y z V = some (nI 1)) (h2 : d_X4_reasonAgainstOrder L x y V = some (nI r)) (hr : ¬ nI r = (0 : Int32)) (hd : d_X1_detailOf (nI r) x y (up2 V 0 10 (nI r)) = some d) : d_X4_judge L x y z V = some ((-1 : Int32), up2 (up2 V 0 10 (nI r)) 0 11 d) := by
  unfold d_X4_judge
  rw [h, bd_some, h2, bd_some, if_neg (show ¬ nI 1 = (0 : Int32) by decide +kernel), if_neg hr]
  unfold d_X4_keepReason
  rw [hd]
  rfl
theorem x_border (h : CW V0 n σ V i) (K : OKs σ) (x y z : Int32) : RS9 (d_X4_judge (nI 98) x y z V) (d_X4_perform (nI 98) x y z V) V0 V n i (isRf (nI 98)) (spBorderw σ x y) := by
  have n7 := wf_n7 K.w
  have hr : d_X4_isInRange (nI 98) x y z V = some (b2 (isC σ.1 x && isC σ.1 y)) := by
    refine (if_pos (show nI 98 = (98 : Int32) from rfl)).trans ?_
    rw [i_isC h.1 K.w, bd_some, i_isC h.1 K.w, bd_some]
    cases isC σ.1 x <;> cases isC σ.1 y <;> rfl
  have ho : d_X4_reasonAgainstOrder (nI 98) x y V = d_X1_reasonAgainstBorder x y V := by
    refine (if_pos (show nI 98 = (98 : Int32) from rfl)).trans ?_
    cases d_X1_reasonAgainstBorder x y V <;> rfl
  have hpf : d_X4_perform (nI 98) x y z V = d_X1_join x y V := by
    refine (if_pos (show nI 98 = (98 : Int32) from rfl)).trans ?_
    cases d_X1_join x y V <;> rfl
  unfold spBorderw
  by_cases hc : isC σ.1 x = true ∧ isC σ.1 y = true
  · rw [hc.1, hc.2] at hr
    rw [if_pos hc, hpf]
    obtain ⟨a, ha, rfl⟩ := isC_of K.w hc.1
    obtain ⟨b, hb, rfl⟩ := isC_of K.w hc.2
    rw [nt_nI (a := a) (by omega), nt_nI (a := b) (by omega)]
    unfold d_X1_reasonAgainstBorder at ho
    by_cases h1 : nI a = nI b
    · rw [if_pos h1] at ho ⊢
      exact RS9.no (c := 2) (jg_no (r := 5) hr ho (by decide +kernel) rfl) (h.why _ _) rfl
    · rw [if_neg h1] at ho ⊢
      have hab : a ≠ b := fun q => h1 (by rw [q])
      simp (disch := omega) only [↓iM_def, i_0, i_1, i_2, i_3, i_4, i_5, i_6, i_7, i_8, i_9, i_10, i_12, i_17, i_29, i_31, i_33, i_36, i_37, i_40, i_41, i_42, i_43, i_44, i_45, i_47, i_48, i_50, i_53, i_55, i_56, i_57, i_58, i_59, i_60, i_61, i_98, i_99, i_100, i_102, i_104, i_106, i_110, i_112, i_119, i_120, i_128, i_392, i_448, nI_add, nI_leI, nI_ltI, nI_eq, nI_clamp, iM_le, iM_lt, iM_nle, iM_nlt, iM_ne, iM_ne', Nat.add_zero, pk_mul, asr_inb, bd_some, bw_some, bx_inl, bx_inr, bh_inl, bh_inr, b2_eq0, b2_eq1, asr_zok, nz_nI, i_areNb h.1 K.w, i_isP h.1, lr_hu h.1] at ho
      cases h2 : tt σ.1 a b with
      | true =>
        rw [if_pos rfl]
        rw [h2] at ho
        exact RS9.no (c := 2) (jg_no (r := 6) hr ho (by decide +kernel) rfl) (h.why _ _) rfl
      | false =>
        rw [if_neg (by decide)]
        rw [h2] at ho
        have fin : ¬ (ptd σ.1 a = true ∧ hu σ.1 a = hu σ.1 b) → d_X4_reasonAgainstOrder (nI 98) (nI a) (nI b) V = some (nI 0) → RS9 (d_X4_judge (nI 98) (nI a) (nI b) z V) (d_X1_join (nI a) (nI b) V) V0 V n i (isRf (nI 98)) (.inl (nI (bor (aJoin σ.1 a b))), chw σ (aJoin σ.1 a b)) := by
          intro _ h4
          obtain ⟨V2, b1, b2, b3⟩ := i_join h.1 K.w ha hb hab
          exact RS9.ok (jg_ok hr h4) b1 (h.land b2 b3)
        cases h3 : ptd σ.1 a with
        | false =>
          rw [h3] at ho
          rw [if_neg (by simp)]
          exact fin (by rw [h3]; simp) ho
        | true =>
          rw [h3] at ho
          by_cases h4 : hu σ.1 a = hu σ.1 b
          · rw [if_pos ⟨rfl, h4⟩]
            have ho2 : d_X4_reasonAgainstOrder (nI 98) (nI a) (nI b) V = some (nI 7) := by
              rw [ho, h4]
              simp
            refine RS9.no (c := 2) (jg_no (r := 7) hr ho2 (by decide +kernel) ?_) (h.why _ _) rfl
            have h5 : d_X1_detailOf (nI 7) (nI a) (nI b) (up2 V 0 10 (nI 7)) = asr (inb (nI a) 7) (some (up2 V 0 10 (nI 7) 3 (nI a).toNatClampNeg)) := rfl
            rw [h5]
            simp (disch := omega) only [asr_inb, nI_clamp, lr_hu (h.up10 (nI 7))]
          · rw [if_neg (fun q => h4 q.2)]
            have ho2 : d_X4_reasonAgainstOrder (nI 98) (nI a) (nI b) V = some (nI 0) := by
              rw [ho]
              simp [h4]
            exact fin (by rw [h3]; simp [h4]) ho2
  · have e : (isC σ.1 x && isC σ.1 y) = false := by
      cases h1 : isC σ.1 x <;> cases h2 : isC σ.1 y <;> simp_all
    rw [e] at hr
    rw [if_neg hc]
    exact RS9.bad (c := 1) (jg_bad hr) h rfl
theorem x_hues (h : CW V0 n σ V i) (K : OKs σ) (x y z : Int32) : RS9 (d_X4_judge (nI 104) x y z V) (d_X4_perform (nI 104) x y z V) V0 V n i (isRf (nI 104)) (spHuesw σ x) := by
  have n7 := wf_n7 K.w
  have q1 : ¬ nI 104 = (98 : Int32) := by decide +kernel
  have hr : d_X4_isInRange (nI 104) x y z V = some (b2 (isMH x)) := by
    refine ((if_neg q1).trans (if_pos (show nI 104 = (104 : Int32) from rfl))).trans ?_
    rw [i_isMH, bd_some, asr_zok]
  have ho : d_X4_reasonAgainstOrder (nI 104) x y V = some (if lpb σ.1 x = none then nI 0 else nI 9) := by
    refine ((if_neg q1).trans (if_pos (show nI 104 = (104 : Int32) from rfl))).trans ?_
    rw [i_rah h.1 K.w, bd_some]
  have hpf : d_X4_perform (nI 104) x y z V = some (up2 V 1 9 x) := by
    unfold d_X4_perform
    simp (disch := omega) only [↓jM_def, j_0, j_1, j_2, j_3, j_4, j_5, j_6, j_7, j_8, j_9, j_10, j_11, j_12, j_13, j_14, j_15, j_16, j_17, j_18, j_19, j_20, j_21, j_22, j_23, j_24, j_25, j_26, j_27, j_28, j_29, j_30, j_31, j_32, j_33, j_34, j_35, j_36, j_37, j_38, j_39, j_40, j_41, j_42, j_43, j_44, j_45, j_46, j_47, j_48, j_49, j_50, j_51, j_52, j_53, j_54, j_55, j_56, j_57, j_58, j_59, j_60, j_61, j_62, j_63, j_97, j_98, j_99, j_100, j_101, j_102, j_103, j_104, j_105, j_106, j_107, j_108, j_109, j_110, j_111, j_112, j_113, j_114, j_115, j_116, j_117, j_118, j_119, j_120, j_121, j_122, j_128, j_392, j_448, nI_eq, Nat.reduceEqDiff, if_true, if_false]
  unfold spHuesw
  cases hm : isMH x with
  | false =>
    rw [if_neg (by decide)]
    rw [hm] at hr
    exact RS9.bad (c := 1) (jg_bad hr) h rfl
  | true =>
    rw [if_pos rfl]
    rw [hm] at hr
    obtain ⟨u, u1, u5, rfl⟩ := isMH_of hm
    cases hl : lpb σ.1 (nI u) with
    | some c =>
      rw [hl] at ho
      refine RS9.no (c := 2) (jg_no (r := 9) hr ho (by decide +kernel) ?_) (h.why _ _) rfl
      have h5 : d_X1_detailOf (nI 9) (nI u) y (up2 V 0 10 (nI 9)) = bd (d_X1_lowestPaintedBeyond (nI u) (up2 V 0 10 (nI 9))) fun r => some r := rfl
      rw [h5, i_lpb (h.up10 (nI 9)) K.w, hl]
      rfl
    | none =>
      rw [hl] at ho
      obtain ⟨b2', b3⟩ := i_hues h.1 K.w u
      rw [nt_nI (a := u) (by omega)]
      exact RS9.ok (jg_ok hr ho) hpf (h.land b2' b3)
theorem x_pots (h : CW V0 n σ V i) (K : OKs σ) (x y z : Int32) : RS9 (d_X4_judge (nI 106) x y z V) (d_X4_perform (nI 106) x y z V) V0 V n i (isRf (nI 106)) (spPotsw σ x y) := by
  have hr : d_X4_isInRange (nI 106) x y z V = some (b2 (isH x && isMP y)) := by
    unfold d_X4_isInRange
    simp (disch := omega) only [↓jM_def, j_0, j_1, j_2, j_3, j_4, j_5, j_6, j_7, j_8, j_9, j_10, j_11, j_12, j_13, j_14, j_15, j_16, j_17, j_18, j_19, j_20, j_21, j_22, j_23, j_24, j_25, j_26, j_27, j_28, j_29, j_30, j_31, j_32, j_33, j_34, j_35, j_36, j_37, j_38, j_39, j_40, j_41, j_42, j_43, j_44, j_45, j_46, j_47, j_48, j_49, j_50, j_51, j_52, j_53, j_54, j_55, j_56, j_57, j_58, j_59, j_60, j_61, j_62, j_63, j_97, j_98, j_99, j_100, j_101, j_102, j_103, j_104, j_105, j_106, j_107, j_108, j_109, j_110, j_111, j_112, j_113, j_114, j_115, j_116, j_117, j_118, j_119, j_120, j_121, j_122, j_128, j_392, j_448, nI_eq, Nat.reduceEqDiff, if_true, if_false, i_isHue, i_isMP, bd_some]
    cases isH x <;> cases isMP y <;> rfl
  have ho : d_X4_reasonAgainstOrder (nI 106) x y V = some (nI 0) := by
    unfold d_X4_reasonAgainstOrder
    simp (disch := omega) only [↓jM_def, j_0, j_1, j_2, j_3, j_4, j_5, j_6, j_7, j_8, j_9, j_10, j_11, j_12, j_13, j_14, j_15, j_16, j_17, j_18, j_19, j_20, j_21, j_22, j_23, j_24, j_25, j_26, j_27, j_28, j_29, j_30, j_31, j_32, j_33, j_34, j_35, j_36, j_37, j_38, j_39, j_40, j_41, j_42, j_43, j_44, j_45, j_46, j_47, j_48, j_49, j_50, j_51, j_52, j_53, j_54, j_55, j_56, j_57, j_58, j_59, j_60, j_61, j_62, j_63, j_97, j_98, j_99, j_100, j_101, j_102, j_103, j_104, j_105, j_106, j_107, j_108, j_109, j_110, j_111, j_112, j_113, j_114, j_115, j_116, j_117, j_118, j_119, j_120, j_121, j_122, j_128, j_392, j_448, nI_eq, Nat.reduceEqDiff, if_true, if_false]
  have hpf : d_X4_perform (nI 106) x y z V = d_X1_bring x y V := by
    unfold d_X4_perform
    simp (disch := omega) only [↓jM_def, j_0, j_1, j_2, j_3, j_4, j_5, j_6, j_7, j_8, j_9, j_10, j_11, j_12, j_13, j_14, j_15, j_16, j_17, j_18, j_19, j_20, j_21, j_22, j_23, j_24, j_25, j_26, j_27, j_28, j_29, j_30, j_31, j_32, j_33, j_34, j_35, j_36, j_37, j_38, j_39, j_40, j_41, j_42, j_43, j_44, j_45, j_46, j_47, j_48, j_49, j_50, j_51, j_52, j_53, j_54, j_55, j_56, j_57, j_58, j_59, j_60, j_61, j_62, j_63, j_97, j_98, j_99, j_100, j_101, j_102, j_103, j_104, j_105, j_106, j_107, j_108, j_109, j_110, j_111, j_112, j_113, j_114, j_115, j_116, j_117, j_118, j_119, j_120, j_121, j_122, j_128, j_392, j_448, nI_eq, Nat.reduceEqDiff, if_true, if_false]
    cases d_X1_bring x y V <;> rfl
  unfold spPotsw
  cases hx : isH x with
  | false =>
    rw [if_neg (by decide)]
    rw [hx] at hr
    exact RS9.bad (c := 1) (jg_bad hr) h rfl
  | true =>
    rw [if_pos rfl]
    rw [hx] at hr
    cases hy : isMP y with
    | false =>
      rw [if_neg (by decide)]
      rw [hy] at hr
      exact RS9.bad (c := 2) (jg_bad hr) h rfl
    | true =>
      rw [if_pos rfl]
      rw [hy] at hr
      obtain ⟨u, u5, rfl⟩ := isH_of hx
      rw [nt_nI (a := u) (by omega)]
      obtain ⟨V2, b1, b2, b3⟩ := i_bring h.1 K.w u5 y
      exact RS9.ok (jg_ok hr ho) (hpf.trans b1) (h.land b2 b3)
theorem x_paint (h : CW V0 n σ V i) (K : OKs σ) (x y z : Int32) : RS9 (d_X4_judge (nI 112) x y z V) (d_X4_perform (nI 112) x y z V) V0 V n i (isRf (nI 112)) (spPaintw σ x y) := by
  have n7 := wf_n7 K.w
  have hr : d_X4_isInRange (nI 112) x y z V = some (b2 (isC σ.1 x && isH y)) := by
    unfold d_X4_isInRange
    simp (disch := omega) only [↓jM_def, j_0, j_1, j_2, j_3, j_4, j_5, j_6, j_7, j_8, j_9, j_10, j_11, j_12, j_13, j_14, j_15, j_16, j_17, j_18, j_19, j_20, j_21, j_22, j_23, j_24, j_25, j_26, j_27, j_28, j_29, j_30, j_31, j_32, j_33, j_34, j_35, j_36, j_37, j_38, j_39, j_40, j_41, j_42, j_43, j_44, j_45, j_46, j_47, j_48, j_49, j_50, j_51, j_52, j_53, j_54, j_55, j_56, j_57, j_58, j_59, j_60, j_61, j_62, j_63, j_97, j_98, j_99, j_100, j_101, j_102, j_103, j_104, j_105, j_106, j_107, j_108, j_109, j_110, j_111, j_112, j_113, j_114, j_115, j_116, j_117, j_118, j_119, j_120, j_121, j_122, j_128, j_392, j_448, nI_eq, Nat.reduceEqDiff, if_true, if_false, i_isHue, i_isC h.1 K.w, bd_some]
    cases isC σ.1 x <;> cases isH y <;> rfl
  have ho : d_X4_reasonAgainstOrder (nI 112) x y V = d_X1_reasonAgainstPaint x y V := by
    unfold d_X4_reasonAgainstOrder
    simp (disch := omega) only [↓jM_def, j_0, j_1, j_2, j_3, j_4, j_5, j_6, j_7, j_8, j_9, j_10, j_11, j_12, j_13, j_14, j_15, j_16, j_17, j_18, j_19, j_20, j_21, j_22, j_23, j_24, j_25, j_26, j_27, j_28, j_29, j_30, j_31, j_32, j_33, j_34, j_35, j_36, j_37, j_38, j_39, j_40, j_41, j_42, j_43, j_44, j_45, j_46, j_47, j_48, j_49, j_50, j_51, j_52, j_53, j_54, j_55, j_56, j_57, j_58, j_59, j_60, j_61, j_62, j_63, j_97, j_98, j_99, j_100, j_101, j_102, j_103, j_104, j_105, j_106, j_107, j_108, j_109, j_110, j_111, j_112, j_113, j_114, j_115, j_116, j_117, j_118, j_119, j_120, j_121, j_122, j_128, j_392, j_448, nI_eq, Nat.reduceEqDiff, if_true, if_false]
    cases d_X1_reasonAgainstPaint x y V <;> rfl
  have hpf : d_X4_perform (nI 112) x y z V = d_X1_cover x y V := by
    unfold d_X4_perform
    simp (disch := omega) only [↓jM_def, j_0, j_1, j_2, j_3, j_4, j_5, j_6, j_7, j_8, j_9, j_10, j_11, j_12, j_13, j_14, j_15, j_16, j_17, j_18, j_19, j_20, j_21, j_22, j_23, j_24, j_25, j_26, j_27, j_28, j_29, j_30, j_31, j_32, j_33, j_34, j_35, j_36, j_37, j_38, j_39, j_40, j_41, j_42, j_43, j_44, j_45, j_46, j_47, j_48, j_49, j_50, j_51, j_52, j_53, j_54, j_55, j_56, j_57, j_58, j_59, j_60, j_61, j_62, j_63, j_97, j_98, j_99, j_100, j_101, j_102, j_103, j_104, j_105, j_106, j_107, j_108, j_109, j_110, j_111, j_112, j_113, j_114, j_115, j_116, j_117, j_118, j_119, j_120, j_121, j_122, j_128, j_392, j_448, nI_eq, Nat.reduceEqDiff, if_true, if_false]
    cases d_X1_cover x y V <;> rfl
  unfold spPaintw
  by_cases hc : isC σ.1 x = true ∧ isH y = true
  · rw [hc.1, hc.2] at hr
    rw [if_pos hc]
    obtain ⟨a, ha, rfl⟩ := isC_of K.w hc.1
    obtain ⟨b, hb, rfl⟩ := isH_of hc.2
    rw [nt_nI (a := a) (by omega), nt_nI (a := b) (by omega)]
    rw [i_rap h.1 K.w (by omega) hb] at ho
    by_cases h1 : agn σ.1 a b = 0
    · rw [if_pos h1]
      rw [h1] at ho
      obtain ⟨p1, p2⟩ := agn_0 h1
      obtain ⟨V2, b1, b2, b3⟩ := i_cover h.1 K.w ha p1 hb
      exact RS9.ok (jg_ok hr ho) (hpf.trans b1) (h.land b2 b3)
    · rw [if_neg h1]
      refine RS9.no (c := 2) (jg_no hr ho ?_ (i_detP (h.up10 _) K.w (by omega) hb h1)) (h.why _ _) rfl
      rcases agn_or σ.1 a b with e | e | ⟨e, -⟩ | e | ⟨e, -⟩
      · rw [e]; decide +kernel
      · rw [e]; decide +kernel
      · rw [e]; decide +kernel
      · rw [e]; decide +kernel
      · exact absurd e h1
  · have e : (isC σ.1 x && isH y) = false := by
      cases h1 : isC σ.1 x <;> cases h2 : isH y <;> simp_all
    rw [e] at hr
    rw [if_neg hc]
    exact RS9.bad (c := 1) (jg_bad hr) h rfl
theorem x_wish (h : CW V0 n σ V i) (K : OKs σ) (x y z : Int32) : RS9 (d_X4_judge (nI 119) x y z V) (d_X4_perform (nI 119) x y z V) V0 V n i (isRf (nI 119)) (spWishw σ x y z) := by
  have n7 := wf_n7 K.w
  have hr : d_X4_isInRange (nI 119) x y z V = some (b2 (isC σ.1 x && isH y && isCr z)) := by
    unfold d_X4_isInRange
    simp (disch := omega) only [↓jM_def, j_0, j_1, j_2, j_3, j_4, j_5, j_6, j_7, j_8, j_9, j_10, j_11, j_12, j_13, j_14, j_15, j_16, j_17, j_18, j_19, j_20, j_21, j_22, j_23, j_24, j_25, j_26, j_27, j_28, j_29, j_30, j_31, j_32, j_33, j_34, j_35, j_36, j_37, j_38, j_39, j_40, j_41, j_42, j_43, j_44, j_45, j_46, j_47, j_48, j_49, j_50, j_51, j_52, j_53, j_54, j_55, j_56, j_57, j_58, j_59, j_60, j_61, j_62, j_63, j_97, j_98, j_99, j_100, j_101, j_102, j_103, j_104, j_105, j_106, j_107, j_108, j_109, j_110, j_111, j_112, j_113, j_114, j_115, j_116, j_117, j_118, j_119, j_120, j_121, j_122, j_128, j_392, j_448, nI_eq, Nat.reduceEqDiff, if_true, if_false, i_isHue, i_isC h.1 K.w, i_isCr, bd_some]
    cases isC σ.1 x <;> cases isH y <;> cases isCr z <;> rfl
  have ho : d_X4_reasonAgainstOrder (nI 119) x y V = some (nI 0) := by
    unfold d_X4_reasonAgainstOrder
    simp (disch := omega) only [↓jM_def, j_0, j_1, j_2, j_3, j_4, j_5, j_6, j_7, j_8, j_9, j_10, j_11, j_12, j_13, j_14, j_15, j_16, j_17, j_18, j_19, j_20, j_21, j_22, j_23, j_24, j_25, j_26, j_27, j_28, j_29, j_30, j_31, j_32, j_33, j_34, j_35, j_36, j_37, j_38, j_39, j_40, j_41, j_42, j_43, j_44, j_45, j_46, j_47, j_48, j_49, j_50, j_51, j_52, j_53, j_54, j_55, j_56, j_57, j_58, j_59, j_60, j_61, j_62, j_63, j_97, j_98, j_99, j_100, j_101, j_102, j_103, j_104, j_105, j_106, j_107, j_108, j_109, j_110, j_111, j_112, j_113, j_114, j_115, j_116, j_117, j_118, j_119, j_120, j_121, j_122, j_128, j_392, j_448, nI_eq, Nat.reduceEqDiff, if_true, if_false]
  have hpf : d_X4_perform (nI 119) x y z V = d_X1_setWish x y z V := by
    unfold d_X4_perform
    simp (disch := omega) only [↓jM_def, j_0, j_1, j_2, j_3, j_4, j_5, j_6, j_7, j_8, j_9, j_10, j_11, j_12, j_13, j_14, j_15, j_16, j_17, j_18, j_19, j_20, j_21, j_22, j_23, j_24, j_25, j_26, j_27, j_28, j_29, j_30, j_31, j_32, j_33, j_34, j_35, j_36, j_37, j_38, j_39, j_40, j_41, j_42, j_43, j_44, j_45, j_46, j_47, j_48, j_49, j_50, j_51, j_52, j_53, j_54, j_55, j_56, j_57, j_58, j_59, j_60, j_61, j_62, j_63, j_97, j_98, j_99, j_100, j_101, j_102, j_103, j_104, j_105, j_106, j_107, j_108, j_109, j_110, j_111, j_112, j_113, j_114, j_115, j_116, j_117, j_118, j_119, j_120, j_121, j_122, j_128, j_392, j_448, nI_eq, Nat.reduceEqDiff, if_true, if_false]
    cases d_X1_setWish x y z V <;> rfl
  unfold spWishw
  by_cases hc : isC σ.1 x = true ∧ isH y = true
  · rw [hc.1, hc.2] at hr
    rw [if_pos hc]
    cases hz : isCr z with
    | false =>
      rw [if_neg (by decide)]
      rw [hz] at hr
      exact RS9.bad (c := 2) (jg_bad hr) h rfl
    | true =>
      rw [if_pos rfl]
      rw [hz] at hr
      obtain ⟨a, ha, rfl⟩ := isC_of K.w hc.1
      rw [nt_nI (a := a) (by omega)]
      obtain ⟨V2, b1, b2, b3⟩ := i_wish h.1 K.w (c := a) (by omega) y z
      exact RS9.ok (jg_ok hr ho) (hpf.trans b1) (h.land b2 b3)
  · have e : (isC σ.1 x && isH y && isCr z) = false := by
      cases h1 : isC σ.1 x <;> cases h2 : isH y <;> simp_all
    rw [e] at hr
    rw [if_neg hc]
    exact RS9.bad (c := 1) (jg_bad hr) h rfl
theorem x_back (h : CW V0 n σ V i) (K : OKs σ) (x y z : Int32) : RS9 (d_X4_judge (nI 120) x y z V) (d_X4_perform (nI 120) x y z V) V0 V n i (isRf (nI 120)) (spBackw σ) := by
  have s7 := wf_s7 K.w
  have hr : d_X4_isInRange (nI 120) x y z V = some (nI 1) := by
    unfold d_X4_isInRange
    simp (disch := omega) only [↓jM_def, j_0, j_1, j_2, j_3, j_4, j_5, j_6, j_7, j_8, j_9, j_10, j_11, j_12, j_13, j_14, j_15, j_16, j_17, j_18, j_19, j_20, j_21, j_22, j_23, j_24, j_25, j_26, j_27, j_28, j_29, j_30, j_31, j_32, j_33, j_34, j_35, j_36, j_37, j_38, j_39, j_40, j_41, j_42, j_43, j_44, j_45, j_46, j_47, j_48, j_49, j_50, j_51, j_52, j_53, j_54, j_55, j_56, j_57, j_58, j_59, j_60, j_61, j_62, j_63, j_97, j_98, j_99, j_100, j_101, j_102, j_103, j_104, j_105, j_106, j_107, j_108, j_109, j_110, j_111, j_112, j_113, j_114, j_115, j_116, j_117, j_118, j_119, j_120, j_121, j_122, j_128, j_392, j_448, nI_eq, Nat.reduceEqDiff, if_true, if_false]
  have ho : d_X4_reasonAgainstOrder (nI 120) x y V = some (if gS σ.1 = 0 then nI 8 else nI 0) := by
    unfold d_X4_reasonAgainstOrder d_X1_reasonAgainstBack
    simp (disch := omega) only [↓jM_def, j_0, j_1, j_2, j_3, j_4, j_5, j_6, j_7, j_8, j_9, j_10, j_11, j_12, j_13, j_14, j_15, j_16, j_17, j_18, j_19, j_20, j_21, j_22, j_23, j_24, j_25, j_26, j_27, j_28, j_29, j_30, j_31, j_32, j_33, j_34, j_35, j_36, j_37, j_38, j_39, j_40, j_41, j_42, j_43, j_44, j_45, j_46, j_47, j_48, j_49, j_50, j_51, j_52, j_53, j_54, j_55, j_56, j_57, j_58, j_59, j_60, j_61, j_62, j_63, j_97, j_98, j_99, j_100, j_101, j_102, j_103, j_104, j_105, j_106, j_107, j_108, j_109, j_110, j_111, j_112, j_113, j_114, j_115, j_116, j_117, j_118, j_119, j_120, j_121, j_122, j_128, j_392, j_448, nI_eq, Nat.reduceEqDiff, if_true, if_false, lr_s h.1 K.w]
    by_cases h1 : gS σ.1 = 0
    · rw [if_pos h1, if_pos h1, bd_some]
    · rw [if_neg h1, if_neg h1, bd_some]
  unfold spBackw
  by_cases h1 : gS σ.1 = 0
  · rw [if_pos h1]
    rw [if_pos h1] at ho
    exact RS9.no (c := 1) (jg_no (r := 8) hr ho (by decide +kernel) rfl) (h.why _ _) rfl
  · rw [if_neg h1]
    rw [if_neg h1] at ho
    obtain ⟨V2, b1, b2, b3⟩ := i_back h.1 K.w (by omega)
    have hpf : d_X4_perform (nI 120) x y z V = some V2 := by
      unfold d_X4_perform
      simp (disch := omega) only [↓jM_def, j_0, j_1, j_2, j_3, j_4, j_5, j_6, j_7, j_8, j_9, j_10, j_11, j_12, j_13, j_14, j_15, j_16, j_17, j_18, j_19, j_20, j_21, j_22, j_23, j_24, j_25, j_26, j_27, j_28, j_29, j_30, j_31, j_32, j_33, j_34, j_35, j_36, j_37, j_38, j_39, j_40, j_41, j_42, j_43, j_44, j_45, j_46, j_47, j_48, j_49, j_50, j_51, j_52, j_53, j_54, j_55, j_56, j_57, j_58, j_59, j_60, j_61, j_62, j_63, j_97, j_98, j_99, j_100, j_101, j_102, j_103, j_104, j_105, j_106, j_107, j_108, j_109, j_110, j_111, j_112, j_113, j_114, j_115, j_116, j_117, j_118, j_119, j_120, j_121, j_122, j_128, j_392, j_448, nI_eq, Nat.reduceEqDiff, if_true, if_false, b1, bw_some]
    exact RS9.ok (jg_ok hr ho) hpf (h.land b2 b3)
theorem x_fill (h : CW V0 n σ V i) (K : OKs σ) (x y z : Int32) : RS9 (d_X4_judge (nI 102) x y z V) (d_X4_perform (nI 102) x y z V) V0 V n i (isRf (nI 102)) (.inl (nI (aFill 7 σ.1).1), chw σ (aFill 7 σ.1).2) := by
  have hr : d_X4_isInRange (nI 102) x y z V = some (nI 1) := by
    unfold d_X4_isInRange
    simp (disch := omega) only [↓jM_def, j_0, j_1, j_2, j_3, j_4, j_5, j_6, j_7, j_8, j_9, j_10, j_11, j_12, j_13, j_14, j_15, j_16, j_17, j_18, j_19, j_20, j_21, j_22, j_23, j_24, j_25, j_26, j_27, j_28, j_29, j_30, j_31, j_32, j_33, j_34, j_35, j_36, j_37, j_38, j_39, j_40, j_41, j_42, j_43, j_44, j_45, j_46, j_47, j_48, j_49, j_50, j_51, j_52, j_53, j_54, j_55, j_56, j_57, j_58, j_59, j_60, j_61, j_62, j_63, j_97, j_98, j_99, j_100, j_101, j_102, j_103, j_104, j_105, j_106, j_107, j_108, j_109, j_110, j_111, j_112, j_113, j_114, j_115, j_116, j_117, j_118, j_119, j_120, j_121, j_122, j_128, j_392, j_448, nI_eq, Nat.reduceEqDiff, if_true, if_false]
  have ho : d_X4_reasonAgainstOrder (nI 102) x y V = some (nI 0) := by
    unfold d_X4_reasonAgainstOrder
    simp (disch := omega) only [↓jM_def, j_0, j_1, j_2, j_3, j_4, j_5, j_6, j_7, j_8, j_9, j_10, j_11, j_12, j_13, j_14, j_15, j_16, j_17, j_18, j_19, j_20, j_21, j_22, j_23, j_24, j_25, j_26, j_27, j_28, j_29, j_30, j_31, j_32, j_33, j_34, j_35, j_36, j_37, j_38, j_39, j_40, j_41, j_42, j_43, j_44, j_45, j_46, j_47, j_48, j_49, j_50, j_51, j_52, j_53, j_54, j_55, j_56, j_57, j_58, j_59, j_60, j_61, j_62, j_63, j_97, j_98, j_99, j_100, j_101, j_102, j_103, j_104, j_105, j_106, j_107, j_108, j_109, j_110, j_111, j_112, j_113, j_114, j_115, j_116, j_117, j_118, j_119, j_120, j_121, j_122, j_128, j_392, j_448, nI_eq, Nat.reduceEqDiff, if_true, if_false]
  obtain ⟨V2, b1, b2, b3⟩ := i_fillIn 7 FU 0 V σ.1 rfl (show 7 < 1000 by omega) h.1 K.w
  have hpf : d_X4_perform (nI 102) x y z V = some V2 := by
    unfold d_X4_perform d_X1_fillIn d_X1_fillIn_2
    simp (disch := omega) only [↓jM_def, j_0, j_1, j_2, j_3, j_4, j_5, j_6, j_7, j_8, j_9, j_10, j_11, j_12, j_13, j_14, j_15, j_16, j_17, j_18, j_19, j_20, j_21, j_22, j_23, j_24, j_25, j_26, j_27, j_28, j_29, j_30, j_31, j_32, j_33, j_34, j_35, j_36, j_37, j_38, j_39, j_40, j_41, j_42, j_43, j_44, j_45, j_46, j_47, j_48, j_49, j_50, j_51, j_52, j_53, j_54, j_55, j_56, j_57, j_58, j_59, j_60, j_61, j_62, j_63, j_97, j_98, j_99, j_100, j_101, j_102, j_103, j_104, j_105, j_106, j_107, j_108, j_109, j_110, j_111, j_112, j_113, j_114, j_115, j_116, j_117, j_118, j_119, j_120, j_121, j_122, j_128, j_392, j_448, nI_eq, Nat.reduceEqDiff, if_true, if_false, b1, bw_some]
  exact RS9.ok (jg_ok hr ho) hpf (h.land b2 b3)
end
