/-! PURE ROWS: a step back, a new country; the land of the landed text beside each change -/
theorem wf_back {g : Row} (w : WF g) (h0 : 0 < gS g) : WF (aBack g) := by
  have n7 := wf_n7 w
  have s7 := wf_s7 w
  have hl : gS g - 1 < gS g := by omega
  have hc := wf_stn w hl
  have hcp := wf_stp w hl
  have eN : gN (aBack g) = gN g := by unfold aBack; rw [gN_o (by omega), gN_o (by omega), gN_o (by omega), gN_o (by omega)]
  have eU : gU (aBack g) = gU g := by unfold aBack; rw [gU_o (by omega), gU_o (by omega), gU_o (by omega), gU_o (by omega)]
  have eS : gS (aBack g) = gS g - 1 := by unfold aBack; rw [gS_o (by omega), gS_o (by omega), gS_o (by omega), gS_at (by omega)]
  have eh : ∀ d, d < 7 → hu (aBack g) d = if d = st g (gS g - 1) then iM else hu g d := fun d hd => by
    unfold aBack
    rw [hu_o (by omega)]
    by_cases e : d = st g (gS g - 1)
    · rw [if_pos e, ← e, hu_at]
    · rw [hu_o (by omega), hu_o (by omega), hu_o (by omega), if_neg e]
  have ep : ∀ d, d < 7 → ptd (aBack g) d = (ptd g d && !decide (d = st g (gS g - 1))) := fun d hd => by
    unfold ptd
    rw [eh d hd]
    by_cases e : d = st g (gS g - 1) <;> simp [e]
  have es : ∀ k, k < gS g - 1 → st (aBack g) k = st g k := fun k hk => by unfold aBack; rw [st_o (by omega), st_o (by omega), st_o (by omega), st_o (by omega)]
  have eb : ∀ a, a < 7 → nb (aBack g) a = nb g a := fun a ha => by unfold aBack; rw [nb_o (by omega), nb_o (by omega), nb_o (by omega), nb_o (by omega)]
  have et : ∀ a b, a < 7 → tt (aBack g) a b = tt g a b := fun a b ha => by unfold tt; rw [eb a ha]
  refine ⟨⟨?_, by rw [eN]; exact n7⟩, ⟨?_, by rw [eU]; exact wf_u1 w, by rw [eU]; exact wf_u5 w⟩, ⟨?_, ?_⟩, fun d hd => ?_, fun d hd => ?_, fun d hd => ?_, fun d hd => ?_, fun x y hx hy q => ?_, fun x y hx hy q hpx => ?_, fun k hk => ?_, fun j k hj hk => ?_, fun d hd q => ?_⟩
  · rw [eN]; unfold aBack; rw [g_o (by omega), g_o (by omega), g_o (by omega), g_o (by omega)]; exact wf_n w
  · rw [eU]; unfold aBack; rw [g_o (by omega), g_o (by omega), g_o (by omega), g_o (by omega)]; exact wf_u w
  · rw [eS]; unfold aBack; rw [g_o (by omega), g_o (by omega), g_o (by omega), upd_eq]
  · rw [eS, eN]
    have h3 := cnt_upd (p := ptd g) (q := ptd (aBack g)) (n := gN g) hc (fun i hi hn => by rw [ep i (by omega)]; simp [hn])
    rw [ep _ (by omega), hcp, ← wf_sc w] at h3
    simp at h3
    omega
  · rw [eh d hd]
    by_cases e : d = st g (gS g - 1)
    · rw [if_pos e]; exact Or.inl rfl
    · rw [if_neg e]; exact wf_hu w d hd
  · unfold aBack; rw [wi_o (by omega), wi_o (by omega), wi_o (by omega), wi_o (by omega)]; exact wf_wi w d hd
  · rw [eN] at hd; unfold aBack; rw [sz_o (by omega), sz_o (by omega), sz_o (by omega), sz_o (by omega)]; exact wf_sz w d hd
  · rw [eb d hd]; refine ⟨?_, wf_nb7 w hd⟩; unfold aBack; rw [g_o (by omega), g_o (by omega), g_o (by omega), g_o (by omega)]; exact wf_nb w hd
  · rw [et x y hx] at q; rw [eN, et y x hy]; exact wf_tt w hx hy q
  · rw [et x y hx] at q
    rw [ep x hx] at hpx
    simp only [Bool.and_eq_true, Bool.not_eq_true', decide_eq_false_iff_not] at hpx
    rw [eh x hx, eh y hy, if_neg hpx.2]
    by_cases e2 : y = st g (gS g - 1)
    · rw [if_pos e2]
      have := hpx.1
      rw [ptd_t] at this
      exact this
    · rw [if_neg e2]; exact wf_nh w hx hy q hpx.1
  · rw [eS] at hk
    have hk' : k < gS g := by omega
    have hn := wf_stn w hk'
    rw [es k hk, eN, ep _ (by omega), wf_stp w hk']
    refine ⟨?_, hn, ?_⟩
    · unfold aBack; rw [g_o (by omega), g_o (by omega), g_o (by omega), g_o (by omega)]; exact wf_st w hk'
    · have := wf_std w (show k < gS g - 1 by omega) hl
      simp [this]
  · rw [eS] at hk
    rw [es j (by omega), es k hk]
    exact wf_std w hj (by omega)
  · rw [eN] at hd
    rw [ep d (by omega)] at q
    simp only [Bool.and_eq_true, Bool.not_eq_true', decide_eq_false_iff_not] at q
    obtain ⟨k, hk, e3⟩ := wf_all w hd q.1
    have hne : k ≠ gS g - 1 := fun z => q.2 (by rw [← e3, z])
    exact ⟨k, by omega, by rw [es k (by omega), e3]⟩
theorem wf_country {g : Row} (w : WF g) {z : Nat} (hz : z < 10) (hn : gN g < 7) : WF (aCountry g (nI z)) := by
  have s7 := wf_s7 w
  have sn := wf_sn w
  have eN : gN (aCountry g (nI z)) = gN g + 1 := by unfold aCountry; rw [gN_o (by omega), gN_o (by omega), gN_o (by omega), gN_o (by omega), gN_o (by omega), gN_at (by omega)]
  have eU : gU (aCountry g (nI z)) = gU g := by unfold aCountry; rw [gU_o (by omega), gU_o (by omega), gU_o (by omega), gU_o (by omega), gU_o (by omega), gU_o (by omega)]
  have eS : gS (aCountry g (nI z)) = gS g := by unfold aCountry; rw [gS_o (by omega), gS_o (by omega), gS_o (by omega), gS_o (by omega), gS_o (by omega), gS_o (by omega)]
  have eh : ∀ d, d < 7 → hu (aCountry g (nI z)) d = if d = gN g then iM else hu g d := fun d hd => by
    unfold aCountry
    rw [hu_o (by omega), hu_o (by omega), hu_o (by omega)]
    by_cases e : d = gN g
    · rw [if_pos e, ← e, hu_at]
    · rw [hu_o (by omega), hu_o (by omega), hu_o (by omega), if_neg e]
  have ep : ∀ d, d < 7 → ptd (aCountry g (nI z)) d = (ptd g d && !decide (d = gN g)) := fun d hd => by
    unfold ptd
    rw [eh d hd]
    by_cases e : d = gN g <;> simp [e]
  have es : ∀ k, k < 7 → st (aCountry g (nI z)) k = st g k := fun k hk => by unfold aCountry; rw [st_o (by omega), st_o (by omega), st_o (by omega), st_o (by omega), st_o (by omega), st_o (by omega)]
  have eb : ∀ a, a < 7 → nb (aCountry g (nI z)) a = if a = gN g then 0 else nb g a := fun a ha => by
    unfold aCountry
    by_cases e : a = gN g
    · rw [if_pos e, ← e, nb_at (by omega)]
    · rw [nb_o (by omega), nb_o (by omega), nb_o (by omega), nb_o (by omega), nb_o (by omega), nb_o (by omega), if_neg e]
  have et : ∀ a b, a < 7 → b < 7 → tt (aCountry g (nI z)) a b = tt g a b := fun a b ha hb => by
    unfold tt
    rw [eb a ha]
    by_cases e : a = gN g
    · rw [if_pos e, Nat.zero_testBit]
      cases q : (nb g a).testBit b with
      | false => rfl
      | true => have := (wf_tt w ha hb q).1; omega
    · rw [if_neg e]
  refine ⟨⟨?_, by rw [eN]; omega⟩, ⟨?_, by rw [eU]; exact wf_u1 w, by rw [eU]; exact wf_u5 w⟩, ⟨?_, ?_⟩, fun d hd => ?_, fun d hd => ?_, fun d hd => ?_, fun d hd => ?_, fun x y hx hy q => ?_, fun x y hx hy q hpx => ?_, fun k hk => ?_, fun j k hj hk => ?_, fun d hd q => ?_⟩
  · rw [eN]; unfold aCountry; rw [g_o (by omega), g_o (by omega), g_o (by omega), g_o (by omega), g_o (by omega), upd_eq]
  · rw [eU]; unfold aCountry; rw [g_o (by omega), g_o (by omega), g_o (by omega), g_o (by omega), g_o (by omega), g_o (by omega)]; exact wf_u w
  · rw [eS]; unfold aCountry; rw [g_o (by omega), g_o (by omega), g_o (by omega), g_o (by omega), g_o (by omega), g_o (by omega)]; exact wf_s w
  · rw [eS, eN, cnt_s, ep _ hn, wf_sc w]
    rw [cnt_congr (p := ptd (aCountry g (nI z))) (q := ptd g) (n := gN g) (fun i hi => by rw [ep i (by omega)]; simp [show i ≠ gN g by omega])]
    simp
  · rw [eh d hd]
    by_cases e : d = gN g
    · rw [if_pos e]; exact Or.inl rfl
    · rw [if_neg e]; exact wf_hu w d hd
  · unfold aCountry
    rw [wi_o (by omega), wi_o (by omega)]
    by_cases e : d = gN g
    · rw [← e, wi_at]; exact Or.inl rfl
    · rw [wi_o (by omega), wi_o (by omega), wi_o (by omega), wi_o (by omega)]; exact wf_wi w d hd
  · rw [eN] at hd
    unfold aCountry
    rw [sz_o (by omega), sz_o (by omega), sz_o (by omega), sz_o (by omega)]
    by_cases e : d = gN g
    · rw [← e, sz_at]; exact ⟨z, hz, rfl⟩
    · rw [sz_o (by omega), sz_o (by omega)]; exact wf_sz w d (by omega)
  · rw [eb d hd]
    unfold aCountry
    by_cases e : d = gN g
    · rw [if_pos e, ← e, upd_eq]; exact ⟨rfl, by omega⟩
    · rw [if_neg e, g_o (by omega), g_o (by omega), g_o (by omega), g_o (by omega), g_o (by omega), g_o (by omega)]; exact ⟨wf_nb w hd, wf_nb7 w hd⟩
  · rw [et x y hx hy] at q; rw [eN, et y x hy hx]
    obtain ⟨q1, q2, q3, q4⟩ := wf_tt w hx hy q
    exact ⟨by omega, by omega, q3, q4⟩
  · rw [et x y hx hy] at q
    rw [ep x hx] at hpx
    simp only [Bool.and_eq_true, Bool.not_eq_true', decide_eq_false_iff_not] at hpx
    have h1 := (wf_tt w hx hy q).2.1
    rw [eh x hx, eh y hy, if_neg hpx.2, if_neg (by omega)]
    exact wf_nh w hx hy q hpx.1
  · rw [eS] at hk
    have hn' := wf_stn w hk
    rw [es k (by omega), eN, ep _ (by omega), wf_stp w hk]
    refine ⟨?_, by omega, by simp; omega⟩
    unfold aCountry; rw [g_o (by omega), g_o (by omega), g_o (by omega), g_o (by omega), g_o (by omega), g_o (by omega)]; exact wf_st w hk
  · rw [eS] at hk
    rw [es j (by omega), es k (by omega)]
    exact wf_std w hj hk
  · rw [eN] at hd
    rw [ep d (by omega)] at q
    simp only [Bool.and_eq_true, Bool.not_eq_true', decide_eq_false_iff_not] at q
    obtain ⟨k, hk, e3⟩ := wf_all w (show d < gN g by omega) q.1
    exact ⟨k, by omega, by rw [es k (by omega), e3]⟩
/-! the changes of the landed text -/
section
variable {g : Row} {V : VT}
theorem i_join (r : LR V 1 g) (w : WF g) {a b : Nat} (ha : a < gN g) (hb : b < gN g) (hn : a ≠ b) : ∃ V', d_X1_join (nI a) (nI b) V = some V' ∧ LR V' 1 (aJoin g a b) ∧ ∀ q, q = 0 ∨ 10 ≤ q → V' q = V q := by
  have n7 := wf_n7 w
  have s7 := wf_s7 w
  unfold d_X1_join
  simp (disch := omega) only [↓iM_def, i_0, i_1, i_2, i_3, i_4, i_5, i_6, i_7, i_8, i_9, i_10, i_12, i_17, i_29, i_31, i_33, i_36, i_37, i_40, i_41, i_42, i_43, i_44, i_45, i_47, i_48, i_50, i_53, i_55, i_56, i_57, i_58, i_59, i_60, i_61, i_98, i_99, i_100, i_102, i_104, i_106, i_110, i_112, i_119, i_120, i_128, i_392, i_448, nI_add, nI_leI, nI_ltI, nI_eq, nI_clamp, iM_le, iM_lt, iM_nle, iM_nlt, iM_ne, iM_ne', Nat.add_zero, pk_mul, asr_inb, bd_some, bw_some, bx_inl, bx_inr, bh_inl, bh_inr, b2_eq0, b2_eq1, asr_zok, nz_nI, lr_nb r w, set_nI, up2_at, upd_ne]
  refine ⟨_, rfl, LR1 ?_ ?_ ?_ ?_ (fun c hc => ⟨?_, ?_, ?_, ?_, ?_⟩) (fun h hh => ⟨?_, ?_⟩) (fun k hk => ?_), fun q hq => ?_⟩
  · simp (disch := omega) only [up2_ne, aJoin, upd_ne]; exact lr_8 r
  · simp (disch := omega) only [up2_ne, aJoin, upd_ne]; exact lr_9 r
  · simp (disch := omega) only [up2_ne, aJoin, upd_ne]; exact lr_10 r
  · simp (disch := omega) only [up2_ne, aJoin, upd_ne]; exact lr_o r
  · simp (disch := omega) only [up2_ne, aJoin, sz_o]; exact lr_sz r hc
  · simp (disch := omega) only [up2_ne, aJoin, hu_o]; exact lr_hu r hc
  · simp (disch := omega) only [up2_ne, aJoin, wi_o]; exact lr_wi r hc
  · simp (disch := omega) only [up2_ne, aJoin, cr_o]; exact lr_cr r hc
  · unfold aJoin
    rw [up2_at, up2_at]
    by_cases e1 : c = b
    · rw [e1, upd_eq, upd_eq]
    · rw [upd_ne e1, upd_ne (show 29 + c ≠ 29 + b by omega)]
      by_cases e2 : c = a
      · rw [e2, upd_eq, upd_eq]
      · rw [upd_ne e2, upd_ne (show 29 + c ≠ 29 + a by omega)]; exact lr_6 r hc
  · simp (disch := omega) only [up2_ne, aJoin, po_o]; exact lr_po r hh
  · simp (disch := omega) only [up2_ne, aJoin, us_o]; exact lr_us r hh
  · have hk : k < gS g := by unfold aJoin at hk; rw [gS_o (by omega), gS_o (by omega)] at hk; exact hk
    simp (disch := omega) only [up2_ne, aJoin, upd_ne]; exact lr_7 r hk
  · rw [up2_ne (by omega), up2_ne (by omega)]
end
