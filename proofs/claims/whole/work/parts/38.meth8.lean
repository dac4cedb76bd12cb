/-! PURE ROWS: undo, save, restore, painted, meanSize -/
def mix (r g : Row) : Row := fun i => if i < 56 then r i else g i
theorem mix_in (r g : Row) {i : Nat} (h : i < 56) : mix r g i = r i := if_pos h
theorem mix_out (r g : Row) {i : Nat} (h : 56 ≤ i) : mix r g i = g i := if_neg (by omega)
section
variable {V V' : VT} {σ : Sg} {g r : Row} {E1 E2 : String}
theorem wf_mix (w : WF r) : WF (mix r g) := by
  refine wf_same w (gU r) (wf_u1 w) (wf_u5 w) (mix_in _ _ (by omega)) (mix_in _ _ (by omega)) ((mix_in _ _ (by omega)).trans (wf_u w)) (fun c hc => mix_in _ _ (by omega)) (fun c hc => ?_) (fun c hc => mix_in _ _ (by omega)) (fun a ha => mix_in _ _ (by omega)) (fun k hk => mix_in _ _ (by omega))
  have e : wi (mix r g) c = wi r c := mix_in _ _ (by omega)
  rw [e]
  exact wf_wi w c hc
theorem lr_mix {a : Nat} (w : WF r) (h : LR V a r) : LR V a (mix r g) := by
  have s7 := wf_s7 w
  obtain ⟨h1, h2, h3, h4, h5, h6, h7⟩ := h
  have eS : gS (mix r g) = gS r := by unfold gS; rw [mix_in _ _ (by omega)]
  refine ⟨by rw [mix_in _ _ (by omega)]; exact h1, by rw [mix_in _ _ (by omega)]; exact h2, by rw [mix_in _ _ (by omega)]; exact h3, by rw [mix_in _ _ (by omega)]; exact h4, fun c hc => ?_, fun c hc => ?_, fun k hk => ?_⟩
  · have e1 : sz (mix r g) c = sz r c := mix_in _ _ (by omega)
    have e2 : hu (mix r g) c = hu r c := mix_in _ _ (by omega)
    have e3 : wi (mix r g) c = wi r c := mix_in _ _ (by omega)
    have e4 : cr (mix r g) c = cr r c := mix_in _ _ (by omega)
    rw [e1, e2, e3, e4, mix_in _ _ (by omega)]
    exact h5 c hc
  · have e1 : po (mix r g) c = po r c := mix_in _ _ (by omega)
    have e2 : us (mix r g) c = us r c := mix_in _ _ (by omega)
    rw [e1, e2]
    exact h6 c hc
  · rw [eS] at hk
    rw [mix_in _ _ (by omega)]
    exact h7 k hk
def spUndo (σ : Sg) : (Int32 ⊕ Nat) × Sg := match σ.2.1[σ.2.1.length - 1]? with
  | none => (.inr 1, σ)
  | some r => (.inl (nI (σ.2.1.length - 1)), (mix r σ.1, σ.2.1.take (σ.2.1.length - 1), σ.2.2))
theorem K_undo (K : OKs σ) : OKs (spUndo σ).2 := by
  unfold spUndo
  cases h : σ.2.1[σ.2.1.length - 1]? with
  | none => exact K
  | some r =>
    obtain ⟨k1, ⟨k2, k3⟩, k4⟩ := K
    refine ⟨wf_mix (k3 r (List.mem_of_getElem? h)), ⟨?_, fun q hq => k3 q (List.mem_of_mem_take hq)⟩, k4⟩
    show (σ.2.1.take (σ.2.1.length - 1)).length ≤ 8
    rw [List.length_take]
    omega
theorem none_0 {ls : List Row} (h : ls[ls.length - 1]? = none) : ls.length = 0 := by
  rw [List.getElem?_eq_none_iff] at h
  omega
theorem I_undo (h : AI V σ) (K : OKs σ) : DI eIS E2 (d_X4_undo V) V (spUndo σ) := by
  have h0 := h
  obtain ⟨h1, ⟨o, h2, h3, h4, h5⟩, h6, ⟨h7, h8⟩, ⟨h9, h10⟩, h11, h12, h13⟩ := h
  have l8 := K.l8
  unfold d_X4_undo spUndo d_X3_takeLatest
  rw [h4]
  simp (disch := omega) only [↓jM_def, j_0, j_1, j_2, j_3, j_4, j_5, j_6, j_7, j_8, j_9, j_10, j_11, j_12, j_13, j_14, j_15, j_16, j_17, j_18, j_19, j_20, j_21, j_22, j_23, j_24, j_25, j_26, j_27, j_28, j_29, j_30, j_31, j_32, j_33, j_34, j_35, j_36, j_37, j_38, j_39, j_40, j_41, j_42, j_43, j_44, j_45, j_46, j_47, j_48, j_49, j_50, j_51, j_52, j_53, j_54, j_55, j_56, j_57, j_58, j_59, j_60, j_61, j_62, j_63, j_97, j_98, j_99, j_100, j_101, j_102, j_103, j_104, j_105, j_106, j_107, j_108, j_109, j_110, j_111, j_112, j_113, j_114, j_115, j_116, j_117, j_118, j_119, j_120, j_121, j_122, j_128, j_392, j_448, nI_eq, nI_leI]
  cases hq : σ.2.1[σ.2.1.length - 1]? with
  | none =>
    rw [if_pos (none_0 hq)]
    exact DI.err h0 (Or.inr trivial)
  | some r =>
    have hl := get_lt hq
    have hr := K.2.1.2 r (List.mem_of_getElem? hq)
    have e1 : nI σ.2.1.length - nI 1 = nI (σ.2.1.length - 1) := pk_sub (by omega)
    rw [if_neg (by omega), if_neg (by omega), e1, i_place (o := o) h2 (by omega) (by rw [up2_at, upd_ne (by omega)]; exact h3), bd_some]
    have hp8 : (o + (σ.2.1.length - 1)) % 8 < 8 := Nat.mod_lt _ (by omega)
    obtain ⟨V5, c1, c2, c3⟩ := i_copy (V := up2 V 28 2 (nI (σ.2.1.length - 1))) (a := 1) (b := 30 + 9 * ((o + (σ.2.1.length - 1)) % 8)) (g := r) (by omega) (wf_s7 hr) (lr_frame (fun q q1 q2 => up2_ne (by omega)) (h5 _ _ hq))
    simp (disch := omega) only [asr_inb, nI_clamp, c1, bd_some]
    have hf : ∀ q, q ≠ 28 → q < 1 ∨ 10 ≤ q → V5 q = V q := fun q q1 q2 => by rw [c3 q q2, up2_ne q1]
    have e28 : V5 28 = up2 V 28 2 (nI (σ.2.1.length - 1)) 28 := c3 28 (by omega)
    refine ⟨V5, by rw [e28, up2_at, upd_eq]; rfl, ⟨lr_mix hr c2, ⟨o, h2, by rw [e28, up2_at, upd_ne (by omega)]; exact h3, ?_, fun k r' q => ?_⟩, ?_, ⟨by rw [hf 105 (by omega) (by omega)]; exact h7, fun i hi => by rw [hf 106 (by omega) (by omega)]; exact h8 i hi⟩, ⟨by rw [hf 0 (by omega) (by omega)]; exact h9, fun i hi => by rw [hf 108 (by omega) (by omega)]; exact h10 i hi⟩, by rw [hf 0 (by omega) (by omega)]; exact h11, by rw [hf 0 (by omega) (by omega)]; exact h12, by rw [hf 0 (by omega) (by omega)]; exact h13⟩, fun q hq => hf q (by omega) (by omega)⟩
    · rw [e28, up2_at, upd_eq]
      show _ = nI (σ.2.1.take (σ.2.1.length - 1)).length
      rw [List.length_take, Nat.min_eq_left (by omega)]
    · have q : (σ.2.1.take (σ.2.1.length - 1))[k]? = some r' := q
      have hk := get_lt q
      rw [List.length_take] at hk
      rw [List.getElem?_take_of_lt (by omega)] at q
      exact lr_frame (fun q _ _ => hf q (by omega) (by omega)) (h5 k r' q)
    · show SI _ σ.2.2.1
      unfold SI at h6 ⊢
      cases hs : σ.2.2.1 with
      | none => rw [hs] at h6; show V5 0 8 = _; rw [hf 0 (by omega) (by omega)]; exact h6
      | some r => rw [hs] at h6; exact ⟨by rw [hf 0 (by omega) (by omega)]; exact h6.1, lr_frame (fun q _ _ => hf q (by omega) (by omega)) h6.2⟩
theorem M_undo (h : AJ V σ) (K : OKs σ) : DM (d_X5_undo V) V (spUndo σ) := by
  have l8 := K.l8
  unfold d_X5_undo spUndo
  rw [h.2.1.1]
  simp (disch := omega) only [↓jM_def, j_0, j_1, j_2, j_3, j_4, j_5, j_6, j_7, j_8, j_9, j_10, j_11, j_12, j_13, j_14, j_15, j_16, j_17, j_18, j_19, j_20, j_21, j_22, j_23, j_24, j_25, j_26, j_27, j_28, j_29, j_30, j_31, j_32, j_33, j_34, j_35, j_36, j_37, j_38, j_39, j_40, j_41, j_42, j_43, j_44, j_45, j_46, j_47, j_48, j_49, j_50, j_51, j_52, j_53, j_54, j_55, j_56, j_57, j_58, j_59, j_60, j_61, j_62, j_63, j_97, j_98, j_99, j_100, j_101, j_102, j_103, j_104, j_105, j_106, j_107, j_108, j_109, j_110, j_111, j_112, j_113, j_114, j_115, j_116, j_117, j_118, j_119, j_120, j_121, j_122, j_128, j_392, j_448, nI_eq]
  cases hq : σ.2.1[σ.2.1.length - 1]? with
  | none =>
    rw [if_pos (none_0 hq)]
    unfold d_X5_undo_13
    simp only [↓iM_def, i_0, i_1, i_2, i_3, i_4, i_5, i_6, i_7, i_8, i_9, i_10, i_12, i_17, i_29, i_31, i_33, i_36, i_37, i_40, i_41, i_42, i_43, i_44, i_45, i_47, i_48, i_50, i_53, i_55, i_56, i_57, i_58, i_59, i_60, i_61, i_98, i_99, i_100, i_102, i_104, i_106, i_110, i_112, i_119, i_120, i_128, i_392, i_448, m_fail0, m_fail1, m_fail2, e10, eq_self, if_true, if_false, bw_some]
    exact DM.err h _
  | some r =>
    have hl := get_lt hq
    rw [if_neg (by omega)]
    unfold d_X5_undo_13
    simp only [↓iM_def, i_0, i_1, i_2, i_3, i_4, i_5, i_6, i_7, i_8, i_9, i_10, i_12, i_17, i_29, i_31, i_33, i_36, i_37, i_40, i_41, i_42, i_43, i_44, i_45, i_47, i_48, i_50, i_53, i_55, i_56, i_57, i_58, i_59, i_60, i_61, i_98, i_99, i_100, i_102, i_104, i_106, i_110, i_112, i_119, i_120, i_128, i_392, i_448, m_fail0, m_fail1, m_fail2, e10, eq_self, if_true, if_false, bw_some]
    refine DM.pre h (nI 0) (fun V2 hh hc e => ?_)
    rw [e]
    obtain ⟨h1, ⟨h2, h3⟩, h4, ⟨h5, h6⟩, ⟨h7, h8⟩, h9, h10, h11, h12⟩ := hh
    have e1 : nI σ.2.1.length - nI 1 = nI (σ.2.1.length - 1) := pk_sub (by omega)
    rw [h2, e1, pk_mul, m_copies (a := 111) (b := 110) (x1 := 56 * (σ.2.1.length - 1)) (x3 := 0) (by omega) (by rw [show alen 111 = 448 from rfl]; omega) (by rw [show alen 110 = 56 from rfl]; omega) (by decide) (by decide), bd_some]
    have f : ∀ q, q ≠ 109 → q ≠ 110 → setc (up2 V2 109 5 (nI (σ.2.1.length - 1))) 110 (cpy (up2 V2 109 5 (nI (σ.2.1.length - 1)) 111) (up2 V2 109 5 (nI (σ.2.1.length - 1)) 110) (56 * (σ.2.1.length - 1)) 0 56) q = V2 q := fun q q1 q2 => by rw [setc_ne q2, up2_ne q1]
    have g5 : ∀ i, i ≠ 5 → setc (up2 V2 109 5 (nI (σ.2.1.length - 1))) 110 (cpy (up2 V2 109 5 (nI (σ.2.1.length - 1)) 111) (up2 V2 109 5 (nI (σ.2.1.length - 1)) 110) (56 * (σ.2.1.length - 1)) 0 56) 109 i = V2 109 i := fun i hi => by rw [setc_ne (by omega), up2_at, upd_ne hi]
    refine DM.of rfl ⟨?_, ⟨?_, fun k r' q i hi => ?_⟩, ?_, ⟨by rw [g5 _ (by omega)]; exact h5, fun i hi => by rw [f 114 (by omega) (by omega)]; exact h6 i hi⟩, ⟨by rw [g5 _ (by omega)]; exact h7, fun i hi => by rw [f 115 (by omega) (by omega)]; exact h8 i hi⟩, by rw [g5 _ (by omega)]; exact h9, by rw [g5 _ (by omega)]; exact h10, by rw [g5 _ (by omega)]; exact h11, by rw [g5 _ (by omega)]; exact h12⟩ (fun q hq => f q (by omega) (by omega)) (by rw [g5 _ (by omega)]; exact hc) (fun v' hv => by cases hv; rw [setc_ne (by omega), up2_at, upd_eq])
    · rw [setc_at, up2_ne (by omega), up2_ne (by omega), h1]
      funext i
      show cpy (V2 111) σ.1 (56 * (σ.2.1.length - 1)) 0 56 i = mix r σ.1 i
      rcases Nat.lt_or_ge i 56 with q | q
      · rw [mix_in _ _ q]
        have e5 := cpy_in (f := V2 111) (r := σ.1) (sp := 56 * (σ.2.1.length - 1)) (dp := 0) q
        rw [Nat.zero_add] at e5
        rw [e5]
        exact h3 _ _ hq i q
      · rw [mix_out _ _ q, cpy_out (by omega)]
    · rw [setc_ne (by omega), up2_at, upd_eq]
      show _ = nI (σ.2.1.take (σ.2.1.length - 1)).length
      rw [List.length_take, Nat.min_eq_left (by omega)]
    · have q : (σ.2.1.take (σ.2.1.length - 1))[k]? = some r' := q
      have hk := get_lt q
      rw [List.length_take] at hk
      rw [List.getElem?_take_of_lt (by omega)] at q
      rw [f 111 (by omega) (by omega)]
      exact h3 k r' q i hi
    · show SM _ σ.2.2.1
      unfold SM at h4 ⊢
      cases hs : σ.2.2.1 with
      | none => rw [hs] at h4; show setc _ 110 _ 109 4 = _; rw [g5 _ (by omega)]; exact h4
      | some r => rw [hs] at h4; exact ⟨by rw [g5 _ (by omega)]; exact h4.1, fun i hi => by rw [f 112 (by omega) (by omega)]; exact h4.2 i hi⟩
def svd (σ : Sg) : Sg := (σ.1, σ.2.1, some σ.1, σ.2.2.2)
theorem K_save (K : OKs σ) : OKs (svd σ) := ⟨K.1, K.2.1, fun r hr => by cases hr; exact K.1, K.2.2.2⟩
theorem I_save (h : AI V σ) (K : OKs σ) : DN (d_X4_save V) V (nI (gN σ.1)) (svd σ) := by
  obtain ⟨h1, ⟨o, h2, h3, h4, h5⟩, h6, ⟨h7, h8⟩, ⟨h9, h10⟩, h11, h12, h13⟩ := h
  unfold d_X4_save
  obtain ⟨V5, c1, c2, c3⟩ := i_copy (a := 19) (b := 1) (by omega) (wf_s7 K.w) h1
  rw [c1, bd_some]
  have hf : ∀ q, q ≠ 0 → q < 19 ∨ 28 ≤ q → up2 V5 0 8 (1 : Int32) q = V q := fun q q1 q2 => by rw [up2_ne q1, c3 q q2]
  have f0 : ∀ i, i ≠ 8 → up2 V5 0 8 (1 : Int32) 0 i = V 0 i := fun i hi => by rw [up2_at, upd_ne hi, c3 0 (by omega)]
  refine ⟨_, by rw [c3 1 (by omega), lr_n h1 K.w], ⟨lr_frame (fun q _ _ => hf q (by omega) (by omega)) h1, ⟨o, h2, by rw [hf 28 (by omega) (by omega)]; exact h3, by rw [hf 28 (by omega) (by omega)]; exact h4, fun k r q => lr_frame (fun q _ _ => hf q (by omega) (by omega)) (h5 k r q)⟩, ⟨by rw [up2_at, upd_eq]; rfl, lr_frame (fun q _ _ => up2_ne (by omega)) c2⟩, ⟨by rw [hf 105 (by omega) (by omega)]; exact h7, fun i hi => by rw [hf 106 (by omega) (by omega)]; exact h8 i hi⟩, ⟨by rw [f0 _ (by omega)]; exact h9, fun i hi => by rw [hf 108 (by omega) (by omega)]; exact h10 i hi⟩, by rw [f0 _ (by omega)]; exact h11, by rw [f0 _ (by omega)]; exact h12, by rw [f0 _ (by omega)]; exact h13⟩, fun q hq => hf q (by omega) (by omega)⟩
theorem M_save (h : AJ V σ) (K : OKs σ) : DM (d_X5_save V) V (.inl (nI (gN σ.1)), svd σ) := by
  unfold d_X5_save
  refine DM.pre h (nI 0) (fun V2 hh hc e => ?_)
  rw [i_0, e]
  obtain ⟨h1, ⟨h2, h3⟩, h4, ⟨h5, h6⟩, ⟨h7, h8⟩, h9, h10, h11, h12⟩ := hh
  rw [← i_0]
  have hcp := m_copies (V := up2 V2 109 4 (1 : Int32)) (a := 110) (b := 112) (x1 := 0) (x3 := 0) (by omega) (by rw [show alen 110 = 56 from rfl]; omega) (by rw [show alen 112 = 56 from rfl]; omega) (by decide) (by decide)
  have hcp' : d_X5_copies 110 (0 : Int32) 112 (0 : Int32) (up2 V2 109 4 (1 : Int32)) = some (setc (up2 V2 109 4 (1 : Int32)) 112 (cpy (up2 V2 109 4 (1 : Int32) 110) (up2 V2 109 4 (1 : Int32) 112) 0 0 56)) := hcp
  rw [hcp', bd_some]
  have f : ∀ q, q ≠ 109 → q ≠ 112 → setc (up2 V2 109 4 (1 : Int32)) 112 (cpy (up2 V2 109 4 (1 : Int32) 110) (up2 V2 109 4 (1 : Int32) 112) 0 0 56) q = V2 q := fun q q1 q2 => by rw [setc_ne q2, up2_ne q1]
  have g4 : ∀ i, i ≠ 4 → setc (up2 V2 109 4 (1 : Int32)) 112 (cpy (up2 V2 109 4 (1 : Int32) 110) (up2 V2 109 4 (1 : Int32) 112) 0 0 56) 109 i = V2 109 i := fun i hi => by rw [setc_ne (by omega), up2_at, upd_ne hi]
  refine DM.of rfl ⟨by rw [f 110 (by omega) (by omega)]; exact h1, ⟨by rw [g4 _ (by omega)]; exact h2, fun k r q i hi => by rw [f 111 (by omega) (by omega)]; exact h3 k r q i hi⟩, ⟨by rw [setc_ne (by omega), up2_at, upd_eq]; rfl, fun i hi => ?_⟩, ⟨by rw [g4 _ (by omega)]; exact h5, fun i hi => by rw [f 114 (by omega) (by omega)]; exact h6 i hi⟩, ⟨by rw [g4 _ (by omega)]; exact h7, fun i hi => by rw [f 115 (by omega) (by omega)]; exact h8 i hi⟩, by rw [g4 _ (by omega)]; exact h9, by rw [g4 _ (by omega)]; exact h10, by rw [g4 _ (by omega)]; exact h11, by rw [g4 _ (by omega)]; exact h12⟩ (fun q hq => f q (by omega) (by omega)) (by rw [g4 _ (by omega)]; exact hc) (fun v' hv => by cases hv; rw [f 110 (by omega) (by omega), h1, wf_n K.w])
  rw [setc_at]
  have e5 := cpy_in (f := up2 V2 109 4 (1 : Int32) 110) (r := up2 V2 109 4 (1 : Int32) 112) (sp := 0) (dp := 0) hi
  rw [Nat.zero_add] at e5
  rw [e5, up2_ne (by omega), h1]
def spRestore (σ : Sg) : (Int32 ⊕ Nat) × Sg := match σ.2.2.1 with
  | none => (.inr 1, σ)
  | some r => (.inl (nI (gN r)), (mix r σ.1, [], some r, σ.2.2.2))
theorem K_restore (K : OKs σ) : OKs (spRestore σ).2 := by
  unfold spRestore
  cases h : σ.2.2.1 with
  | none => exact K
  | some r => exact ⟨wf_mix (K.2.2.1 r h), ⟨Nat.zero_le _, fun q hq => by cases hq⟩, fun q hq => by cases hq; exact K.2.2.1 r h, K.2.2.2⟩
theorem I_restore (h : AI V σ) (K : OKs σ) : DI eIS E2 (d_X4_restore V) V (spRestore σ) := by
  have h0 := h
  obtain ⟨h1, ⟨o, h2, h3, h4, h5⟩, h6, ⟨h7, h8⟩, ⟨h9, h10⟩, h11, h12, h13⟩ := h
  unfold d_X4_restore spRestore
  unfold SI at h6
  cases hs : σ.2.2.1 with
  | none =>
    rw [hs] at h6
    have h6 : V 0 8 = (0 : Int32) := h6
    rw [if_pos h6]
    exact DI.err h0 (Or.inr trivial)
  | some r =>
    rw [hs] at h6
    have h61 : V 0 8 = nI 1 := h6.1
    have hr := K.2.2.1 r hs
    have h6n : ¬ V 0 8 = (0 : Int32) := by rw [h61]; decide +kernel
    rw [if_neg h6n]
    obtain ⟨V5, c1, c2, c3⟩ := i_copy (a := 1) (b := 19) (by omega) (wf_s7 hr) h6.2
    rw [c1, bd_some]
    have hf : ∀ q, q ≠ 28 → q < 1 ∨ 10 ≤ q → up2 V5 28 2 (0 : Int32) q = V q := fun q q1 q2 => by rw [up2_ne q1, c3 q q2]
    refine ⟨up2 V5 28 2 (0 : Int32), by rw [lr_n c2 hr]; rfl, ⟨lr_mix hr (lr_frame (fun q _ _ => up2_ne (by omega)) c2), ⟨o, h2, by rw [up2_at, upd_ne (by omega), c3 28 (by omega)]; exact h3, by rw [up2_at, upd_eq]; rfl, fun k r q => by cases q⟩, ⟨by rw [hf 0 (by omega) (by omega)]; exact h61, lr_frame (fun q _ _ => hf q (by omega) (by omega)) h6.2⟩, ⟨by rw [hf 105 (by omega) (by omega)]; exact h7, fun i hi => by rw [hf 106 (by omega) (by omega)]; exact h8 i hi⟩, ⟨by rw [hf 0 (by omega) (by omega)]; exact h9, fun i hi => by rw [hf 108 (by omega) (by omega)]; exact h10 i hi⟩, by rw [hf 0 (by omega) (by omega)]; exact h11, by rw [hf 0 (by omega) (by omega)]; exact h12, by rw [hf 0 (by omega) (by omega)]; exact h13⟩, fun q hq => hf q (by omega) (by omega)⟩
theorem M_restore (h : AJ V σ) (K : OKs σ) : DM (d_X5_restore V) V (spRestore σ) := by
  have h4 := h.2.2.1
  unfold d_X5_restore spRestore d_X5_restore_13
  unfold SM at h4
  cases hs : σ.2.2.1 with
  | none =>
    rw [hs] at h4
    have h6 : V 109 4 = (0 : Int32) := h4
    rw [if_pos h6, m_failL1, bw_some, if_neg (by decide)]
    exact DM.err h _
  | some r =>
    rw [hs] at h4
    have h6n : ¬ V 109 4 = (0 : Int32) := by rw [show V 109 4 = nI 1 from h4.1]; decide +kernel
    have hr := K.2.2.1 r hs
    rw [if_neg h6n, m_failL0, bw_some, if_pos rfl]
    refine DM.pre h (nI 0) (fun V2 hh hc e => ?_)
    rw [e]
    obtain ⟨h1, ⟨h2, h3⟩, h4, ⟨h5, h6⟩, ⟨h7, h8⟩, h9, h10, h11, h12⟩ := hh
    unfold SM at h4
    rw [hs] at h4
    have h41 : V2 109 4 = nI 1 := h4.1
    have h42 : ∀ i, i < 56 → V2 112 i = r i := h4.2
    have hcp := m_copies (V := V2) (a := 112) (b := 110) (x1 := 0) (x3 := 0) (by omega) (by rw [show alen 112 = 56 from rfl]; omega) (by rw [show alen 110 = 56 from rfl]; omega) (by decide) (by decide)
    have hcp' : d_X5_copies 112 (0 : Int32) 110 (0 : Int32) V2 = some (setc V2 110 (cpy (V2 112) (V2 110) 0 0 56)) := hcp
    rw [hcp', bd_some]
    have e110 : cpy (V2 112) (V2 110) 0 0 56 = mix r σ.1 := by
      rw [h1]
      funext i
      rcases Nat.lt_or_ge i 56 with q | q
      · rw [mix_in _ _ q]
        have e5 := cpy_in (f := V2 112) (r := σ.1) (sp := 0) (dp := 0) q
        rw [Nat.zero_add] at e5
        rw [e5]
        exact h42 i q
      · rw [mix_out _ _ q, cpy_out (by omega)]
    rw [e110]
    have f : ∀ q, q ≠ 109 → q ≠ 110 → up2 (setc V2 110 (mix r σ.1)) 109 5 (0 : Int32) q = V2 q := fun q q1 q2 => by rw [up2_ne q1, setc_ne q2]
    have g5 : ∀ i, i ≠ 5 → up2 (setc V2 110 (mix r σ.1)) 109 5 (0 : Int32) 109 i = V2 109 i := fun i hi => by rw [up2_at, upd_ne hi, setc_ne (by omega)]
    refine DM.of rfl ⟨by rw [up2_ne (by omega), setc_at], ⟨by rw [up2_at, upd_eq]; rfl, fun k r' q i hi => by cases q⟩, ⟨by rw [g5 _ (by omega)]; exact h41, fun i hi => by rw [f 112 (by omega) (by omega)]; exact h42 i hi⟩, ⟨by rw [g5 _ (by omega)]; exact h5, fun i hi => by rw [f 114 (by omega) (by omega)]; exact h6 i hi⟩, ⟨by rw [g5 _ (by omega)]; exact h7, fun i hi => by rw [f 115 (by omega) (by omega)]; exact h8 i hi⟩, by rw [g5 _ (by omega)]; exact h9, by rw [g5 _ (by omega)]; exact h10, by rw [g5 _ (by omega)]; exact h11, by rw [g5 _ (by omega)]; exact h12⟩ (fun q hq => f q (by omega) (by omega)) (by rw [g5 _ (by omega)]; exact hc) (fun v' hv => by
      cases hv
      rw [setc_at, mix_in _ _ (by omega)]
      exact wf_n hr)
/-! painted, meanSize -/
def ptV (σ : Sg) : UInt32 := FP.fdiv (FP.i2f (nI (gS σ.1))) (FP.i2f (nI (gN σ.1)))
def smS (g : Row) : Int32 := smI (fun c => if ptd g c = true then sz g c else nI 0) (gN g)
def mnV (σ : Sg) : UInt64 := FP.ddiv (FP.i2d (smS σ.1)) (FP.i2d (nI (gS σ.1)))
theorem fdiv_ok : ∀ s, s < 8 → ∀ n, n < 8 → 0 < n → (n32ok (FP.fdiv (FP.i2f (nI s)) (FP.i2f (nI n))) = true ∧ n64ok (FP.f2d (FP.fdiv (FP.i2f (nI s)) (FP.i2f (nI n)))) = true) := by decide +kernel
theorem ddiv_ok : ∀ z, z < 64 → ∀ s, s < 8 → 0 < s → n64ok (FP.ddiv (FP.i2d (nI z)) (FP.i2d (nI s))) = true := by decide +kernel
theorem smS_nI (w : WF g) : ∃ z, z < 64 ∧ smS g = nI z := by
  have n7 := wf_n7 w
  have key : ∀ k, k ≤ gN g → ∃ z, z ≤ 9 * k ∧ smI (fun c => if ptd g c = true then sz g c else nI 0) k = nI z := by
    intro k
    induction k with
    | zero => intro _; exact ⟨0, by omega, rfl⟩
    | succ k ih =>
      intro hk
      obtain ⟨z, hz, e⟩ := ih (by omega)
      have e1 : smI (fun c => if ptd g c = true then sz g c else nI 0) (k + 1) = smI (fun c => if ptd g c = true then sz g c else nI 0) k + (if ptd g k = true then sz g k else nI 0) := rfl
      rw [e1, e]
      by_cases hp : ptd g k = true
      · rw [if_pos hp]
        obtain ⟨y, hy, ey⟩ := wf_sz w k (by omega)
        rw [ey, nI_add]
        exact ⟨z + y, by omega, rfl⟩
      · rw [if_neg hp, nI_add]
        exact ⟨z + 0, by omega, rfl⟩
  obtain ⟨z, hz, e⟩ := key (gN g) (Nat.le_refl _)
  exact ⟨z, by omega, e⟩
theorem pt_ok (K : OKs σ) (h : 0 < gN σ.1) : n32ok (ptV σ) = true ∧ n64ok (FP.f2d (ptV σ)) = true := by
  have n7 := wf_n7 K.w
  have s7 := wf_s7 K.w
  exact fdiv_ok _ (by omega) _ (by omega) h
theorem mn_ok (K : OKs σ) (h : 0 < gS σ.1) : n64ok (mnV σ) = true := by
  have s7 := wf_s7 K.w
  obtain ⟨z, hz, e⟩ := smS_nI K.w
  unfold mnV
  rw [e]
  exact ddiv_ok _ hz _ (by omega) h
theorem I_painted (h : AI V σ) (K : OKs σ) : d_X4_painted V = if gN σ.1 = 0 then some (.inr eAR, V) else some (.inl (ptV σ), V) := by
  have n7 := wf_n7 K.w
  unfold d_X4_painted
  rw [i_countPainted h.1 K.w, lr_n h.1 K.w]
  have e0 : (nI (gN σ.1) = (0 : Int32)) = (gN σ.1 = 0) := propext (nI_eq (b := 0) (by omega) (by omega))
  simp only [e0, bd_some]
  by_cases hn : gN σ.1 = 0
  · rw [if_pos hn, if_pos hn]; rfl
  · rw [if_neg hn, if_neg hn]
    have hok := (pt_ok K (by omega)).1
    unfold ptV at hok
    rw [asr_t hok]; rfl
theorem M_painted (h : AJ V σ) (K : OKs σ) : ∃ b V', d_X5_painted V = some (b, V') ∧ AJ V' σ ∧ FrM V V' ∧ V' 109 7 = (if gN σ.1 = 0 then nI 1 else nI 0) ∧ (gN σ.1 ≠ 0 → b = ptV σ) := by
  have n7 := wf_n7 K.w
  unfold d_X5_painted d_X5_painted_15
  have e0 : (nI (gN σ.1) = (0 : Int32)) = (gN σ.1 = 0) := propext (nI_eq (b := 0) (by omega) (by omega))
  rw [h.1, wf_n K.w]
  simp only [e0]
  by_cases hn : gN σ.1 = 0
  · rw [if_pos hn, if_pos hn, m_failL1, bw_some, if_neg (by decide)]
    exact ⟨_, _, rfl, h.c7 _, fr7 _ _ _, by rw [up2_at, upd_eq], fun q => absurd hn q⟩
  · rw [if_neg hn, if_neg hn, m_failL0, bw_some, if_pos rfl]
    have h2 := h.c7 (nI 0)
    have w2 : WF (up2 V 109 7 (nI 0) 110) := by rw [h2.1]; exact K.w
    rw [m_paintedMany w2, bd_some, h2.1, wf_n K.w]
    have hok := (pt_ok K (by omega)).1
    unfold ptV at hok
    rw [asr_t hok]
    exact ⟨_, _, rfl, h2, fr7 _ _ _, by rw [up2_at, upd_eq], fun _ => rfl⟩
theorem i_sumSizes (r : LR V 1 g) (w : WF g) : d_X1_sumPaintedSizes V = some (smS g) := by
  have n7 := wf_n7 w
  unfold d_X1_sumPaintedSizes d_X1_sumPaintedSizes_4
  refine lo2_inv (gN g) (fun k y0 => y0 = smI (fun c => if ptd g c = true then sz g c else nI 0) k) ?_ ?_ FU (show gN g < 1000 by omega) _ rfl
  · rintro Kk k y0 hk rfl hK
    have hK := hK _ rfl
    have e1 : smI (fun c => if ptd g c = true then sz g c else nI 0) (k + 1) = smI (fun c => if ptd g c = true then sz g c else nI 0) k + (if ptd g k = true then sz g k else nI 0) := rfl
    rw [e1] at hK
    unfold d_X1_sumPaintedSizes_4b
    simp (disch := omega) only [↓iM_def, i_0, i_1, i_2, i_3, i_4, i_5, i_6, i_7, i_8, i_9, i_10, i_12, i_17, i_29, i_31, i_33, i_36, i_37, i_40, i_41, i_42, i_43, i_44, i_45, i_47, i_48, i_50, i_53, i_55, i_56, i_57, i_58, i_59, i_60, i_61, i_98, i_99, i_100, i_102, i_104, i_106, i_110, i_112, i_119, i_120, i_128, i_392, i_448, nI_add, nI_leI, nI_ltI, nI_eq, nI_clamp, iM_le, iM_lt, iM_nle, iM_nlt, iM_ne, iM_ne', Nat.add_zero, pk_mul, asr_inb, bd_some, bw_some, bx_inl, bx_inr, bh_inl, bh_inr, b2_eq0, b2_eq1, asr_zok, nz_nI, lr_n r w, i_isP r, lr_sz r]
    rw [if_neg (by omega)]
    cases hq : ptd g k with
    | false =>
      rw [hq, if_neg (by decide), add0] at hK
      rw [if_pos rfl]; exact hK
    | true =>
      rw [hq, if_pos rfl] at hK
      rw [if_neg (by decide)]; exact hK
  · rintro Kk y0 rfl
    unfold d_X1_sumPaintedSizes_4b
    simp (disch := omega) only [↓iM_def, i_0, i_1, i_2, i_3, i_4, i_5, i_6, i_7, i_8, i_9, i_10, i_12, i_17, i_29, i_31, i_33, i_36, i_37, i_40, i_41, i_42, i_43, i_44, i_45, i_47, i_48, i_50, i_53, i_55, i_56, i_57, i_58, i_59, i_60, i_61, i_98, i_99, i_100, i_102, i_104, i_106, i_110, i_112, i_119, i_120, i_128, i_392, i_448, nI_add, nI_leI, nI_ltI, nI_eq, nI_clamp, iM_le, iM_lt, iM_nle, iM_nlt, iM_ne, iM_ne', Nat.add_zero, pk_mul, asr_inb, bd_some, bw_some, bx_inl, bx_inr, bh_inl, bh_inr, b2_eq0, b2_eq1, asr_zok, nz_nI, lr_n r w, Nat.le_refl, if_true]
    rfl
theorem I_meanSize (h : AI V σ) (K : OKs σ) : d_X4_meanSize V = if gS σ.1 = 0 then some (.inr eAR, V) else some (.inl (mnV σ), V) := by
  have s7 := wf_s7 K.w
  unfold d_X4_meanSize
  rw [i_countPainted h.1 K.w, i_sumSizes h.1 K.w]
  have e0 : (nI (gS σ.1) = (0 : Int32)) = (gS σ.1 = 0) := propext (nI_eq (b := 0) (by omega) (by omega))
  simp only [e0, bd_some]
  by_cases hn : gS σ.1 = 0
  · rw [if_pos hn, if_pos hn]; rfl
  · rw [if_neg hn, if_neg hn]
    have hok := mn_ok K (by omega)
    unfold mnV at hok
    rw [asr_t hok]; rfl
theorem M_meanSize (h : AJ V σ) (K : OKs σ) : ∃ b V', d_X5_meanSize V = some (b, V') ∧ AJ V' σ ∧ FrM V V' ∧ V' 109 7 = (if gS σ.1 = 0 then nI 1 else nI 0) ∧ (gS σ.1 ≠ 0 → b = mnV σ) := by
  have n7 := wf_n7 K.w
  have s7 := wf_s7 K.w
  have wV : WF (V 110) := by rw [h.1]; exact K.w
  have e : d_X5_meanSize V = some (if gS σ.1 = 0 then (FP.dconst0, up2 V 109 7 (nI 1)) else (mnV σ, up2 V 109 7 (nI 0))) := by
    unfold d_X5_meanSize d_X5_meanSize_4
    refine lo2W_inv (gN σ.1) (fun k y0 Vk => Vk = V ∧ y0 = smI (fun c => if ptd σ.1 c = true then sz σ.1 c else nI 0) k) ?_ ?_ FU (show gN σ.1 < 1000 by omega) _ _ ⟨rfl, rfl⟩
    · rintro Kk k y0 Vk hk ⟨rfl, rfl⟩ hK
      have hK := hK _ _ ⟨rfl, rfl⟩
      have e1 : smI (fun c => if ptd σ.1 c = true then sz σ.1 c else nI 0) (k + 1) = smI (fun c => if ptd σ.1 c = true then sz σ.1 c else nI 0) k + (if ptd σ.1 k = true then sz σ.1 k else nI 0) := rfl
      rw [e1] at hK
      unfold d_X5_meanSize_4b
      simp (disch := omega) only [↓iM_def, i_0, i_1, i_2, i_3, i_4, i_5, i_6, i_7, i_8, i_9, i_10, i_12, i_17, i_29, i_31, i_33, i_36, i_37, i_40, i_41, i_42, i_43, i_44, i_45, i_47, i_48, i_50, i_53, i_55, i_56, i_57, i_58, i_59, i_60, i_61, i_98, i_99, i_100, i_102, i_104, i_106, i_110, i_112, i_119, i_120, i_128, i_392, i_448, nI_add, nI_leI, nI_ltI, nI_eq, nI_clamp, iM_le, iM_lt, iM_nle, iM_nlt, iM_ne, iM_ne', Nat.add_zero, pk_mul, asr_inb, bd_some, bw_some, bx_inl, bx_inr, bh_inl, bh_inr, b2_eq0, b2_eq1, asr_zok, nz_nI, h.1, wf_n K.w, m_isP wV, m_sz]
      rw [if_neg (by omega)]
      cases hq : ptd σ.1 k with
      | false =>
        rw [hq, if_neg (by decide)] at hK
        rw [if_pos rfl]; exact hK
      | true =>
        rw [hq, if_pos rfl] at hK
        rw [if_neg (by decide)]; exact hK
    · rintro Kk y0 Vk ⟨rfl, rfl⟩
      unfold d_X5_meanSize_4b d_X5_meanSize_54
      rw [m_paintedMany wV, h.1, wf_n K.w]
      have e0 : (nI (gS σ.1) = (0 : Int32)) = (gS σ.1 = 0) := propext (nI_eq (b := 0) (by omega) (by omega))
      rw [if_pos ((nI_leI (by omega) (by omega)).mpr (Nat.le_refl _))]
      simp only [bd_some, e0]
      by_cases hn : gS σ.1 = 0
      · rw [if_pos hn, if_pos hn, m_failL1, bw_some, if_neg (by decide)]
      · rw [if_neg hn, if_neg hn, m_failL0, bw_some, if_pos rfl]
        have h2 := h.c7 (nI 0)
        have w2 : WF (up2 Vk 109 7 (nI 0) 110) := by rw [h2.1]; exact K.w
        rw [m_paintedMany w2, bd_some, h2.1]
        have hok := mn_ok K (by omega)
        unfold mnV smS at hok
        rw [asr_t hok]
        rfl
  rw [e]
  by_cases hn : gS σ.1 = 0
  · rw [if_pos hn, if_pos hn]
    exact ⟨_, _, rfl, h.c7 _, fr7 _ _ _, by rw [up2_at, upd_eq], fun q => absurd hn q⟩
  · rw [if_neg hn, if_neg hn]
    exact ⟨_, _, rfl, h.c7 _, fr7 _ _ _, by rw [up2_at, upd_eq], fun _ => rfl⟩
end
