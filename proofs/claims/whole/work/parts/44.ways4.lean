/-! PURE ROWS: ways, waysFor, fewest -/
def wsh (g : Row) (c : Nat) : Nat := (wi g c).toNatClampNeg
def wfor (g : Row) (c : Nat) : Nat :=
  if ptd g c = true then (if ful g c = true then wys g (gU g) else 0)
  else if wsh g c < gU g ∧ bl g c (wsh g c) (hol g) = false then wc g (gU g) (fun d => lft g d && !decide (d = c)) 7 0 (stH (hol g) (wsh g c) c) else 0
def nd (g : Row) : Nat → Nat
  | 0 => 1
  | k + 1 => max (nd g k) (if ptd g k = true then (hu g k).toNatClampNeg + 1 else 0)
def fwf (g : Row) : Nat → Nat → Option Nat
  | 0, _ => none
  | m + 1, u => if wys g u = 0 then fwf g m (u + 1) else some u
section
variable {V V' : VT} {σ : Sg} {g : Row} {E1 E2 : String} {u : Nat} {L : Nat → Bool} {H : HT}
theorem wys_lt (hu5 : u ≤ 5) : wys g u < 2 ^ 20 := Nat.lt_of_le_of_lt (wc_le 7 0 _ hu5) (by decide)
theorem HV0 (w : WF g) (V : VT) {h o : Nat} (hh : h < 5) (ho : o < gN g) : HV g V 0 h o = hol g h o := by
  unfold HV hol
  cases hp : ptd g o with
  | true => rw [if_pos rfl]
  | false =>
    rw [if_neg (by decide)]
    rw [ptd_f] at hp
    have : ¬ iM = nI h := fun q => (iM_ne' (by omega)).mp q
    rw [hp, decide_eq_false this, decide_eq_false (show ¬ o < 0 by omega)]; rfl
theorem m_ways0 (w : WF (V 110)) (hu5 : u ≤ 5) : ∃ V', d_X5_waysFrom (nI 0) (nI u) iM iM V = some (nI (wys (V 110) u), V') ∧ ∀ q, q ≠ 116 → V' q = V q := by
  have n7 := wf_n7 w
  obtain ⟨V', a1, a2, -⟩ := m_waysFrom (x3 := iM) (x4 := iM) (w := 7) (x := 0) w hu5 (fun c hc => by
    have h1 : ¬ nI c = iM := fun q => (iM_ne (by omega)).mp q
    have h2 : ¬ c = 7 := by omega
    simp [h1, h2]) (fun h => by omega) 7 0 12 V rfl (by omega) (Nat.zero_le _) rfl
  refine ⟨V', ?_, a2⟩
  unfold d_X5_waysFrom
  rw [a1, wm_past 7 0 7 0 _ (fun d _ hd => by have := lft_n hd; omega), wc_bl 7 0 (HV (V 110) V 0) (hol (V 110)) (Nat.le_refl _) (fun d h _ _ hh => bl_congr (fun o ho => HV0 w V (by omega) ho)) (fun d hd => lft_n hd)]
  rfl
theorem AJ.fr116 (h : AJ V σ) (hf : ∀ q, q ≠ 116 → V' q = V q) : AJ V' σ := by
  obtain ⟨h1, ⟨h2, h3⟩, h4, ⟨h5, h6⟩, ⟨h7, h8⟩, h9, h10, h11, h12⟩ := h
  have e := hf 109 (by omega)
  refine ⟨by rw [hf 110 (by omega)]; exact h1, ⟨by rw [e]; exact h2, fun k r q i hi => by rw [hf 111 (by omega)]; exact h3 k r q i hi⟩, ?_, ⟨by rw [e]; exact h5, fun i hi => by rw [hf 114 (by omega)]; exact h6 i hi⟩, ⟨by rw [e]; exact h7, fun i hi => by rw [hf 115 (by omega)]; exact h8 i hi⟩, by rw [e]; exact h9, by rw [e]; exact h10, by rw [e]; exact h11, by rw [e]; exact h12⟩
  unfold SM at h4 ⊢
  cases hs : σ.2.2.1 with
  | none => rw [hs] at h4; show V' 109 4 = _; rw [e]; exact h4
  | some r => rw [hs] at h4; exact ⟨by rw [e]; exact h4.1, fun i hi => by rw [hf 112 (by omega)]; exact h4.2 i hi⟩
theorem fr116 (hf : ∀ q, q ≠ 116 → V' q = V q) : FrM V V' := fun q hq => hf q (by omega)
theorem M_ways (h : AJ V σ) (K : OKs σ) : DM (d_X5_ways V) V (.inl (nI (wys σ.1 (gU σ.1))), σ) := by
  unfold d_X5_ways
  refine DM.pre h (nI 0) (fun V2 h2 hc e => ?_)
  have w2 : WF (V2 110) := by rw [h2.1]; exact K.w
  obtain ⟨V', a1, a2⟩ := m_ways0 (V := V2) w2 (wf_u5 K.w)
  rw [h2.1] at a1
  rw [h.1, wf_u K.w]
  simp only [↓jM_def, j_0, j_1, j_2, j_3, j_4, j_5, j_6, j_7, j_8, j_9, j_10, j_11, j_12, j_13, j_14, j_15, j_16, j_17, j_18, j_19, j_20, j_21, j_22, j_23, j_24, j_25, j_26, j_27, j_28, j_29, j_30, j_31, j_32, j_33, j_34, j_35, j_36, j_37, j_38, j_39, j_40, j_41, j_42, j_43, j_44, j_45, j_46, j_47, j_48, j_49, j_50, j_51, j_52, j_53, j_54, j_55, j_56, j_57, j_58, j_59, j_60, j_61, j_62, j_63, j_97, j_98, j_99, j_100, j_101, j_102, j_103, j_104, j_105, j_106, j_107, j_108, j_109, j_110, j_111, j_112, j_113, j_114, j_115, j_116, j_117, j_118, j_119, j_120, j_121, j_122, j_128, j_392, j_448]
  rw [e, a1, bw_some]
  exact DM.of rfl (h2.fr116 a2) (fr116 a2) (by rw [a2 109 (by omega)]; exact hc) (fun v' hv => by cases hv; rfl)
theorem wsh_of (w : WF g) {c : Nat} (hc : c < 7) (h : ¬ wi g c = iM) : wsh g c < 5 ∧ wi g c = nI (wsh g c) := by
  obtain ⟨k, k5, e⟩ := (wf_wi w c hc).resolve_left h
  have e1 : wsh g c = k := by unfold wsh; rw [e, nI_clamp (by omega)]
  rw [e1]
  exact ⟨k5, e⟩
theorem i_withWish (r : LR V 1 g) (w : WF g) {c : Nat} (hc : c < gN g) (hw : ¬ wi g c = iM) : ∃ V', d_X0_countWithWish (nI c) V = some (nI (wfor g c), V') ∧ ∀ q, q ≠ 103 → V' q = V q := by
  have n7 := wf_n7 w
  have u5 := wf_u5 w
  obtain ⟨x5, ex'⟩ := wsh_of w (show c < 7 by omega) hw
  unfold d_X0_countWithWish wfor
  simp (disch := omega) only [↓jM_def, j_0, j_1, j_2, j_3, j_4, j_5, j_6, j_7, j_8, j_9, j_10, j_11, j_12, j_13, j_14, j_15, j_16, j_17, j_18, j_19, j_20, j_21, j_22, j_23, j_24, j_25, j_26, j_27, j_28, j_29, j_30, j_31, j_32, j_33, j_34, j_35, j_36, j_37, j_38, j_39, j_40, j_41, j_42, j_43, j_44, j_45, j_46, j_47, j_48, j_49, j_50, j_51, j_52, j_53, j_54, j_55, j_56, j_57, j_58, j_59, j_60, j_61, j_62, j_63, j_97, j_98, j_99, j_100, j_101, j_102, j_103, j_104, j_105, j_106, j_107, j_108, j_109, j_110, j_111, j_112, j_113, j_114, j_115, j_116, j_117, j_118, j_119, j_120, j_121, j_122, j_128, j_392, j_448, nI_add, nI_leI, nI_ltI, nI_eq, nI_clamp, iM_le, iM_lt, iM_nle, iM_nlt, iM_ne, iM_ne', Nat.add_zero, pk_mul, asr_inb, bd_some, bw_some, bx_inl, bx_inr, bh_inl, bh_inr, b2_eq0, b2_eq1, asr_zok, nz_nI, i_isP r, lr_wi r, ex']
  cases hp : ptd g c with
  | true =>
    rw [if_neg (show ¬ true = false by decide), if_pos rfl]
    simp (disch := omega) only [asr_inb, bd_some, bw_some, bx_inl, bx_inr, bh_inl, bh_inr, b2_eq0, b2_eq1, asr_zok, nz_nI, i_isFul r, lr_u r w]
    cases hf : ful g c with
    | false =>
      rw [if_pos rfl, if_neg (by decide)]
      exact ⟨V, rfl, fun _ _ => rfl⟩
    | true =>
      rw [if_neg (by decide), if_pos rfl]
      obtain ⟨V', a1, a2⟩ := i_count r w u5
      rw [a1, bw_some]
      exact ⟨V', rfl, a2⟩
  | false =>
    rw [if_pos (show false = false from rfl), if_neg (show ¬ false = true by decide)]
    obtain ⟨V2, a1, a2, a3⟩ := i_noteHolders r w
    have r2 : LR V2 1 g := lr_frame (fun q _ _ => a2 q (by omega)) r
    obtain ⟨m, m1, m2, m3⟩ := a3 (wsh g c) x5
    have hlt : m &&& nb g c < 2 ^ 7 := and_lt m1
    have hand2 : nI m &&& nI (nb g c) = nI (m &&& nb g c) := nI_and _ _
    rw [a1, bd_some]
    simp (disch := omega) only [↓jM_def, j_0, j_1, j_2, j_3, j_4, j_5, j_6, j_7, j_8, j_9, j_10, j_11, j_12, j_13, j_14, j_15, j_16, j_17, j_18, j_19, j_20, j_21, j_22, j_23, j_24, j_25, j_26, j_27, j_28, j_29, j_30, j_31, j_32, j_33, j_34, j_35, j_36, j_37, j_38, j_39, j_40, j_41, j_42, j_43, j_44, j_45, j_46, j_47, j_48, j_49, j_50, j_51, j_52, j_53, j_54, j_55, j_56, j_57, j_58, j_59, j_60, j_61, j_62, j_63, j_97, j_98, j_99, j_100, j_101, j_102, j_103, j_104, j_105, j_106, j_107, j_108, j_109, j_110, j_111, j_112, j_113, j_114, j_115, j_116, j_117, j_118, j_119, j_120, j_121, j_122, j_128, j_392, j_448, nI_add, nI_leI, nI_ltI, nI_eq, nI_clamp, iM_le, iM_lt, iM_nle, iM_nlt, iM_ne, iM_ne', Nat.add_zero, pk_mul, asr_inb, bd_some, bw_some, bx_inl, bx_inr, bh_inl, bh_inr, b2_eq0, b2_eq1, asr_zok, nz_nI, lr_u r2 w, m2, lr_nb r2 w, hand2, bl_mask w m1 (show c < 7 by omega) m3, set_nI]
    rw [if_neg (show ¬ wsh g c < 0 by omega)]
    by_cases h1 : gU g ≤ wsh g c
    · rw [if_pos h1, if_neg (fun z => by have := z.1; omega)]
      exact ⟨V2, rfl, a2⟩
    · rw [if_neg h1]
      cases hb : bl g c (wsh g c) (hol g) with
      | true =>
        rw [if_neg (by decide), if_neg (fun z => by cases z.2)]
        exact ⟨V2, rfl, a2⟩
      | false =>
        rw [if_pos (show false = false from rfl), if_pos ⟨by omega, rfl⟩]
        have r3 : LR (up2 V2 103 (wsh g c) (nI (m ||| 2 ^ c))) 1 g := lr_frame (fun q _ _ => up2_ne (by omega)) r2
        have hH3 := a3.set (show c < 7 by omega) m1 m3 (h := wsh g c)
        have hl3 : opn g &&& bnot (2 ^ c) < 2 ^ 7 := and_lt (opn_lt w)
        have hlb : ∀ i, i < 7 → (opn g &&& bnot (2 ^ c)).testBit i = (lft g i && !decide (i = c)) := fun i hi => by
          rw [Nat.testBit_and, opn_bit, bnot_bit _ (by omega), p2_bit]
          have : decide (c = i) = decide (i = c) := by apply decide_eq_decide.mpr; exact eq_comm
          rw [this]
        have hc9 := i_countFrom (u := gU g) (L := fun i => lft g i && !decide (i = c)) w u5 hl3 hlb (fun d hd => lft_n (by simp at hd; exact hd.1)) 7 0 12 _ _ rfl (by omega) r3 hH3 (fun h o _ hl hh => by
          simp only [Bool.and_eq_true, Bool.not_eq_true', decide_eq_false_iff_not] at hl
          unfold stH
          rw [hol_lft hh hl.1, decide_eq_false hl.2]; simp)
        rw [i_unpainted r3 w, bd_some, clr_nI (by omega)]
        unfold d_X0_countFrom
        rw [hc9, bw_some]
        exact ⟨_, rfl, fun q hq => by rw [up2_ne hq, a2 q hq]⟩
def spWaysFor (σ : Sg) (x : Int32) : (Int32 ⊕ Nat) × Sg :=
  if isC σ.1 x = true then (if wi σ.1 (nt x) = iM then (.inr 2, σ) else (.inl (nI (wfor σ.1 (nt x))), σ)) else (.inr 1, σ)
theorem I_waysFor (h : AI V σ) (K : OKs σ) (x : Int32) : DI eIO eNS (d_X4_waysFor x V) V (spWaysFor σ x) := by
  have n7 := wf_n7 K.w
  unfold d_X4_waysFor spWaysFor
  cases hx : isC σ.1 x with
  | false =>
    rw [i_stopC_f h K hx, bx_inr, if_neg (by decide)]
    exact DI.err h (Or.inr trivial)
  | true =>
    rw [i_stopC_t h K hx, bx_inl, if_pos rfl]
    obtain ⟨a, ha, rfl⟩ := isC_of K.w hx
    rw [nt_nI (a := a) (by omega)]
    simp (disch := omega) only [asr_inb, nI_clamp, lr_wi h.1, ↓jM_def]
    by_cases hw : wi σ.1 a = iM
    · rw [if_pos hw, if_pos hw]
      exact DI.err2 h
    · rw [if_neg hw, if_neg hw]
      obtain ⟨V', a1, a2⟩ := i_withWish h.1 K.w ha hw
      rw [a1, bw_some]
      exact ⟨V', rfl, h.frG (fun q hq => a2 q (by omega)) (by rw [a2 105 (by omega)]), fun q hq => a2 q (by omega)⟩
theorem M_waysFor (h : AJ V σ) (K : OKs σ) (x : Int32) : DM (d_X5_waysFor x V) V (spWaysFor σ x) := by
  have n7 := wf_n7 K.w
  have u5 := wf_u5 K.w
  have wV : WF (V 110) := by rw [h.1]; exact K.w
  unfold d_X5_waysFor spWaysFor
  simp only [m_isCountry wV, bd_some, ↓jM_def, j_0, j_1, j_2, j_3, j_4, j_5, j_6, j_7, j_8, j_9, j_10, j_11, j_12, j_13, j_14, j_15, j_16, j_17, j_18, j_19, j_20, j_21, j_22, j_23, j_24, j_25, j_26, j_27, j_28, j_29, j_30, j_31, j_32, j_33, j_34, j_35, j_36, j_37, j_38, j_39, j_40, j_41, j_42, j_43, j_44, j_45, j_46, j_47, j_48, j_49, j_50, j_51, j_52, j_53, j_54, j_55, j_56, j_57, j_58, j_59, j_60, j_61, j_62, j_63, j_97, j_98, j_99, j_100, j_101, j_102, j_103, j_104, j_105, j_106, j_107, j_108, j_109, j_110, j_111, j_112, j_113, j_114, j_115, j_116, j_117, j_118, j_119, j_120, j_121, j_122, j_128, j_392, j_448, b2_eq0, h.1]
  cases hx : isC σ.1 x with
  | false =>
    rw [if_pos rfl, if_neg (by decide)]
    unfold d_X5_waysFor_27
    simp only [↓iM_def, i_0, i_1, i_2, i_3, i_4, i_5, i_6, i_7, i_8, i_9, i_10, i_12, i_17, i_29, i_31, i_33, i_36, i_37, i_40, i_41, i_42, i_43, i_44, i_45, i_47, i_48, i_50, i_53, i_55, i_56, i_57, i_58, i_59, i_60, i_61, i_98, i_99, i_100, i_102, i_104, i_106, i_110, i_112, i_119, i_120, i_128, i_392, i_448, m_fail0, m_fail1, m_fail2, e10, eq_self, if_true, if_false, bw_some]
    exact DM.err h _
  | true =>
    rw [if_neg (by decide), if_pos rfl]
    obtain ⟨a, ha, rfl⟩ := isC_of K.w hx
    rw [nt_nI (a := a) (by omega), m_wi (by omega), bd_some, h.1]
    by_cases hw : wi σ.1 a = iM
    · rw [if_pos hw, hw, if_neg (by decide +kernel)]
      unfold d_X5_waysFor_27
      simp only [↓iM_def, i_0, i_1, i_2, i_3, i_4, i_5, i_6, i_7, i_8, i_9, i_10, i_12, i_17, i_29, i_31, i_33, i_36, i_37, i_40, i_41, i_42, i_43, i_44, i_45, i_47, i_48, i_50, i_53, i_55, i_56, i_57, i_58, i_59, i_60, i_61, i_98, i_99, i_100, i_102, i_104, i_106, i_110, i_112, i_119, i_120, i_128, i_392, i_448, m_fail0, m_fail1, m_fail2, e10, eq_self, if_true, if_false, bw_some]
      exact DM.err h _
    · obtain ⟨x5, ex'⟩ := wsh_of K.w (show a < 7 by omega) hw
      rw [if_neg hw, ex', if_pos ((nI_leI (by omega) (by omega)).mpr (Nat.zero_le _))]
      unfold d_X5_waysFor_27
      simp only [↓iM_def, i_0, i_1, i_2, i_3, i_4, i_5, i_6, i_7, i_8, i_9, i_10, i_12, i_17, i_29, i_31, i_33, i_36, i_37, i_40, i_41, i_42, i_43, i_44, i_45, i_47, i_48, i_50, i_53, i_55, i_56, i_57, i_58, i_59, i_60, i_61, i_98, i_99, i_100, i_102, i_104, i_106, i_110, i_112, i_119, i_120, i_128, i_392, i_448, m_fail0, m_fail1, m_fail2, e10, eq_self, if_true, if_false, bw_some]
      refine DM.pre h (nI 0) (fun V2 h2 hc e => ?_)
      rw [e]
      have w2 : WF (V2 110) := by rw [h2.1]; exact K.w
      have fin : ∀ (V' : VT) (k : Nat), (∀ q, q ≠ 116 → V' q = V2 q) → wfor σ.1 a = k → DM (some (nI k, V')) V2 (.inl (nI (wfor σ.1 a)), σ) := fun V' k hf e => DM.of rfl (h2.fr116 hf) (fr116 hf) (by rw [hf 109 (by omega)]; exact hc) (fun v' hv => by cases hv; rw [e])
      rw [m_isP w2 (by omega), bd_some, h2.1, wf_u K.w, m_wi (by omega), bd_some, m_isFul w2 (by omega), bd_some, h2.1]
      simp only [b2_eq0]
      cases hp : ptd σ.1 a with
      | true =>
        rw [if_neg (show ¬ true = false by decide)]
        cases hf : ful σ.1 a with
        | false =>
          rw [if_pos rfl]
          exact fin V2 0 (fun _ _ => rfl) (by unfold wfor; rw [hp, hf, if_pos rfl, if_neg (by decide)])
        | true =>
          rw [if_neg (by decide)]
          obtain ⟨V', a1, a2⟩ := m_ways0 (V := V2) w2 u5
          rw [h2.1] at a1
          rw [a1, bw_some]
          exact fin V' _ a2 (by unfold wfor; rw [hp, hf, if_pos rfl, if_pos rfl])
      | false =>
        rw [if_pos (show false = false from rfl), ex']
        obtain ⟨V', a1, a2, -⟩ := m_waysFrom (u := gU σ.1) (x3 := nI a) (x4 := nI (wsh σ.1 a)) (w := a) (x := wsh σ.1 a) K.w u5 (fun c hc => propext (nI_eq (by omega) (by omega))) (fun _ h hh => propext (nI_eq (by omega) (by omega))) 7 0 12 V2 rfl (by omega) (Nat.zero_le _) h2.1
        unfold d_X5_waysFrom
        rw [a1, bw_some]
        refine fin V' _ a2 ?_
        have hl : lft σ.1 a = true := by unfold lft; rw [hp, decide_eq_true ha]; rfl
        rw [wm_bl a (wsh σ.1 a) 7 0 (HV σ.1 V2 0) (hol σ.1) (fun d h _ _ hh => bl_congr (fun o ho => HV0 K.w V2 (by omega) ho)) (fun d hd => lft_n hd), wm_wc K.w ha hl (fun d hd => lft_n hd) (L' := fun d => lft σ.1 d && !decide (d = a)) (fun d => rfl) 7 0 _ rfl (Nat.zero_le _)]
        unfold wfor
        rw [hp, if_neg (by decide)]
/-! fewest -/
theorem nd_s (g : Row) (k : Nat) : nd g (k + 1) = max (nd g k) (if ptd g k = true then (hu g k).toNatClampNeg + 1 else 0) := rfl
theorem nd_rng (w : WF g) : ∀ k, k ≤ 7 → 1 ≤ nd g k ∧ nd g k ≤ 5
  | 0, _ => ⟨Nat.le_refl _, by show 1 ≤ 5; omega⟩
  | k + 1, hk => by
    obtain ⟨h1, h2⟩ := nd_rng w k (by omega)
    rw [nd_s]
    by_cases hp : ptd g k = true
    · obtain ⟨x, x5, e⟩ := ptd_h w (show k < 7 by omega) hp
      rw [if_pos hp, e, nI_clamp (by omega)]
      omega
    · rw [if_neg hp]
      omega
theorem nd_step (w : WF g) {k : Nat} (hk : k < 7) : hu g k + nI 1 = nI (if ptd g k = true then (hu g k).toNatClampNeg + 1 else 0) := by
  by_cases hp : ptd g k = true
  · obtain ⟨x, x5, e⟩ := ptd_h w hk hp
    rw [if_pos hp, e, nI_clamp (by omega), nI_add]
  · rw [if_neg hp]
    rw [ptd_t, Decidable.not_not] at hp
    rw [hp]
    exact iM_1
theorem i_needed (r : LR V 1 g) (w : WF g) : d_X1_countHuesNeeded V = some (nI (nd g (gN g))) := by
  have n7 := wf_n7 w
  unfold d_X1_countHuesNeeded d_X1_countHuesNeeded_4
  refine lo2_inv (gN g) (fun k y0 => y0 = nI (nd g k)) ?_ ?_ FU (show gN g < 1000 by omega) _ rfl
  · rintro K k y0 hk rfl hK
    have hK := hK _ rfl
    have hr := nd_rng w k (by omega)
    have hr2 := nd_rng w (k + 1) (by omega)
    have es := nd_s g k
    have en := nd_step w (show k < 7 by omega)
    generalize (if ptd g k = true then (hu g k).toNatClampNeg + 1 else 0) = z at es en
    unfold d_X1_countHuesNeeded_4b d_J9_max_7cf53
    simp (disch := omega) only [↓iM_def, i_0, i_1, i_2, i_3, i_4, i_5, i_6, i_7, i_8, i_9, i_10, i_12, i_17, i_29, i_31, i_33, i_36, i_37, i_40, i_41, i_42, i_43, i_44, i_45, i_47, i_48, i_50, i_53, i_55, i_56, i_57, i_58, i_59, i_60, i_61, i_98, i_99, i_100, i_102, i_104, i_106, i_110, i_112, i_119, i_120, i_128, i_392, i_448, nI_add, nI_leI, nI_ltI, nI_eq, nI_clamp, iM_le, iM_lt, iM_nle, iM_nlt, iM_ne, iM_ne', Nat.add_zero, pk_mul, asr_inb, bd_some, bw_some, bx_inl, bx_inr, bh_inl, bh_inr, b2_eq0, b2_eq1, asr_zok, nz_nI, lr_n r w, lr_hu r, en]
    rw [if_neg (by omega)]
    by_cases q : nd g k < z
    · rw [if_pos q, bd_some]
      rw [es, Nat.max_eq_right (by omega)] at hK; exact hK
    · rw [if_neg q, bd_some]
      rw [es, Nat.max_eq_left (by omega)] at hK; exact hK
  · rintro K y0 rfl
    unfold d_X1_countHuesNeeded_4b
    simp (disch := omega) only [↓iM_def, i_0, i_1, i_2, i_3, i_4, i_5, i_6, i_7, i_8, i_9, i_10, i_12, i_17, i_29, i_31, i_33, i_36, i_37, i_40, i_41, i_42, i_43, i_44, i_45, i_47, i_48, i_50, i_53, i_55, i_56, i_57, i_58, i_59, i_60, i_61, i_98, i_99, i_100, i_102, i_104, i_106, i_110, i_112, i_119, i_120, i_128, i_392, i_448, nI_add, nI_leI, nI_ltI, nI_eq, nI_clamp, iM_le, iM_lt, iM_nle, iM_nlt, iM_ne, iM_ne', Nat.add_zero, pk_mul, asr_inb, bd_some, bw_some, bx_inl, bx_inr, bh_inl, bh_inr, b2_eq0, b2_eq1, asr_zok, nz_nI, lr_n r w, Nat.le_refl, if_true]
def spFewest (σ : Sg) : (Int32 ⊕ Nat) × Sg := match fwf σ.1 (6 - nd σ.1 (gN σ.1)) (nd σ.1 (gN σ.1)) with
  | some u => (.inl (nI u), σ)
  | none => (.inr 1, σ)
theorem I_fewest (h : AI V σ) (K : OKs σ) : DI eNS E2 (d_X4_fewest V) V (spFewest σ) := by
  have n7 := wf_n7 K.w
  obtain ⟨r1, r2⟩ := nd_rng K.w (gN σ.1) n7
  have key : ∀ (m fuel u : Nat) (Vk : VT), u + m = 6 → m < fuel → (∀ q, q ≠ 103 → Vk q = V q) → DI eNS E2 (lo1W d_X4_fewest_8b fuel (nI u) Vk) V (match fwf σ.1 m u with | some u => (.inl (nI u), σ) | none => (.inr 1, σ)) := by
    intro m
    induction m with
    | zero =>
      intro fuel u Vk hu hf hk
      obtain ⟨f, rfl⟩ : ∃ f, fuel = f + 1 := ⟨fuel - 1, by omega⟩
      show DI eNS E2 (d_X4_fewest_8b _ _ _) V _
      generalize lo1W d_X4_fewest_8b f = KK
      unfold d_X4_fewest_8b
      simp (disch := omega) only [↓jM_def, j_0, j_1, j_2, j_3, j_4, j_5, j_6, j_7, j_8, j_9, j_10, j_11, j_12, j_13, j_14, j_15, j_16, j_17, j_18, j_19, j_20, j_21, j_22, j_23, j_24, j_25, j_26, j_27, j_28, j_29, j_30, j_31, j_32, j_33, j_34, j_35, j_36, j_37, j_38, j_39, j_40, j_41, j_42, j_43, j_44, j_45, j_46, j_47, j_48, j_49, j_50, j_51, j_52, j_53, j_54, j_55, j_56, j_57, j_58, j_59, j_60, j_61, j_62, j_63, j_97, j_98, j_99, j_100, j_101, j_102, j_103, j_104, j_105, j_106, j_107, j_108, j_109, j_110, j_111, j_112, j_113, j_114, j_115, j_116, j_117, j_118, j_119, j_120, j_121, j_122, j_128, j_392, j_448, nI_add, nI_leI, nI_ltI, nI_eq, nI_clamp, iM_le, iM_lt, iM_nle, iM_nlt, iM_ne, iM_ne', Nat.add_zero, pk_mul]
      rw [if_pos (by omega)]
      exact ⟨Vk, rfl, h.frG (fun q hq => hk q (by omega)) (by rw [hk 105 (by omega)]), fun q hq => hk q (by omega)⟩
    | succ m ih =>
      intro fuel u Vk hu hf hk
      obtain ⟨f, rfl⟩ : ∃ f, fuel = f + 1 := ⟨fuel - 1, by omega⟩
      have rk : LR Vk 1 σ.1 := lr_frame (fun q _ _ => hk q (by omega)) h.1
      obtain ⟨V3, a1, a2⟩ := i_count (u := u) rk K.w (by omega)
      have hk3 : ∀ q, q ≠ 103 → V3 q = V q := fun q hq => (a2 q hq).trans (hk q hq)
      have hlt := wys_lt (g := σ.1) (u := u) (by omega)
      have ihf := ih f (u + 1) V3 (by omega) (by omega) hk3
      show DI eNS E2 (d_X4_fewest_8b (lo1W d_X4_fewest_8b f) _ _) V (match (if wys σ.1 u = 0 then fwf σ.1 m (u + 1) else some u) with | some u => (.inl (nI u), σ) | none => (.inr 1, σ))
      generalize lo1W d_X4_fewest_8b f = KK at ihf
      unfold d_X4_fewest_8b
      simp (disch := omega) only [↓jM_def, j_0, j_1, j_2, j_3, j_4, j_5, j_6, j_7, j_8, j_9, j_10, j_11, j_12, j_13, j_14, j_15, j_16, j_17, j_18, j_19, j_20, j_21, j_22, j_23, j_24, j_25, j_26, j_27, j_28, j_29, j_30, j_31, j_32, j_33, j_34, j_35, j_36, j_37, j_38, j_39, j_40, j_41, j_42, j_43, j_44, j_45, j_46, j_47, j_48, j_49, j_50, j_51, j_52, j_53, j_54, j_55, j_56, j_57, j_58, j_59, j_60, j_61, j_62, j_63, j_97, j_98, j_99, j_100, j_101, j_102, j_103, j_104, j_105, j_106, j_107, j_108, j_109, j_110, j_111, j_112, j_113, j_114, j_115, j_116, j_117, j_118, j_119, j_120, j_121, j_122, j_128, j_392, j_448, nI_add, nI_leI, nI_ltI, nI_eq, nI_clamp, iM_le, iM_lt, iM_nle, iM_nlt, iM_ne, iM_ne', Nat.add_zero, pk_mul, a1, bw_some]
      rw [if_neg (by omega)]
      by_cases hz : wys σ.1 u = 0
      · rw [if_pos (by omega), if_pos hz]
        exact ihf
      · rw [if_neg (by omega), if_neg hz]
        exact ⟨V3, rfl, h.frG (fun q hq => hk3 q (by omega)) (by rw [hk3 105 (by omega)]), fun q hq => hk3 q (by omega)⟩
  unfold d_X4_fewest d_X4_fewest_8 spFewest
  rw [i_needed h.1 K.w, bd_some]
  exact key _ FU _ V (by omega) (show _ < 1000 by omega) (fun _ _ => rfl)
theorem M_fewest (h : AJ V σ) (K : OKs σ) : DM (d_X5_fewest V) V (spFewest σ) := by
  have n7 := wf_n7 K.w
  have wV : WF (V 110) := by rw [h.1]; exact K.w
  obtain ⟨r1, r2⟩ := nd_rng K.w (gN σ.1) n7
  have key : ∀ (m fuel u : Nat) (Vk : VT), u + m = 6 → m < fuel → (∀ q, q ≠ 116 → Vk q = V q) → DM (lo1W d_X5_fewest_33b fuel (nI u) Vk) V (match fwf σ.1 m u with | some u => (.inl (nI u), σ) | none => (.inr 1, σ)) := by
    intro m
    induction m with
    | zero =>
      intro fuel u Vk hu hf hk
      obtain ⟨f, rfl⟩ : ∃ f, fuel = f + 1 := ⟨fuel - 1, by omega⟩
      show DM (d_X5_fewest_33b _ _ _) V _
      generalize lo1W d_X5_fewest_33b f = KK
      unfold d_X5_fewest_33b d_X5_fewest_55 d_X5_fewest_66
      simp (disch := omega) only [↓jM_def, j_0, j_1, j_2, j_3, j_4, j_5, j_6, j_7, j_8, j_9, j_10, j_11, j_12, j_13, j_14, j_15, j_16, j_17, j_18, j_19, j_20, j_21, j_22, j_23, j_24, j_25, j_26, j_27, j_28, j_29, j_30, j_31, j_32, j_33, j_34, j_35, j_36, j_37, j_38, j_39, j_40, j_41, j_42, j_43, j_44, j_45, j_46, j_47, j_48, j_49, j_50, j_51, j_52, j_53, j_54, j_55, j_56, j_57, j_58, j_59, j_60, j_61, j_62, j_63, j_97, j_98, j_99, j_100, j_101, j_102, j_103, j_104, j_105, j_106, j_107, j_108, j_109, j_110, j_111, j_112, j_113, j_114, j_115, j_116, j_117, j_118, j_119, j_120, j_121, j_122, j_128, j_392, j_448, nI_add, nI_leI, nI_ltI, nI_eq, nI_clamp, iM_le, iM_lt, iM_nle, iM_nlt, iM_ne, iM_ne', Nat.add_zero, pk_mul]
      rw [if_pos (by omega), if_neg (by omega)]
      simp only [m_fail1, bw_some, e10, if_false]
      exact DM.re (fr116 hk) (DM.err (h.fr116 hk) _)
    | succ m ih =>
      intro fuel u Vk hu hf hk
      obtain ⟨f, rfl⟩ : ∃ f, fuel = f + 1 := ⟨fuel - 1, by omega⟩
      have e110 : Vk 110 = σ.1 := by rw [hk 110 (by omega)]; exact h.1
      have wk : WF (Vk 110) := by rw [e110]; exact K.w
      obtain ⟨V3, a1, a2⟩ := m_ways0 (V := Vk) (u := u) wk (by omega)
      rw [e110] at a1
      have hk3 : ∀ q, q ≠ 116 → V3 q = V q := fun q hq => (a2 q hq).trans (hk q hq)
      have hlt := wys_lt (g := σ.1) (u := u) (by omega)
      have ihf := ih f (u + 1) V3 (by omega) (by omega) hk3
      show DM (d_X5_fewest_33b (lo1W d_X5_fewest_33b f) _ _) V (match (if wys σ.1 u = 0 then fwf σ.1 m (u + 1) else some u) with | some u => (.inl (nI u), σ) | none => (.inr 1, σ))
      generalize lo1W d_X5_fewest_33b f = KK at ihf
      unfold d_X5_fewest_33b d_X5_fewest_55 d_X5_fewest_66
      simp (disch := omega) only [↓jM_def, j_0, j_1, j_2, j_3, j_4, j_5, j_6, j_7, j_8, j_9, j_10, j_11, j_12, j_13, j_14, j_15, j_16, j_17, j_18, j_19, j_20, j_21, j_22, j_23, j_24, j_25, j_26, j_27, j_28, j_29, j_30, j_31, j_32, j_33, j_34, j_35, j_36, j_37, j_38, j_39, j_40, j_41, j_42, j_43, j_44, j_45, j_46, j_47, j_48, j_49, j_50, j_51, j_52, j_53, j_54, j_55, j_56, j_57, j_58, j_59, j_60, j_61, j_62, j_63, j_97, j_98, j_99, j_100, j_101, j_102, j_103, j_104, j_105, j_106, j_107, j_108, j_109, j_110, j_111, j_112, j_113, j_114, j_115, j_116, j_117, j_118, j_119, j_120, j_121, j_122, j_128, j_392, j_448, nI_add, nI_leI, nI_ltI, nI_eq, nI_clamp, iM_le, iM_lt, iM_nle, iM_nlt, iM_ne, iM_ne', Nat.add_zero, pk_mul, a1, bw_some]
      rw [if_neg (by omega)]
      by_cases hz : wys σ.1 u = 0
      · rw [if_pos hz, if_pos hz]
        exact ihf
      · rw [if_neg hz, if_neg hz, if_pos (by omega)]
        simp only [m_fail0, bw_some, if_true]
        exact DM.re (fr116 hk3) (DM.of rfl ((h.fr116 hk3).c7 _) (fr7 _ _ _) (by rw [up2_at, upd_eq]; rfl) (fun v' hv => by cases hv; rfl))
  unfold d_X5_fewest d_X5_fewest_4 spFewest
  have e4 : lo2W d_X5_fewest_4b FU (nI 1) (nI 0) V = d_X5_fewest_33 (nI (nd σ.1 (gN σ.1))) V := by
    refine lo2W_inv (gN σ.1) (fun k y0 Vk => Vk = V ∧ y0 = nI (nd σ.1 k)) ?_ ?_ FU (show gN σ.1 < 1000 by omega) _ _ ⟨rfl, rfl⟩
    · rintro Kk k y0 Vk hk ⟨rfl, rfl⟩ hK
      have hK := hK _ _ ⟨rfl, rfl⟩
      have hr := nd_rng K.w k (by omega)
      have hr2 := nd_rng K.w (k + 1) (by omega)
      have es := nd_s σ.1 k
      have en := nd_step K.w (show k < 7 by omega)
      generalize (if ptd σ.1 k = true then (hu σ.1 k).toNatClampNeg + 1 else 0) = z at es en
      unfold d_X5_fewest_4b d_X5_more
      simp (disch := omega) only [↓jM_def, j_0, j_1, j_2, j_3, j_4, j_5, j_6, j_7, j_8, j_9, j_10, j_11, j_12, j_13, j_14, j_15, j_16, j_17, j_18, j_19, j_20, j_21, j_22, j_23, j_24, j_25, j_26, j_27, j_28, j_29, j_30, j_31, j_32, j_33, j_34, j_35, j_36, j_37, j_38, j_39, j_40, j_41, j_42, j_43, j_44, j_45, j_46, j_47, j_48, j_49, j_50, j_51, j_52, j_53, j_54, j_55, j_56, j_57, j_58, j_59, j_60, j_61, j_62, j_63, j_97, j_98, j_99, j_100, j_101, j_102, j_103, j_104, j_105, j_106, j_107, j_108, j_109, j_110, j_111, j_112, j_113, j_114, j_115, j_116, j_117, j_118, j_119, j_120, j_121, j_122, j_128, j_392, j_448, nI_add, nI_leI, nI_ltI, nI_eq, nI_clamp, iM_le, iM_lt, iM_nle, iM_nlt, iM_ne, iM_ne', Nat.add_zero, pk_mul, asr_inb, bd_some, bw_some, bx_inl, bx_inr, bh_inl, bh_inr, b2_eq0, b2_eq1, asr_zok, nz_nI, h.1, wf_n K.w, m_hu, en]
      rw [if_neg (by omega)]
      by_cases q : nd σ.1 k ≤ z
      · rw [if_pos q, bd_some]
        rw [es, Nat.max_eq_right (by omega)] at hK; exact hK
      · rw [if_neg q, bd_some]
        rw [es, Nat.max_eq_left (by omega)] at hK; exact hK
    · rintro Kk y0 Vk ⟨rfl, rfl⟩
      unfold d_X5_fewest_4b
      simp (disch := omega) only [nI_add, nI_leI, nI_ltI, nI_eq, nI_clamp, iM_le, iM_lt, iM_nle, iM_nlt, iM_ne, iM_ne', Nat.add_zero, pk_mul, h.1, wf_n K.w, Nat.le_refl, if_true]
  have e4' : lo2W d_X5_fewest_4b FU (1 : Int32) (0 : Int32) V = d_X5_fewest_33 (nI (nd σ.1 (gN σ.1))) V := e4
  rw [e4']
  exact key _ FU _ V (by omega) (show _ < 1000 by omega) (fun _ _ => rfl)
end
