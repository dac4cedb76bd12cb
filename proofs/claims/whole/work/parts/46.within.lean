/-! PURE ROWS: calls within a text, by program out of the rows of 29 to 34 (wip/whole/pure/mkw.py) -/
def chw (σ : Sg) (g' : Row) : Sg := (g', σ.2)
def TMw (V : VT) (t : Nat × (Nat → Int32)) : Prop := V 109 11 = nI 0 ∧ ∀ i, i < 0 → V 114 i = t.2 i
def AJw (V : VT) (σ : Sg) : Prop := V 110 = σ.1 ∧ RM V σ.2.1 ∧ SM V σ.2.2.1 ∧ TMw V σ.2.2.2.1 ∧ NM V σ.2.2.2.2.1 ∧ V 109 12 = σ.2.2.2.2.2.1 ∧ V 109 8 = σ.2.2.2.2.2.2.1 ∧ V 109 9 = σ.2.2.2.2.2.2.2 ∧ V 109 6 = nI 1
def FrW (V V' : VT) : Prop := (∀ q, q ≠ 109 → q ≠ 110 → V' q = V q) ∧ ∀ i, i ≠ 7 → i ≠ 8 → i ≠ 9 → V' 109 i = V 109 i
theorem FrW.rf (V : VT) : FrW V V := ⟨fun _ _ _ => rfl, fun _ _ _ _ => rfl⟩
theorem FrW.tr {V V1 V2 : VT} (h : FrW V V1) (h2 : FrW V1 V2) : FrW V V2 := ⟨fun q a b => (h2.1 q a b).trans (h.1 q a b), fun i a b c => (h2.2 i a b c).trans (h.2 i a b c)⟩
theorem fr7w (V : VT) (i : Nat) (x : Int32) (hi : i = 7) : FrW V (up2 V 109 i x) := ⟨fun q h1 _ => up2_ne h1, fun j h1 _ _ => by rw [up2_at, upd_ne (by omega)]⟩
theorem fr110w (V : VT) (r : Row) : FrW V (setc V 110 r) := ⟨fun q _ h2 => setc_ne h2, fun i _ _ _ => by rw [setc_ne (by omega)]⟩
theorem fr789 (V : VT) (a b c : Int32) : FrW V (up2 (up2 (up2 V 109 7 a) 109 8 b) 109 9 c) := ⟨fun q h1 _ => by rw [up2_ne h1, up2_ne h1, up2_ne h1], fun j h1 h2 h3 => by rw [up2_at, upd_ne h3, up2_at, upd_ne h2, up2_at, upd_ne h1]⟩
def DMw (d : Option (Int32 × VT)) (V : VT) (sp : (Int32 ⊕ Nat) × Sg) : Prop := ∃ b V', d = some (b, V') ∧ AJw V' sp.2 ∧ FrW V V' ∧ V' 109 7 = cE sp.1 ∧ ∀ v, sp.1 = .inl v → b = v
theorem DMw.of {d : Option (Int32 × VT)} {V V' : VT} {o : Int32 ⊕ Nat} {σ : Sg} {b : Int32} (h1 : d = some (b, V')) (h2 : AJw V' σ) (h3 : FrW V V') (h4 : V' 109 7 = cE o) (h5 : ∀ v, o = .inl v → b = v) : DMw d V (o, σ) := ⟨b, V', h1, h2, h3, h4, h5⟩
theorem OKs.chw {σ : Sg} (K : OKs σ) {g' : Row} (h : WF g') : OKs (chw σ g') := ⟨h, K.2⟩
section
variable {V V' : VT} {σ : Sg} {g : Row} {E1 E2 : String}
theorem AJw.keep (h : AJw V σ) (K : OKs σ) : ∃ V', d_X5_keeps 110 V = some V' ∧ AJw V' (σ.1, σ.2) ∧ FrW V V' ∧ V' 109 7 = V 109 7 := by
  have h12 : V 109 6 = nI 1 := h.2.2.2.2.2.2.2.2
  have hn : ¬ V 109 6 = (0 : Int32) := by rw [h12]; decide +kernel
  refine ⟨V, ?_, h, FrW.rf V, rfl⟩
  unfold d_X5_keeps
  rw [if_neg hn]
theorem AJw.c7 (h : AJw V σ) (x : Int32) : AJw (up2 V 109 7 x) σ := by
  obtain ⟨h1, ⟨h2, h3⟩, h4, ⟨h5, h6⟩, ⟨h7, h8⟩, h9, h10, h11, h12⟩ := h
  have e : ∀ i, i ≠ 7 → up2 V 109 7 x 109 i = V 109 i := fun i hi => by rw [up2_at, upd_ne hi]
  have f : ∀ q, q ≠ 109 → up2 V 109 7 x q = V q := fun q hq => up2_ne hq
  refine ⟨by rw [f 110 (by omega)]; exact h1, ⟨by rw [e _ (by omega)]; exact h2, fun k r q i hi => by rw [f 111 (by omega)]; exact h3 k r q i hi⟩, ?_, ⟨by rw [e _ (by omega)]; exact h5, fun i hi => by rw [f 114 (by omega)]; exact h6 i hi⟩, ⟨by rw [e _ (by omega)]; exact h7, fun i hi => by rw [f 115 (by omega)]; exact h8 i hi⟩, by rw [e _ (by omega)]; exact h9, by rw [e _ (by omega)]; exact h10, by rw [e _ (by omega)]; exact h11, by rw [e _ (by omega)]; exact h12⟩
  unfold SM at h4 ⊢
  cases hs : σ.2.2.1 with
  | none => rw [hs] at h4; show up2 V 109 7 x 109 4 = _; rw [e _ (by omega)]; exact h4
  | some r => rw [hs] at h4; exact ⟨by rw [e _ (by omega)]; exact h4.1, fun i hi => by rw [f 112 (by omega)]; exact h4.2 i hi⟩
theorem AJw.refuse (h : AJw V σ) (p r d : Int32) : AJw (up2 (up2 (up2 V 109 7 p) 109 8 r) 109 9 d) (refu σ r d) := by
  obtain ⟨h1, ⟨h2, h3⟩, h4, ⟨h5, h6⟩, ⟨h7, h8⟩, h9, h10, h11, h12⟩ := h.c7 p
  have e : ∀ i, i ≠ 8 → i ≠ 9 → up2 (up2 (up2 V 109 7 p) 109 8 r) 109 9 d 109 i = up2 V 109 7 p 109 i := fun i hi hj => by rw [up2_at, upd_ne hj, up2_at, upd_ne hi]
  have f : ∀ q, q ≠ 109 → up2 (up2 (up2 V 109 7 p) 109 8 r) 109 9 d q = up2 V 109 7 p q := fun q hq => by rw [up2_ne hq, up2_ne hq]
  refine ⟨by rw [f 110 (by omega)]; exact h1, ⟨by rw [e _ (by omega) (by omega)]; exact h2, fun k r q i hi => by rw [f 111 (by omega)]; exact h3 k r q i hi⟩, ?_, ⟨by rw [e _ (by omega) (by omega)]; exact h5, fun i hi => by rw [f 114 (by omega)]; exact h6 i hi⟩, ⟨by rw [e _ (by omega) (by omega)]; exact h7, fun i hi => by rw [f 115 (by omega)]; exact h8 i hi⟩, by rw [e _ (by omega) (by omega)]; exact h9, by rw [up2_at, upd_ne (by omega), up2_at, upd_eq]; rfl, by rw [up2_at, upd_eq]; rfl, by rw [e _ (by omega) (by omega)]; exact h12⟩
  show SM _ σ.2.2.1
  unfold SM at h4 ⊢
  cases hs : σ.2.2.1 with
  | none => rw [hs] at h4; show up2 (up2 (up2 V 109 7 p) 109 8 r) 109 9 d 109 4 = _; rw [e _ (by omega) (by omega)]; exact h4
  | some r' => rw [hs] at h4; exact ⟨by rw [e _ (by omega) (by omega)]; exact h4.1, fun i hi => by rw [f 112 (by omega)]; exact h4.2 i hi⟩
theorem AJw.row (h : AJw V σ) {g' : Row} : AJw (setc V 110 g') (g', σ.2) := by
  obtain ⟨h1, ⟨h2, h3⟩, h4, ⟨h5, h6⟩, ⟨h7, h8⟩, h9, h10, h11, h12⟩ := h
  have f : ∀ q, q ≠ 110 → setc V 110 g' q = V q := fun q hq => setc_ne hq
  refine ⟨setc_at _ _ _, ⟨by rw [f _ (by omega)]; exact h2, fun k r q i hi => by rw [f 111 (by omega)]; exact h3 k r q i hi⟩, ?_, ⟨by rw [f _ (by omega)]; exact h5, fun i hi => by rw [f 114 (by omega)]; exact h6 i hi⟩, ⟨by rw [f _ (by omega)]; exact h7, fun i hi => by rw [f 115 (by omega)]; exact h8 i hi⟩, by rw [f _ (by omega)]; exact h9, by rw [f _ (by omega)]; exact h10, by rw [f _ (by omega)]; exact h11, by rw [f _ (by omega)]; exact h12⟩
  show SM _ σ.2.2.1
  unfold SM at h4 ⊢
  cases hs : σ.2.2.1 with
  | none => rw [hs] at h4; show setc V 110 g' 109 4 = _; rw [f _ (by omega)]; exact h4
  | some r => rw [hs] at h4; exact ⟨by rw [f _ (by omega)]; exact h4.1, fun i hi => by rw [f 112 (by omega)]; exact h4.2 i hi⟩
theorem DMw.err (h : AJw V σ) (b : Int32) {k : Nat} : DMw (some (b, up2 V 109 7 (nI k))) V (.inr k, σ) := ⟨b, _, rfl, h.c7 _, fr7w _ _ _ rfl, by rw [up2_at, upd_eq]; rfl, fun v hv => by cases hv⟩
theorem DMw.refuse (h : AJw V σ) (b r d : Int32) {k : Nat} : DMw (some (b, up2 (up2 (up2 V 109 7 (nI k)) 109 8 r) 109 9 d)) V (.inr k, refu σ r d) := ⟨b, _, rfl, h.refuse _ _ _, fr789 _ _ _ _, by rw [up2_at, upd_ne (by omega), up2_at, upd_ne (by omega), up2_at, upd_eq]; rfl, fun v hv => by cases hv⟩
theorem DMw.refuseS (h : AJw V σ) (b r d : Int32) {k : Nat} : DMw (some (b, setc V 109 (upd (upd (upd (V 109) 7 (nI k)) 8 r) 9 d))) V (.inr k, refu σ r d) := by
  have q := DMw.refuse h b r d (k := k)
  simp only [up2_setc, setc_at, setc_setc] at q
  exact q
theorem DMw.pre {d : Option (Int32 × VT)} {sp : (Int32 ⊕ Nat) × Sg} (h : AJw V σ) (x : Int32) (k : ∀ V2 : VT, AJw V2 σ → V2 109 7 = x → up2 V 109 7 x = V2 → DMw d V2 sp) : DMw d V sp := by
  obtain ⟨b, V', h1, h2, h3, h4, h5⟩ := k _ (h.c7 x) (by rw [up2_at, upd_eq]) rfl
  exact ⟨b, V', h1, h2, (fr7w V 7 x rfl).tr h3, h4, h5⟩
theorem DMw.re {d : Option (Int32 × VT)} {sp : (Int32 ⊕ Nat) × Sg} {V1 : VT} (hf : FrW V V1) (h : DMw d V1 sp) : DMw d V sp := by
  obtain ⟨b, V', h1, h2, h3, h4, h5⟩ := h
  exact ⟨b, V', h1, h2, hf.tr h3, h4, h5⟩
def spBorderw (σ : Sg) (x y : Int32) : (Int32 ⊕ Nat) × Sg :=
  if isC σ.1 x = true ∧ isC σ.1 y = true then
    if x = y then (.inr 2, refu σ (nI 5) x)
    else if tt σ.1 (nt x) (nt y) = true then (.inr 2, refu σ (nI 6) y)
    else if ptd σ.1 (nt x) = true ∧ hu σ.1 (nt x) = hu σ.1 (nt y) then (.inr 2, refu σ (nI 7) (hu σ.1 (nt x)))
    else (.inl (nI (bor (aJoin σ.1 (nt x) (nt y)))), chw σ (aJoin σ.1 (nt x) (nt y)))
  else (.inr 1, σ)
theorem K_borderw (K : OKs σ) (x y : Int32) : OKs (spBorderw σ x y).2 := by
  have n7 := wf_n7 K.w
  unfold spBorderw
  by_cases hc : isC σ.1 x = true ∧ isC σ.1 y = true
  · rw [if_pos hc]
    obtain ⟨a, ha, rfl⟩ := isC_of K.w hc.1
    obtain ⟨b, hb, rfl⟩ := isC_of K.w hc.2
    rw [show nt (nI a) = a from nI_clamp (by omega), show nt (nI b) = b from nI_clamp (by omega)]
    by_cases h1 : nI a = nI b
    · rw [if_pos h1]; exact K
    · rw [if_neg h1]
      by_cases h2 : tt σ.1 a b = true
      · rw [if_pos h2]; exact K
      · rw [if_neg h2]
        by_cases h3 : ptd σ.1 a = true ∧ hu σ.1 a = hu σ.1 b
        · rw [if_pos h3]; exact K
        · rw [if_neg h3]
          exact K.chw (wf_join K.w ha hb (fun q => h1 (by rw [q])) (fun hp q => h3 ⟨hp, q⟩))
  · rw [if_neg hc]; exact K
theorem M_borderw (h : AJw V σ) (K : OKs σ) (x y : Int32) : DMw (d_X5_border x y V) V (spBorderw σ x y) := by
  have n7 := wf_n7 K.w
  have wV : WF (V 110) := by rw [h.1]; exact K.w
  unfold d_X5_border d_X5_border_21 spBorderw
  simp only [m_isCountry wV, bd_some, i_0, b2_eq0, h.1]
  have bad : ¬ (isC σ.1 x = true ∧ isC σ.1 y = true) → DMw (d_X5_border_22 x y 1 V) V (if isC σ.1 x = true ∧ isC σ.1 y = true then (if x = y then (.inr 2, refu σ (nI 5) x) else if tt σ.1 (nt x) (nt y) = true then (.inr 2, refu σ (nI 6) y) else if ptd σ.1 (nt x) = true ∧ hu σ.1 (nt x) = hu σ.1 (nt y) then (.inr 2, refu σ (nI 7) (hu σ.1 (nt x))) else (.inl (nI (bor (aJoin σ.1 (nt x) (nt y)))), chw σ (aJoin σ.1 (nt x) (nt y)))) else (.inr 1, σ)) := by
    intro hn
    rw [if_neg hn]
    unfold d_X5_border_22
    simp only [↓iM_def, i_0, i_1, i_2, i_3, i_4, i_5, i_6, i_7, i_8, i_9, i_10, i_12, i_17, i_29, i_31, i_33, i_36, i_37, i_40, i_41, i_42, i_43, i_44, i_45, i_47, i_48, i_50, i_53, i_55, i_56, i_57, i_58, i_59, i_60, i_61, i_98, i_99, i_100, i_102, i_104, i_106, i_110, i_112, i_119, i_120, i_128, i_392, i_448, m_fail0, m_fail1, m_fail2, e10, eq_self, if_true, if_false, bw_some]
    exact DMw.err h _
  cases hx : isC σ.1 x with
  | false => rw [if_pos rfl]; rw [hx] at bad; exact bad (by simp)
  | true =>
    rw [if_neg (by decide)]
    cases hy : isC σ.1 y with
    | false => rw [if_pos rfl]; rw [hx, hy] at bad; exact bad (by simp)
    | true =>
      rw [if_neg (by decide), if_pos ⟨rfl, rfl⟩]
      obtain ⟨a, ha, rfl⟩ := isC_of K.w hx
      obtain ⟨b, hb, rfl⟩ := isC_of K.w hy
      rw [show nt (nI a) = a from nI_clamp (by omega), show nt (nI b) = b from nI_clamp (by omega)]
      unfold d_X5_border_22 d_X5_border_98
      simp only [↓iM_def, i_0, i_1, i_2, i_3, i_4, i_5, i_6, i_7, i_8, i_9, i_10, i_12, i_17, i_29, i_31, i_33, i_36, i_37, i_40, i_41, i_42, i_43, i_44, i_45, i_47, i_48, i_50, i_53, i_55, i_56, i_57, i_58, i_59, i_60, i_61, i_98, i_99, i_100, i_102, i_104, i_106, i_110, i_112, i_119, i_120, i_128, i_392, i_448, m_fail0, m_fail1, m_fail2, e10, eq_self, if_true, if_false, bw_some, m_refuses]
      refine DMw.pre h (nI 0) (fun V2 h2 hc e => ?_)
      rw [e]
      have w2 : WF (V2 110) := by rw [h2.1]; exact K.w
      by_cases h1 : nI a = nI b
      · rw [if_pos h1, if_pos h1]
        exact DMw.refuse (k := 2) h2 _ _ _
      · rw [if_neg h1, if_neg h1]
        have hab : a ≠ b := fun q => h1 (by rw [q])
        obtain ⟨V7, a1, a2, a3, a4⟩ := h2.keep K
        have a5 : V7 110 = σ.1 := a2.1
        have w7 := K.w
        simp (disch := omega) only [↓iM_def, i_0, i_1, i_2, i_3, i_4, i_5, i_6, i_7, i_8, i_9, i_10, i_12, i_17, i_29, i_31, i_33, i_36, i_37, i_40, i_41, i_42, i_43, i_44, i_45, i_47, i_48, i_50, i_53, i_55, i_56, i_57, i_58, i_59, i_60, i_61, i_98, i_99, i_100, i_102, i_104, i_106, i_110, i_112, i_119, i_120, i_128, i_392, i_448, nI_add, nI_leI, nI_ltI, nI_eq, nI_clamp, iM_le, iM_lt, iM_nle, iM_nlt, iM_ne, iM_ne', Nat.add_zero, pk_mul, asr_inb, bd_some, bw_some, bx_inl, bx_inr, bh_inl, bh_inr, b2_eq0, b2_eq1, asr_zok, nz_nI, up2_setc, setc_at, setc_setc, setc_ne, m_touches w2, m_isP w2, m_hu, h2.1, a1, a5, wf_nb w7, upd_ne, upd_eq, set_nI]
        cases h5 : tt σ.1 a b with
        | true =>
          simp only [Bool.true_eq_false, if_false, if_true]
          exact DMw.refuseS (k := 2) h2 _ _ _
        | false =>
          simp only [Bool.false_eq_true, if_false, if_true]
          have fin : ¬ (ptd σ.1 a = true ∧ hu σ.1 a = hu σ.1 b) → DMw (bd (d_X5_borders (setc V7 110 (aJoin σ.1 a b))) fun r8 => some (r8, setc V7 110 (aJoin σ.1 a b))) V2 (.inl (nI (bor (aJoin σ.1 a b))), chw σ (aJoin σ.1 a b)) := by
            intro h3
            have wj := wf_join K.w ha hb hab (fun hp q => h3 ⟨hp, q⟩)
            rw [m_borders (by rw [setc_at]; exact wj), bd_some, setc_at]
            exact DMw.of rfl a2.row (a3.tr (fr110w _ _)) (by rw [setc_ne (by omega), a4, hc]; rfl) (fun v hv => by cases hv; rfl)
          cases h3 : ptd σ.1 a with
          | false =>
            simp only [if_true, Bool.false_eq_true, false_and, if_false]
            exact fin (by rw [h3]; simp)
          | true =>
            simp only [Bool.true_eq_false, if_false, true_and]
            by_cases h4 : hu σ.1 a = hu σ.1 b
            · rw [if_pos h4, if_pos h4]
              exact DMw.refuseS (k := 2) h2 _ _ _
            · rw [if_neg h4, if_neg h4]
              exact fin (by rw [h3]; simp [h4])
def spHuesw (σ : Sg) (x : Int32) : (Int32 ⊕ Nat) × Sg :=
  if isMH x = true then
    match lpb σ.1 x with
    | some c => (.inr 2, refu σ (nI 9) (nI c))
    | none => (.inl (nI (gU σ.1)), chw σ (aHues σ.1 (nt x)))
  else (.inr 1, σ)
theorem K_huesw (K : OKs σ) (x : Int32) : OKs (spHuesw σ x).2 := by
  unfold spHuesw
  by_cases h : isMH x = true
  · rw [if_pos h]
    obtain ⟨u, u1, u5, rfl⟩ := isMH_of h
    cases lpb σ.1 (nI u) with
    | some c => exact K
    | none => rw [nt_nI (a := u) (by omega)]; exact K.chw (wf_hues K.w u1 u5)
  · rw [if_neg h]; exact K
theorem M_huesw (h : AJw V σ) (K : OKs σ) (x : Int32) : DMw (d_X5_hues x V) V (spHuesw σ x) := by
  have n7 := wf_n7 K.w
  unfold d_X5_hues spHuesw
  simp only [m_in, bd_some, ↓iM_def, i_0, i_1, i_2, i_3, i_4, i_5, i_6, i_7, i_8, i_9, i_10, i_12, i_17, i_29, i_31, i_33, i_36, i_37, i_40, i_41, i_42, i_43, i_44, i_45, i_47, i_48, i_50, i_53, i_55, i_56, i_57, i_58, i_59, i_60, i_61, i_98, i_99, i_100, i_102, i_104, i_106, i_110, i_112, i_119, i_120, i_128, i_392, i_448, b2_eq0]
  have e0 : (decide (nI 1 ≤ x) && decide (x ≤ nI 5)) = isMH x := rfl
  rw [e0]
  cases hm : isMH x with
  | false =>
    rw [if_pos rfl, if_neg (by decide)]
    unfold d_X5_hues_15
    simp only [↓iM_def, i_0, i_1, i_2, i_3, i_4, i_5, i_6, i_7, i_8, i_9, i_10, i_12, i_17, i_29, i_31, i_33, i_36, i_37, i_40, i_41, i_42, i_43, i_44, i_45, i_47, i_48, i_50, i_53, i_55, i_56, i_57, i_58, i_59, i_60, i_61, i_98, i_99, i_100, i_102, i_104, i_106, i_110, i_112, i_119, i_120, i_128, i_392, i_448, m_fail0, m_fail1, m_fail2, e10, eq_self, if_true, if_false, bw_some]
    exact DMw.err h _
  | true =>
    rw [if_neg (by decide), if_pos rfl]
    obtain ⟨u, u1, u5, rfl⟩ := isMH_of hm
    unfold d_X5_hues_15
    simp only [↓iM_def, i_0, i_1, i_2, i_3, i_4, i_5, i_6, i_7, i_8, i_9, i_10, i_12, i_17, i_29, i_31, i_33, i_36, i_37, i_40, i_41, i_42, i_43, i_44, i_45, i_47, i_48, i_50, i_53, i_55, i_56, i_57, i_58, i_59, i_60, i_61, i_98, i_99, i_100, i_102, i_104, i_106, i_110, i_112, i_119, i_120, i_128, i_392, i_448, m_fail0, m_fail1, m_fail2, e10, eq_self, if_true, if_false, bw_some]
    refine DMw.pre h (nI 0) (fun V2 h2 hc e => ?_)
    rw [e, nt_nI (a := u) (by omega)]
    have w2 : WF (V2 110) := by rw [h2.1]; exact K.w
    obtain ⟨V7, a1, a2, a3, a4⟩ := h2.keep K
    have a5 : V7 110 = σ.1 := a2.1
    obtain ⟨b, V', q1, q2⟩ : DMw (match lpb σ.1 (nI u) with | some c => some (nI 0, setc V2 109 (upd (upd (upd (V2 109) 7 (nI 2)) 8 (nI 9)) 9 (nI c))) | none => some (nI (gU σ.1), setc V7 110 (aHues σ.1 u))) V2 (match lpb σ.1 (nI u) with | some c => (.inr 2, refu σ (nI 9) (nI c)) | none => (.inl (nI (gU σ.1)), chw σ (aHues σ.1 u))) := by
      cases lpb σ.1 (nI u) with
      | some c => exact DMw.refuseS (k := 2) h2 _ _ _
      | none => exact DMw.of rfl a2.row (a3.tr (fr110w _ _)) (by rw [setc_ne (by omega), a4, hc]; rfl) (fun v hv => by cases hv; rfl)
    refine ⟨b, V', ?_, q2⟩
    rw [← q1]
    unfold d_X5_hues_25
    refine lo2W_inv (gN σ.1) (fun k y0 Vk => y0 = nI u ∧ Vk = V2 ∧ fnd (fun o => !decide (hu σ.1 o < nI u)) k = none) ?_ ?_ FU (show gN σ.1 < 1000 by omega) _ _ ⟨rfl, rfl, rfl⟩
    · rintro Kk k y0 Vk hk ⟨rfl, rfl, hf⟩ hK
      unfold d_X5_hues_25b
      simp (disch := omega) only [↓iM_def, i_0, i_1, i_2, i_3, i_4, i_5, i_6, i_7, i_8, i_9, i_10, i_12, i_17, i_29, i_31, i_33, i_36, i_37, i_40, i_41, i_42, i_43, i_44, i_45, i_47, i_48, i_50, i_53, i_55, i_56, i_57, i_58, i_59, i_60, i_61, i_98, i_99, i_100, i_102, i_104, i_106, i_110, i_112, i_119, i_120, i_128, i_392, i_448, nI_add, nI_leI, nI_ltI, nI_eq, nI_clamp, iM_le, iM_lt, iM_nle, iM_nlt, iM_ne, iM_ne', Nat.add_zero, pk_mul, asr_inb, bd_some, bw_some, bx_inl, bx_inr, bh_inl, bh_inr, b2_eq0, b2_eq1, asr_zok, nz_nI, up2_setc, setc_at, setc_setc, setc_ne, m_hu, h2.1, wf_n K.w, m_refuses]
      rw [if_neg (by omega)]
      by_cases hq : hu σ.1 k < nI u
      · rw [if_pos hq]
        exact hK _ _ ⟨rfl, rfl, fnd_go hf (by simp [hq])⟩
      · rw [if_neg hq]
        have e9 : lpb σ.1 (nI u) = some k := fnd_stop hk hf (by simp [hq])
        rw [e9]
    · rintro Kk y0 Vk ⟨rfl, rfl, hf⟩
      unfold d_X5_hues_25b
      have e9 : lpb σ.1 (nI u) = none := hf
      simp (disch := omega) only [↓iM_def, i_0, i_1, i_2, i_3, i_4, i_5, i_6, i_7, i_8, i_9, i_10, i_12, i_17, i_29, i_31, i_33, i_36, i_37, i_40, i_41, i_42, i_43, i_44, i_45, i_47, i_48, i_50, i_53, i_55, i_56, i_57, i_58, i_59, i_60, i_61, i_98, i_99, i_100, i_102, i_104, i_106, i_110, i_112, i_119, i_120, i_128, i_392, i_448, nI_add, nI_leI, nI_ltI, nI_eq, nI_clamp, iM_le, iM_lt, iM_nle, iM_nlt, iM_ne, iM_ne', Nat.add_zero, pk_mul, asr_inb, bd_some, bw_some, bx_inl, bx_inr, bh_inl, bh_inr, b2_eq0, b2_eq1, asr_zok, nz_nI, up2_setc, setc_at, setc_setc, setc_ne, h2.1, wf_n K.w, Nat.le_refl, if_true, a1, a5, wf_u K.w, e9]
      rfl
def spPotsw (σ : Sg) (x y : Int32) : (Int32 ⊕ Nat) × Sg :=
  if isH x = true then
    if isMP y = true then (.inl (po (aBring σ.1 (nt x) y) (nt x)), chw σ (aBring σ.1 (nt x) y)) else (.inr 2, σ)
  else (.inr 1, σ)
theorem K_potsw (K : OKs σ) (x y : Int32) : OKs (spPotsw σ x y).2 := by
  unfold spPotsw
  by_cases h : isH x = true
  · rw [if_pos h]
    obtain ⟨u, u5, rfl⟩ := isH_of h
    by_cases h2 : isMP y = true
    · rw [if_pos h2, nt_nI (a := u) (by omega)]; exact K.chw (wf_bring K.w u5 _)
    · rw [if_neg h2]; exact K
  · rw [if_neg h]; exact K
theorem M_potsw (h : AJw V σ) (K : OKs σ) (x y : Int32) : DMw (d_X5_pots x y V) V (spPotsw σ x y) := by
  unfold d_X5_pots spPotsw
  simp only [m_isHue, bd_some, ↓iM_def, i_0, i_1, i_2, i_3, i_4, i_5, i_6, i_7, i_8, i_9, i_10, i_12, i_17, i_29, i_31, i_33, i_36, i_37, i_40, i_41, i_42, i_43, i_44, i_45, i_47, i_48, i_50, i_53, i_55, i_56, i_57, i_58, i_59, i_60, i_61, i_98, i_99, i_100, i_102, i_104, i_106, i_110, i_112, i_119, i_120, i_128, i_392, i_448, b2_eq0, m_in]
  cases hx : isH x with
  | false =>
    rw [if_pos rfl, if_neg (by decide)]
    unfold d_X5_pots_27
    simp only [↓iM_def, i_0, i_1, i_2, i_3, i_4, i_5, i_6, i_7, i_8, i_9, i_10, i_12, i_17, i_29, i_31, i_33, i_36, i_37, i_40, i_41, i_42, i_43, i_44, i_45, i_47, i_48, i_50, i_53, i_55, i_56, i_57, i_58, i_59, i_60, i_61, i_98, i_99, i_100, i_102, i_104, i_106, i_110, i_112, i_119, i_120, i_128, i_392, i_448, m_fail0, m_fail1, m_fail2, e10, eq_self, if_true, if_false, bw_some]
    exact DMw.err h _
  | true =>
    rw [if_neg (by decide), if_pos rfl]
    obtain ⟨u, u5, rfl⟩ := isH_of hx
    have e0 : (decide (nI 1 ≤ y) && decide (y ≤ nI 50)) = isMP y := rfl
    rw [e0]
    cases hy : isMP y with
    | false =>
      rw [if_pos rfl, if_neg (by decide)]
      unfold d_X5_pots_27
      simp only [↓iM_def, i_0, i_1, i_2, i_3, i_4, i_5, i_6, i_7, i_8, i_9, i_10, i_12, i_17, i_29, i_31, i_33, i_36, i_37, i_40, i_41, i_42, i_43, i_44, i_45, i_47, i_48, i_50, i_53, i_55, i_56, i_57, i_58, i_59, i_60, i_61, i_98, i_99, i_100, i_102, i_104, i_106, i_110, i_112, i_119, i_120, i_128, i_392, i_448, m_fail0, m_fail1, m_fail2, e10, eq_self, if_true, if_false, bw_some]
      exact DMw.err h _
    | true =>
      rw [if_neg (by decide), if_pos rfl, nt_nI (a := u) (by omega)]
      unfold d_X5_pots_27
      simp only [↓iM_def, i_0, i_1, i_2, i_3, i_4, i_5, i_6, i_7, i_8, i_9, i_10, i_12, i_17, i_29, i_31, i_33, i_36, i_37, i_40, i_41, i_42, i_43, i_44, i_45, i_47, i_48, i_50, i_53, i_55, i_56, i_57, i_58, i_59, i_60, i_61, i_98, i_99, i_100, i_102, i_104, i_106, i_110, i_112, i_119, i_120, i_128, i_392, i_448, m_fail0, m_fail1, m_fail2, e10, eq_self, if_true, if_false, bw_some]
      refine DMw.pre h (nI 0) (fun V2 h2 hc e => ?_)
      rw [e]
      obtain ⟨V7, a1, a2, a3, a4⟩ := h2.keep K
      have a5 : V7 110 = σ.1 := a2.1
      have el : d_X5_less (nI 99) (po σ.1 u + y) V7 = some (mn99 (po σ.1 u + y)) := by
        unfold d_X5_less mn99
        by_cases c : po σ.1 u + y < nI 99
        · rw [if_pos (Int32.le_of_lt c), if_pos c]
        · rw [if_neg c]
          by_cases c2 : po σ.1 u + y ≤ nI 99
          · rw [if_pos c2, Int32.le_antisymm c2 (Int32.not_lt.mp c)]
          · rw [if_neg c2]
      have el' : d_X5_less (nI 99) (σ.1 (37 + u) + y) V7 = some (mn99 (po σ.1 u + y)) := el
      simp (disch := omega) only [↓iM_def, i_0, i_1, i_2, i_3, i_4, i_5, i_6, i_7, i_8, i_9, i_10, i_12, i_17, i_29, i_31, i_33, i_36, i_37, i_40, i_41, i_42, i_43, i_44, i_45, i_47, i_48, i_50, i_53, i_55, i_56, i_57, i_58, i_59, i_60, i_61, i_98, i_99, i_100, i_102, i_104, i_106, i_110, i_112, i_119, i_120, i_128, i_392, i_448, nI_add, nI_leI, nI_ltI, nI_eq, nI_clamp, iM_le, iM_lt, iM_nle, iM_nlt, iM_ne, iM_ne', Nat.add_zero, pk_mul, asr_inb, bd_some, bw_some, bx_inl, bx_inr, bh_inl, bh_inr, b2_eq0, b2_eq1, asr_zok, nz_nI, up2_setc, setc_at, setc_setc, setc_ne, a1, a5, el', upd_eq]
      have e3 : po (aBring σ.1 u y) u = mn99 (po σ.1 u + y) := by unfold aBring; rw [po_at]
      rw [e3]
      exact DMw.of rfl a2.row (a3.tr (fr110w _ _)) (by rw [setc_ne (by omega), a4, hc]; rfl) (fun v hv => by cases hv; rfl)
def spPaintw (σ : Sg) (x y : Int32) : (Int32 ⊕ Nat) × Sg :=
  if isC σ.1 x = true ∧ isH y = true then
    if agn σ.1 (nt x) (nt y) = 0 then (.inl (nI (gS σ.1 + 1)), chw σ (aCover σ.1 (nt x) (nt y)))
    else (.inr 2, refu σ (nI (agn σ.1 (nt x) (nt y))) (detP σ.1 (nt x) (nt y) (agn σ.1 (nt x) (nt y))))
  else (.inr 1, σ)
theorem K_paintw (K : OKs σ) (x y : Int32) : OKs (spPaintw σ x y).2 := by
  have n7 := wf_n7 K.w
  unfold spPaintw
  by_cases hc : isC σ.1 x = true ∧ isH y = true
  · rw [if_pos hc]
    obtain ⟨a, ha, rfl⟩ := isC_of K.w hc.1
    obtain ⟨b, hb, rfl⟩ := isH_of hc.2
    rw [nt_nI (a := a) (by omega), nt_nI (a := b) (by omega)]
    by_cases h1 : agn σ.1 a b = 0
    · rw [if_pos h1]
      obtain ⟨p1, p2⟩ := agn_0 h1
      exact K.chw (wf_cover K.w ha p1 hb p2)
    · rw [if_neg h1]; exact K
  · rw [if_neg hc]; exact K
theorem M_chw {F : Int32 → Int32 → Int32 → VT → Option (Int32 × VT)} (h : AJw V σ) (K : OKs σ) (x y : Int32) {sp : Sg → Int32 → Int32 → (Int32 ⊕ Nat) × Sg}
    (hbad : F x y (nI 1) V = some (nI 0, up2 V 109 7 (nI 1)))
    (k : ∀ a b, a < gN σ.1 → b < 5 → x = nI a → y = nI b → DMw (F (nI a) (nI b) (nI 0) V) V (sp σ (nI a) (nI b))) :
    DMw (bd (d_X5_isCountry x V) fun r2 => if r2 = nI 0 then F x y (nI 1) V else bd (d_X5_isHue y V) fun r5 => if r5 = nI 0 then F x y (nI 1) V else F x y (nI 0) V) V (if isC σ.1 x = true ∧ isH y = true then sp σ x y else (.inr 1, σ)) := by
  have wV : WF (V 110) := by rw [h.1]; exact K.w
  simp only [m_isCountry wV, m_isHue, bd_some, b2_eq0, h.1]
  cases hx : isC σ.1 x with
  | false =>
    rw [if_pos rfl, if_neg (by simp), hbad]
    exact DMw.err h _
  | true =>
    rw [if_neg (by decide)]
    cases hy : isH y with
    | false =>
      rw [if_pos rfl, if_neg (by simp), hbad]
      exact DMw.err h _
    | true =>
      rw [if_neg (by decide), if_pos ⟨rfl, rfl⟩]
      obtain ⟨a, ha, rfl⟩ := isC_of K.w hx
      obtain ⟨b, hb, rfl⟩ := isH_of hy
      exact k a b ha hb rfl rfl
theorem M_paintw (h : AJw V σ) (K : OKs σ) (x y : Int32) : DMw (d_X5_paint x y V) V (spPaintw σ x y) := by
  have n7 := wf_n7 K.w
  unfold d_X5_paint d_X5_paint_20 spPaintw
  simp only [↓iM_def, i_0, i_1, i_2, i_3, i_4, i_5, i_6, i_7, i_8, i_9, i_10, i_12, i_17, i_29, i_31, i_33, i_36, i_37, i_40, i_41, i_42, i_43, i_44, i_45, i_47, i_48, i_50, i_53, i_55, i_56, i_57, i_58, i_59, i_60, i_61, i_98, i_99, i_100, i_102, i_104, i_106, i_110, i_112, i_119, i_120, i_128, i_392, i_448]
  refine M_chw (F := d_X5_paint_21) (sp := fun σ x y => if agn σ.1 (nt x) (nt y) = 0 then (.inl (nI (gS σ.1 + 1)), chw σ (aCover σ.1 (nt x) (nt y))) else (.inr 2, refu σ (nI (agn σ.1 (nt x) (nt y))) (detP σ.1 (nt x) (nt y) (agn σ.1 (nt x) (nt y))))) h K x y ?_ ?_
  · unfold d_X5_paint_21
    simp only [↓iM_def, i_0, i_1, i_2, i_3, i_4, i_5, i_6, i_7, i_8, i_9, i_10, i_12, i_17, i_29, i_31, i_33, i_36, i_37, i_40, i_41, i_42, i_43, i_44, i_45, i_47, i_48, i_50, i_53, i_55, i_56, i_57, i_58, i_59, i_60, i_61, i_98, i_99, i_100, i_102, i_104, i_106, i_110, i_112, i_119, i_120, i_128, i_392, i_448, m_fail0, m_fail1, m_fail2, e10, eq_self, if_true, if_false, bw_some]
  · intro a b ha hb _ _
    rw [nt_nI (a := a) (by omega), nt_nI (a := b) (by omega)]
    unfold d_X5_paint_21
    simp only [↓iM_def, i_0, i_1, i_2, i_3, i_4, i_5, i_6, i_7, i_8, i_9, i_10, i_12, i_17, i_29, i_31, i_33, i_36, i_37, i_40, i_41, i_42, i_43, i_44, i_45, i_47, i_48, i_50, i_53, i_55, i_56, i_57, i_58, i_59, i_60, i_61, i_98, i_99, i_100, i_102, i_104, i_106, i_110, i_112, i_119, i_120, i_128, i_392, i_448, m_fail0, m_fail1, m_fail2, e10, eq_self, if_true, if_false, bw_some, m_refuses]
    refine DMw.pre h (nI 0) (fun V2 h2 hc e => ?_)
    rw [e]
    have w2 : WF (V2 110) := by rw [h2.1]; exact K.w
    rw [m_against w2 (by omega) hb, bd_some]
    simp (disch := omega) only [↓iM_def, i_0, i_1, i_2, i_3, i_4, i_5, i_6, i_7, i_8, i_9, i_10, i_12, i_17, i_29, i_31, i_33, i_36, i_37, i_40, i_41, i_42, i_43, i_44, i_45, i_47, i_48, i_50, i_53, i_55, i_56, i_57, i_58, i_59, i_60, i_61, i_98, i_99, i_100, i_102, i_104, i_106, i_110, i_112, i_119, i_120, i_128, i_392, i_448, nI_add, nI_leI, nI_ltI, nI_eq, nI_clamp, iM_le, iM_lt, iM_nle, iM_nlt, iM_ne, iM_ne', Nat.add_zero, pk_mul, asr_inb, bd_some, bw_some, bx_inl, bx_inr, bh_inl, bh_inr, b2_eq0, b2_eq1, asr_zok, nz_nI, m_hu, m_sz, m_nbIn w2, h2.1]
    rcases agn_or σ.1 a b with e | e | ⟨e, -⟩ | e | ⟨e, h3, h4, -⟩
    · rw [e]
      simp (disch := omega) only [nI_eq, Nat.reduceEqDiff, if_true, if_false]
      exact DMw.refuse (k := 2) h2 _ _ _
    · rw [e]
      simp (disch := omega) only [nI_eq, Nat.reduceEqDiff, if_true, if_false]
      exact DMw.refuse (k := 2) h2 _ _ _
    · rw [e]
      simp (disch := omega) only [nI_eq, Nat.reduceEqDiff, if_true, if_false]
      exact DMw.refuse (k := 2) h2 _ _ _
    · rw [e]
      simp (disch := omega) only [nI_eq, Nat.reduceEqDiff, if_true, if_false]
      exact DMw.refuse (k := 2) h2 _ _ _
    · rw [e]
      simp (disch := omega) only [nI_eq, Nat.reduceEqDiff, if_true, if_false]
      obtain ⟨V7, a1, a2, a3, a4⟩ := h2.keep K
      have a5 : V7 110 = σ.1 := a2.1
      have hs := s_room K.w ha h3
      rw [a1, bd_some, m_paints (by rw [a5]; exact K.w) (by rw [a5]; exact ha) (by rw [a5]; exact h3) hb, bd_some, a5, setc_at]
      refine DMw.of rfl a2.row (a3.tr (fr110w _ _)) (by rw [setc_ne (by omega), a4, hc]; rfl) (fun v hv => ?_)
      cases hv
      have e6 := wf_s (wf_cover K.w ha h3 hb h4)
      rw [cover_S _ (by omega)] at e6
      exact e6
def spBackw (σ : Sg) : (Int32 ⊕ Nat) × Sg := if gS σ.1 = 0 then (.inr 1, refu σ (nI 8) (nI 0)) else (.inl (nI (st σ.1 (gS σ.1 - 1))), chw σ (aBack σ.1))
theorem K_backw (K : OKs σ) : OKs (spBackw σ).2 := by
  unfold spBackw
  by_cases h : gS σ.1 = 0
  · rw [if_pos h]; exact K
  · rw [if_neg h]; exact K.chw (wf_back K.w (by omega))
theorem M_backw (h : AJw V σ) (K : OKs σ) : DMw (d_X5_back V) V (spBackw σ) := by
  have s7 := wf_s7 K.w
  have n7 := wf_n7 K.w
  unfold d_X5_back spBackw
  simp (disch := omega) only [↓iM_def, i_0, i_1, i_2, i_3, i_4, i_5, i_6, i_7, i_8, i_9, i_10, i_12, i_17, i_29, i_31, i_33, i_36, i_37, i_40, i_41, i_42, i_43, i_44, i_45, i_47, i_48, i_50, i_53, i_55, i_56, i_57, i_58, i_59, i_60, i_61, i_98, i_99, i_100, i_102, i_104, i_106, i_110, i_112, i_119, i_120, i_128, i_392, i_448, m_fail0, m_fail1, m_fail2, e10, eq_self, if_true, if_false, bw_some, m_refuses, h.1, wf_s K.w, nI_eq]
  by_cases h1 : gS σ.1 = 0
  · rw [if_pos h1, if_pos h1]
    refine DMw.pre h (nI 0) (fun V2 h2 hc e => ?_)
    rw [e]
    exact DMw.refuse (k := 1) h2 _ _ _
  · rw [if_neg h1, if_neg h1]
    refine DMw.pre h (nI 0) (fun V2 h2 hc e => ?_)
    rw [e]
    obtain ⟨V7, a1, a2, a3, a4⟩ := h2.keep K
    have a5 : V7 110 = σ.1 := a2.1
    have e1 : nI (gS σ.1) - nI 1 = nI (gS σ.1 - 1) := pk_sub (by omega)
    have hl : gS σ.1 - 1 < gS σ.1 := by omega
    have hn := wf_stn K.w hl
    simp (disch := omega) only [↓iM_def, i_0, i_1, i_2, i_3, i_4, i_5, i_6, i_7, i_8, i_9, i_10, i_12, i_17, i_29, i_31, i_33, i_36, i_37, i_40, i_41, i_42, i_43, i_44, i_45, i_47, i_48, i_50, i_53, i_55, i_56, i_57, i_58, i_59, i_60, i_61, i_98, i_99, i_100, i_102, i_104, i_106, i_110, i_112, i_119, i_120, i_128, i_392, i_448, nI_add, nI_leI, nI_ltI, nI_eq, nI_clamp, iM_le, iM_lt, iM_nle, iM_nlt, iM_ne, iM_ne', Nat.add_zero, pk_mul, asr_inb, bd_some, bw_some, bx_inl, bx_inr, bh_inl, bh_inr, b2_eq0, b2_eq1, asr_zok, nz_nI, up2_setc, setc_at, setc_setc, setc_ne, a1, a5, wf_s K.w, e1, upd_ne, wf_st K.w, m_lays]
    exact DMw.of rfl a2.row (a3.tr (fr110w _ _)) (by rw [setc_ne (by omega), a4, hc]; rfl) (fun v hv => by cases hv; rfl)
def spWishw (σ : Sg) (x y z : Int32) : (Int32 ⊕ Nat) × Sg :=
  if isC σ.1 x = true ∧ isH y = true then
    if isCr z = true then (.inl (wi σ.1 (nt x)), chw σ (aWish σ.1 (nt x) y z)) else (.inr 2, σ)
  else (.inr 1, σ)
theorem K_wishw (K : OKs σ) (x y z : Int32) : OKs (spWishw σ x y z).2 := by
  have n7 := wf_n7 K.w
  unfold spWishw
  by_cases hc : isC σ.1 x = true ∧ isH y = true
  · rw [if_pos hc]
    obtain ⟨a, ha, rfl⟩ := isC_of K.w hc.1
    obtain ⟨b, hb, rfl⟩ := isH_of hc.2
    by_cases h1 : isCr z = true
    · rw [if_pos h1, nt_nI (a := a) (by omega)]
      exact K.chw (wf_wish K.w (by omega) hb z)
    · rw [if_neg h1]; exact K
  · rw [if_neg hc]; exact K
theorem M_wishw (h : AJw V σ) (K : OKs σ) (x y z : Int32) : DMw (d_X5_wish x y z V) V (spWishw σ x y z) := by
  have n7 := wf_n7 K.w
  have wV : WF (V 110) := by rw [h.1]; exact K.w
  unfold d_X5_wish d_X5_wish_16 spWishw
  simp only [m_isCountry wV, m_isHue, m_in, bd_some, ↓iM_def, i_0, i_1, i_2, i_3, i_4, i_5, i_6, i_7, i_8, i_9, i_10, i_12, i_17, i_29, i_31, i_33, i_36, i_37, i_40, i_41, i_42, i_43, i_44, i_45, i_47, i_48, i_50, i_53, i_55, i_56, i_57, i_58, i_59, i_60, i_61, i_98, i_99, i_100, i_102, i_104, i_106, i_110, i_112, i_119, i_120, i_128, i_392, i_448, b2_eq0, h.1]
  have e0 : (decide (nI 0 ≤ z) && decide (z ≤ nI 9)) = isCr z := rfl
  rw [e0]
  have bad : ∀ k, k = 1 ∨ k = 2 → d_X5_wish_35 x y z (nI k) V = some (nI 0, up2 V 109 7 (nI k)) := by
    rintro k (rfl | rfl)
    · unfold d_X5_wish_35
      simp only [↓iM_def, i_0, i_1, i_2, i_3, i_4, i_5, i_6, i_7, i_8, i_9, i_10, i_12, i_17, i_29, i_31, i_33, i_36, i_37, i_40, i_41, i_42, i_43, i_44, i_45, i_47, i_48, i_50, i_53, i_55, i_56, i_57, i_58, i_59, i_60, i_61, i_98, i_99, i_100, i_102, i_104, i_106, i_110, i_112, i_119, i_120, i_128, i_392, i_448, m_fail0, m_fail1, m_fail2, e10, eq_self, if_true, if_false, bw_some]
    · unfold d_X5_wish_35
      simp only [↓iM_def, i_0, i_1, i_2, i_3, i_4, i_5, i_6, i_7, i_8, i_9, i_10, i_12, i_17, i_29, i_31, i_33, i_36, i_37, i_40, i_41, i_42, i_43, i_44, i_45, i_47, i_48, i_50, i_53, i_55, i_56, i_57, i_58, i_59, i_60, i_61, i_98, i_99, i_100, i_102, i_104, i_106, i_110, i_112, i_119, i_120, i_128, i_392, i_448, m_fail0, m_fail1, m_fail2, e10, eq_self, if_true, if_false, bw_some]
  cases hx : isC σ.1 x with
  | false =>
    rw [if_pos rfl, if_neg (by simp), bad 1 (Or.inl rfl)]
    exact DMw.err h _
  | true =>
    rw [if_neg (by decide)]
    cases hy : isH y with
    | false =>
      rw [if_pos rfl, if_neg (by simp), bad 1 (Or.inl rfl)]
      exact DMw.err h _
    | true =>
      rw [if_neg (by decide), if_pos (show true = true ∧ true = true from ⟨rfl, rfl⟩)]
      cases hz : isCr z with
      | false =>
        rw [if_pos rfl, if_neg (by decide), bad 2 (Or.inr rfl)]
        exact DMw.err h _
      | true =>
        rw [if_neg (by decide), if_pos rfl]
        obtain ⟨a, ha, rfl⟩ := isC_of K.w hx
        obtain ⟨b, hb, rfl⟩ := isH_of hy
        rw [nt_nI (a := a) (by omega)]
        unfold d_X5_wish_35
        simp only [↓iM_def, i_0, i_1, i_2, i_3, i_4, i_5, i_6, i_7, i_8, i_9, i_10, i_12, i_17, i_29, i_31, i_33, i_36, i_37, i_40, i_41, i_42, i_43, i_44, i_45, i_47, i_48, i_50, i_53, i_55, i_56, i_57, i_58, i_59, i_60, i_61, i_98, i_99, i_100, i_102, i_104, i_106, i_110, i_112, i_119, i_120, i_128, i_392, i_448, m_fail0, m_fail1, m_fail2, e10, eq_self, if_true, if_false, bw_some]
        refine DMw.pre h (nI 0) (fun V2 h2 hc e => ?_)
        rw [e]
        obtain ⟨V7, a1, a2, a3, a4⟩ := h2.keep K
        have a5 : V7 110 = σ.1 := a2.1
        simp (disch := omega) only [↓iM_def, i_0, i_1, i_2, i_3, i_4, i_5, i_6, i_7, i_8, i_9, i_10, i_12, i_17, i_29, i_31, i_33, i_36, i_37, i_40, i_41, i_42, i_43, i_44, i_45, i_47, i_48, i_50, i_53, i_55, i_56, i_57, i_58, i_59, i_60, i_61, i_98, i_99, i_100, i_102, i_104, i_106, i_110, i_112, i_119, i_120, i_128, i_392, i_448, nI_add, nI_leI, nI_ltI, nI_eq, nI_clamp, iM_le, iM_lt, iM_nle, iM_nlt, iM_ne, iM_ne', Nat.add_zero, pk_mul, asr_inb, bd_some, bw_some, bx_inl, bx_inr, bh_inl, bh_inr, b2_eq0, b2_eq1, asr_zok, nz_nI, up2_setc, setc_at, setc_setc, setc_ne, a1, a5, m_wi, m_lays]
        exact DMw.of rfl a2.row (a3.tr (fr110w _ _)) (by rw [setc_ne (by omega), a4, hc]; rfl) (fun v hv => by cases hv; rfl)
theorem K_fillw (K : OKs σ) : OKs (chw σ (aFill 7 σ.1).2) := K.chw (wf_fill 7 _ K.w)
theorem M_fillw (h : AJw V σ) (K : OKs σ) : DMw (d_X5_fill V) V (.inl (nI (aFill 7 σ.1).1), chw σ (aFill 7 σ.1).2) := by
  have n7 := wf_n7 K.w
  unfold d_X5_fill d_X5_fill_17
  refine DMw.pre h (nI 0) (fun V2 h2 hc e => ?_)
  rw [i_0, e]
  obtain ⟨V7, a1, a2, a3, a4⟩ := h2.keep K
  have a5 : V7 110 = σ.1 := a2.1
  rw [a1, bd_some, m_fillFrom 7 (gN (V7 110)) FU 0 0 V7 (by rw [a5]; exact K.w) (by rw [a5]; omega) (by omega) rfl (show _ < 1000 by rw [a5]; omega), a5, Nat.zero_add]
  exact DMw.of rfl a2.row (a3.tr (fr110w _ _)) (by rw [setc_ne (by omega), a4, hc]; rfl) (fun v hv => by cases hv; rfl)
end
