/-! PURE ROWS: filling in -/
def one (g : Row) : Option Nat := fnd (fun c => decide (fm g c = 1)) (gN g)
def lowh (g : Row) (c : Nat) : Nat := (fnd (fre g c) 5).getD 0
def aFill : Nat → Row → Nat × Row
  | 0, g => (0, g)
  | m + 1, g => match one g with
    | none => (0, g)
    | some c => ((aFill m (aCover g c (lowh g c))).1 + 1, (aFill m (aCover g c (lowh g c))).2)
section
variable {V V' : VT} {σ : Sg} {g : Row} {E2 : String}
theorem aFill_s {g : Row} (m : Nat) {c : Nat} (h : one g = some c) : aFill (m + 1) g = ((aFill m (aCover g c (lowh g c))).1 + 1, (aFill m (aCover g c (lowh g c))).2) := by
  show (match one g with | none => (0, g) | some c => ((aFill m (aCover g c (lowh g c))).1 + 1, (aFill m (aCover g c (lowh g c))).2)) = _
  rw [h]
theorem fre_t {c h : Nat} (hf : fre g c h = true) : ptd g c = false ∧ h < gU g ∧ nbIn g c (nI h) = none ∧ ¬ po g h < sz g c := by
  unfold fre at hf
  simp only [Bool.and_eq_true, Bool.not_eq_true', decide_eq_true_eq, Option.isNone_iff_eq_none, decide_eq_false_iff_not] at hf
  exact ⟨hf.1.1.1, hf.1.1.2, hf.1.2, hf.2⟩
theorem fm_low {c : Nat} (h : fm g c ≠ 0) : ∃ k, k < 5 ∧ fnd (fre g c) 5 = some k ∧ fre g c k = true ∧ lowh g c = k := by
  cases hf : fnd (fre g c) 5 with
  | none => exact absurd (cnt_0.mpr (fnd_none.mp hf)) h
  | some k => exact ⟨k, fnd_lt hf, rfl, fnd_is hf, by unfold lowh; rw [hf]; rfl⟩
theorem wf_one (w : WF g) {c : Nat} (hc : c < gN g) (h : fm g c = 1) : WF (aCover g c (lowh g c)) ∧ ptd g c = false ∧ lowh g c < 5 := by
  obtain ⟨k, k5, -, hk, e⟩ := fm_low (g := g) (c := c) (by omega)
  obtain ⟨h1, h2, h3, h4⟩ := fre_t hk
  rw [e]
  exact ⟨wf_cover w hc h1 k5 h3, h1, k5⟩
theorem one_s {c : Nat} (h : one g = some c) : c < gN g ∧ fm g c = 1 := ⟨fnd_lt h, by have := fnd_is h; simpa using this⟩
theorem wf_fill : ∀ (m : Nat) (g : Row), WF g → WF (aFill m g).2
  | 0, g, w => w
  | m + 1, g, w => by
    unfold aFill
    cases h : one g with
    | none => exact w
    | some c =>
      obtain ⟨h1, h2⟩ := one_s h
      exact wf_fill m _ (wf_one w h1 h2).1
theorem i_lowest {c : Nat} (h : fm g c ≠ 0) : d_X1_lowestOf (nI (mk (fre g c) 5)) V = some (nI (lowh g c)) := by
  have m5 : mk (fre g c) 5 < 2 ^ 5 := mk_lt _ _
  obtain ⟨k0, k5, hf0, hk0, e0⟩ := fm_low h
  unfold d_X1_lowestOf d_X1_lowestOf_2
  refine lo2_inv 4 (fun k y0 => y0 = nI (mk (fre g c) 5) ∧ fnd (fre g c) k = none) ?_ ?_ FU (show 4 < 1000 by omega) _ ⟨rfl, rfl⟩
  · rintro K k y0 hk ⟨rfl, hf⟩ hK
    unfold d_X1_lowestOf_2b
    simp (disch := omega) only [↓iM_def, i_0, i_1, i_2, i_3, i_4, i_5, i_6, i_7, i_8, i_9, i_10, i_12, i_17, i_29, i_31, i_33, i_36, i_37, i_40, i_41, i_42, i_43, i_44, i_45, i_47, i_48, i_50, i_53, i_55, i_56, i_57, i_58, i_59, i_60, i_61, i_98, i_99, i_100, i_102, i_104, i_106, i_110, i_112, i_119, i_120, i_128, i_392, i_448, nI_add, nI_leI, nI_ltI, nI_eq, nI_clamp, iM_le, iM_lt, iM_nle, iM_nlt, iM_ne, iM_ne', Nat.add_zero, pk_mul, asr_inb, bd_some, bw_some, bx_inl, bx_inr, bh_inl, bh_inr, b2_eq0, b2_eq1, asr_zok, nz_nI, bt_nI, i_free_bit]
    rw [if_neg (by omega)]
    cases hq : fre g c k with
    | false =>
      rw [if_pos rfl]
      exact hK _ ⟨rfl, fnd_go hf hq⟩
    | true =>
      rw [if_neg (by decide)]
      have : fnd (fre g c) 5 = some k := fnd_stop (by omega) hf hq
      unfold lowh
      rw [this]
      rfl
  · rintro K y0 ⟨rfl, hf⟩
    unfold d_X1_lowestOf_2b
    simp (disch := omega) only [↓iM_def, i_0, i_1, i_2, i_3, i_4, i_5, i_6, i_7, i_8, i_9, i_10, i_12, i_17, i_29, i_31, i_33, i_36, i_37, i_40, i_41, i_42, i_43, i_44, i_45, i_47, i_48, i_50, i_53, i_55, i_56, i_57, i_58, i_59, i_60, i_61, i_98, i_99, i_100, i_102, i_104, i_106, i_110, i_112, i_119, i_120, i_128, i_392, i_448, nI_add, nI_leI, nI_ltI, nI_eq, nI_clamp, iM_le, iM_lt, iM_nle, iM_nlt, iM_ne, iM_ne', Nat.add_zero, pk_mul, asr_inb, bd_some, bw_some, bx_inl, bx_inr, bh_inl, bh_inr, b2_eq0, b2_eq1, asr_zok, nz_nI, Nat.le_refl, if_true]
    have h4 : k0 = 4 := by
      rcases Nat.lt_or_ge k0 4 with q | q
      · have := fnd_none.mp hf k0 q
        rw [hk0] at this
        cases this
      · omega
    rw [e0, h4]
theorem i_one (r : LR V 1 g) (w : WF g) : d_X1_firstWithOneFreeHue V = some (io (one g)) := by
  have n7 := wf_n7 w
  unfold d_X1_firstWithOneFreeHue d_X1_firstWithOneFreeHue_2
  refine lo1_inv (gN g) (fun k => fnd (fun c => decide (fm g c = 1)) k = none) ?_ ?_ FU (show gN g < 1000 by omega) rfl
  · rintro K k hk hf hK
    have hle : fm g k ≤ 5 := cnt_le _ _
    unfold d_X1_firstWithOneFreeHue_2b
    simp (disch := omega) only [↓iM_def, i_0, i_1, i_2, i_3, i_4, i_5, i_6, i_7, i_8, i_9, i_10, i_12, i_17, i_29, i_31, i_33, i_36, i_37, i_40, i_41, i_42, i_43, i_44, i_45, i_47, i_48, i_50, i_53, i_55, i_56, i_57, i_58, i_59, i_60, i_61, i_98, i_99, i_100, i_102, i_104, i_106, i_110, i_112, i_119, i_120, i_128, i_392, i_448, nI_add, nI_leI, nI_ltI, nI_eq, nI_clamp, iM_le, iM_lt, iM_nle, iM_nlt, iM_ne, iM_ne', Nat.add_zero, pk_mul, asr_inb, bd_some, bw_some, bx_inl, bx_inr, bh_inl, bh_inr, b2_eq0, b2_eq1, asr_zok, nz_nI, lr_n r w, i_freeHues r w, i_fm]
    rw [if_neg (by omega)]
    by_cases hq : fm g k = 1
    · rw [if_pos hq]
      unfold one
      rw [fnd_stop hk hf (by simp [hq])]
      rfl
    · rw [if_neg hq]
      exact hK (fnd_go hf (by simp [hq]))
  · rintro K hf
    unfold d_X1_firstWithOneFreeHue_2b
    simp (disch := omega) only [↓iM_def, i_0, i_1, i_2, i_3, i_4, i_5, i_6, i_7, i_8, i_9, i_10, i_12, i_17, i_29, i_31, i_33, i_36, i_37, i_40, i_41, i_42, i_43, i_44, i_45, i_47, i_48, i_50, i_53, i_55, i_56, i_57, i_58, i_59, i_60, i_61, i_98, i_99, i_100, i_102, i_104, i_106, i_110, i_112, i_119, i_120, i_128, i_392, i_448, nI_add, nI_leI, nI_ltI, nI_eq, nI_clamp, iM_le, iM_lt, iM_nle, iM_nlt, iM_ne, iM_ne', Nat.add_zero, pk_mul, asr_inb, bd_some, bw_some, bx_inl, bx_inr, bh_inl, bh_inr, b2_eq0, b2_eq1, asr_zok, nz_nI, lr_n r w, Nat.le_refl, if_true]
    unfold one
    rw [hf]
    rfl
theorem i_fillIn : ∀ (m fuel k : Nat) (V : VT) (g : Row), k + m = 7 → m < fuel → LR V 1 g → WF g → ∃ V', lo1W d_X1_fillIn_2b fuel (nI k) V = some (nI (k + (aFill m g).1), V') ∧ LR V' 1 (aFill m g).2 ∧ ∀ q, q = 0 ∨ 10 ≤ q → V' q = V q := by
  intro m
  induction m with
  | zero =>
    intro fuel k V g hk hf r w
    obtain ⟨f, rfl⟩ : ∃ f, fuel = f + 1 := ⟨fuel - 1, by omega⟩
    have e : lo1W d_X1_fillIn_2b (f + 1) (nI k) V = d_X1_fillIn_2b (lo1W d_X1_fillIn_2b f) (nI k) V := rfl
    rw [e]
    unfold d_X1_fillIn_2b
    simp (disch := omega) only [↓iM_def, i_0, i_1, i_2, i_3, i_4, i_5, i_6, i_7, i_8, i_9, i_10, i_12, i_17, i_29, i_31, i_33, i_36, i_37, i_40, i_41, i_42, i_43, i_44, i_45, i_47, i_48, i_50, i_53, i_55, i_56, i_57, i_58, i_59, i_60, i_61, i_98, i_99, i_100, i_102, i_104, i_106, i_110, i_112, i_119, i_120, i_128, i_392, i_448, nI_add, nI_leI, nI_ltI, nI_eq, nI_clamp, iM_le, iM_lt, iM_nle, iM_nlt, iM_ne, iM_ne', Nat.add_zero, pk_mul, asr_inb, bd_some, bw_some, bx_inl, bx_inr, bh_inl, bh_inr, b2_eq0, b2_eq1, asr_zok, nz_nI]
    rw [if_pos (by omega)]
    exact ⟨V, rfl, r, fun _ _ => rfl⟩
  | succ m ih =>
    intro fuel k V g hk hf r w
    have n7 := wf_n7 w
    obtain ⟨f, rfl⟩ : ∃ f, fuel = f + 1 := ⟨fuel - 1, by omega⟩
    have e : lo1W d_X1_fillIn_2b (f + 1) (nI k) V = d_X1_fillIn_2b (lo1W d_X1_fillIn_2b f) (nI k) V := rfl
    rw [e]
    generalize hKK : lo1W d_X1_fillIn_2b f = KK
    unfold d_X1_fillIn_2b aFill
    simp (disch := omega) only [↓iM_def, i_0, i_1, i_2, i_3, i_4, i_5, i_6, i_7, i_8, i_9, i_10, i_12, i_17, i_29, i_31, i_33, i_36, i_37, i_40, i_41, i_42, i_43, i_44, i_45, i_47, i_48, i_50, i_53, i_55, i_56, i_57, i_58, i_59, i_60, i_61, i_98, i_99, i_100, i_102, i_104, i_106, i_110, i_112, i_119, i_120, i_128, i_392, i_448, nI_add, nI_leI, nI_ltI, nI_eq, nI_clamp, iM_le, iM_lt, iM_nle, iM_nlt, iM_ne, iM_ne', Nat.add_zero, pk_mul, asr_inb, bd_some, bw_some, bx_inl, bx_inr, bh_inl, bh_inr, b2_eq0, b2_eq1, asr_zok, nz_nI, i_one r w, io_m (o := one g) (n := gN g) (by omega) (fun k hk => (one_s hk).1)]
    rw [if_neg (by omega)]
    cases ho : one g with
    | none =>
      rw [if_pos rfl]
      exact ⟨V, rfl, r, fun _ _ => rfl⟩
    | some c =>
      rw [if_neg (by intro q; cases q)]
      obtain ⟨hc, h1⟩ := one_s ho
      obtain ⟨w1, hp, l5⟩ := wf_one w hc h1
      obtain ⟨V1, a1, a2, a3⟩ := i_cover r w hc hp l5
      have e1 : io (some c) = nI c := rfl
      rw [e1, i_freeHues r w (by omega), bd_some, i_lowest (by omega), bd_some, a1, bd_some]
      obtain ⟨V2, b1, b2, b3⟩ := ih f (k + 1) V1 _ (by omega) (by omega) a2 w1
      exact ⟨V2, by rw [← hKK, b1, show k + 1 + (aFill m (aCover g c (lowh g c))).1 = k + ((aFill m (aCover g c (lowh g c))).1 + 1) by omega], b2, fun q hq => (b3 q hq).trans (a3 q hq)⟩
theorem m_onlyHue (w : WF (V 110)) {c : Nat} (hc : c < 7) : d_X5_onlyHue (nI c) V = some (if fm (V 110) c = 1 then nI (lowh (V 110) c) else iM) := by
  have hle : fm (V 110) c ≤ 5 := cnt_le _ _
  unfold d_X5_onlyHue
  simp (disch := omega) only [↓iM_def, i_0, i_1, i_2, i_3, i_4, i_5, i_6, i_7, i_8, i_9, i_10, i_12, i_17, i_29, i_31, i_33, i_36, i_37, i_40, i_41, i_42, i_43, i_44, i_45, i_47, i_48, i_50, i_53, i_55, i_56, i_57, i_58, i_59, i_60, i_61, i_98, i_99, i_100, i_102, i_104, i_106, i_110, i_112, i_119, i_120, i_128, i_392, i_448, nI_add, nI_leI, nI_ltI, nI_eq, nI_clamp, iM_le, iM_lt, iM_nle, iM_nlt, iM_ne, iM_ne', Nat.add_zero, pk_mul, asr_inb, bd_some, bw_some, bx_inl, bx_inr, bh_inl, bh_inr, b2_eq0, b2_eq1, asr_zok, nz_nI, m_freeMany w]
  by_cases h1 : fm (V 110) c = 1
  · rw [if_pos h1, if_pos h1]
    obtain ⟨k0, k5, hf0, hk0, e0⟩ := fm_low (g := V 110) (c := c) (by omega)
    unfold d_X5_onlyHue_13
    refine lo2_inv k0 (fun k y0 => y0 = nI c) ?_ ?_ FU (show k0 < 1000 by omega) _ rfl
    · rintro K k y0 hk rfl hK
      unfold d_X5_onlyHue_13b
      simp (disch := omega) only [↓iM_def, i_0, i_1, i_2, i_3, i_4, i_5, i_6, i_7, i_8, i_9, i_10, i_12, i_17, i_29, i_31, i_33, i_36, i_37, i_40, i_41, i_42, i_43, i_44, i_45, i_47, i_48, i_50, i_53, i_55, i_56, i_57, i_58, i_59, i_60, i_61, i_98, i_99, i_100, i_102, i_104, i_106, i_110, i_112, i_119, i_120, i_128, i_392, i_448, nI_add, nI_leI, nI_ltI, nI_eq, nI_clamp, iM_le, iM_lt, iM_nle, iM_nlt, iM_ne, iM_ne', Nat.add_zero, pk_mul, asr_inb, bd_some, bw_some, bx_inl, bx_inr, bh_inl, bh_inr, b2_eq0, b2_eq1, asr_zok, nz_nI, m_isFree w]
      rw [(fnd_some.mp hf0).2.2 k hk, if_pos rfl]
      exact hK _ rfl
    · rintro K y0 rfl
      unfold d_X5_onlyHue_13b
      simp (disch := omega) only [↓iM_def, i_0, i_1, i_2, i_3, i_4, i_5, i_6, i_7, i_8, i_9, i_10, i_12, i_17, i_29, i_31, i_33, i_36, i_37, i_40, i_41, i_42, i_43, i_44, i_45, i_47, i_48, i_50, i_53, i_55, i_56, i_57, i_58, i_59, i_60, i_61, i_98, i_99, i_100, i_102, i_104, i_106, i_110, i_112, i_119, i_120, i_128, i_392, i_448, nI_add, nI_leI, nI_ltI, nI_eq, nI_clamp, iM_le, iM_lt, iM_nle, iM_nlt, iM_ne, iM_ne', Nat.add_zero, pk_mul, asr_inb, bd_some, bw_some, bx_inl, bx_inr, bh_inl, bh_inr, b2_eq0, b2_eq1, asr_zok, nz_nI, m_isFree w]
      rw [hk0, if_neg (by decide), e0]
  · rw [if_neg h1, if_neg h1]
theorem setc_self (V : VT) (k : Nat) : setc V k (V k) = V := by
  funext a
  by_cases h : a = k
  · subst h; rw [setc_at]
  · rw [setc_ne h]
theorem m_fillFrom : ∀ (m : Nat) (d fuel k c : Nat) (V : VT), WF (V 110) → gN (V 110) - gS (V 110) ≤ m → c + d = gN (V 110) → fnd (fun c => decide (fm (V 110) c = 1)) c = none → 8 * m + d < fuel →
    lo2W d_X5_fill_17b fuel (nI k) (nI c) V = some (nI (k + (aFill m (V 110)).1), setc V 110 (aFill m (V 110)).2) := by
  intro m
  induction m with
  | zero =>
    intro d
    induction d with
    | zero =>
      intro fuel k c V w hm hd hn hf
      obtain ⟨f, rfl⟩ : ∃ f, fuel = f + 1 := ⟨fuel - 1, by omega⟩
      have n7 := wf_n7 w
      show d_X5_fill_17b _ _ _ _ = _
      unfold d_X5_fill_17b aFill
      simp (disch := omega) only [↓iM_def, i_0, i_1, i_2, i_3, i_4, i_5, i_6, i_7, i_8, i_9, i_10, i_12, i_17, i_29, i_31, i_33, i_36, i_37, i_40, i_41, i_42, i_43, i_44, i_45, i_47, i_48, i_50, i_53, i_55, i_56, i_57, i_58, i_59, i_60, i_61, i_98, i_99, i_100, i_102, i_104, i_106, i_110, i_112, i_119, i_120, i_128, i_392, i_448, nI_add, nI_leI, nI_ltI, nI_eq, nI_clamp, iM_le, iM_lt, iM_nle, iM_nlt, iM_ne, iM_ne', Nat.add_zero, pk_mul, asr_inb, bd_some, bw_some, bx_inl, bx_inr, bh_inl, bh_inr, b2_eq0, b2_eq1, asr_zok, nz_nI, wf_n w]
      rw [if_pos (by omega), setc_self]
    | succ d ihd =>
      intro fuel k c V w hm hd hn hf
      obtain ⟨f, rfl⟩ : ∃ f, fuel = f + 1 := ⟨fuel - 1, by omega⟩
      have n7 := wf_n7 w
      show d_X5_fill_17b (lo2W d_X5_fill_17b f) _ _ _ = _
      unfold d_X5_fill_17b
      simp (disch := omega) only [↓iM_def, i_0, i_1, i_2, i_3, i_4, i_5, i_6, i_7, i_8, i_9, i_10, i_12, i_17, i_29, i_31, i_33, i_36, i_37, i_40, i_41, i_42, i_43, i_44, i_45, i_47, i_48, i_50, i_53, i_55, i_56, i_57, i_58, i_59, i_60, i_61, i_98, i_99, i_100, i_102, i_104, i_106, i_110, i_112, i_119, i_120, i_128, i_392, i_448, nI_add, nI_leI, nI_ltI, nI_eq, nI_clamp, iM_le, iM_lt, iM_nle, iM_nlt, iM_ne, iM_ne', Nat.add_zero, pk_mul, asr_inb, bd_some, bw_some, bx_inl, bx_inr, bh_inl, bh_inr, b2_eq0, b2_eq1, asr_zok, nz_nI, wf_n w, m_onlyHue w]
      rw [if_neg (by omega)]
      have h1 : ¬ fm (V 110) c = 1 := by
        intro q
        obtain ⟨-, hp, -⟩ := wf_one w (show c < gN (V 110) by omega) q
        have := s_room w (show c < gN (V 110) by omega) hp
        omega
      rw [if_neg h1]
      simp (disch := omega) only [nI_add, nI_leI, nI_ltI, nI_eq, nI_clamp, iM_le, iM_lt, iM_nle, iM_nlt, iM_ne, iM_ne', Nat.add_zero, pk_mul, if_false]
      exact ihd f k (c + 1) V w hm (by omega) (fnd_go hn (by simp [h1])) (by omega)
  | succ m ihm =>
    intro d
    induction d with
    | zero =>
      intro fuel k c V w hm hd hn hf
      obtain ⟨f, rfl⟩ : ∃ f, fuel = f + 1 := ⟨fuel - 1, by omega⟩
      have n7 := wf_n7 w
      have hd' : c = gN (V 110) := by omega
      subst hd'
      have h0 : one (V 110) = none := hn
      show d_X5_fill_17b _ _ _ _ = _
      unfold d_X5_fill_17b aFill
      rw [h0]
      simp (disch := omega) only [↓iM_def, i_0, i_1, i_2, i_3, i_4, i_5, i_6, i_7, i_8, i_9, i_10, i_12, i_17, i_29, i_31, i_33, i_36, i_37, i_40, i_41, i_42, i_43, i_44, i_45, i_47, i_48, i_50, i_53, i_55, i_56, i_57, i_58, i_59, i_60, i_61, i_98, i_99, i_100, i_102, i_104, i_106, i_110, i_112, i_119, i_120, i_128, i_392, i_448, nI_add, nI_leI, nI_ltI, nI_eq, nI_clamp, iM_le, iM_lt, iM_nle, iM_nlt, iM_ne, iM_ne', Nat.add_zero, pk_mul, asr_inb, bd_some, bw_some, bx_inl, bx_inr, bh_inl, bh_inr, b2_eq0, b2_eq1, asr_zok, nz_nI, wf_n w, Nat.le_refl, if_true]
      rw [setc_self]
    | succ d ihd =>
      intro fuel k c V w hm hd hn hf
      obtain ⟨f, rfl⟩ : ∃ f, fuel = f + 1 := ⟨fuel - 1, by omega⟩
      have n7 := wf_n7 w
      show d_X5_fill_17b (lo2W d_X5_fill_17b f) _ _ _ = _
      generalize hKK : lo2W d_X5_fill_17b f = KK
      unfold d_X5_fill_17b
      simp (disch := omega) only [↓iM_def, i_0, i_1, i_2, i_3, i_4, i_5, i_6, i_7, i_8, i_9, i_10, i_12, i_17, i_29, i_31, i_33, i_36, i_37, i_40, i_41, i_42, i_43, i_44, i_45, i_47, i_48, i_50, i_53, i_55, i_56, i_57, i_58, i_59, i_60, i_61, i_98, i_99, i_100, i_102, i_104, i_106, i_110, i_112, i_119, i_120, i_128, i_392, i_448, nI_add, nI_leI, nI_ltI, nI_eq, nI_clamp, iM_le, iM_lt, iM_nle, iM_nlt, iM_ne, iM_ne', Nat.add_zero, pk_mul, asr_inb, bd_some, bw_some, bx_inl, bx_inr, bh_inl, bh_inr, b2_eq0, b2_eq1, asr_zok, nz_nI, wf_n w, m_onlyHue w]
      rw [if_neg (by omega)]
      by_cases h1 : fm (V 110) c = 1
      · rw [if_pos h1]
        obtain ⟨w1, hp, l5⟩ := wf_one w (show c < gN (V 110) by omega) h1
        have hs := s_room w (show c < gN (V 110) by omega) hp
        have h0 : one (V 110) = some c := fnd_stop (by omega) hn (by simp [h1])
        simp (disch := omega) only [nI_add, nI_leI, nI_ltI, nI_eq, nI_clamp, iM_le, iM_lt, iM_nle, iM_nlt, iM_ne, iM_ne', Nat.add_zero, pk_mul, Nat.zero_le, if_true, m_paints w, bd_some]
        have cN := cover_N (V 110) (c := c) (h := lowh (V 110) c) (by omega) l5
        have cS := cover_S (V 110) (c := c) (h := lowh (V 110) c) (by omega)
        have ih := ihm (gN (V 110)) f (k + 1) 0 (setc V 110 (aCover (V 110) c (lowh (V 110) c))) (by rw [setc_at]; exact w1) (by rw [setc_at, cN, cS]; omega) (by rw [setc_at, cN]; omega) rfl (by omega)
        rw [← hKK, ih, setc_at, setc_setc]
        rw [aFill_s m h0]
        simp only
        rw [show k + 1 + (aFill m (aCover (V 110) c (lowh (V 110) c))).1 = k + ((aFill m (aCover (V 110) c (lowh (V 110) c))).1 + 1) by omega]
      · rw [if_neg h1]
        simp (disch := omega) only [nI_add, nI_leI, nI_ltI, nI_eq, nI_clamp, iM_le, iM_lt, iM_nle, iM_nlt, iM_ne, iM_ne', Nat.add_zero, pk_mul, if_false]
        rw [← hKK]
        exact ihd f k (c + 1) V w hm (by omega) (fnd_go hn (by simp [h1])) (by omega)
/-- the landed text does what is said, without a throw -/
def DN (d : Option (Int32 × VT)) (V : VT) (r : Int32) (σ : Sg) : Prop := ∃ V', d = some (r, V') ∧ AI V' σ ∧ FrI V V'
theorem K_fill (K : OKs σ) : OKs (chg σ (aFill 7 σ.1).2) := K.chg (wf_fill 7 _ K.w)
theorem I_fill (h : AI V σ) (K : OKs σ) : DN (d_X4_fill V) V (nI (aFill 7 σ.1).1) (chg σ (aFill 7 σ.1).2) := by
  unfold d_X4_fill d_X1_fillIn d_X1_fillIn_2
  obtain ⟨V1, a1, a2, a3, a4⟩ := h.change K
  obtain ⟨V2, b1, b2, b3⟩ := i_fillIn 7 FU 0 V1 σ.1 rfl (show 7 < 1000 by omega) a2 K.w
  rw [a1, bd_some, i_0, b1, bw_some, Nat.zero_add]
  obtain ⟨c1, c2⟩ := a4 b2 b3
  exact ⟨V2, rfl, c1, c2⟩
theorem M_fill (h : AJ V σ) (K : OKs σ) : DM (d_X5_fill V) V (.inl (nI (aFill 7 σ.1).1), chg σ (aFill 7 σ.1).2) := by
  have n7 := wf_n7 K.w
  unfold d_X5_fill d_X5_fill_17
  refine DM.pre h (nI 0) (fun V2 h2 hc e => ?_)
  rw [i_0, e]
  obtain ⟨V7, a1, a2, a3, a4⟩ := h2.keep K
  have a5 : V7 110 = σ.1 := a2.1
  rw [a1, bd_some, m_fillFrom 7 (gN (V7 110)) FU 0 0 V7 (by rw [a5]; exact K.w) (by rw [a5]; omega) (by omega) rfl (show _ < 1000 by rw [a5]; omega), a5, Nat.zero_add]
  exact DM.of rfl a2.row (a3.tr (fr110 _ _)) (by rw [setc_ne (by omega), a4, hc]; rfl) (fun v hv => by cases hv; rfl)
end
