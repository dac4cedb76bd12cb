/-! PURE ROWS: country, border, erase, hasBorder -/
def eIA : String := "java/lang/IllegalArgumentException"
def eUO : String := "java/lang/UnsupportedOperationException"
def eIO : String := "java/lang/IndexOutOfBoundsException"
def eNS : String := "java/util/NoSuchElementException"
def eIS : String := "java/lang/IllegalStateException"
def eAR : String := "java/lang/ArithmeticException"
section
variable {V V' : VT} {σ : Sg} {E1 E2 : String}
theorem m_fail0 : d_X5_fails (nI 0) V = some (nI 0, up2 V 109 7 (nI 0)) := rfl
theorem m_fail1 : d_X5_fails (nI 1) V = some (nI 1, up2 V 109 7 (nI 1)) := rfl
theorem m_fail2 : d_X5_fails (nI 2) V = some (nI 1, up2 V 109 7 (nI 2)) := rfl
theorem e10 : (nI 1 = nI 0) = False := propext (iff_false_intro (by decide +kernel))
theorem i_stop0 (x y : Int32) : d_X4_stopIfRefused (nI 0) x y V = some (.inl (0 : Int32), V) := rfl
theorem i_stopR {r : Nat} (x y d : Int32) (hr : ¬ nI r = (0 : Int32)) (hd : d_X1_detailOf (nI r) x y (up2 V 0 10 (nI r)) = some d) : d_X4_stopIfRefused (nI r) x y V = some (.inr eUO, up2 (up2 V 0 10 (nI r)) 0 11 d) := by
  unfold d_X4_stopIfRefused d_X4_keepReason
  rw [if_neg hr, hd]
  rfl
theorem FrI.why (V : VT) (r d : Int32) : FrI V (up2 (up2 V 0 10 r) 0 11 d) := fun q hq => by rw [up2_ne (by omega), up2_ne (by omega)]
theorem DI.refuse (h : AI V σ) {r : Nat} (x y d : Int32) (hr : ¬ nI r = (0 : Int32)) (hd : d_X1_detailOf (nI r) x y (up2 V 0 10 (nI r)) = some d) (f : Int32 → VT → Option ((Int32 ⊕ String) × VT)) : DI E1 eUO (bx (d_X4_stopIfRefused (nI r) x y V) f) V (.inr 2, refu σ (nI r) d) := by
  rw [i_stopR x y d hr hd]
  exact ⟨_, rfl, h.why _ _, FrI.why _ _ _⟩
theorem AI.up10 (h : AI V σ) (r : Int32) : LR (up2 V 0 10 r) 1 σ.1 := lr_frame (fun q _ _ => up2_ne (by omega)) h.1
/-- the first exception -/
theorem DI.err (h : AI V σ) (hE : E1 = E2 ∨ True) : DI E1 E2 (some (.inr E1, V)) V (.inr 1, σ) := ⟨V, rfl, h, FrI.rf V⟩
theorem DI.err2 (h : AI V σ) : DI E1 E2 (some (.inr E2, V)) V (.inr 2, σ) := ⟨V, rfl, h, FrI.rf V⟩
theorem DM.err (h : AJ V σ) (b : Int32) {k : Nat} : DM (some (b, up2 V 109 7 (nI k))) V (.inr k, σ) := ⟨b, _, rfl, h.c7 _, fr7 _ _ _, by rw [up2_at, upd_eq]; rfl, fun v hv => by cases hv⟩
theorem DM.refuse (h : AJ V σ) (b r d : Int32) {k : Nat} : DM (some (b, up2 (up2 (up2 V 109 7 (nI k)) 109 8 r) 109 9 d)) V (.inr k, refu σ r d) := ⟨b, _, rfl, h.refuse _ _ _, fun q hq => by rw [up2_ne (by omega), up2_ne (by omega), up2_ne (by omega)], by rw [up2_at, upd_ne (by omega), up2_at, upd_ne (by omega), up2_at, upd_eq]; rfl, fun v hv => by cases hv⟩
theorem DM.refuseS (h : AJ V σ) (b r d : Int32) {k : Nat} : DM (some (b, setc V 109 (upd (upd (upd (V 109) 7 (nI k)) 8 r) 9 d))) V (.inr k, refu σ r d) := by
  have q := DM.refuse h b r d (k := k)
  simp only [up2_setc, setc_at, setc_setc] at q
  exact q
/-- behind 'fails(0)' -/
theorem DM.pre {d : Option (Int32 × VT)} {sp : (Int32 ⊕ Nat) × Sg} (h : AJ V σ) (x : Int32) (k : ∀ V2 : VT, AJ V2 σ → V2 109 7 = x → up2 V 109 7 x = V2 → DM d V2 sp) : DM d V sp := by
  obtain ⟨b, V', h1, h2, h3, h4, h5⟩ := k _ (h.c7 x) (by rw [up2_at, upd_eq]) rfl
  exact ⟨b, V', h1, h2, (fr7 V 7 x).tr h3, h4, h5⟩
theorem DM.re {d : Option (Int32 × VT)} {sp : (Int32 ⊕ Nat) × Sg} {V1 : VT} (hf : FrM V V1) (h : DM d V1 sp) : DM d V sp := by
  obtain ⟨b, V', h1, h2, h3, h4, h5⟩ := h
  exact ⟨b, V', h1, h2, hf.tr h3, h4, h5⟩
def spCountry (σ : Sg) (x : Int32) : (Int32 ⊕ Nat) × Sg :=
  if (decide (nI 1 ≤ x) && decide (x ≤ nI 9)) = true then
    if gN σ.1 = 7 then (.inr 2, refu σ (nI 1) (nI 7)) else (.inl (nI (gN σ.1)), chg σ (aCountry σ.1 x))
  else (.inr 1, σ)
theorem rng19 {x : Int32} (h1 : nI 1 ≤ x) (h2 : x ≤ nI 9) : ∃ z, z < 10 ∧ x = nI z := by
  obtain ⟨j, hj, e⟩ := nI_of2 (x := x) (M := nI 9) (n := 9) (nI_toInt (by omega)) (fun q => by
    have h3 : (0 : Int32) ≤ nI 1 := by decide +kernel
    exact absurd (Int32.le_trans h3 h1) (Int32.not_le.mpr q)) h2
  exact ⟨j, by omega, e⟩
theorem K_country (K : OKs σ) (x : Int32) : OKs (spCountry σ x).2 := by
  unfold spCountry
  by_cases h : (decide (nI 1 ≤ x) && decide (x ≤ nI 9)) = true
  · rw [if_pos h]
    by_cases h7 : gN σ.1 = 7
    · rw [if_pos h7]; exact K
    · rw [if_neg h7]
      simp only [Bool.and_eq_true, decide_eq_true_eq] at h
      obtain ⟨z, hz, rfl⟩ := rng19 h.1 h.2
      exact K.chg (wf_country K.w hz (by have := wf_n7 K.w; omega))
  · rw [if_neg h]; exact K
theorem I_country (h : AI V σ) (K : OKs σ) (x : Int32) : DI eIA eUO (d_X4_country x V) V (spCountry σ x) := by
  have n7 := wf_n7 K.w
  unfold d_X4_country d_X4_country_11 spCountry d_X1_reasonAgainstCountry
  simp (disch := omega) only [i_1, i_9, i_0, i_7, lr_n h.1 K.w, nI_ltI]
  by_cases h1 : x < nI 1
  · rw [if_pos h1, decide_eq_false (Int32.not_le.mpr h1)]
    exact DI.err h (Or.inr trivial)
  · rw [if_neg h1, decide_eq_true (Int32.not_lt.mp h1)]
    by_cases h2 : x ≤ nI 9
    · rw [if_pos h2, decide_eq_true h2, if_pos (show (true && true) = true from rfl)]
      by_cases h7 : gN σ.1 = 7
      · rw [if_neg (by omega), if_pos h7, bd_some]
        exact DI.refuse h _ _ _ (by decide +kernel) rfl _
      · rw [if_pos (by omega), if_neg h7, bd_some, i_stop0, bx_inl]
        obtain ⟨V1, a1, a2, a3, a4⟩ := h.change K
        obtain ⟨V2, b1, b2, b3⟩ := i_country a2 K.w x (by omega)
        rw [a1, bd_some, b1, bw_some]
        obtain ⟨c1, c2⟩ := a4 b2 b3
        exact ⟨V2, rfl, c1, c2⟩
    · rw [if_neg h2, decide_eq_false h2]
      exact DI.err h (Or.inr trivial)
theorem M_country (h : AJ V σ) (K : OKs σ) (x : Int32) : DM (d_X5_country x V) V (spCountry σ x) := by
  have n7 := wf_n7 K.w
  unfold d_X5_country spCountry
  simp only [m_in, bd_some, i_0, b2_eq0, i_1, i_9]
  by_cases h1 : (decide (nI 1 ≤ x) && decide (x ≤ nI 9)) = true
  · rw [if_neg (by rw [h1]; decide), if_pos h1]
    unfold d_X5_country_16
    simp only [↓iM_def, i_0, i_1, i_2, i_3, i_4, i_5, i_6, i_7, i_8, i_9, i_10, i_12, i_17, i_29, i_31, i_33, i_36, i_37, i_40, i_41, i_42, i_43, i_44, i_45, i_47, i_48, i_50, i_53, i_55, i_56, i_57, i_58, i_59, i_60, i_61, i_98, i_99, i_100, i_102, i_104, i_106, i_110, i_112, i_119, i_120, i_128, i_392, i_448, m_fail0, m_fail1, m_fail2, e10, eq_self, if_true, if_false, bw_some]
    refine DM.pre h (nI 0) (fun V2 h2 hc e => ?_)
    rw [e, h2.1, wf_n K.w]
    simp (disch := omega) only [nI_eq]
    by_cases h7 : gN σ.1 = 7
    · rw [if_pos h7, if_pos h7]
      exact DM.refuse (k := 2) h2 _ _ _
    · rw [if_neg h7, if_neg h7]
      obtain ⟨V7, a1, a2, a3, a4⟩ := h2.keep K
      have a5 : V7 110 = σ.1 := a2.1
      rw [a1]
      simp (disch := omega) only [↓iM_def, i_0, i_1, i_2, i_3, i_4, i_5, i_6, i_7, i_8, i_9, i_10, i_12, i_17, i_29, i_31, i_33, i_36, i_37, i_40, i_41, i_42, i_43, i_44, i_45, i_47, i_48, i_50, i_53, i_55, i_56, i_57, i_58, i_59, i_60, i_61, i_98, i_99, i_100, i_102, i_104, i_106, i_110, i_112, i_119, i_120, i_128, i_392, i_448, nI_add, nI_leI, nI_ltI, nI_eq, nI_clamp, iM_le, iM_lt, iM_nle, iM_nlt, iM_ne, iM_ne', Nat.add_zero, pk_mul, asr_inb, bd_some, bw_some, bx_inl, bx_inr, bh_inl, bh_inr, b2_eq0, b2_eq1, asr_zok, nz_nI, up2_setc, setc_at, setc_setc, setc_ne, m_lays, a5, wf_n K.w, upd_ne, upd_eq]
      exact DM.of rfl a2.row (a3.tr (fr110 _ _)) (by rw [setc_ne (by omega), a4, hc]; rfl) (fun v hv => by cases hv; rfl)
  · rw [if_pos (by simpa using h1), if_neg h1]
    unfold d_X5_country_16
    simp only [↓iM_def, i_0, i_1, i_2, i_3, i_4, i_5, i_6, i_7, i_8, i_9, i_10, i_12, i_17, i_29, i_31, i_33, i_36, i_37, i_40, i_41, i_42, i_43, i_44, i_45, i_47, i_48, i_50, i_53, i_55, i_56, i_57, i_58, i_59, i_60, i_61, i_98, i_99, i_100, i_102, i_104, i_106, i_110, i_112, i_119, i_120, i_128, i_392, i_448, m_fail0, m_fail1, m_fail2, e10, eq_self, if_true, if_false, bw_some]
    exact DM.err h _
end
