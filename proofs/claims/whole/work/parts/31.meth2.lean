/-! PURE ROWS: border, erase, hasBorder -/
def sumN (f : Nat → Nat) : Nat → Nat
  | 0 => 0
  | k + 1 => sumN f k + f k
theorem sumN_s (f : Nat → Nat) (k : Nat) : sumN f (k + 1) = sumN f k + f k := rfl
theorem sumN_le {f : Nat → Nat} {m : Nat} : ∀ n, (∀ i, i < n → f i ≤ m) → sumN f n ≤ m * n
  | 0, _ => Nat.zero_le _
  | n + 1, h => by
    have h1 := sumN_le (f := f) (m := m) n (fun i hi => h i (by omega))
    have h2 := h n (by omega)
    rw [sumN_s, Nat.mul_succ]
    omega
theorem sumN_congr {f f' : Nat → Nat} : ∀ {n : Nat}, (∀ i, i < n → f i = f' i) → sumN f n = sumN f' n
  | 0, _ => rfl
  | n + 1, h => by rw [sumN_s, sumN_s, sumN_congr (fun i hi => h i (by omega)), h n (by omega)]
theorem sumN_add (f f' : Nat → Nat) : ∀ n, sumN (fun i => f i + f' i) n = sumN f n + sumN f' n
  | 0 => rfl
  | n + 1 => by rw [sumN_s, sumN_s, sumN_s, sumN_add f f' n]; omega
theorem sumN_cnt (p : Nat → Bool) : ∀ n, sumN (fun i => (p i).toNat) n = cnt p n
  | 0 => rfl
  | n + 1 => by rw [sumN_s, cnt_s, sumN_cnt p n]
/-- borders: each is seen from both sides -/
theorem twice (t : Nat → Nat → Bool) : ∀ n, (∀ a b, a < n → b < n → t a b = t b a) → (∀ a, a < n → t a a = false) → sumN (fun a => cnt (t a) n) n = 2 * sumN (fun a => cnt (t a) a) n
  | 0, _, _ => rfl
  | n + 1, hs, hi => by
    have ih := twice t n (fun a b ha hb => hs a b (by omega) (by omega)) (fun a ha => hi a (by omega))
    rw [sumN_s, sumN_s, cnt_s, hi n (by omega)]
    have e : sumN (fun a => cnt (t a) (n + 1)) n = sumN (fun a => cnt (t a) n) n + cnt (t n) n := by
      have e0 : sumN (fun a => cnt (t a) (n + 1)) n = sumN (fun a => cnt (t a) n + (t a n).toNat) n := rfl
      rw [e0, sumN_add, sumN_cnt (fun a => t a n), cnt_congr (p := fun a => t a n) (q := t n) (fun i hi' => hs i n (by omega) (by omega))]
    rw [e, ih]
    simp
    omega
def bor (g : Row) : Nat := sumN (fun a => cnt (tt g a) a) (gN g)
theorem bor2 {g : Row} (w : WF g) : sumN (fun a => cnt (tt g a) (gN g)) (gN g) = 2 * bor g := by
  have n7 := wf_n7 w
  exact twice (tt g) (gN g) (fun a b ha hb => wf_ts w (by omega) (by omega)) (fun a ha => wf_ti w (by omega))
section
variable {V V' : VT} {σ : Sg} {g : Row}
theorem i_borders (r : LR V 1 g) (w : WF g) : d_X1_countBorders V = some (nI (bor g)) := by
  have n7 := wf_n7 w
  have hb : sumN (fun a => cnt (tt g a) (gN g)) (gN g) ≤ 7 * gN g := sumN_le _ (fun i _ => Nat.le_trans (cnt_le _ _) n7)
  unfold d_X1_countBorders d_X1_countBorders_4
  refine lo2_inv (gN g) (fun k y0 => y0 = nI (sumN (fun a => cnt (tt g a) (gN g)) k)) ?_ ?_ FU (show gN g < 1000 by omega) _ rfl
  · rintro K k y0 hk rfl hK
    have hK := hK _ rfl
    rw [sumN_s] at hK
    unfold d_X1_countBorders_4b
    simp (disch := omega) only [↓iM_def, i_0, i_1, i_2, i_3, i_4, i_5, i_6, i_7, i_8, i_9, i_10, i_12, i_17, i_29, i_31, i_33, i_36, i_37, i_40, i_41, i_42, i_43, i_44, i_45, i_47, i_48, i_50, i_53, i_55, i_56, i_57, i_58, i_59, i_60, i_61, i_98, i_99, i_100, i_102, i_104, i_106, i_110, i_112, i_119, i_120, i_128, i_392, i_448, nI_add, nI_leI, nI_ltI, nI_eq, nI_clamp, iM_le, iM_lt, iM_nle, iM_nlt, iM_ne, iM_ne', Nat.add_zero, pk_mul, asr_inb, bd_some, bw_some, bx_inl, bx_inr, bh_inl, bh_inr, b2_eq0, b2_eq1, asr_zok, nz_nI, lr_n r w, i_nbs r w, pc_nb w]
    rw [if_neg (by omega)]
    exact hK
  · rintro K y0 rfl
    unfold d_X1_countBorders_4b
    rw [bor2 w] at hb ⊢
    simp (disch := omega) only [↓iM_def, i_0, i_1, i_2, i_3, i_4, i_5, i_6, i_7, i_8, i_9, i_10, i_12, i_17, i_29, i_31, i_33, i_36, i_37, i_40, i_41, i_42, i_43, i_44, i_45, i_47, i_48, i_50, i_53, i_55, i_56, i_57, i_58, i_59, i_60, i_61, i_98, i_99, i_100, i_102, i_104, i_106, i_110, i_112, i_119, i_120, i_128, i_392, i_448, nI_add, nI_leI, nI_ltI, nI_eq, nI_clamp, iM_le, iM_lt, iM_nle, iM_nlt, iM_ne, iM_ne', Nat.add_zero, pk_mul, asr_inb, bd_some, bw_some, bx_inl, bx_inr, bh_inl, bh_inr, b2_eq0, b2_eq1, asr_zok, nz_nI, lr_n r w, Nat.le_refl, if_true, pk_div]
    rw [Nat.mul_div_cancel_left _ (by omega)]
theorem m_borders (w : WF (V 110)) : d_X5_borders V = some (nI (bor (V 110))) := by
  have n7 := wf_n7 w
  unfold d_X5_borders d_X5_borders_4
  refine lo2_inv (gN (V 110)) (fun k y0 => y0 = nI (sumN (fun a => cnt (tt (V 110) a) a) k)) ?_ ?_ FU (show gN (V 110) < 1000 by omega) _ rfl
  · rintro K k y0 hk rfl hK
    have hK := hK _ rfl
    rw [sumN_s] at hK
    unfold d_X5_borders_4b d_X5_borders_16
    simp (disch := omega) only [↓iM_def, i_0, i_1, i_2, i_3, i_4, i_5, i_6, i_7, i_8, i_9, i_10, i_12, i_17, i_29, i_31, i_33, i_36, i_37, i_40, i_41, i_42, i_43, i_44, i_45, i_47, i_48, i_50, i_53, i_55, i_56, i_57, i_58, i_59, i_60, i_61, i_98, i_99, i_100, i_102, i_104, i_106, i_110, i_112, i_119, i_120, i_128, i_392, i_448, nI_add, nI_leI, nI_ltI, nI_eq, nI_clamp, iM_le, iM_lt, iM_nle, iM_nlt, iM_ne, iM_ne', Nat.add_zero, pk_mul, asr_inb, bd_some, bw_some, bx_inl, bx_inr, bh_inl, bh_inr, b2_eq0, b2_eq1, asr_zok, nz_nI, wf_n w]
    rw [if_neg (by omega)]
    refine lo3_inv k (fun j y0 y1 => y0 = nI (sumN (fun a => cnt (tt (V 110) a) a) k + cnt (tt (V 110) k) j) ∧ y1 = nI k) ?_ ?_ FU (show k < 1000 by omega) _ _ ⟨rfl, rfl⟩
    · rintro K2 j y0 y1 hj ⟨rfl, rfl⟩ hK2
      have hK2 := hK2 _ _ ⟨rfl, rfl⟩
      rw [cnt_s] at hK2
      unfold d_X5_borders_16b
      simp (disch := omega) only [↓iM_def, i_0, i_1, i_2, i_3, i_4, i_5, i_6, i_7, i_8, i_9, i_10, i_12, i_17, i_29, i_31, i_33, i_36, i_37, i_40, i_41, i_42, i_43, i_44, i_45, i_47, i_48, i_50, i_53, i_55, i_56, i_57, i_58, i_59, i_60, i_61, i_98, i_99, i_100, i_102, i_104, i_106, i_110, i_112, i_119, i_120, i_128, i_392, i_448, nI_add, nI_leI, nI_ltI, nI_eq, nI_clamp, iM_le, iM_lt, iM_nle, iM_nlt, iM_ne, iM_ne', Nat.add_zero, pk_mul, asr_inb, bd_some, bw_some, bx_inl, bx_inr, bh_inl, bh_inr, b2_eq0, b2_eq1, asr_zok, nz_nI, m_touches w]
      rw [if_neg (by omega)]
      cases ht : tt (V 110) k j <;> rw [ht] at hK2 <;> simpa [Nat.add_assoc] using hK2
    · rintro K2 y0 y1 ⟨rfl, rfl⟩
      unfold d_X5_borders_16b
      simp (disch := omega) only [↓iM_def, i_0, i_1, i_2, i_3, i_4, i_5, i_6, i_7, i_8, i_9, i_10, i_12, i_17, i_29, i_31, i_33, i_36, i_37, i_40, i_41, i_42, i_43, i_44, i_45, i_47, i_48, i_50, i_53, i_55, i_56, i_57, i_58, i_59, i_60, i_61, i_98, i_99, i_100, i_102, i_104, i_106, i_110, i_112, i_119, i_120, i_128, i_392, i_448, nI_add, nI_leI, nI_ltI, nI_eq, nI_clamp, iM_le, iM_lt, iM_nle, iM_nlt, iM_ne, iM_ne', Nat.add_zero, pk_mul, asr_inb, bd_some, bw_some, bx_inl, bx_inr, bh_inl, bh_inr, b2_eq0, b2_eq1, asr_zok, nz_nI, Nat.le_refl, if_true]
      exact hK
  · rintro K y0 rfl
    unfold d_X5_borders_4b
    simp (disch := omega) only [↓iM_def, i_0, i_1, i_2, i_3, i_4, i_5, i_6, i_7, i_8, i_9, i_10, i_12, i_17, i_29, i_31, i_33, i_36, i_37, i_40, i_41, i_42, i_43, i_44, i_45, i_47, i_48, i_50, i_53, i_55, i_56, i_57, i_58, i_59, i_60, i_61, i_98, i_99, i_100, i_102, i_104, i_106, i_110, i_112, i_119, i_120, i_128, i_392, i_448, nI_add, nI_leI, nI_ltI, nI_eq, nI_clamp, iM_le, iM_lt, iM_nle, iM_nlt, iM_ne, iM_ne', Nat.add_zero, pk_mul, asr_inb, bd_some, bw_some, bx_inl, bx_inr, bh_inl, bh_inr, b2_eq0, b2_eq1, asr_zok, nz_nI, wf_n w, Nat.le_refl, if_true]
    rfl
theorem i_stopC_t (h : AI V σ) (K : OKs σ) {x : Int32} (hx : isC σ.1 x = true) : d_X4_stopIfNoCountry x V = some (.inl (0 : Int32), V) := by
  unfold d_X4_stopIfNoCountry
  rw [i_isC h.1 K.w, hx]
  rfl
theorem i_stopC_f (h : AI V σ) (K : OKs σ) {x : Int32} (hx : isC σ.1 x = false) : d_X4_stopIfNoCountry x V = some (.inr eIO, V) := by
  unfold d_X4_stopIfNoCountry
  rw [i_isC h.1 K.w, hx]
  rfl
theorem i_isHue (x : Int32) : d_X4_isHue x V = some (b2 (isH x)) := by
  unfold d_X4_isHue isH
  by_cases h1 : x < (0 : Int32)
  · rw [if_pos h1, decide_eq_false (Int32.not_le.mpr h1)]; rfl
  · rw [if_neg h1, decide_eq_true (Int32.not_lt.mp h1)]
    by_cases h2 : (5 : Int32) ≤ x
    · have h3 : ¬ x < nI 5 := Int32.not_lt.mpr h2
      rw [if_pos h2, decide_eq_false h3]; rfl
    · have h3 : x < nI 5 := Int32.not_le.mp h2
      rw [if_neg h2, decide_eq_true h3]; rfl
theorem i_stopH_t {x : Int32} (hx : isH x = true) : d_X4_stopIfNoHue x V = some (.inl (0 : Int32), V) := by
  unfold d_X4_stopIfNoHue
  rw [i_isHue, hx]
  rfl
theorem i_stopH_f {x : Int32} (hx : isH x = false) : d_X4_stopIfNoHue x V = some (.inr eIO, V) := by
  unfold d_X4_stopIfNoHue
  rw [i_isHue, hx]
  rfl
/-- the number in an int -/
abbrev nt (x : Int32) : Nat := x.toNatClampNeg
def spBorder (σ : Sg) (x y : Int32) : (Int32 ⊕ Nat) × Sg :=
  if isC σ.1 x = true ∧ isC σ.1 y = true then
    if x = y then (.inr 2, refu σ (nI 5) x)
    else if tt σ.1 (nt x) (nt y) = true then (.inr 2, refu σ (nI 6) y)
    else if ptd σ.1 (nt x) = true ∧ hu σ.1 (nt x) = hu σ.1 (nt y) then (.inr 2, refu σ (nI 7) (hu σ.1 (nt x)))
    else (.inl (nI (bor (aJoin σ.1 (nt x) (nt y)))), chg σ (aJoin σ.1 (nt x) (nt y)))
  else (.inr 1, σ)
theorem K_border (K : OKs σ) (x y : Int32) : OKs (spBorder σ x y).2 := by
  have n7 := wf_n7 K.w
  unfold spBorder
  by_cases hc : isC σ.1 x = true ∧ isC σ.1 y = true
  · rw [if_pos hc]
    obtain ⟨a, ha, rfl⟩ := isC_of K.w hc.1
    obtain ⟨b, hb, rfl⟩ := isC_of K.w hc.2
    rw [show nt (nI a) = a from nI_clamp (by omega), show nt (nI b) = b from nI_clamp (by omega)]
    by_cases h1 : nI a = nI b
    · rw [if_pos h1]; exact K
    · rw [if_neg h1]
      by_cases h2 : tt σ.1 a b = true
      · rw [if_pos h2]; exact K
      · rw [if_neg h2]
        by_cases h3 : ptd σ.1 a = true ∧ hu σ.1 a = hu σ.1 b
        · rw [if_pos h3]; exact K
        · rw [if_neg h3]
          exact K.chg (wf_join K.w ha hb (fun q => h1 (by rw [q])) (fun hp q => h3 ⟨hp, q⟩))
  · rw [if_neg hc]; exact K
theorem I_border (h : AI V σ) (K : OKs σ) (x y : Int32) : DI eIO eUO (d_X4_border x y V) V (spBorder σ x y) := by
  have n7 := wf_n7 K.w
  unfold d_X4_border spBorder
  cases hx : isC σ.1 x with
  | false =>
    rw [i_stopC_f h K hx, bx_inr, if_neg (by simp)]
    exact DI.err h (Or.inr trivial)
  | true =>
    rw [i_stopC_t h K hx, bx_inl]
    cases hy : isC σ.1 y with
    | false =>
      rw [i_stopC_f h K hy, bx_inr, if_neg (by simp)]
      exact DI.err h (Or.inr trivial)
    | true =>
      rw [i_stopC_t h K hy, bx_inl, if_pos ⟨rfl, rfl⟩]
      obtain ⟨a, ha, rfl⟩ := isC_of K.w hx
      obtain ⟨b, hb, rfl⟩ := isC_of K.w hy
      rw [show nt (nI a) = a from nI_clamp (by omega), show nt (nI b) = b from nI_clamp (by omega)]
      unfold d_X1_reasonAgainstBorder
      by_cases h1 : nI a = nI b
      · rw [if_pos h1, if_pos h1, bd_some]
        exact DI.refuse (r := 5) h _ _ _ (by decide +kernel) rfl _
      · rw [if_neg h1, if_neg h1]
        have hab : a ≠ b := fun q => h1 (by rw [q])
        simp (disch := omega) only [↓iM_def, i_0, i_1, i_2, i_3, i_4, i_5, i_6, i_7, i_8, i_9, i_10, i_12, i_17, i_29, i_31, i_33, i_36, i_37, i_40, i_41, i_42, i_43, i_44, i_45, i_47, i_48, i_50, i_53, i_55, i_56, i_57, i_58, i_59, i_60, i_61, i_98, i_99, i_100, i_102, i_104, i_106, i_110, i_112, i_119, i_120, i_128, i_392, i_448, nI_add, nI_leI, nI_ltI, nI_eq, nI_clamp, iM_le, iM_lt, iM_nle, iM_nlt, iM_ne, iM_ne', Nat.add_zero, pk_mul, asr_inb, bd_some, bw_some, bx_inl, bx_inr, bh_inl, bh_inr, b2_eq0, b2_eq1, asr_zok, nz_nI, i_areNb h.1 K.w, i_isP h.1, lr_hu h.1]
        cases h2 : tt σ.1 a b with
        | true =>
          simp only [Bool.true_eq_false, if_false, if_true, bd_some]
          exact DI.refuse (r := 6) h _ _ _ (by decide +kernel) rfl _
        | false =>
          simp only [Bool.false_eq_true, if_false, if_true, bd_some]
          have fin : ¬ (ptd σ.1 a = true ∧ hu σ.1 a = hu σ.1 b) → DI eIO eUO (bx (d_X4_stopIfRefused (nI 0) (nI a) (nI b) V) fun _ V17 => bd (d_X3_keep 1 V17) fun V22 => bd (d_X1_join (nI a) (nI b) V22) fun V24 => bd (d_X1_countBorders V24) fun r26 => some (Sum.inl r26, V24)) V (.inl (nI (bor (aJoin σ.1 a b))), chg σ (aJoin σ.1 a b)) := by
            intro h3
            rw [i_stop0, bx_inl]
            obtain ⟨V1, a1, a2, a3, a4⟩ := h.change K
            obtain ⟨V2, b1, b2, b3⟩ := i_join a2 K.w ha hb hab
            rw [a1, bd_some, b1, bd_some, i_borders b2 (wf_join K.w ha hb hab (fun hp q => h3 ⟨hp, q⟩)), bd_some]
            obtain ⟨c1, c2⟩ := a4 b2 b3
            exact ⟨V2, rfl, c1, c2⟩
          cases h3 : ptd σ.1 a with
          | false =>
            simp only [if_true, Bool.false_eq_true, false_and, if_false, bd_some]
            exact fin (by rw [h3]; simp)
          | true =>
            simp only [Bool.true_eq_false, if_false, true_and]
            by_cases h4 : hu σ.1 a = hu σ.1 b
            · rw [if_pos h4, if_pos h4, bd_some]
              refine DI.refuse (r := 7) h _ _ _ (by decide +kernel) ?_ _
              have h5 : d_X1_detailOf (nI 7) (nI a) (nI b) (up2 V 0 10 (nI 7)) = asr (inb (nI a) 7) (some (up2 V 0 10 (nI 7) 3 (nI a).toNatClampNeg)) := rfl
              rw [h5]
              simp (disch := omega) only [asr_inb, nI_clamp, lr_hu (h.up10 (nI 7))]
            · rw [if_neg h4, if_neg h4, bd_some]
              exact fin (by rw [h3]; simp [h4])
theorem M_border (h : AJ V σ) (K : OKs σ) (x y : Int32) : DM (d_X5_border x y V) V (spBorder σ x y) := by
  have n7 := wf_n7 K.w
  have wV : WF (V 110) := by rw [h.1]; exact K.w
  unfold d_X5_border d_X5_border_21 spBorder
  simp only [m_isCountry wV, bd_some, i_0, b2_eq0, h.1]
  have bad : ¬ (isC σ.1 x = true ∧ isC σ.1 y = true) → DM (d_X5_border_22 x y 1 V) V (if isC σ.1 x = true ∧ isC σ.1 y = true then (if x = y then (.inr 2, refu σ (nI 5) x) else if tt σ.1 (nt x) (nt y) = true then (.inr 2, refu σ (nI 6) y) else if ptd σ.1 (nt x) = true ∧ hu σ.1 (nt x) = hu σ.1 (nt y) then (.inr 2, refu σ (nI 7) (hu σ.1 (nt x))) else (.inl (nI (bor (aJoin σ.1 (nt x) (nt y)))), chg σ (aJoin σ.1 (nt x) (nt y)))) else (.inr 1, σ)) := by
    intro hn
    rw [if_neg hn]
    unfold d_X5_border_22
    simp only [↓iM_def, i_0, i_1, i_2, i_3, i_4, i_5, i_6, i_7, i_8, i_9, i_10, i_12, i_17, i_29, i_31, i_33, i_36, i_37, i_40, i_41, i_42, i_43, i_44, i_45, i_47, i_48, i_50, i_53, i_55, i_56, i_57, i_58, i_59, i_60, i_61, i_98, i_99, i_100, i_102, i_104, i_106, i_110, i_112, i_119, i_120, i_128, i_392, i_448, m_fail0, m_fail1, m_fail2, e10, eq_self, if_true, if_false, bw_some]
    exact DM.err h _
  cases hx : isC σ.1 x with
  | false => rw [if_pos rfl]; rw [hx] at bad; exact bad (by simp)
  | true =>
    rw [if_neg (by decide)]
    cases hy : isC σ.1 y with
    | false => rw [if_pos rfl]; rw [hx, hy] at bad; exact bad (by simp)
    | true =>
      rw [if_neg (by decide), if_pos ⟨rfl, rfl⟩]
      obtain ⟨a, ha, rfl⟩ := isC_of K.w hx
      obtain ⟨b, hb, rfl⟩ := isC_of K.w hy
      rw [show nt (nI a) = a from nI_clamp (by omega), show nt (nI b) = b from nI_clamp (by omega)]
      unfold d_X5_border_22 d_X5_border_98
      simp only [↓iM_def, i_0, i_1, i_2, i_3, i_4, i_5, i_6, i_7, i_8, i_9, i_10, i_12, i_17, i_29, i_31, i_33, i_36, i_37, i_40, i_41, i_42, i_43, i_44, i_45, i_47, i_48, i_50, i_53, i_55, i_56, i_57, i_58, i_59, i_60, i_61, i_98, i_99, i_100, i_102, i_104, i_106, i_110, i_112, i_119, i_120, i_128, i_392, i_448, m_fail0, m_fail1, m_fail2, e10, eq_self, if_true, if_false, bw_some, m_refuses]
      refine DM.pre h (nI 0) (fun V2 h2 hc e => ?_)
      rw [e]
      have w2 : WF (V2 110) := by rw [h2.1]; exact K.w
      by_cases h1 : nI a = nI b
      · rw [if_pos h1, if_pos h1]
        exact DM.refuse (k := 2) h2 _ _ _
      · rw [if_neg h1, if_neg h1]
        have hab : a ≠ b := fun q => h1 (by rw [q])
        obtain ⟨V7, a1, a2, a3, a4⟩ := h2.keep K
        have a5 : V7 110 = σ.1 := a2.1
        have w7 := K.w
        simp (disch := omega) only [↓iM_def, i_0, i_1, i_2, i_3, i_4, i_5, i_6, i_7, i_8, i_9, i_10, i_12, i_17, i_29, i_31, i_33, i_36, i_37, i_40, i_41, i_42, i_43, i_44, i_45, i_47, i_48, i_50, i_53, i_55, i_56, i_57, i_58, i_59, i_60, i_61, i_98, i_99, i_100, i_102, i_104, i_106, i_110, i_112, i_119, i_120, i_128, i_392, i_448, nI_add, nI_leI, nI_ltI, nI_eq, nI_clamp, iM_le, iM_lt, iM_nle, iM_nlt, iM_ne, iM_ne', Nat.add_zero, pk_mul, asr_inb, bd_some, bw_some, bx_inl, bx_inr, bh_inl, bh_inr, b2_eq0, b2_eq1, asr_zok, nz_nI, up2_setc, setc_at, setc_setc, setc_ne, m_touches w2, m_isP w2, m_hu, h2.1, a1, a5, wf_nb w7, upd_ne, upd_eq, set_nI]
        cases h5 : tt σ.1 a b with
        | true =>
          simp only [Bool.true_eq_false, if_false, if_true]
          exact DM.refuseS (k := 2) h2 _ _ _
        | false =>
          simp only [Bool.false_eq_true, if_false, if_true]
          have fin : ¬ (ptd σ.1 a = true ∧ hu σ.1 a = hu σ.1 b) → DM (bd (d_X5_borders (setc V7 110 (aJoin σ.1 a b))) fun r8 => some (r8, setc V7 110 (aJoin σ.1 a b))) V2 (.inl (nI (bor (aJoin σ.1 a b))), chg σ (aJoin σ.1 a b)) := by
            intro h3
            have wj := wf_join K.w ha hb hab (fun hp q => h3 ⟨hp, q⟩)
            rw [m_borders (by rw [setc_at]; exact wj), bd_some, setc_at]
            exact DM.of rfl a2.row (a3.tr (fr110 _ _)) (by rw [setc_ne (by omega), a4, hc]; rfl) (fun v hv => by cases hv; rfl)
          cases h3 : ptd σ.1 a with
          | false =>
            simp only [if_true, Bool.false_eq_true, false_and, if_false]
            exact fin (by rw [h3]; simp)
          | true =>
            simp only [Bool.true_eq_false, if_false, true_and]
            by_cases h4 : hu σ.1 a = hu σ.1 b
            · rw [if_pos h4, if_pos h4]
              exact DM.refuseS (k := 2) h2 _ _ _
            · rw [if_neg h4, if_neg h4]
              exact fin (by rw [h3]; simp [h4])
end
