/-! PURE ROWS: next, gentle, account -/
def opn (g : Row) : Nat := mk (fun c => !ptd g c) (gN g)
def pn (g : Row) (c : Nat) : Nat := cnt (fun o => tt g c o && !ptd g o) (gN g)
def btr (g : Row) (c b : Nat) : Bool := decide (fm g c < fm g b) || (decide (fm g c = fm g b) && decide (pn g b < pn g c))
def nx (g : Row) : Nat → Option Nat
  | 0 => none
  | k + 1 => if ptd g k = true then nx g k else match nx g k with
    | none => some k
    | some b => if btr g k b = true then some k else some b
def rb (g : Row) (c h : Nat) : Nat := cnt (fun o => tt g c o && fre g o h) (gN g)
def gt (g : Row) (c : Nat) : Nat → Option Nat
  | 0 => none
  | k + 1 => if fre g c k = true then (match gt g c k with
    | none => some k
    | some b => if rb g c k < rb g c b then some k else some b) else gt g c k
section
variable {V V' : VT} {σ : Sg} {g : Row} {E2 : String}
theorem cnt_not (p : Nat → Bool) : ∀ n, cnt (fun c => !p c) n + cnt p n = n
  | 0 => rfl
  | n + 1 => by
    have := cnt_not p n
    rw [cnt_s, cnt_s]
    cases p n <;> simp <;> omega
theorem i_unpainted (r : LR V 1 g) (w : WF g) : d_X1_unpainted V = some (nI (opn g)) := by
  have n7 := wf_n7 w
  unfold d_X1_unpainted d_X1_unpainted_4
  refine lo2_inv (gN g) (fun k y0 => y0 = nI (mk (fun c => !ptd g c) k)) ?_ ?_ FU (show gN g < 1000 by omega) _ rfl
  · rintro K k y0 hk rfl hK
    have hK := hK _ rfl
    rw [mk_s] at hK
    unfold d_X1_unpainted_4b
    simp (disch := omega) only [↓iM_def, i_0, i_1, i_2, i_3, i_4, i_5, i_6, i_7, i_8, i_9, i_10, i_12, i_17, i_29, i_31, i_33, i_36, i_37, i_40, i_41, i_42, i_43, i_44, i_45, i_47, i_48, i_50, i_53, i_55, i_56, i_57, i_58, i_59, i_60, i_61, i_98, i_99, i_100, i_102, i_104, i_106, i_110, i_112, i_119, i_120, i_128, i_392, i_448, nI_add, nI_leI, nI_ltI, nI_eq, nI_clamp, iM_le, iM_lt, iM_nle, iM_nlt, iM_ne, iM_ne', Nat.add_zero, pk_mul, asr_inb, bd_some, bw_some, bx_inl, bx_inr, bh_inl, bh_inr, b2_eq0, b2_eq1, asr_zok, nz_nI, lr_n r w, i_isP r, set_nI]
    rw [if_neg (by omega)]
    cases hq : ptd g k with
    | false => rw [if_pos rfl]; simpa [hq] using hK
    | true => rw [if_neg (by decide)]; simpa [hq] using hK
  · rintro K y0 rfl
    unfold d_X1_unpainted_4b
    simp (disch := omega) only [↓iM_def, i_0, i_1, i_2, i_3, i_4, i_5, i_6, i_7, i_8, i_9, i_10, i_12, i_17, i_29, i_31, i_33, i_36, i_37, i_40, i_41, i_42, i_43, i_44, i_45, i_47, i_48, i_50, i_53, i_55, i_56, i_57, i_58, i_59, i_60, i_61, i_98, i_99, i_100, i_102, i_104, i_106, i_110, i_112, i_119, i_120, i_128, i_392, i_448, nI_add, nI_leI, nI_ltI, nI_eq, nI_clamp, iM_le, iM_lt, iM_nle, iM_nlt, iM_ne, iM_ne', Nat.add_zero, pk_mul, asr_inb, bd_some, bw_some, bx_inl, bx_inr, bh_inl, bh_inr, b2_eq0, b2_eq1, asr_zok, nz_nI, lr_n r w, Nat.le_refl, if_true]
    rfl
theorem opn_lt (w : WF g) : opn g < 128 := Nat.lt_of_lt_of_le (mk_lt _ _) (Nat.pow_le_pow_right (n := 2) (by omega) (wf_n7 w))
theorem s_open (w : WF g) : gN g - cnt (fun c => !ptd g c) (gN g) = gS g := by
  have h := cnt_not (ptd g) (gN g)
  rw [wf_sc w]
  omega
theorem i_countPainted (r : LR V 1 g) (w : WF g) : d_X1_countPainted V = some (nI (gS g)) := by
  have n7 := wf_n7 w
  have hc := cnt_le (fun c => !ptd g c) (gN g)
  unfold d_X1_countPainted
  rw [i_unpainted r w, bd_some]
  unfold opn
  rw [bc_mk _ V n7, bd_some, lr_n r w, pk_sub hc, s_open w]
theorem m_left (w : WF (V 110)) : d_X5_left V = some (nI (cnt (fun c => !ptd (V 110) c) (gN (V 110)))) := by
  have n7 := wf_n7 w
  unfold d_X5_left d_X5_left_4
  refine lo2_inv (gN (V 110)) (fun k y0 => y0 = nI (cnt (fun c => !ptd (V 110) c) k)) ?_ ?_ FU (show gN (V 110) < 1000 by omega) _ rfl
  · rintro K k y0 hk rfl hK
    have hK := hK _ rfl
    rw [cnt_s] at hK
    unfold d_X5_left_4b
    simp (disch := omega) only [↓iM_def, i_0, i_1, i_2, i_3, i_4, i_5, i_6, i_7, i_8, i_9, i_10, i_12, i_17, i_29, i_31, i_33, i_36, i_37, i_40, i_41, i_42, i_43, i_44, i_45, i_47, i_48, i_50, i_53, i_55, i_56, i_57, i_58, i_59, i_60, i_61, i_98, i_99, i_100, i_102, i_104, i_106, i_110, i_112, i_119, i_120, i_128, i_392, i_448, nI_add, nI_leI, nI_ltI, nI_eq, nI_clamp, iM_le, iM_lt, iM_nle, iM_nlt, iM_ne, iM_ne', Nat.add_zero, pk_mul, asr_inb, bd_some, bw_some, bx_inl, bx_inr, bh_inl, bh_inr, b2_eq0, b2_eq1, asr_zok, nz_nI, wf_n w, m_isP w]
    rw [if_neg (by omega)]
    cases hq : ptd (V 110) k with
    | false => rw [if_pos rfl]; simpa [hq] using hK
    | true => rw [if_neg (by decide)]; simpa [hq] using hK
  · rintro K y0 rfl
    unfold d_X5_left_4b
    simp (disch := omega) only [↓iM_def, i_0, i_1, i_2, i_3, i_4, i_5, i_6, i_7, i_8, i_9, i_10, i_12, i_17, i_29, i_31, i_33, i_36, i_37, i_40, i_41, i_42, i_43, i_44, i_45, i_47, i_48, i_50, i_53, i_55, i_56, i_57, i_58, i_59, i_60, i_61, i_98, i_99, i_100, i_102, i_104, i_106, i_110, i_112, i_119, i_120, i_128, i_392, i_448, nI_add, nI_leI, nI_ltI, nI_eq, nI_clamp, iM_le, iM_lt, iM_nle, iM_nlt, iM_ne, iM_ne', Nat.add_zero, pk_mul, asr_inb, bd_some, bw_some, bx_inl, bx_inr, bh_inl, bh_inr, b2_eq0, b2_eq1, asr_zok, nz_nI, wf_n w, Nat.le_refl, if_true]
theorem m_paintedMany (w : WF (V 110)) : d_X5_paintedMany V = some (nI (gS (V 110))) := by
  have n7 := wf_n7 w
  have hc := cnt_le (fun c => !ptd (V 110) c) (gN (V 110))
  unfold d_X5_paintedMany
  rw [m_left w, bd_some, wf_n w, pk_sub hc, s_open w]
theorem pc_of {m n : Nat} {p : Nat → Bool} (hn : n ≤ 7) (h : ∀ i, i < 7 → m.testBit i = (decide (i < n) && p i)) : pc m = cnt p n := by
  rw [← pc_mk p hn]
  exact cnt_congr (fun i hi => by rw [h i hi, mk_bit])
theorem pc_pn (w : WF g) {c : Nat} (hc : c < 7) : pc (nb g c &&& opn g) = pn g c := by
  refine pc_of (wf_n7 w) (fun i hi => ?_)
  rw [Nat.testBit_and]
  unfold opn
  rw [mk_bit]
  show (tt g c i && (decide (i < gN g) && !ptd g i)) = (decide (i < gN g) && (tt g c i && !ptd g i))
  cases tt g c i <;> cases decide (i < gN g) <;> rfl
theorem i_bcA (w : WF g) {c : Nat} (hc : c < 7) : d_J6_bitCount_0f7a4 (nI (nb g c) &&& nI (opn g)) V = some (nI (pn g c)) := by
  have a1 : nb g c &&& opn g < 2 ^ 7 := and_lt (wf_nb7 w hc)
  rw [nI_and, bc_nI V a1, pc_pn w hc]
theorem i_better (r : LR V 1 g) (w : WF g) {c b : Nat} (hc : c < 7) (hb : b < 7) : d_X1_isBetterToPaint (nI c) (nI b) V = some (b2 (btr g c b)) := by
  have h1 : fm g c ≤ 5 := cnt_le _ _
  have h2 : fm g b ≤ 5 := cnt_le _ _
  have h3 : pn g c ≤ 7 := Nat.le_trans (cnt_le _ _) (wf_n7 w)
  have h4 : pn g b ≤ 7 := Nat.le_trans (cnt_le _ _) (wf_n7 w)
  have a1 := i_freeHues r w hc
  have a2 := i_freeHues r w hb
  have a3 : d_J6_bitCount_0f7a4 (nI (mk (fre g c) 5)) V = some (nI (fm g c)) := i_fm c
  have a4 : d_J6_bitCount_0f7a4 (nI (mk (fre g b) 5)) V = some (nI (fm g b)) := i_fm b
  have a5 := i_unpainted r w
  have a6 : d_J6_bitCount_0f7a4 (nI (nb g c) &&& nI (opn g)) V = some (nI (pn g c)) := i_bcA w hc
  have a7 : d_J6_bitCount_0f7a4 (nI (nb g b) &&& nI (opn g)) V = some (nI (pn g b)) := i_bcA w hb
  have a8 := lr_nb r w hc
  have a9 := lr_nb r w hb
  generalize hF : d_J6_bitCount_0f7a4 = F at a3 a4 a6 a7
  have e0 : d_X1_isBetterToPaint (nI c) (nI b) V = bd (d_X1_freeHues (nI c) V) (fun r2 => bd (F r2 V) (fun r4 => bd (d_X1_freeHues (nI b) V) (fun r6 => bd (F r6 V) (fun r8 => if r4 = r8 then bd (d_X1_unpainted V) (fun r11 => asr (inb (nI c) 7) (bd (F ((V 6 (nI c).toNatClampNeg) &&& r11) V) (fun r14 => asr (inb (nI b) 7) (bd (F ((V 6 (nI b).toNatClampNeg) &&& r11) V) (fun r17 => if r14 ≤ r17 then some (0 : Int32)
    else some (1 : Int32))))))
  else if r8 ≤ r4 then some (0 : Int32)
    else some (1 : Int32))))) := by rw [← hF]; rfl
  rw [e0, a1, bd_some, a3, bd_some, a2, bd_some, a4, bd_some, a5, bd_some, asr_inb hc (by omega), nI_clamp (n := c) (by omega), a8, a6, bd_some, asr_inb hb (by omega), nI_clamp (n := b) (by omega), a9, a7, bd_some]
  simp (disch := omega) only [nI_eq, nI_leI, i_0, i_1]
  unfold btr
  by_cases e : fm g c = fm g b
  · rw [if_pos e, decide_eq_false (show ¬ fm g c < fm g b by omega), decide_eq_true e]
    by_cases q : pn g c ≤ pn g b
    · rw [if_pos q, decide_eq_false (show ¬ pn g b < pn g c by omega)]; rfl
    · rw [if_neg q, decide_eq_true (show pn g b < pn g c by omega)]; rfl
  · rw [if_neg e, decide_eq_false e]
    by_cases q : fm g b ≤ fm g c
    · rw [if_pos q, decide_eq_false (show ¬ fm g c < fm g b by omega)]; rfl
    · rw [if_neg q, decide_eq_true (show fm g c < fm g b by omega)]; rfl
theorem nx_s (g : Row) (k : Nat) : nx g (k + 1) = if ptd g k = true then nx g k else match nx g k with | none => some k | some b => if btr g k b = true then some k else some b := rfl
theorem nx_lt : ∀ (k : Nat) {b : Nat}, nx g k = some b → b < k
  | 0, b, h => by cases h
  | k + 1, b, h => by
    rw [nx_s] at h
    by_cases hp : ptd g k = true
    · rw [if_pos hp] at h; have := nx_lt k h; omega
    · rw [if_neg hp] at h
      cases hq : nx g k with
      | none => rw [hq] at h; cases h; omega
      | some b' =>
        rw [hq] at h
        have := nx_lt k hq
        simp only at h
        by_cases hb : btr g k b' = true
        · rw [if_pos hb] at h; cases h; omega
        · rw [if_neg hb] at h; cases h; omega
theorem i_best (r : LR V 1 g) (w : WF g) : d_X1_bestToPaint V = some (io (nx g (gN g))) := by
  have n7 := wf_n7 w
  unfold d_X1_bestToPaint d_X1_bestToPaint_4
  refine lo2_inv (gN g) (fun k y0 => y0 = io (nx g k)) ?_ ?_ FU (show gN g < 1000 by omega) _ rfl
  · rintro K k y0 hk rfl hK
    have hK := hK _ rfl
    rw [nx_s] at hK
    unfold d_X1_bestToPaint_4b
    simp (disch := omega) only [↓iM_def, i_0, i_1, i_2, i_3, i_4, i_5, i_6, i_7, i_8, i_9, i_10, i_12, i_17, i_29, i_31, i_33, i_36, i_37, i_40, i_41, i_42, i_43, i_44, i_45, i_47, i_48, i_50, i_53, i_55, i_56, i_57, i_58, i_59, i_60, i_61, i_98, i_99, i_100, i_102, i_104, i_106, i_110, i_112, i_119, i_120, i_128, i_392, i_448, nI_add, nI_leI, nI_ltI, nI_eq, nI_clamp, iM_le, iM_lt, iM_nle, iM_nlt, iM_ne, iM_ne', Nat.add_zero, pk_mul, asr_inb, bd_some, bw_some, bx_inl, bx_inr, bh_inl, bh_inr, b2_eq0, b2_eq1, asr_zok, nz_nI, lr_n r w, i_isP r]
    rw [if_neg (by omega)]
    cases hq : ptd g k with
    | true =>
      rw [hq, if_pos rfl] at hK
      rw [if_neg (by decide)]; exact hK
    | false =>
      rw [hq, if_neg (by decide)] at hK
      rw [if_pos rfl]
      cases hb : nx g k with
      | none =>
        rw [hb] at hK
        rw [if_pos (show io none = iM from rfl)]; exact hK
      | some b =>
        rw [hb] at hK
        have hlt := nx_lt k hb
        simp only at hK
        have e1 : io (some b) = nI b := rfl
        have e2 : ¬ nI b = iM := fun q => (iM_ne (by omega)).mp q
        rw [e1, if_neg e2, i_better r w (by omega) (by omega), bd_some]
        simp only [b2_eq0]
        cases hc : btr g k b with
        | false =>
          rw [hc, if_neg (by decide)] at hK
          rw [if_pos rfl]; exact hK
        | true =>
          rw [hc, if_pos rfl] at hK
          rw [if_neg (by decide)]; exact hK
  · rintro K y0 rfl
    unfold d_X1_bestToPaint_4b
    simp (disch := omega) only [↓iM_def, i_0, i_1, i_2, i_3, i_4, i_5, i_6, i_7, i_8, i_9, i_10, i_12, i_17, i_29, i_31, i_33, i_36, i_37, i_40, i_41, i_42, i_43, i_44, i_45, i_47, i_48, i_50, i_53, i_55, i_56, i_57, i_58, i_59, i_60, i_61, i_98, i_99, i_100, i_102, i_104, i_106, i_110, i_112, i_119, i_120, i_128, i_392, i_448, nI_add, nI_leI, nI_ltI, nI_eq, nI_clamp, iM_le, iM_lt, iM_nle, iM_nlt, iM_ne, iM_ne', Nat.add_zero, pk_mul, asr_inb, bd_some, bw_some, bx_inl, bx_inr, bh_inl, bh_inr, b2_eq0, b2_eq1, asr_zok, nz_nI, lr_n r w, Nat.le_refl, if_true]
theorem m_plain (w : WF (V 110)) {c : Nat} (hc : c < 7) : d_X5_plainNeighbours (nI c) V = some (nI (pn (V 110) c)) := by
  have n7 := wf_n7 w
  unfold d_X5_plainNeighbours d_X5_plainNeighbours_4
  refine lo3_inv (gN (V 110)) (fun k y0 y1 => y0 = nI c ∧ y1 = nI (cnt (fun o => tt (V 110) c o && !ptd (V 110) o) k)) ?_ ?_ FU (show gN (V 110) < 1000 by omega) _ _ ⟨rfl, rfl⟩
  · rintro K k y0 y1 hk ⟨rfl, rfl⟩ hK
    have hK := hK (nI c) _ ⟨rfl, rfl⟩
    rw [cnt_s] at hK
    unfold d_X5_plainNeighbours_4b
    simp (disch := omega) only [↓iM_def, i_0, i_1, i_2, i_3, i_4, i_5, i_6, i_7, i_8, i_9, i_10, i_12, i_17, i_29, i_31, i_33, i_36, i_37, i_40, i_41, i_42, i_43, i_44, i_45, i_47, i_48, i_50, i_53, i_55, i_56, i_57, i_58, i_59, i_60, i_61, i_98, i_99, i_100, i_102, i_104, i_106, i_110, i_112, i_119, i_120, i_128, i_392, i_448, nI_add, nI_leI, nI_ltI, nI_eq, nI_clamp, iM_le, iM_lt, iM_nle, iM_nlt, iM_ne, iM_ne', Nat.add_zero, pk_mul, asr_inb, bd_some, bw_some, bx_inl, bx_inr, bh_inl, bh_inr, b2_eq0, b2_eq1, asr_zok, nz_nI, wf_n w, m_touches w, m_isP w]
    rw [if_neg (by omega)]
    cases h1 : tt (V 110) c k with
    | false => rw [if_pos rfl]; simpa [h1] using hK
    | true =>
      rw [if_neg (by decide)]
      cases h2 : ptd (V 110) k with
      | false => rw [if_pos rfl]; simpa [h1, h2] using hK
      | true => rw [if_neg (by decide)]; simpa [h1, h2] using hK
  · rintro K y0 y1 ⟨rfl, rfl⟩
    unfold d_X5_plainNeighbours_4b
    simp (disch := omega) only [↓iM_def, i_0, i_1, i_2, i_3, i_4, i_5, i_6, i_7, i_8, i_9, i_10, i_12, i_17, i_29, i_31, i_33, i_36, i_37, i_40, i_41, i_42, i_43, i_44, i_45, i_47, i_48, i_50, i_53, i_55, i_56, i_57, i_58, i_59, i_60, i_61, i_98, i_99, i_100, i_102, i_104, i_106, i_110, i_112, i_119, i_120, i_128, i_392, i_448, nI_add, nI_leI, nI_ltI, nI_eq, nI_clamp, iM_le, iM_lt, iM_nle, iM_nlt, iM_ne, iM_ne', Nat.add_zero, pk_mul, asr_inb, bd_some, bw_some, bx_inl, bx_inr, bh_inl, bh_inr, b2_eq0, b2_eq1, asr_zok, nz_nI, wf_n w, Nat.le_refl, if_true]
    rfl
def spNext (σ : Sg) : (Int32 ⊕ Nat) × Sg := match nx σ.1 (gN σ.1) with
  | some c => (.inl (nI c), σ)
  | none => (.inr 1, σ)
theorem I_next (h : AI V σ) (K : OKs σ) : DI eNS E2 (d_X4_next V) V (spNext σ) := by
  have n7 := wf_n7 K.w
  unfold d_X4_next spNext
  rw [i_best h.1 K.w, bd_some]
  simp only [↓iM_def, io_m (o := nx σ.1 (gN σ.1)) (n := gN σ.1) (by omega) (fun k hk => nx_lt _ hk)]
  cases nx σ.1 (gN σ.1) with
  | none => rw [if_pos rfl]; exact DI.err h (Or.inr trivial)
  | some c => rw [if_neg (by intro q; cases q)]; exact ⟨V, rfl, h, FrI.rf V⟩
theorem M_next (h : AJ V σ) (K : OKs σ) : DM (d_X5_next V) V (spNext σ) := by
  have n7 := wf_n7 K.w
  have wV : WF (V 110) := by rw [h.1]; exact K.w
  have e : d_X5_next V = some (match nx σ.1 (gN σ.1) with | some c => (nI c, up2 V 109 7 (nI 0)) | none => (nI 0, up2 V 109 7 (nI 1))) := by
    unfold d_X5_next d_X5_next_4
    refine lo2W_inv (gN σ.1) (fun k y0 Vk => Vk = V ∧ y0 = io (nx σ.1 k)) ?_ ?_ FU (show gN σ.1 < 1000 by omega) _ _ ⟨rfl, rfl⟩
    · rintro Kk k y0 Vk hk ⟨rfl, rfl⟩ hK
      have hK := hK _ _ ⟨rfl, rfl⟩
      rw [nx_s] at hK
      have hk1 : fm σ.1 k ≤ 5 := cnt_le _ _
      unfold d_X5_next_4b
      simp (disch := omega) only [↓iM_def, i_0, i_1, i_2, i_3, i_4, i_5, i_6, i_7, i_8, i_9, i_10, i_12, i_17, i_29, i_31, i_33, i_36, i_37, i_40, i_41, i_42, i_43, i_44, i_45, i_47, i_48, i_50, i_53, i_55, i_56, i_57, i_58, i_59, i_60, i_61, i_98, i_99, i_100, i_102, i_104, i_106, i_110, i_112, i_119, i_120, i_128, i_392, i_448, nI_add, nI_leI, nI_ltI, nI_eq, nI_clamp, iM_le, iM_lt, iM_nle, iM_nlt, iM_ne, iM_ne', Nat.add_zero, pk_mul, asr_inb, bd_some, bw_some, bx_inl, bx_inr, bh_inl, bh_inr, b2_eq0, b2_eq1, asr_zok, nz_nI, h.1, wf_n K.w, m_isP wV]
      rw [if_neg (by omega)]
      cases hq : ptd σ.1 k with
      | true =>
        rw [hq, if_pos rfl] at hK
        rw [if_neg (by decide)]; exact hK
      | false =>
        rw [hq, if_neg (by decide)] at hK
        rw [if_pos rfl]
        cases hb : nx σ.1 k with
        | none =>
          rw [hb] at hK
          have e3 : io none < nI 0 := by decide +kernel
          rw [if_pos e3]; exact hK
        | some b =>
          rw [hb] at hK
          have hlt := nx_lt k hb
          have hb1 : fm σ.1 b ≤ 5 := cnt_le _ _
          have hb3 : pn σ.1 b ≤ gN σ.1 := cnt_le _ _
          have hk3 : pn σ.1 k ≤ gN σ.1 := cnt_le _ _
          simp only at hK
          have e1 : io (some b) = nI b := rfl
          rw [e1]
          simp (disch := omega) only [↓iM_def, i_0, i_1, i_2, i_3, i_4, i_5, i_6, i_7, i_8, i_9, i_10, i_12, i_17, i_29, i_31, i_33, i_36, i_37, i_40, i_41, i_42, i_43, i_44, i_45, i_47, i_48, i_50, i_53, i_55, i_56, i_57, i_58, i_59, i_60, i_61, i_98, i_99, i_100, i_102, i_104, i_106, i_110, i_112, i_119, i_120, i_128, i_392, i_448, nI_add, nI_leI, nI_ltI, nI_eq, nI_clamp, iM_le, iM_lt, iM_nle, iM_nlt, iM_ne, iM_ne', Nat.add_zero, pk_mul, asr_inb, bd_some, bw_some, bx_inl, bx_inr, bh_inl, bh_inr, b2_eq0, b2_eq1, asr_zok, nz_nI, m_freeMany wV, m_plain wV, h.1]
          rw [if_neg (show ¬ b < 0 by omega)]
          unfold btr at hK
          by_cases c1 : fm σ.1 k < fm σ.1 b
          · rw [decide_eq_true c1] at hK
            rw [if_pos c1]
            simpa [io] using hK
          · rw [decide_eq_false c1] at hK
            rw [if_neg c1]
            by_cases c2 : fm σ.1 k = fm σ.1 b
            · rw [decide_eq_true c2] at hK
              rw [if_pos c2]
              by_cases c3 : pn σ.1 k ≤ pn σ.1 b
              · rw [decide_eq_false (show ¬ pn σ.1 b < pn σ.1 k by omega)] at hK
                rw [if_pos c3]
                simpa [io] using hK
              · rw [decide_eq_true (show pn σ.1 b < pn σ.1 k by omega)] at hK
                rw [if_neg c3]
                simpa [io] using hK
            · rw [decide_eq_false c2] at hK
              rw [if_neg c2]
              simpa [io] using hK
    · rintro Kk y0 Vk ⟨rfl, rfl⟩
      unfold d_X5_next_4b d_X5_next_86
      simp (disch := omega) only [↓iM_def, i_0, i_1, i_2, i_3, i_4, i_5, i_6, i_7, i_8, i_9, i_10, i_12, i_17, i_29, i_31, i_33, i_36, i_37, i_40, i_41, i_42, i_43, i_44, i_45, i_47, i_48, i_50, i_53, i_55, i_56, i_57, i_58, i_59, i_60, i_61, i_98, i_99, i_100, i_102, i_104, i_106, i_110, i_112, i_119, i_120, i_128, i_392, i_448, nI_add, nI_leI, nI_ltI, nI_eq, nI_clamp, iM_le, iM_lt, iM_nle, iM_nlt, iM_ne, iM_ne', Nat.add_zero, pk_mul, asr_inb, bd_some, bw_some, bx_inl, bx_inr, bh_inl, bh_inr, b2_eq0, b2_eq1, asr_zok, nz_nI, h.1, wf_n K.w, Nat.le_refl, if_true]
      cases hb : nx σ.1 (gN σ.1) with
      | none =>
        have e3 : ¬ nI 0 ≤ io none := by decide +kernel
        refine (if_neg e3).trans ?_
        simp only [↓iM_def, i_0, i_1, i_2, i_3, i_4, i_5, i_6, i_7, i_8, i_9, i_10, i_12, i_17, i_29, i_31, i_33, i_36, i_37, i_40, i_41, i_42, i_43, i_44, i_45, i_47, i_48, i_50, i_53, i_55, i_56, i_57, i_58, i_59, i_60, i_61, i_98, i_99, i_100, i_102, i_104, i_106, i_110, i_112, i_119, i_120, i_128, i_392, i_448, m_fail0, m_fail1, m_fail2, e10, eq_self, if_true, if_false, bw_some]
      | some b =>
        have hlt := nx_lt _ hb
        have e3 : nI 0 ≤ io (some b) := (nI_leI (by omega) (by omega)).mpr (by omega)
        refine (if_pos e3).trans ?_
        simp only [↓iM_def, i_0, i_1, i_2, i_3, i_4, i_5, i_6, i_7, i_8, i_9, i_10, i_12, i_17, i_29, i_31, i_33, i_36, i_37, i_40, i_41, i_42, i_43, i_44, i_45, i_47, i_48, i_50, i_53, i_55, i_56, i_57, i_58, i_59, i_60, i_61, i_98, i_99, i_100, i_102, i_104, i_106, i_110, i_112, i_119, i_120, i_128, i_392, i_448, m_fail0, m_fail1, m_fail2, e10, eq_self, if_true, if_false, bw_some]
        rfl
  unfold spNext
  rw [e]
  cases nx σ.1 (gN σ.1) with
  | none => exact DM.err h _
  | some c => exact DM.of rfl (h.c7 _) (fr7 _ _ _) (by rw [up2_at, upd_eq]; rfl) (fun v' hv => by cases hv; rfl)
/-! gentle -/
theorem i_robbed (r : LR V 1 g) (w : WF g) {c h : Nat} (hc : c < 7) (hh : h < 5) : d_X1_countRobbed (nI c) (nI h) V = some (nI (rb g c h)) := by
  have n7 := wf_n7 w
  unfold d_X1_countRobbed d_X1_countRobbed_5
  refine lo4_inv (gN g) (fun k y0 y1 y2 => y0 = nI c ∧ y1 = nI h ∧ y2 = nI (cnt (fun o => tt g c o && fre g o h) k)) ?_ ?_ FU (show gN g < 1000 by omega) _ _ _ ⟨rfl, rfl, rfl⟩
  · rintro K k y0 y1 y2 hk ⟨rfl, rfl, rfl⟩ hK
    have hK := hK _ _ _ ⟨rfl, rfl, rfl⟩
    rw [cnt_s] at hK
    have m5 : mk (fre g k) 5 < 2 ^ 5 := mk_lt _ _
    unfold d_X1_countRobbed_5b
    simp (disch := omega) only [↓iM_def, i_0, i_1, i_2, i_3, i_4, i_5, i_6, i_7, i_8, i_9, i_10, i_12, i_17, i_29, i_31, i_33, i_36, i_37, i_40, i_41, i_42, i_43, i_44, i_45, i_47, i_48, i_50, i_53, i_55, i_56, i_57, i_58, i_59, i_60, i_61, i_98, i_99, i_100, i_102, i_104, i_106, i_110, i_112, i_119, i_120, i_128, i_392, i_448, nI_add, nI_leI, nI_ltI, nI_eq, nI_clamp, iM_le, iM_lt, iM_nle, iM_nlt, iM_ne, iM_ne', Nat.add_zero, pk_mul, asr_inb, bd_some, bw_some, bx_inl, bx_inr, bh_inl, bh_inr, b2_eq0, b2_eq1, asr_zok, nz_nI, lr_n r w, i_areNb r w, i_freeHues r w, bt_nI, i_free_bit]
    rw [if_neg (by omega)]
    cases h1 : tt g c k with
    | false => rw [if_pos rfl]; simpa [h1] using hK
    | true =>
      rw [if_neg (by decide)]
      cases h2 : fre g k h with
      | false => rw [if_pos rfl]; simpa [h1, h2] using hK
      | true => rw [if_neg (by decide)]; simpa [h1, h2] using hK
  · rintro K y0 y1 y2 ⟨rfl, rfl, rfl⟩
    unfold d_X1_countRobbed_5b
    simp (disch := omega) only [↓iM_def, i_0, i_1, i_2, i_3, i_4, i_5, i_6, i_7, i_8, i_9, i_10, i_12, i_17, i_29, i_31, i_33, i_36, i_37, i_40, i_41, i_42, i_43, i_44, i_45, i_47, i_48, i_50, i_53, i_55, i_56, i_57, i_58, i_59, i_60, i_61, i_98, i_99, i_100, i_102, i_104, i_106, i_110, i_112, i_119, i_120, i_128, i_392, i_448, nI_add, nI_leI, nI_ltI, nI_eq, nI_clamp, iM_le, iM_lt, iM_nle, iM_nlt, iM_ne, iM_ne', Nat.add_zero, pk_mul, asr_inb, bd_some, bw_some, bx_inl, bx_inr, bh_inl, bh_inr, b2_eq0, b2_eq1, asr_zok, nz_nI, lr_n r w, Nat.le_refl, if_true]
    rfl
theorem m_takes (w : WF (V 110)) {c h : Nat} (hc : c < 7) (hh : h < 5) : d_X5_takes (nI c) (nI h) V = some (nI (rb (V 110) c h)) := by
  have n7 := wf_n7 w
  unfold d_X5_takes d_X5_takes_5
  refine lo4_inv (gN (V 110)) (fun k y0 y1 y2 => y0 = nI c ∧ y1 = nI h ∧ y2 = nI (cnt (fun o => tt (V 110) c o && fre (V 110) o h) k)) ?_ ?_ FU (show gN (V 110) < 1000 by omega) _ _ _ ⟨rfl, rfl, rfl⟩
  · rintro K k y0 y1 y2 hk ⟨rfl, rfl, rfl⟩ hK
    have hK := hK _ _ _ ⟨rfl, rfl, rfl⟩
    rw [cnt_s] at hK
    unfold d_X5_takes_5b
    simp (disch := omega) only [↓iM_def, i_0, i_1, i_2, i_3, i_4, i_5, i_6, i_7, i_8, i_9, i_10, i_12, i_17, i_29, i_31, i_33, i_36, i_37, i_40, i_41, i_42, i_43, i_44, i_45, i_47, i_48, i_50, i_53, i_55, i_56, i_57, i_58, i_59, i_60, i_61, i_98, i_99, i_100, i_102, i_104, i_106, i_110, i_112, i_119, i_120, i_128, i_392, i_448, nI_add, nI_leI, nI_ltI, nI_eq, nI_clamp, iM_le, iM_lt, iM_nle, iM_nlt, iM_ne, iM_ne', Nat.add_zero, pk_mul, asr_inb, bd_some, bw_some, bx_inl, bx_inr, bh_inl, bh_inr, b2_eq0, b2_eq1, asr_zok, nz_nI, wf_n w, m_touches w, m_isFree w]
    rw [if_neg (by omega)]
    cases h1 : tt (V 110) c k with
    | false => rw [if_pos rfl]; simpa [h1] using hK
    | true =>
      rw [if_neg (by decide)]
      cases h2 : fre (V 110) k h with
      | false => rw [if_pos rfl]; simpa [h1, h2] using hK
      | true => rw [if_neg (by decide)]; simpa [h1, h2] using hK
  · rintro K y0 y1 y2 ⟨rfl, rfl, rfl⟩
    unfold d_X5_takes_5b
    simp (disch := omega) only [↓iM_def, i_0, i_1, i_2, i_3, i_4, i_5, i_6, i_7, i_8, i_9, i_10, i_12, i_17, i_29, i_31, i_33, i_36, i_37, i_40, i_41, i_42, i_43, i_44, i_45, i_47, i_48, i_50, i_53, i_55, i_56, i_57, i_58, i_59, i_60, i_61, i_98, i_99, i_100, i_102, i_104, i_106, i_110, i_112, i_119, i_120, i_128, i_392, i_448, nI_add, nI_leI, nI_ltI, nI_eq, nI_clamp, iM_le, iM_lt, iM_nle, iM_nlt, iM_ne, iM_ne', Nat.add_zero, pk_mul, asr_inb, bd_some, bw_some, bx_inl, bx_inr, bh_inl, bh_inr, b2_eq0, b2_eq1, asr_zok, nz_nI, wf_n w, Nat.le_refl, if_true]
    rfl
theorem gt_s (g : Row) (c k : Nat) : gt g c (k + 1) = if fre g c k = true then (match gt g c k with | none => some k | some b => if rb g c k < rb g c b then some k else some b) else gt g c k := rfl
theorem gt_lt {c : Nat} : ∀ (k : Nat) {b : Nat}, gt g c k = some b → b < k
  | 0, b, h => by cases h
  | k + 1, b, h => by
    rw [gt_s] at h
    by_cases hp : fre g c k = true
    · rw [if_pos hp] at h
      cases hq : gt g c k with
      | none => rw [hq] at h; cases h; omega
      | some b' =>
        rw [hq] at h
        have := gt_lt k hq
        simp only at h
        by_cases hb : rb g c k < rb g c b'
        · rw [if_pos hb] at h; cases h; omega
        · rw [if_neg hb] at h; cases h; omega
    · rw [if_neg hp] at h; have := gt_lt k h; omega
theorem i_gentlest (r : LR V 1 g) (w : WF g) {c : Nat} (hc : c < 7) : d_X1_gentlestHue (nI c) V = some (io (gt g c 5)) := by
  have n7 := wf_n7 w
  have m5 : mk (fre g c) 5 < 2 ^ 5 := mk_lt _ _
  unfold d_X1_gentlestHue d_X1_gentlestHue_14
  rw [i_freeHues r w hc, bd_some]
  refine lo5_inv 5 (fun k y0 y1 y2 y3 => y0 = nI c ∧ y1 = nI (mk (fre g c) 5) ∧ y2 = io (gt g c k) ∧ ∀ b, gt g c k = some b → y3 = nI (rb g c b)) ?_ ?_ FU (show 5 < 1000 by omega) _ _ _ _ ⟨rfl, rfl, rfl, fun b hb => by cases hb⟩
  · rintro K k y0 y1 y2 y3 hk ⟨rfl, rfl, rfl, hy⟩ hK
    have hrk : rb g c k ≤ gN g := cnt_le _ _
    unfold d_X1_gentlestHue_14b
    simp (disch := omega) only [↓iM_def, i_0, i_1, i_2, i_3, i_4, i_5, i_6, i_7, i_8, i_9, i_10, i_12, i_17, i_29, i_31, i_33, i_36, i_37, i_40, i_41, i_42, i_43, i_44, i_45, i_47, i_48, i_50, i_53, i_55, i_56, i_57, i_58, i_59, i_60, i_61, i_98, i_99, i_100, i_102, i_104, i_106, i_110, i_112, i_119, i_120, i_128, i_392, i_448, nI_add, nI_leI, nI_ltI, nI_eq, nI_clamp, iM_le, iM_lt, iM_nle, iM_nlt, iM_ne, iM_ne', Nat.add_zero, pk_mul, asr_inb, bd_some, bw_some, bx_inl, bx_inr, bh_inl, bh_inr, b2_eq0, b2_eq1, asr_zok, nz_nI, bt_nI, i_free_bit, i_robbed r w]
    rw [if_neg (by omega)]
    cases h1 : fre g c k with
    | false =>
      rw [if_pos rfl]
      have e : gt g c (k + 1) = gt g c k := by rw [gt_s, h1, if_neg (by decide)]
      exact hK _ _ _ _ ⟨rfl, rfl, by rw [e], fun b hb => hy b (by rw [← e]; exact hb)⟩
    | true =>
      rw [if_neg (by decide)]
      have e : gt g c (k + 1) = (match gt g c k with | none => some k | some b => if rb g c k < rb g c b then some k else some b) := by rw [gt_s, h1, if_pos rfl]
      cases hb : gt g c k with
      | none =>
        rw [hb] at e
        rw [if_pos (show io none = iM from rfl)]
        exact hK _ _ _ _ ⟨rfl, rfl, by rw [e]; rfl, fun b hb => by rw [e] at hb; cases hb; rfl⟩
      | some b =>
        have hlt := gt_lt k hb
        have hrb : rb g c b ≤ gN g := cnt_le _ _
        have e1 : io (some b) = nI b := rfl
        have e2 : ¬ nI b = iM := fun q => (iM_ne (by omega)).mp q
        rw [hb] at e
        simp only at e
        rw [e1, if_neg e2, hy b hb]
        simp (disch := omega) only [nI_leI]
        by_cases q : rb g c b ≤ rb g c k
        · rw [if_neg (by omega)] at e
          rw [if_pos q]
          exact hK _ _ _ _ ⟨rfl, rfl, by rw [e]; rfl, fun b' hb' => by rw [e] at hb'; cases hb'; rfl⟩
        · rw [if_pos (by omega)] at e
          rw [if_neg q]
          exact hK _ _ _ _ ⟨rfl, rfl, by rw [e]; rfl, fun b' hb' => by rw [e] at hb'; cases hb'; rfl⟩
  · rintro K y0 y1 y2 y3 ⟨rfl, rfl, rfl, hy⟩
    unfold d_X1_gentlestHue_14b
    simp (disch := omega) only [↓iM_def, i_0, i_1, i_2, i_3, i_4, i_5, i_6, i_7, i_8, i_9, i_10, i_12, i_17, i_29, i_31, i_33, i_36, i_37, i_40, i_41, i_42, i_43, i_44, i_45, i_47, i_48, i_50, i_53, i_55, i_56, i_57, i_58, i_59, i_60, i_61, i_98, i_99, i_100, i_102, i_104, i_106, i_110, i_112, i_119, i_120, i_128, i_392, i_448, nI_add, nI_leI, nI_ltI, nI_eq, nI_clamp, iM_le, iM_lt, iM_nle, iM_nlt, iM_ne, iM_ne', Nat.add_zero, pk_mul, asr_inb, bd_some, bw_some, bx_inl, bx_inr, bh_inl, bh_inr, b2_eq0, b2_eq1, asr_zok, nz_nI, Nat.le_refl, if_true]
def spGentle (σ : Sg) (x : Int32) : (Int32 ⊕ Nat) × Sg :=
  if isC σ.1 x = true then (match gt σ.1 (nt x) 5 with
    | some c => (.inl (nI c), σ)
    | none => (.inr 2, σ)) else (.inr 1, σ)
theorem I_gentle (h : AI V σ) (K : OKs σ) (x : Int32) : DI eIO eNS (d_X4_gentle x V) V (spGentle σ x) := by
  have n7 := wf_n7 K.w
  unfold d_X4_gentle spGentle
  cases hx : isC σ.1 x with
  | false =>
    rw [i_stopC_f h K hx, bx_inr, if_neg (by decide)]
    exact DI.err h (Or.inr trivial)
  | true =>
    rw [i_stopC_t h K hx, bx_inl, if_pos rfl]
    obtain ⟨a, ha, rfl⟩ := isC_of K.w hx
    rw [nt_nI (a := a) (by omega), i_gentlest h.1 K.w (by omega), bd_some]
    simp only [↓iM_def, io_m (o := gt σ.1 a 5) (n := 5) (by omega) (fun k hk => gt_lt _ hk)]
    cases gt σ.1 a 5 with
    | none => rw [if_pos rfl]; exact DI.err2 h
    | some c => rw [if_neg (by intro q; cases q)]; exact ⟨V, rfl, h, FrI.rf V⟩
theorem M_gentle (h : AJ V σ) (K : OKs σ) (x : Int32) : DM (d_X5_gentle x V) V (spGentle σ x) := by
  have n7 := wf_n7 K.w
  have wV : WF (V 110) := by rw [h.1]; exact K.w
  unfold d_X5_gentle spGentle
  simp only [m_isCountry wV, bd_some, ↓iM_def, i_0, i_1, i_2, i_3, i_4, i_5, i_6, i_7, i_8, i_9, i_10, i_12, i_17, i_29, i_31, i_33, i_36, i_37, i_40, i_41, i_42, i_43, i_44, i_45, i_47, i_48, i_50, i_53, i_55, i_56, i_57, i_58, i_59, i_60, i_61, i_98, i_99, i_100, i_102, i_104, i_106, i_110, i_112, i_119, i_120, i_128, i_392, i_448, b2_eq0, h.1]
  cases hx : isC σ.1 x with
  | false =>
    rw [if_pos rfl, if_neg (by decide)]
    unfold d_X5_gentle_14
    simp only [↓iM_def, i_0, i_1, i_2, i_3, i_4, i_5, i_6, i_7, i_8, i_9, i_10, i_12, i_17, i_29, i_31, i_33, i_36, i_37, i_40, i_41, i_42, i_43, i_44, i_45, i_47, i_48, i_50, i_53, i_55, i_56, i_57, i_58, i_59, i_60, i_61, i_98, i_99, i_100, i_102, i_104, i_106, i_110, i_112, i_119, i_120, i_128, i_392, i_448, m_fail0, m_fail1, m_fail2, e10, eq_self, if_true, if_false, bw_some]
    exact DM.err h _
  | true =>
    rw [if_neg (by decide), if_pos rfl]
    obtain ⟨a, ha, rfl⟩ := isC_of K.w hx
    unfold d_X5_gentle_14
    simp only [↓iM_def, i_0, i_1, i_2, i_3, i_4, i_5, i_6, i_7, i_8, i_9, i_10, i_12, i_17, i_29, i_31, i_33, i_36, i_37, i_40, i_41, i_42, i_43, i_44, i_45, i_47, i_48, i_50, i_53, i_55, i_56, i_57, i_58, i_59, i_60, i_61, i_98, i_99, i_100, i_102, i_104, i_106, i_110, i_112, i_119, i_120, i_128, i_392, i_448, m_fail0, m_fail1, m_fail2, e10, eq_self, if_true, if_false, bw_some]
    refine DM.pre h (nI 0) (fun V2 h2 hc e => ?_)
    rw [e, nt_nI (a := a) (by omega)]
    have w2 : WF (V2 110) := by rw [h2.1]; exact K.w
    have e9 : d_X5_gentle_26 (nI a) iM (nI 0) V2 = some (match gt σ.1 a 5 with | some c => (nI c, up2 V2 109 7 (nI 0)) | none => (nI 0, up2 V2 109 7 (nI 2))) := by
      unfold d_X5_gentle_26
      refine lo3W_inv 5 (fun k y0 y1 Vk => Vk = V2 ∧ y0 = nI a ∧ y1 = io (gt σ.1 a k)) ?_ ?_ FU (show 5 < 1000 by omega) _ _ _ ⟨rfl, rfl, rfl⟩
      · rintro Kk k y0 y1 Vk hk ⟨rfl, rfl, rfl⟩ hK
        have hK := hK _ _ _ ⟨rfl, rfl, rfl⟩
        rw [gt_s] at hK
        have hrk : rb σ.1 a k ≤ gN σ.1 := cnt_le _ _
        unfold d_X5_gentle_26b
        simp (disch := omega) only [↓iM_def, i_0, i_1, i_2, i_3, i_4, i_5, i_6, i_7, i_8, i_9, i_10, i_12, i_17, i_29, i_31, i_33, i_36, i_37, i_40, i_41, i_42, i_43, i_44, i_45, i_47, i_48, i_50, i_53, i_55, i_56, i_57, i_58, i_59, i_60, i_61, i_98, i_99, i_100, i_102, i_104, i_106, i_110, i_112, i_119, i_120, i_128, i_392, i_448, nI_add, nI_leI, nI_ltI, nI_eq, nI_clamp, iM_le, iM_lt, iM_nle, iM_nlt, iM_ne, iM_ne', Nat.add_zero, pk_mul, asr_inb, bd_some, bw_some, bx_inl, bx_inr, bh_inl, bh_inr, b2_eq0, b2_eq1, asr_zok, nz_nI, m_isFree w2, m_takes w2, h2.1]
        rw [if_neg (by omega)]
        cases h1 : fre σ.1 a k with
        | false =>
          rw [h1, if_neg (by decide)] at hK
          rw [if_pos rfl]; exact hK
        | true =>
          rw [h1, if_pos rfl] at hK
          rw [if_neg (by decide)]
          cases hb : gt σ.1 a k with
          | none =>
            rw [hb] at hK
            have e3 : io none < nI 0 := by decide +kernel
            rw [if_pos e3]; exact hK
          | some b =>
            rw [hb] at hK
            have hlt := gt_lt k hb
            have hrb : rb σ.1 a b ≤ gN σ.1 := cnt_le _ _
            simp only at hK
            have e1 : io (some b) = nI b := rfl
            rw [e1]
            simp (disch := omega) only [nI_ltI, m_takes w2, bd_some, h2.1, nI_leI]
            rw [if_neg (show ¬ b < 0 by omega)]
            by_cases q : rb σ.1 a b ≤ rb σ.1 a k
            · rw [if_neg (show ¬ rb σ.1 a k < rb σ.1 a b by omega)] at hK
              rw [if_pos q]; exact hK
            · rw [if_pos (show rb σ.1 a k < rb σ.1 a b by omega)] at hK
              rw [if_neg q]; exact hK
      · rintro Kk y0 y1 Vk ⟨rfl, rfl, rfl⟩
        unfold d_X5_gentle_26b d_X5_gentle_77
        simp (disch := omega) only [↓iM_def, i_0, i_1, i_2, i_3, i_4, i_5, i_6, i_7, i_8, i_9, i_10, i_12, i_17, i_29, i_31, i_33, i_36, i_37, i_40, i_41, i_42, i_43, i_44, i_45, i_47, i_48, i_50, i_53, i_55, i_56, i_57, i_58, i_59, i_60, i_61, i_98, i_99, i_100, i_102, i_104, i_106, i_110, i_112, i_119, i_120, i_128, i_392, i_448, nI_add, nI_leI, nI_ltI, nI_eq, nI_clamp, iM_le, iM_lt, iM_nle, iM_nlt, iM_ne, iM_ne', Nat.add_zero, pk_mul, asr_inb, bd_some, bw_some, bx_inl, bx_inr, bh_inl, bh_inr, b2_eq0, b2_eq1, asr_zok, nz_nI, Nat.le_refl, if_true]
        cases hb : gt σ.1 a 5 with
        | none =>
          have e3 : ¬ nI 0 ≤ io none := by decide +kernel
          refine (if_neg e3).trans ?_
          simp only [↓iM_def, i_0, i_1, i_2, i_3, i_4, i_5, i_6, i_7, i_8, i_9, i_10, i_12, i_17, i_29, i_31, i_33, i_36, i_37, i_40, i_41, i_42, i_43, i_44, i_45, i_47, i_48, i_50, i_53, i_55, i_56, i_57, i_58, i_59, i_60, i_61, i_98, i_99, i_100, i_102, i_104, i_106, i_110, i_112, i_119, i_120, i_128, i_392, i_448, m_fail0, m_fail1, m_fail2, e10, eq_self, if_true, if_false, bw_some]
        | some b =>
          have hlt := gt_lt _ hb
          have e3 : nI 0 ≤ io (some b) := (nI_leI (by omega) (by omega)).mpr (by omega)
          refine (if_pos e3).trans ?_
          simp only [↓iM_def, i_0, i_1, i_2, i_3, i_4, i_5, i_6, i_7, i_8, i_9, i_10, i_12, i_17, i_29, i_31, i_33, i_36, i_37, i_40, i_41, i_42, i_43, i_44, i_45, i_47, i_48, i_50, i_53, i_55, i_56, i_57, i_58, i_59, i_60, i_61, i_98, i_99, i_100, i_102, i_104, i_106, i_110, i_112, i_119, i_120, i_128, i_392, i_448, m_fail0, m_fail1, m_fail2, e10, eq_self, if_true, if_false, bw_some]
          rfl
    rw [e9]
    cases gt σ.1 a 5 with
    | none => exact DM.err h2 _
    | some c => exact DM.of rfl (h2.c7 _) (fr7 _ _ _) (by rw [up2_at, upd_eq]; rfl) (fun v' hv => by cases hv; rfl)
end
