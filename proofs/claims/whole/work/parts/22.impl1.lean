/-! PURE ROWS: what the questions of a land answer -/
section
variable {g : Row} {V : VT}
theorem i_areNb (r : LR V 1 g) (w : WF g) {a b : Nat} (ha : a < 7) (hb : b < 7) : d_X1_areNeighbours (nI a) (nI b) V = some (b2 (tt g a b)) := by
  unfold d_X1_areNeighbours
  have h1 := wf_nb7 w ha
  simp (disch := omega) only [↓iM_def, i_0, i_1, i_2, i_3, i_4, i_5, i_6, i_7, i_8, i_9, i_10, i_12, i_17, i_29, i_31, i_33, i_36, i_37, i_40, i_41, i_42, i_43, i_44, i_45, i_47, i_48, i_50, i_53, i_55, i_56, i_57, i_58, i_59, i_60, i_61, i_98, i_99, i_100, i_102, i_104, i_106, i_110, i_112, i_119, i_120, i_128, i_392, i_448, nI_add, nI_leI, nI_ltI, nI_eq, nI_clamp, iM_le, iM_lt, iM_nle, iM_nlt, iM_ne, iM_ne', Nat.add_zero, pk_mul, asr_inb, bd_some, bw_some, bx_inl, bx_inr, bh_inl, bh_inr, b2_eq0, b2_eq1, asr_zok, nz_nI, lr_nb r w, bt_nI]
  unfold tt
  cases (nb g a).testBit b <;> simp [b2_t, b2_f]
theorem i_isP (r : LR V 1 g) {c : Nat} (hc : c < 7) : d_X1_isPainted (nI c) V = some (b2 (ptd g c)) := by
  unfold d_X1_isPainted
  simp (disch := omega) only [↓iM_def, i_0, i_1, i_2, i_3, i_4, i_5, i_6, i_7, i_8, i_9, i_10, i_12, i_17, i_29, i_31, i_33, i_36, i_37, i_40, i_41, i_42, i_43, i_44, i_45, i_47, i_48, i_50, i_53, i_55, i_56, i_57, i_58, i_59, i_60, i_61, i_98, i_99, i_100, i_102, i_104, i_106, i_110, i_112, i_119, i_120, i_128, i_392, i_448, nI_add, nI_leI, nI_ltI, nI_eq, nI_clamp, iM_le, iM_lt, iM_nle, iM_nlt, iM_ne, iM_ne', Nat.add_zero, pk_mul, asr_inb, bd_some, bw_some, bx_inl, bx_inr, bh_inl, bh_inr, b2_eq0, b2_eq1, asr_zok, nz_nI, lr_hu r]
  unfold ptd
  by_cases h : hu g c = iM <;> simp [h, b2_t, b2_f]
theorem i_isCountry (r : LR V 1 g) (w : WF g) (x : Int32) : d_X1_isCountry x V = some (b2 (decide (0 ≤ x) && decide (x < nI (gN g)))) := by
  unfold d_X1_isCountry
  rw [lr_n r w]
  by_cases h1 : x < (0 : Int32)
  · rw [if_pos h1, decide_eq_false (Int32.not_le.mpr h1)]; rfl
  · rw [if_neg h1, decide_eq_true (Int32.not_lt.mp h1)]
    by_cases h2 : nI (gN g) ≤ x
    · rw [if_pos h2, decide_eq_false (Int32.not_lt.mpr h2)]; rfl
    · rw [if_neg h2, decide_eq_true (Int32.not_le.mp h2)]; rfl
theorem i_lnb (r : LR V 1 g) (w : WF g) {c : Nat} (hc : c < 7) (x : Int32) : d_X1_lowestNeighbourIn (nI c) x V = some (io (nbIn g c x)) := by
  have n7 := wf_n7 w
  unfold d_X1_lowestNeighbourIn d_X1_lowestNeighbourIn_2
  refine lo3_inv (gN g) (fun k y0 y1 => y0 = nI c ∧ y1 = x ∧ fnd (fun o => tt g c o && decide (hu g o = x)) k = none) ?_ ?_ FU (show gN g < 1000 by omega) _ _ ⟨rfl, rfl, rfl⟩
  · rintro K k y0 y1 hk ⟨rfl, rfl, hf⟩ hK
    unfold d_X1_lowestNeighbourIn_2b
    simp (disch := omega) only [↓iM_def, i_0, i_1, i_2, i_3, i_4, i_5, i_6, i_7, i_8, i_9, i_10, i_12, i_17, i_29, i_31, i_33, i_36, i_37, i_40, i_41, i_42, i_43, i_44, i_45, i_47, i_48, i_50, i_53, i_55, i_56, i_57, i_58, i_59, i_60, i_61, i_98, i_99, i_100, i_102, i_104, i_106, i_110, i_112, i_119, i_120, i_128, i_392, i_448, nI_add, nI_leI, nI_ltI, nI_eq, nI_clamp, iM_le, iM_lt, iM_nle, iM_nlt, iM_ne, iM_ne', Nat.add_zero, pk_mul, asr_inb, bd_some, bw_some, bx_inl, bx_inr, bh_inl, bh_inr, b2_eq0, b2_eq1, asr_zok, nz_nI, lr_n r w, lr_hu r, i_areNb r w]
    rw [if_neg (by omega)]
    cases ht : tt g c k with
    | false =>
      simp only [if_true]
      exact hK _ _ ⟨rfl, rfl, fnd_go hf (by simp [ht])⟩
    | true =>
      simp only [Bool.true_eq_false, if_false]
      by_cases hq : hu g k = y1
      · rw [if_pos hq]
        unfold nbIn
        rw [fnd_stop hk hf (by simp [ht, hq])]
        rfl
      · rw [if_neg hq]
        exact hK _ _ ⟨rfl, rfl, fnd_go hf (by simp [ht, hq])⟩
  · rintro K y0 y1 ⟨rfl, rfl, hf⟩
    unfold d_X1_lowestNeighbourIn_2b
    simp (disch := omega) only [↓iM_def, i_0, i_1, i_2, i_3, i_4, i_5, i_6, i_7, i_8, i_9, i_10, i_12, i_17, i_29, i_31, i_33, i_36, i_37, i_40, i_41, i_42, i_43, i_44, i_45, i_47, i_48, i_50, i_53, i_55, i_56, i_57, i_58, i_59, i_60, i_61, i_98, i_99, i_100, i_102, i_104, i_106, i_110, i_112, i_119, i_120, i_128, i_392, i_448, nI_add, nI_leI, nI_ltI, nI_eq, nI_clamp, iM_le, iM_lt, iM_nle, iM_nlt, iM_ne, iM_ne', Nat.add_zero, pk_mul, asr_inb, bd_some, bw_some, bx_inl, bx_inr, bh_inl, bh_inr, b2_eq0, b2_eq1, asr_zok, nz_nI, lr_n r w, Nat.le_refl, if_true]
    unfold nbIn
    rw [hf]
    rfl
def lpb (g : Row) (x : Int32) : Option Nat := fnd (fun o => !decide (hu g o < x)) (gN g)
theorem i_lpb (r : LR V 1 g) (w : WF g) (x : Int32) : d_X1_lowestPaintedBeyond x V = some (io (lpb g x)) := by
  have n7 := wf_n7 w
  unfold d_X1_lowestPaintedBeyond d_X1_lowestPaintedBeyond_2
  refine lo2_inv (gN g) (fun k y1 => y1 = x ∧ fnd (fun o => !decide (hu g o < x)) k = none) ?_ ?_ FU (show gN g < 1000 by omega) _ ⟨rfl, rfl⟩
  · rintro K k y1 hk ⟨rfl, hf⟩ hK
    unfold d_X1_lowestPaintedBeyond_2b
    simp (disch := omega) only [↓iM_def, i_0, i_1, i_2, i_3, i_4, i_5, i_6, i_7, i_8, i_9, i_10, i_12, i_17, i_29, i_31, i_33, i_36, i_37, i_40, i_41, i_42, i_43, i_44, i_45, i_47, i_48, i_50, i_53, i_55, i_56, i_57, i_58, i_59, i_60, i_61, i_98, i_99, i_100, i_102, i_104, i_106, i_110, i_112, i_119, i_120, i_128, i_392, i_448, nI_add, nI_leI, nI_ltI, nI_eq, nI_clamp, iM_le, iM_lt, iM_nle, iM_nlt, iM_ne, iM_ne', Nat.add_zero, pk_mul, asr_inb, bd_some, bw_some, bx_inl, bx_inr, bh_inl, bh_inr, b2_eq0, b2_eq1, asr_zok, nz_nI, lr_n r w, lr_hu r]
    rw [if_neg (by omega)]
    by_cases hq : hu g k < y1
    · rw [if_pos hq]
      exact hK _ ⟨rfl, fnd_go hf (by simp [hq])⟩
    · rw [if_neg hq]
      unfold lpb
      rw [fnd_stop hk hf (by simp [hq])]
      rfl
  · rintro K y1 ⟨rfl, hf⟩
    unfold d_X1_lowestPaintedBeyond_2b
    simp (disch := omega) only [↓iM_def, i_0, i_1, i_2, i_3, i_4, i_5, i_6, i_7, i_8, i_9, i_10, i_12, i_17, i_29, i_31, i_33, i_36, i_37, i_40, i_41, i_42, i_43, i_44, i_45, i_47, i_48, i_50, i_53, i_55, i_56, i_57, i_58, i_59, i_60, i_61, i_98, i_99, i_100, i_102, i_104, i_106, i_110, i_112, i_119, i_120, i_128, i_392, i_448, nI_add, nI_leI, nI_ltI, nI_eq, nI_clamp, iM_le, iM_lt, iM_nle, iM_nlt, iM_ne, iM_ne', Nat.add_zero, pk_mul, asr_inb, bd_some, bw_some, bx_inl, bx_inr, bh_inl, bh_inr, b2_eq0, b2_eq1, asr_zok, nz_nI, lr_n r w, Nat.le_refl, if_true]
    unfold lpb
    rw [hf]
    rfl
def hA (g : Row) (c : Nat) : Nat → Nat
  | 0 => 0
  | k + 1 => if tt g c k = true ∧ ptd g k = true then hA g c k ||| 2 ^ (hu g k).toNatClampNeg else hA g c k
theorem hA_s (c k : Nat) : hA g c (k + 1) = if tt g c k = true ∧ ptd g k = true then hA g c k ||| 2 ^ (hu g k).toNatClampNeg else hA g c k := rfl
theorem hA_lt (w : WF g) (c : Nat) : ∀ k, k ≤ 7 → hA g c k < 2 ^ 5
  | 0, _ => (by decide : 0 < 2 ^ 5)
  | k + 1, hk => by
    have h0 := hA_lt w c k (by omega)
    rw [hA_s]
    by_cases h : tt g c k = true ∧ ptd g k = true
    · rw [if_pos h]
      obtain ⟨x, x5, hx⟩ := ptd_h w (show k < 7 by omega) h.2
      rw [hx, nI_clamp (by omega)]
      exact or_lt h0 (Nat.pow_lt_pow_right (by omega) x5)
    · rw [if_neg h]; exact h0
theorem hA_bit (w : WF g) (c : Nat) {h : Nat} (hh : h < 5) : ∀ k, k ≤ 7 → (hA g c k).testBit h = (fnd (fun o => tt g c o && decide (hu g o = nI h)) k).isSome
  | 0, _ => by simp [hA, fnd]
  | k + 1, hk => by
    have h0 := hA_bit w c hh k (by omega)
    rw [hA_s, fnd_s]
    by_cases ht : tt g c k = true
    · by_cases hp : ptd g k = true
      · rw [if_pos ⟨ht, hp⟩]
        obtain ⟨x, x5, hx⟩ := ptd_h w (show k < 7 by omega) hp
        rw [hx, nI_clamp (by omega), Nat.testBit_or, h0, p2_bit]
        by_cases e : x = h
        · subst e
          cases fnd (fun o => tt g c o && decide (hu g o = nI x)) k <;> simp [ht, hx]
        · have : ¬ nI x = nI h := fun q => e ((nI_eq (by omega) (by omega)).mp q)
          cases fnd (fun o => tt g c o && decide (hu g o = nI h)) k <;> simp [ht, hx, this, e]
      · rw [if_neg (fun q => hp q.2), h0]
        have hp : ptd g k = false := by cases q : ptd g k <;> simp_all
        rw [ptd_f] at hp
        have : ¬ iM = nI h := fun q => (iM_ne' (by omega)).mp q
        cases fnd (fun o => tt g c o && decide (hu g o = nI h)) k <;> simp [hp, this]
    · rw [if_neg (fun q => ht q.1), h0]
      cases fnd (fun o => tt g c o && decide (hu g o = nI h)) k <;> simp [ht]
theorem i_huesAround (r : LR V 1 g) (w : WF g) {c : Nat} (hc : c < 7) : d_X1_huesAround (nI c) V = some (nI (hA g c (gN g))) := by
  have n7 := wf_n7 w
  have h1 := wf_nb7 w hc
  unfold d_X1_huesAround d_X1_huesAround_4
  refine lo3_inv (gN g) (fun k y0 y1 => y0 = nI c ∧ y1 = nI (hA g c k)) ?_ ?_ FU (show gN g < 1000 by omega) _ _ ⟨rfl, rfl⟩
  · rintro K k y0 y1 hk ⟨rfl, rfl⟩ hK
    unfold d_X1_huesAround_4b
    simp (disch := omega) only [↓iM_def, i_0, i_1, i_2, i_3, i_4, i_5, i_6, i_7, i_8, i_9, i_10, i_12, i_17, i_29, i_31, i_33, i_36, i_37, i_40, i_41, i_42, i_43, i_44, i_45, i_47, i_48, i_50, i_53, i_55, i_56, i_57, i_58, i_59, i_60, i_61, i_98, i_99, i_100, i_102, i_104, i_106, i_110, i_112, i_119, i_120, i_128, i_392, i_448, nI_add, nI_leI, nI_ltI, nI_eq, nI_clamp, iM_le, iM_lt, iM_nle, iM_nlt, iM_ne, iM_ne', Nat.add_zero, pk_mul, asr_inb, bd_some, bw_some, bx_inl, bx_inr, bh_inl, bh_inr, b2_eq0, b2_eq1, asr_zok, nz_nI, lr_n r w, lr_hu r, lr_nb r w, bt_nI]
    rw [if_neg (by omega)]
    have hK := hK (nI c) _ ⟨rfl, rfl⟩
    rw [hA_s] at hK
    by_cases ht : tt g c k = true
    · have ht' : ¬ (nb g c).testBit k = false := by unfold tt at ht; rw [ht]; decide
      rw [if_neg ht']
      by_cases hp : ptd g k = true
      · rw [if_pos ⟨ht, hp⟩] at hK
        obtain ⟨x, x5, hx⟩ := ptd_h w (show k < 7 by omega) hp
        simp (disch := omega) only [↓iM_def, i_0, i_1, i_2, i_3, i_4, i_5, i_6, i_7, i_8, i_9, i_10, i_12, i_17, i_29, i_31, i_33, i_36, i_37, i_40, i_41, i_42, i_43, i_44, i_45, i_47, i_48, i_50, i_53, i_55, i_56, i_57, i_58, i_59, i_60, i_61, i_98, i_99, i_100, i_102, i_104, i_106, i_110, i_112, i_119, i_120, i_128, i_392, i_448, nI_add, nI_leI, nI_ltI, nI_eq, nI_clamp, iM_le, iM_lt, iM_nle, iM_nlt, iM_ne, iM_ne', Nat.add_zero, pk_mul, asr_inb, bd_some, bw_some, bx_inl, bx_inr, bh_inl, bh_inr, b2_eq0, b2_eq1, asr_zok, nz_nI, hx, set_nI, if_false] at hK ⊢
        exact hK
      · rw [if_neg (fun q => hp q.2)] at hK
        rw [ptd_t, Decidable.not_not] at hp
        rw [if_pos hp]
        exact hK
    · rw [if_neg (fun q => ht q.1)] at hK
      have ht' : (nb g c).testBit k = false := by unfold tt at ht; simpa using ht
      rw [if_pos ht']
      exact hK
  · rintro K y0 y1 ⟨rfl, rfl⟩
    unfold d_X1_huesAround_4b
    simp (disch := omega) only [↓iM_def, i_0, i_1, i_2, i_3, i_4, i_5, i_6, i_7, i_8, i_9, i_10, i_12, i_17, i_29, i_31, i_33, i_36, i_37, i_40, i_41, i_42, i_43, i_44, i_45, i_47, i_48, i_50, i_53, i_55, i_56, i_57, i_58, i_59, i_60, i_61, i_98, i_99, i_100, i_102, i_104, i_106, i_110, i_112, i_119, i_120, i_128, i_392, i_448, nI_add, nI_leI, nI_ltI, nI_eq, nI_clamp, iM_le, iM_lt, iM_nle, iM_nlt, iM_ne, iM_ne', Nat.add_zero, pk_mul, asr_inb, bd_some, bw_some, bx_inl, bx_inr, bh_inl, bh_inr, b2_eq0, b2_eq1, asr_zok, nz_nI, lr_n r w, Nat.le_refl, if_true]
theorem fre_around (w : WF g) {c h : Nat} (hh : h < 5) : (hA g c (gN g)).testBit h = (nbIn g c (nI h)).isSome := hA_bit w c hh _ (wf_n7 w)
theorem i_freeHues (r : LR V 1 g) (w : WF g) {c : Nat} (hc : c < 7) : d_X1_freeHues (nI c) V = some (nI (mk (fre g c) 5)) := by
  have u5 := wf_u5 w
  have h2 := hA_lt w c (gN g) (wf_n7 w)
  unfold d_X1_freeHues
  simp (disch := omega) only [↓iM_def, i_0, i_1, i_2, i_3, i_4, i_5, i_6, i_7, i_8, i_9, i_10, i_12, i_17, i_29, i_31, i_33, i_36, i_37, i_40, i_41, i_42, i_43, i_44, i_45, i_47, i_48, i_50, i_53, i_55, i_56, i_57, i_58, i_59, i_60, i_61, i_98, i_99, i_100, i_102, i_104, i_106, i_110, i_112, i_119, i_120, i_128, i_392, i_448, nI_add, nI_leI, nI_ltI, nI_eq, nI_clamp, iM_le, iM_lt, iM_nle, iM_nlt, iM_ne, iM_ne', Nat.add_zero, pk_mul, asr_inb, bd_some, bw_some, bx_inl, bx_inr, bh_inl, bh_inr, b2_eq0, b2_eq1, asr_zok, nz_nI, lr_hu r, i_huesAround r w]
  by_cases hp : hu g c = iM
  · rw [if_pos hp]
    have hp' : ptd g c = false := by rw [ptd_f]; exact hp
    have e5 : mk (fre g c) 5 = mk (fre g c) (gU g) := bit_ext (fun i => by
      rw [mk_bit, mk_bit]
      by_cases h : i < gU g
      · rw [decide_eq_true (show i < 5 by omega), decide_eq_true h]
      · rw [decide_eq_false h]
        have : fre g c i = false := by unfold fre; rw [decide_eq_false h]; simp
        rw [this]; simp)
    rw [e5]
    unfold d_X1_freeHues_23
    refine lo4_inv (gU g) (fun k y0 y1 y2 => y0 = nI c ∧ y1 = nI (hA g c (gN g)) ∧ y2 = nI (mk (fre g c) k)) ?_ ?_ FU (show gU g < 1000 by omega) _ _ _ ⟨rfl, rfl, rfl⟩
    · rintro K k y0 y1 y2 hk ⟨rfl, rfl, rfl⟩ hK
      have hK := hK (nI c) _ _ ⟨rfl, rfl, rfl⟩
      unfold d_X1_freeHues_23b
      simp (disch := omega) only [↓iM_def, i_0, i_1, i_2, i_3, i_4, i_5, i_6, i_7, i_8, i_9, i_10, i_12, i_17, i_29, i_31, i_33, i_36, i_37, i_40, i_41, i_42, i_43, i_44, i_45, i_47, i_48, i_50, i_53, i_55, i_56, i_57, i_58, i_59, i_60, i_61, i_98, i_99, i_100, i_102, i_104, i_106, i_110, i_112, i_119, i_120, i_128, i_392, i_448, nI_add, nI_leI, nI_ltI, nI_eq, nI_clamp, iM_le, iM_lt, iM_nle, iM_nlt, iM_ne, iM_ne', Nat.add_zero, pk_mul, asr_inb, bd_some, bw_some, bx_inl, bx_inr, bh_inl, bh_inr, b2_eq0, b2_eq1, asr_zok, nz_nI, lr_u r w, lr_sz r, lr_po r, bt_nI, set_nI]
      rw [if_neg (by omega), fre_around w (by omega)]
      rw [mk_s] at hK
      cases hn : (nbIn g c (nI k)).isSome with
      | true =>
        have e : fre g c k = false := by
          unfold fre
          cases q : nbIn g c (nI k) with
          | none => rw [q] at hn; cases hn
          | some z => simp
        rw [e] at hK
        simp only [Bool.false_eq_true, if_false, Nat.or_zero] at hK
        simp only [Bool.true_eq_false, if_false]
        exact hK
      | false =>
        have e : fre g c k = !decide (po g k < sz g c) := by
          unfold fre
          cases q : nbIn g c (nI k) with
          | none => simp [hp', hk]
          | some z => rw [q] at hn; cases hn
        rw [e] at hK
        simp only [if_true]
        by_cases hq : po g k < sz g c
        · rw [if_pos hq]
          simpa [hq] using hK
        · rw [if_neg hq]
          simpa [hq] using hK
    · rintro K y0 y1 y2 ⟨rfl, rfl, rfl⟩
      unfold d_X1_freeHues_23b
      simp (disch := omega) only [↓iM_def, i_0, i_1, i_2, i_3, i_4, i_5, i_6, i_7, i_8, i_9, i_10, i_12, i_17, i_29, i_31, i_33, i_36, i_37, i_40, i_41, i_42, i_43, i_44, i_45, i_47, i_48, i_50, i_53, i_55, i_56, i_57, i_58, i_59, i_60, i_61, i_98, i_99, i_100, i_102, i_104, i_106, i_110, i_112, i_119, i_120, i_128, i_392, i_448, nI_add, nI_leI, nI_ltI, nI_eq, nI_clamp, iM_le, iM_lt, iM_nle, iM_nlt, iM_ne, iM_ne', Nat.add_zero, pk_mul, asr_inb, bd_some, bw_some, bx_inl, bx_inr, bh_inl, bh_inr, b2_eq0, b2_eq1, asr_zok, nz_nI, lr_u r w, Nat.le_refl, if_true]
  · rw [if_neg hp]
    have e : mk (fre g c) 5 = 0 := bit_ext (fun i => by
      rw [mk_bit]
      have hp' : ptd g c = true := by rw [ptd_t]; exact hp
      have : fre g c i = false := by unfold fre; rw [hp']; rfl
      rw [this]; simp)
    rw [e]
theorem i_free_bit (c : Nat) {h : Nat} (hh : h < 5) : (mk (fre g c) 5).testBit h = fre g c h := by rw [mk_bit, decide_eq_true hh]; rfl
theorem i_fm (c : Nat) : d_J6_bitCount_0f7a4 (nI (mk (fre g c) 5)) V = some (nI (fm g c)) := bc_mk _ V (by omega)
theorem mk0 {p : Nat → Bool} {n : Nat} : (mk p n = 0) = (cnt p n = 0) := by
  apply propext
  rw [cnt_0]
  constructor
  · intro h i hi
    have := mk_bit p i n
    rw [h, decide_eq_true hi] at this
    simpa using this.symm
  · intro h
    exact bit_ext (fun i => by
      rw [mk_bit]
      by_cases hi : i < n
      · rw [h i hi]; simp
      · rw [decide_eq_false hi]; simp)
def stk (g : Row) (c : Nat) : Bool := !ptd g c && decide (fm g c = 0)
theorem i_isStuck (r : LR V 1 g) (w : WF g) {c : Nat} (hc : c < 7) : d_X1_isStuck (nI c) V = some (b2 (stk g c)) := by
  have h2 : mk (fre g c) 5 < 2 ^ 5 := mk_lt _ _
  unfold d_X1_isStuck
  simp (disch := omega) only [↓iM_def, i_0, i_1, i_2, i_3, i_4, i_5, i_6, i_7, i_8, i_9, i_10, i_12, i_17, i_29, i_31, i_33, i_36, i_37, i_40, i_41, i_42, i_43, i_44, i_45, i_47, i_48, i_50, i_53, i_55, i_56, i_57, i_58, i_59, i_60, i_61, i_98, i_99, i_100, i_102, i_104, i_106, i_110, i_112, i_119, i_120, i_128, i_392, i_448, nI_add, nI_leI, nI_ltI, nI_eq, nI_clamp, iM_le, iM_lt, iM_nle, iM_nlt, iM_ne, iM_ne', Nat.add_zero, pk_mul, asr_inb, bd_some, bw_some, bx_inl, bx_inr, bh_inl, bh_inr, b2_eq0, b2_eq1, asr_zok, nz_nI, i_isP r, i_freeHues r w, mk0]
  unfold stk fm
  cases ptd g c
  · by_cases h : cnt (fre g c) 5 = 0 <;> simp [h, b2_t, b2_f]
  · simp [b2_f]
def ful (g : Row) (c : Nat) : Bool := ptd g c && decide (hu g c = wi g c)
theorem i_isFul (r : LR V 1 g) {c : Nat} (hc : c < 7) : d_X1_isFulfilled (nI c) V = some (b2 (ful g c)) := by
  unfold d_X1_isFulfilled
  simp (disch := omega) only [↓iM_def, i_0, i_1, i_2, i_3, i_4, i_5, i_6, i_7, i_8, i_9, i_10, i_12, i_17, i_29, i_31, i_33, i_36, i_37, i_40, i_41, i_42, i_43, i_44, i_45, i_47, i_48, i_50, i_53, i_55, i_56, i_57, i_58, i_59, i_60, i_61, i_98, i_99, i_100, i_102, i_104, i_106, i_110, i_112, i_119, i_120, i_128, i_392, i_448, nI_add, nI_leI, nI_ltI, nI_eq, nI_clamp, iM_le, iM_lt, iM_nle, iM_nlt, iM_ne, iM_ne', Nat.add_zero, pk_mul, asr_inb, bd_some, bw_some, bx_inl, bx_inr, bh_inl, bh_inr, b2_eq0, b2_eq1, asr_zok, nz_nI, i_isP r, lr_hu r, lr_wi r]
  unfold ful
  cases ptd g c
  · simp [b2_f]
  · by_cases h : hu g c = wi g c <;> simp [h, b2_t, b2_f]
theorem i_nbs (r : LR V 1 g) (w : WF g) {c : Nat} (hc : c < 7) : d_X1_countNeighbours (nI c) V = some (nI (pc (nb g c))) := by
  have h1 := wf_nb7 w hc
  unfold d_X1_countNeighbours
  simp (disch := omega) only [↓iM_def, i_0, i_1, i_2, i_3, i_4, i_5, i_6, i_7, i_8, i_9, i_10, i_12, i_17, i_29, i_31, i_33, i_36, i_37, i_40, i_41, i_42, i_43, i_44, i_45, i_47, i_48, i_50, i_53, i_55, i_56, i_57, i_58, i_59, i_60, i_61, i_98, i_99, i_100, i_102, i_104, i_106, i_110, i_112, i_119, i_120, i_128, i_392, i_448, nI_add, nI_leI, nI_ltI, nI_eq, nI_clamp, iM_le, iM_lt, iM_nle, iM_nlt, iM_ne, iM_ne', Nat.add_zero, pk_mul, asr_inb, bd_some, bw_some, bx_inl, bx_inr, bh_inl, bh_inr, b2_eq0, b2_eq1, asr_zok, nz_nI, lr_nb r w, bc_nI]
end
