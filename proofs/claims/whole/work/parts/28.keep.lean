/-! PURE ROWS: copies, what is kept -/
def cpy (f r : Nat → Int32) (sp dp k : Nat) : Nat → Int32 := fun i => if dp ≤ i ∧ i < dp + k then f (sp + (i - dp)) else r i
theorem cpy_0 (f r : Nat → Int32) (sp dp : Nat) : cpy f r sp dp 0 = r := by
  funext i
  unfold cpy
  rw [if_neg (by omega)]
theorem cpy_s (f r : Nat → Int32) (sp dp k : Nat) : upd (cpy f r sp dp k) (dp + k) (f (sp + k)) = cpy f r sp dp (k + 1) := by
  funext i
  rw [upd_if]
  unfold cpy
  by_cases e : i = dp + k
  · subst e
    rw [if_pos rfl, if_pos (by omega), Nat.add_sub_cancel_left]
  · rw [if_neg e]
    by_cases h : dp ≤ i ∧ i < dp + k
    · rw [if_pos h, if_pos (by omega)]
    · rw [if_neg h, if_neg (by omega)]
theorem cpy_in {f r : Nat → Int32} {sp dp k i : Nat} (h : i < k) : cpy f r sp dp k (dp + i) = f (sp + i) := by
  unfold cpy
  rw [if_pos (by omega), Nat.add_sub_cancel_left]
theorem cpy_out {f r : Nat → Int32} {sp dp k i : Nat} (h : i < dp ∨ dp + k ≤ i) : cpy f r sp dp k i = r i := by
  unfold cpy
  rw [if_neg (by omega)]
theorem m_copies {V : VT} {a b x1 x3 : Nat} (hab : a ≠ b) (ha : x1 + 56 ≤ alen a) (hb : x3 + 56 ≤ alen b) (la : alen a < 1000) (lb : alen b < 1000) : d_X5_copies a (nI x1) b (nI x3) V = some (setc V b (cpy (V a) (V b) x1 x3 56)) := by
  unfold d_X5_copies d_X5_copies_3
  refine lo3W_inv 56 (fun k y0 y1 V' => y0 = nI x1 ∧ y1 = nI x3 ∧ V' = setc V b (cpy (V a) (V b) x1 x3 k)) ?_ ?_ FU (show 56 < 1000 by omega) _ _ _ ⟨rfl, rfl, ?_⟩
  · rintro K k y0 y1 V' hk ⟨rfl, rfl, rfl⟩ hK
    unfold d_X5_copies_3b
    simp (disch := omega) only [↓iM_def, i_0, i_1, i_2, i_3, i_4, i_5, i_6, i_7, i_8, i_9, i_10, i_12, i_17, i_29, i_31, i_33, i_36, i_37, i_40, i_41, i_42, i_43, i_44, i_45, i_47, i_48, i_50, i_53, i_55, i_56, i_57, i_58, i_59, i_60, i_61, i_98, i_99, i_100, i_102, i_104, i_106, i_110, i_112, i_119, i_120, i_128, i_392, i_448, nI_add, nI_leI, nI_ltI, nI_eq, nI_clamp, iM_le, iM_lt, iM_nle, iM_nlt, iM_ne, iM_ne', Nat.add_zero, pk_mul, asr_inb, bd_some, bw_some, bx_inl, bx_inr, bh_inl, bh_inr, b2_eq0, b2_eq1, asr_zok, nz_nI, up2_setc, setc_at, setc_setc, setc_ne]
    rw [if_neg (by omega)]
    refine hK _ _ _ ⟨rfl, rfl, ?_⟩
    rw [cpy_s]
  · rintro K y0 y1 V' ⟨rfl, rfl, rfl⟩
    unfold d_X5_copies_3b
    simp (disch := omega) only [↓iM_def, i_0, i_1, i_2, i_3, i_4, i_5, i_6, i_7, i_8, i_9, i_10, i_12, i_17, i_29, i_31, i_33, i_36, i_37, i_40, i_41, i_42, i_43, i_44, i_45, i_47, i_48, i_50, i_53, i_55, i_56, i_57, i_58, i_59, i_60, i_61, i_98, i_99, i_100, i_102, i_104, i_106, i_110, i_112, i_119, i_120, i_128, i_392, i_448, nI_add, nI_leI, nI_ltI, nI_eq, nI_clamp, iM_le, iM_lt, iM_nle, iM_nlt, iM_ne, iM_ne', Nat.add_zero, pk_mul, asr_inb, bd_some, bw_some, bx_inl, bx_inr, bh_inl, bh_inr, b2_eq0, b2_eq1, asr_zok, nz_nI, Nat.le_refl, if_true]
  · rw [cpy_0]
    funext q
    by_cases h : q = b
    · subst h; rw [setc_at]
    · rw [setc_ne h]
def push (ls : List Row) (g : Row) : List Row := (if ls.length = 8 then ls.tail else ls) ++ [g]
theorem push_len (ls : List Row) (g : Row) : (push ls g).length = if ls.length = 8 then 8 else ls.length + 1 := by
  unfold push
  by_cases h : ls.length = 8
  · rw [if_pos h, if_pos h]; simp [h]
  · rw [if_neg h, if_neg h]; simp
theorem push_get {ls : List Row} {g r : Row} {k : Nat} (h : (push ls g)[k]? = some r) : (k + 1 = (push ls g).length ∧ r = g) ∨ (k + 1 < (push ls g).length ∧ ls[k + (if ls.length = 8 then 1 else 0)]? = some r) := by
  rw [push_len]
  unfold push at h
  by_cases h8 : ls.length = 8
  · rw [if_pos h8] at h
    rw [if_pos h8, if_pos h8]
    have hl : ls.tail.length = 7 := by simp [h8]
    rcases Nat.lt_or_ge k 7 with q | q
    · right
      rw [List.getElem?_append_left (by omega), List.getElem?_tail] at h
      exact ⟨by omega, h⟩
    · left
      rw [List.getElem?_append_right (by omega), hl] at h
      rcases Nat.eq_zero_or_pos (k - 7) with z | z
      · rw [z] at h
        exact ⟨by omega, (Option.some.inj h).symm⟩
      · obtain ⟨j, hj⟩ : ∃ j, k - 7 = j + 1 := ⟨k - 7 - 1, by omega⟩
        rw [hj] at h
        simp at h
  · rw [if_neg h8] at h
    rw [if_neg h8, if_neg h8]
    rcases Nat.lt_or_ge k ls.length with q | q
    · right
      rw [List.getElem?_append_left q] at h
      exact ⟨by omega, h⟩
    · left
      rw [List.getElem?_append_right q] at h
      rcases Nat.eq_zero_or_pos (k - ls.length) with z | z
      · rw [z] at h
        exact ⟨by omega, (Option.some.inj h).symm⟩
      · obtain ⟨j, hj⟩ : ∃ j, k - ls.length = j + 1 := ⟨k - ls.length - 1, by omega⟩
        rw [hj] at h
        simp at h
theorem push_mem {ls : List Row} {g r : Row} (h : r ∈ push ls g) : r = g ∨ r ∈ ls := by
  unfold push at h
  rw [List.mem_append] at h
  rcases h with h | h
  · right
    by_cases h8 : ls.length = 8
    · rw [if_pos h8] at h; exact List.mem_of_mem_tail h
    · rw [if_neg h8] at h; exact h
  · left; simpa using h
/-- the reference's kept rows -/
def RM (V : VT) (ls : List Row) : Prop := V 109 5 = nI ls.length ∧ ∀ k r, ls[k]? = some r → ∀ i, i < 56 → V 111 (56 * k + i) = r i
/-- the landed text's kept lands -/
def RI (V : VT) (ls : List Row) : Prop := ∃ o, o < 8 ∧ V 28 1 = nI o ∧ V 28 2 = nI ls.length ∧ ∀ k r, ls[k]? = some r → LR V (30 + 9 * ((o + k) % 8)) r
theorem lr_frame {V V' : VT} {a : Nat} {g : Row} (h : ∀ q, a ≤ q → q < a + 9 → V' q = V q) (r : LR V a g) : LR V' a g := by
  obtain ⟨h1, h2, h3, h4, h5, h6, h7⟩ := r
  refine ⟨by rw [h a (by omega) (by omega)]; exact h1, by rw [h a (by omega) (by omega)]; exact h2, by rw [h a (by omega) (by omega)]; exact h3, by rw [h a (by omega) (by omega)]; exact h4, fun c hc => ?_, fun c hc => ?_, fun k hk => by rw [h _ (by omega) (by omega)]; exact h7 k hk⟩
  · rw [h _ (by omega) (by omega), h (a + 2) (by omega) (by omega), h (a + 3) (by omega) (by omega), h (a + 4) (by omega) (by omega), h (a + 5) (by omega) (by omega)]; exact h5 c hc
  · rw [h _ (by omega) (by omega), h (a + 8) (by omega) (by omega)]; exact h6 c hc
theorem get_lt {ls : List Row} {k : Nat} {r : Row} (h : ls[k]? = some r) : k < ls.length := (List.getElem?_eq_some_iff.mp h).1
theorem i_copy {V : VT} {a b : Nat} {g : Row} (hd : a + 9 ≤ b ∨ b + 9 ≤ a) (s7 : gS g ≤ 7) (r : LR V b g) : ∃ V', d_X1_copyFrom a b V = some V' ∧ LR V' a g ∧ ∀ q, q < a ∨ a + 9 ≤ q → V' q = V q := by
  unfold d_X1_copyFrom
  obtain ⟨h1, h2, h3, h4, h5, h6, h7⟩ := r
  refine ⟨_, rfl, ⟨?_, ?_, ?_, ?_, fun c hc => ?_, fun c hc => ?_, fun k hk => ?_⟩, fun q hq => ?_⟩
  · simp (disch := omega) only [up2_at, up2_ne, upd_eq, upd_ne, cp2_o]; exact h1
  · simp (disch := omega) only [up2_at, up2_ne, upd_eq, upd_ne, cp2_o]; exact h2
  · simp (disch := omega) only [up2_at, up2_ne, upd_eq, upd_ne, cp2_o]; exact h3
  · simp (disch := omega) only [up2_at, up2_ne, upd_eq, upd_ne, cp2_o]; exact h4
  · simp (disch := omega) only [up2_ne, cp2_o, cp2_k, sb_cpy0]; exact h5 c hc
  · simp (disch := omega) only [up2_ne, cp2_o, cp2_k, sb_cpy0]; exact h6 c hc
  · simp (disch := omega) only [up2_ne, cp2_o, cp2_k, sb_cpy0]; exact h7 k hk
  · simp (disch := omega) only [up2_ne, cp2_o]
theorem i_place {V : VT} {o d : Nat} (ho : o < 8) (hd : d ≤ 8) (h : V 28 1 = nI o) : d_X3_placeAfter (nI d) V = some (nI ((o + d) % 8)) := by
  have hx : (o + d) ^^^ 8 < 2 ^ 5 := Nat.xor_lt_two_pow (by omega) (by omega)
  have e : nI (o + d) - nI (o + d) / nI 8 * nI 8 = nI ((o + d) % 8) := pk_rem (by omega) (by omega) (by omega)
  unfold d_X3_placeAfter d_J9_floorMod_7cf53
  rw [h]
  simp (disch := omega) only [i_0, i_8, nI_add, nI_xor, nI_leI, bd_some, nz_nI, e, Nat.zero_le, if_true]
theorem i_keep {V : VT} {b : Nat} {g : Row} {ls : List Row} (hb : b = 1 ∨ b = 10) (s7 : gS g ≤ 7) (r : LR V b g) (hl : ls.length ≤ 8) (hr : RI V ls) : ∃ V', d_X3_keep b V = some V' ∧ RI V' (push ls g) ∧ ∀ q, q ≠ 28 → ¬ (30 ≤ q ∧ q < 102) → V' q = V q := by
  obtain ⟨o, ho, e1, e2, hk⟩ := hr
  have hp8 : (o + ls.length) % 8 < 8 := Nat.mod_lt _ (by omega)
  obtain ⟨V5, c1, c2, c3⟩ := i_copy (V := V) (a := 30 + 9 * ((o + ls.length) % 8)) (b := b) (g := g) (by omega) s7 r
  have f1 : V5 28 = V 28 := c3 28 (by omega)
  unfold d_X3_keep
  rw [e2]
  simp (disch := omega) only [i_place ho hl e1, bd_some, asr_inb, nI_clamp, c1, f1, e2, i_8, nI_leI]
  by_cases h8 : ls.length = 8
  · rw [if_pos (by omega), i_1, i_place (V := V5) ho (by omega) (by rw [f1]; exact e1), bd_some]
    refine ⟨_, rfl, ⟨(o + 1) % 8, Nat.mod_lt _ (by omega), by rw [up2_at, upd_eq], by rw [up2_at, upd_ne (by omega), f1, e2, push_len, if_pos h8, h8], fun k r' h => ?_⟩, fun q q1 q2 => ?_⟩
    · refine lr_frame (V := V5) (fun q q1 q2 => up2_ne (by omega)) ?_
      rcases push_get h with ⟨k1, rfl⟩ | ⟨k1, h9⟩
      · rw [push_len, if_pos h8] at k1
        have : ((o + 1) % 8 + k) % 8 = (o + ls.length) % 8 := by omega
        rw [this]; exact c2
      · rw [push_len, if_pos h8] at k1
        rw [if_pos h8] at h9
        have e3 : ((o + 1) % 8 + k) % 8 = (o + (k + 1)) % 8 := by omega
        have e4 : (o + (k + 1)) % 8 ≠ (o + ls.length) % 8 := by omega
        rw [e3]
        exact lr_frame (fun q q1 q2 => c3 q (by omega)) (hk _ _ h9)
    · rw [up2_ne q1]; exact c3 q (by omega)
  · rw [if_neg (by omega)]
    refine ⟨_, rfl, ⟨o, ho, by rw [up2_at, upd_ne (by omega), f1, e1], by rw [up2_at, upd_eq, i_1, nI_add, push_len, if_neg h8], fun k r' h => ?_⟩, fun q q1 q2 => ?_⟩
    · refine lr_frame (V := V5) (fun q q1 q2 => up2_ne (by omega)) ?_
      rcases push_get h with ⟨k1, rfl⟩ | ⟨k1, h9⟩
      · rw [push_len, if_neg h8] at k1
        have : k = ls.length := by omega
        rw [this]; exact c2
      · rw [push_len, if_neg h8] at k1
        rw [if_neg h8, Nat.add_zero] at h9
        have e4 : (o + k) % 8 ≠ (o + ls.length) % 8 := by omega
        exact lr_frame (fun q q1 q2 => c3 q (by omega)) (hk _ _ h9)
    · rw [up2_ne q1]; exact c3 q (by omega)
theorem m_keeps57 {V : VT} {a : Nat} {ls : List Row} (ha : a = 110 ∨ a = 113) (hl : ls.length < 8) (h : RM V ls) : ∃ V', d_X5_keeps_57 a V = some V' ∧ RM V' (ls ++ [V a]) ∧ (∀ q, q ≠ 109 → q ≠ 111 → V' q = V q) ∧ ∀ i, i ≠ 5 → V' 109 i = V 109 i := by
  obtain ⟨h1, h2⟩ := h
  have la : alen a = 56 := by rcases ha with rfl | rfl <;> rfl
  have lb : alen 111 = 448 := rfl
  have hc := m_copies (V := V) (a := a) (b := 111) (x1 := 0) (x3 := 56 * ls.length) (by omega) (by omega) (by omega) (by omega) (by omega)
  unfold d_X5_keeps_57
  simp (disch := omega) only [h1, i_0, i_56, pk_mul, hc, bd_some, setc_ne, i_1, nI_add]
  refine ⟨_, rfl, ⟨by rw [up2_at, upd_eq]; simp, fun k r h i hi => ?_⟩, fun q q1 q2 => by rw [up2_ne q1, setc_ne q2], fun i hi => by rw [up2_at, upd_ne hi, setc_ne (by omega)]⟩
  rw [up2_ne (by omega), setc_at]
  rcases Nat.lt_or_ge k ls.length with q | q
  · rw [List.getElem?_append_left q] at h
    rw [cpy_out (by omega)]
    exact h2 k r h i hi
  · rw [List.getElem?_append_right q] at h
    rcases Nat.eq_zero_or_pos (k - ls.length) with z | z
    · rw [z] at h
      have : k = ls.length := by omega
      subst this
      rw [cpy_in hi, Nat.zero_add, Option.some.inj h]
    · obtain ⟨j, hj⟩ : ∃ j, k - ls.length = j + 1 := ⟨k - ls.length - 1, by omega⟩
      rw [hj] at h
      simp at h
theorem m_keeps {V : VT} {a : Nat} {ls : List Row} (ha : a = 110 ∨ a = 113) (hz : V 109 6 = nI 0) (hl : ls.length ≤ 8) (h : RM V ls) : ∃ V', d_X5_keeps a V = some V' ∧ RM V' (push ls (V a)) ∧ (∀ q, q ≠ 109 → q ≠ 111 → V' q = V q) ∧ ∀ i, i ≠ 5 → V' 109 i = V 109 i := by
  have h0 := h
  obtain ⟨h1, h2⟩ := h
  unfold d_X5_keeps
  rw [hz, h1, if_pos nI_0]
  by_cases h8 : ls.length = 8
  · rw [if_pos (by rw [h8]; rfl)]
    have hl2 : d_X5_keeps_19 a (nI 0) V = d_X5_keeps_57 a (up2 (setc V 111 (cpy (V 111) (V 111) 56 0 392)) 109 5 (nI 7)) := by
      unfold d_X5_keeps_19
      refine lo1W_inv 392 (fun k V' => V' = setc V 111 (cpy (V 111) (V 111) 56 0 k)) ?_ ?_ FU (show 392 < 1000 by omega) _ ?_
      · rintro K k V' hk rfl hK
        have lb : alen 111 = 448 := rfl
        have e9 : cpy (V 111) (V 111) 56 0 k (k + 56) = V 111 (56 + k) := by rw [cpy_out (by omega), Nat.add_comm]
        have e8 := cpy_s (V 111) (V 111) 56 0 k
        rw [Nat.zero_add] at e8
        unfold d_X5_keeps_19b
        simp (disch := omega) only [↓iM_def, i_0, i_1, i_2, i_3, i_4, i_5, i_6, i_7, i_8, i_9, i_10, i_12, i_17, i_29, i_31, i_33, i_36, i_37, i_40, i_41, i_42, i_43, i_44, i_45, i_47, i_48, i_50, i_53, i_55, i_56, i_57, i_58, i_59, i_60, i_61, i_98, i_99, i_100, i_102, i_104, i_106, i_110, i_112, i_119, i_120, i_128, i_392, i_448, nI_add, nI_leI, nI_ltI, nI_eq, nI_clamp, iM_le, iM_lt, iM_nle, iM_nlt, iM_ne, iM_ne', Nat.add_zero, pk_mul, asr_inb, bd_some, bw_some, bx_inl, bx_inr, bh_inl, bh_inr, b2_eq0, b2_eq1, asr_zok, nz_nI, up2_setc, setc_at, setc_setc, setc_ne, e9, e8]
        rw [if_neg (by omega)]
        exact hK _ rfl
      · rintro K V' rfl
        unfold d_X5_keeps_19b
        have e7 : nI 8 - nI 1 = nI 7 := by decide +kernel
        simp (disch := omega) only [↓iM_def, i_0, i_1, i_2, i_3, i_4, i_5, i_6, i_7, i_8, i_9, i_10, i_12, i_17, i_29, i_31, i_33, i_36, i_37, i_40, i_41, i_42, i_43, i_44, i_45, i_47, i_48, i_50, i_53, i_55, i_56, i_57, i_58, i_59, i_60, i_61, i_98, i_99, i_100, i_102, i_104, i_106, i_110, i_112, i_119, i_120, i_128, i_392, i_448, nI_add, nI_leI, nI_ltI, nI_eq, nI_clamp, iM_le, iM_lt, iM_nle, iM_nlt, iM_ne, iM_ne', Nat.add_zero, pk_mul, asr_inb, bd_some, bw_some, bx_inl, bx_inr, bh_inl, bh_inr, b2_eq0, b2_eq1, asr_zok, nz_nI, Nat.le_refl, if_true, setc_ne, h1, h8, e7]
      · rw [cpy_0]
        funext q
        by_cases h : q = 111
        · subst h; rw [setc_at]
        · rw [setc_ne h]
    have hl2' : d_X5_keeps_19 a (0 : Int32) V = d_X5_keeps_57 a (up2 (setc V 111 (cpy (V 111) (V 111) 56 0 392)) 109 5 (nI 7)) := hl2
    rw [hl2']
    have ht : ls.tail.length = 7 := by simp [h8]
    have hRM : RM (up2 (setc V 111 (cpy (V 111) (V 111) 56 0 392)) 109 5 (nI 7)) ls.tail := by
      refine ⟨by rw [up2_at, upd_eq, ht], fun k r h i hi => ?_⟩
      have hk := get_lt h
      rw [List.getElem?_tail] at h
      have e5 := cpy_in (f := V 111) (r := V 111) (sp := 56) (dp := 0) (k := 392) (i := 56 * k + i) (by omega)
      rw [Nat.zero_add] at e5
      rw [up2_ne (by omega), setc_at, e5, show 56 + (56 * k + i) = 56 * (k + 1) + i by omega]
      exact h2 _ _ h i hi
    obtain ⟨V', a1, a2, a3, a4⟩ := m_keeps57 (ls := ls.tail) ha (by omega) hRM
    refine ⟨V', a1, ?_, fun q q1 q2 => by rw [a3 q q1 q2, up2_ne q1, setc_ne q2], fun i hi => by rw [a4 i hi, up2_at, upd_ne hi, setc_ne (by omega)]⟩
    have e6 : up2 (setc V 111 (cpy (V 111) (V 111) 56 0 392)) 109 5 (nI 7) a = V a := by rw [up2_ne (by omega), setc_ne (by omega)]
    rw [e6] at a2
    unfold push
    rw [if_pos h8]
    exact a2
  · have h8' : ¬ nI ls.length = (8 : Int32) := by rw [i_8, nI_eq (by omega) (by omega)]; exact h8
    rw [if_neg h8']
    obtain ⟨V', a1, a2, a3, a4⟩ := m_keeps57 ha (by omega) h0
    refine ⟨V', a1, ?_, a3, a4⟩
    unfold push
    rw [if_neg h8]
    exact a2
