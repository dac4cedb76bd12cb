/-! PURE ROWS: ways, waysFor, fewest on both sides -/
def lft (g : Row) (c : Nat) : Bool := decide (c < gN g) && !ptd g c
def hol (g : Row) : HT := fun h o => decide (o < gN g) && decide (hu g o = nI h)
def wys (g : Row) (u : Nat) : Nat := wc g u (lft g) 7 0 (hol g)
/-- masks of holders in the cell 103 -/
def HM (V : VT) (H : HT) : Prop := ∀ h, h < 5 → ∃ m, m < 128 ∧ V 103 h = nI m ∧ ∀ o, o < 7 → m.testBit o = H h o
section
variable {V V' : VT} {σ : Sg} {g : Row} {E1 E2 : String} {u : Nat} {L : Nat → Bool} {H : HT}
theorem bt_div {m i : Nat} (hm : m < 2 ^ 31) (hi : i < 31) : nI (m / 2 ^ i) &&& nI 1 = b2 (m.testBit i) := by
  rw [← shr_nI hm hi]
  exact bt_nI hm hi
theorem bl_mask (w : WF g) {m c h : Nat} (hm : m < 128) (hc : c < 7) (hb : ∀ o, o < 7 → m.testBit o = H h o) : (m &&& nb g c = 0) = (bl g c h H = false) := by
  have n7 := wf_n7 w
  apply propext
  unfold bl
  rw [ex_f]
  constructor
  · intro e i hi
    have := congrArg (fun z => z.testBit i) e
    simp only [Nat.testBit_and, Nat.zero_testBit] at this
    rw [hb i (by omega)] at this
    show ((nb g c).testBit i && H h i) = false
    cases q : H h i with
    | false => simp
    | true => rw [q] at this; simpa using this
  · intro e
    refine bit_ext (fun i => ?_)
    rw [Nat.testBit_and, Nat.zero_testBit]
    by_cases hi : i < 7
    · rw [hb i hi]
      cases q : (nb g c).testBit i with
      | false => simp
      | true =>
        have hn := (wf_tt w hc hi q).2.1
        have := e i hn
        unfold tt at this
        rw [q] at this
        simpa using this
    · rw [bit_ge (n := 7) hm (by omega)]; rfl
theorem i_choices (r : LR V 1 g) (w : WF g) (hu5 : u ≤ 5) {c : Nat} (hc : c < 7) (hH : HM V H) : d_X0_countChoices (nI (nb g c)) (nI u) V = some (nI (cnt (fun h => !bl g c h H) u)) := by
  unfold d_X0_countChoices d_X0_countChoices_5
  refine lo4_inv u (fun k y0 y1 y2 => y0 = nI (nb g c) ∧ y1 = nI u ∧ y2 = nI (cnt (fun h => !bl g c h H) k)) ?_ ?_ FU (show u < 1000 by omega) _ _ _ ⟨rfl, rfl, rfl⟩
  · rintro K k y0 y1 y2 hk ⟨rfl, rfl, rfl⟩ hK
    have hK := hK _ _ _ ⟨rfl, rfl, rfl⟩
    rw [cnt_s] at hK
    obtain ⟨m, m1, m2, m3⟩ := hH k (by omega)
    have hlt : m &&& nb g c < 2 ^ 7 := and_lt m1
    unfold d_X0_countChoices_5b
    simp (disch := omega) only [↓iM_def, i_0, i_1, i_2, i_3, i_4, i_5, i_6, i_7, i_8, i_9, i_10, i_12, i_17, i_29, i_31, i_33, i_36, i_37, i_40, i_41, i_42, i_43, i_44, i_45, i_47, i_48, i_50, i_53, i_55, i_56, i_57, i_58, i_59, i_60, i_61, i_98, i_99, i_100, i_102, i_104, i_106, i_110, i_112, i_119, i_120, i_128, i_392, i_448, nI_add, nI_leI, nI_ltI, nI_eq, nI_clamp, iM_le, iM_lt, iM_nle, iM_nlt, iM_ne, iM_ne', Nat.add_zero, pk_mul, asr_inb, bd_some, bw_some, bx_inl, bx_inr, bh_inl, bh_inr, b2_eq0, b2_eq1, asr_zok, nz_nI, m2, nI_and, bl_mask w m1 hc m3]
    rw [if_neg (by omega)]
    cases hb : bl g c k H with
    | false =>
      rw [hb] at hK
      rw [if_pos rfl]; exact hK
    | true =>
      rw [hb] at hK
      rw [if_neg (by decide)]; exact hK
  · rintro K y0 y1 y2 ⟨rfl, rfl, rfl⟩
    unfold d_X0_countChoices_5b
    simp (disch := omega) only [↓iM_def, i_0, i_1, i_2, i_3, i_4, i_5, i_6, i_7, i_8, i_9, i_10, i_12, i_17, i_29, i_31, i_33, i_36, i_37, i_40, i_41, i_42, i_43, i_44, i_45, i_47, i_48, i_50, i_53, i_55, i_56, i_57, i_58, i_59, i_60, i_61, i_98, i_99, i_100, i_102, i_104, i_106, i_110, i_112, i_119, i_120, i_128, i_392, i_448, nI_add, nI_leI, nI_ltI, nI_eq, nI_clamp, iM_le, iM_lt, iM_nle, iM_nlt, iM_ne, iM_ne', Nat.add_zero, pk_mul, asr_inb, bd_some, bw_some, bx_inl, bx_inr, bh_inl, bh_inr, b2_eq0, b2_eq1, asr_zok, nz_nI, Nat.le_refl, if_true]
theorem HM.set {m c h : Nat} (hH : HM V H) (hc : c < 7) (hm : m < 128) (hb : ∀ o, o < 7 → m.testBit o = H h o) : HM (up2 V 103 h (nI (m ||| 2 ^ c))) (stH H h c) := by
  have hp : 2 ^ c < 2 ^ 7 := Nat.pow_lt_pow_right (by omega) hc
  intro h' hh'
  by_cases e : h' = h
  · subst e
    refine ⟨m ||| 2 ^ c, or_lt hm hp, by rw [up2_at, upd_eq], fun o ho => ?_⟩
    rw [Nat.testBit_or, hb o ho, p2_bit]
    unfold stH
    have e2 : decide (c = o) = decide (o = c) := by apply decide_eq_decide.mpr; exact eq_comm
    rw [e2, decide_eq_true (rfl : h' = h'), Bool.true_and]
  · obtain ⟨m', a1, a2, a3⟩ := hH h' hh'
    refine ⟨m', a1, by rw [up2_at, upd_ne e]; exact a2, fun o ho => ?_⟩
    rw [a3 o ho]
    unfold stH
    rw [decide_eq_false e]
    simp
theorem unset {m c : Nat} (hm : m < 128) (hc : c < 7) (hb : m.testBit c = false) : (m ||| 2 ^ c) &&& bnot (2 ^ c) = m := bit_ext (fun i => by
  rw [Nat.testBit_and, Nat.testBit_or]
  by_cases hi : i < 32
  · rw [bnot_bit _ hi, p2_bit]
    by_cases e : c = i
    · rw [← e, hb, decide_eq_true rfl]; rfl
    · rw [decide_eq_false e]; simp
  · rw [bit_ge (n := 7) hm (by omega), bit_ge (n := 7) (Nat.pow_lt_pow_right (by omega) hc) (by omega)]; rfl)
theorem up2_back (V : VT) (k j : Nat) (x : Int32) : up2 (up2 V k j x) k j (V k j) = V := by
  funext a i
  rw [up2_if, up2_if]
  by_cases e : a = k ∧ i = j
  · rw [if_pos e, e.1, e.2]
  · rw [if_neg e, if_neg e]
theorem i_countFrom (w : WF g) (hu5 : u ≤ 5) {Lm : Nat} (hLm : Lm < 128) (hLb : ∀ i, i < 7 → Lm.testBit i = L i) (hL7 : ∀ d, L d = true → d < gN g) : ∀ (m c fuel : Nat) (V : VT) (H : HT), c + m = 7 → m < fuel → LR V 1 g → HM V H → (∀ h o, c ≤ o → L o = true → h < 5 → H h o = false) →
    lo3W d_X0_countFromb fuel (nI c) (nI Lm) (nI u) V = some (nI (wc g u L m c H), V) := by
  have n7 := wf_n7 w
  intro m
  induction m with
  | zero =>
    intro c fuel V H hc hf r hH hno
    obtain ⟨f, rfl⟩ : ∃ f, fuel = f + 1 := ⟨fuel - 1, by omega⟩
    show d_X0_countFromb _ _ _ _ _ = _
    generalize lo3W d_X0_countFromb f = KK
    unfold d_X0_countFromb
    simp (disch := omega) only [↓jM_def, j_0, j_1, j_2, j_3, j_4, j_5, j_6, j_7, j_8, j_9, j_10, j_11, j_12, j_13, j_14, j_15, j_16, j_17, j_18, j_19, j_20, j_21, j_22, j_23, j_24, j_25, j_26, j_27, j_28, j_29, j_30, j_31, j_32, j_33, j_34, j_35, j_36, j_37, j_38, j_39, j_40, j_41, j_42, j_43, j_44, j_45, j_46, j_47, j_48, j_49, j_50, j_51, j_52, j_53, j_54, j_55, j_56, j_57, j_58, j_59, j_60, j_61, j_62, j_63, j_97, j_98, j_99, j_100, j_101, j_102, j_103, j_104, j_105, j_106, j_107, j_108, j_109, j_110, j_111, j_112, j_113, j_114, j_115, j_116, j_117, j_118, j_119, j_120, j_121, j_122, j_128, j_392, j_448, nI_add, nI_leI, nI_ltI, nI_eq, nI_clamp, iM_le, iM_lt, iM_nle, iM_nlt, iM_ne, iM_ne', Nat.add_zero, pk_mul]
    rw [if_pos (by omega)]
    rfl
  | succ m ih =>
    intro c fuel V H hc hf r hH hno
    obtain ⟨f, rfl⟩ : ∃ f, fuel = f + 1 := ⟨fuel - 1, by omega⟩
    have c7 : c < 7 := by omega
    show d_X0_countFromb (lo3W d_X0_countFromb f) _ _ _ _ = _
    have ihf := fun c V H h1 h2 h3 h4 => ih c f V H h1 (by omega) h2 h3 h4
    generalize hKK : lo3W d_X0_countFromb f = KK at ihf
    have hd : Lm / 2 ^ c ≤ Lm := Nat.div_le_self _ _
    have hz : (Lm / 2 ^ c = 0) = (Lm < 2 ^ c) := propext (Nat.div_eq_zero_iff_lt (Nat.two_pow_pos _))
    have hxl : nb g c &&& Lm < 2 ^ 7 := and_lt (wf_nb7 w c7)
    have hxd : (nb g c &&& Lm) / 2 ^ c ≤ nb g c &&& Lm := Nat.div_le_self _ _
    have hxz : ((nb g c &&& Lm) / 2 ^ c = 0) = (nb g c &&& Lm < 2 ^ c) := propext (Nat.div_eq_zero_iff_lt (Nat.two_pow_pos _))
    have hand : nI (nb g c) &&& nI Lm = nI (nb g c &&& Lm) := nI_and _ _
    unfold d_X0_countFromb
    simp (disch := omega) only [↓jM_def, j_0, j_1, j_2, j_3, j_4, j_5, j_6, j_7, j_8, j_9, j_10, j_11, j_12, j_13, j_14, j_15, j_16, j_17, j_18, j_19, j_20, j_21, j_22, j_23, j_24, j_25, j_26, j_27, j_28, j_29, j_30, j_31, j_32, j_33, j_34, j_35, j_36, j_37, j_38, j_39, j_40, j_41, j_42, j_43, j_44, j_45, j_46, j_47, j_48, j_49, j_50, j_51, j_52, j_53, j_54, j_55, j_56, j_57, j_58, j_59, j_60, j_61, j_62, j_63, j_97, j_98, j_99, j_100, j_101, j_102, j_103, j_104, j_105, j_106, j_107, j_108, j_109, j_110, j_111, j_112, j_113, j_114, j_115, j_116, j_117, j_118, j_119, j_120, j_121, j_122, j_128, j_392, j_448, nI_add, nI_leI, nI_ltI, nI_eq, nI_clamp, iM_le, iM_lt, iM_nle, iM_nlt, iM_ne, iM_ne', Nat.add_zero, pk_mul, asr_inb, bd_some, bw_some, bx_inl, bx_inr, bh_inl, bh_inr, b2_eq0, b2_eq1, asr_zok, nz_nI, bt_div, shr_nI, lr_nb r w, hz, hand, hxz, hLb]
    rw [if_neg (by omega)]
    by_cases h1 : Lm < 2 ^ c
    · rw [if_pos h1]
      rw [wc_tail (m + 1) c H (fun d hd => ?_)]
      by_cases hd7 : d < 7
      · rw [← hLb d hd7]; exact bit_ge h1 hd
      · cases q : L d with
        | false => rfl
        | true => have := hL7 d q; omega
    · rw [if_neg h1]
      cases h2 : L c with
      | false =>
        rw [if_pos rfl, ihf (c + 1) V H (by omega) r hH (fun h o ho => hno h o (by omega)), bw_some, wc_s, h2, if_neg (by decide)]
      | true =>
        rw [if_neg (by decide)]
        by_cases h3 : nb g c &&& Lm < 2 ^ c
        · rw [if_pos h3]
          have hno2 : ∀ o, c ≤ o → o < 7 → (tt g c o && L o) = false := fun o ho ho7 => by
            have := bit_ge h3 ho
            rw [Nat.testBit_and, hLb o ho7] at this
            exact this
          have hcc := cnt_le (fun h => !bl g c h H) u
          rw [i_choices r w hu5 c7 hH, bd_some, wc_s, h2, if_pos rfl, wc_short w hu5 hL7 (by omega) h2 hno2]
          by_cases h4 : cnt (fun h => !bl g c h H) u = 0
          · rw [h4, if_pos rfl, Nat.zero_mul]
          · rw [if_neg (by rw [nI_eq (by omega) (by omega)]; exact h4), ihf (c + 1) V H (by omega) r hH (fun h o ho => hno h o (by omega)), bw_some, pk_mul]
        · rw [if_neg h3, wc_s, h2, if_pos rfl]
          unfold d_X0_countFrom_86
          refine lo5W_inv u (fun k y0 y1 y2 y3 Vk => Vk = V ∧ y0 = nI c ∧ y1 = nI Lm ∧ y2 = nI u ∧ y3 = nI (sumN (fun h => if bl g c h H = true then 0 else wc g u L m (c + 1) (stH H h c)) k)) ?_ ?_ FU (show u < 1000 by omega) _ _ _ _ _ ⟨rfl, rfl, rfl, rfl, rfl⟩
          · rintro K2 k y0 y1 y2 y3 Vk hk ⟨rfl, rfl, rfl, rfl, rfl⟩ hK
            have hK := hK _ _ _ _ _ ⟨rfl, rfl, rfl, rfl, rfl⟩
            rw [sumN_s] at hK
            obtain ⟨mm, m1, m2, m3⟩ := hH k (by omega)
            have hlt : mm &&& nb g c < 2 ^ 7 := and_lt m1
            have hmc : mm.testBit c = false := by rw [m3 c c7]; exact hno k c (Nat.le_refl _) h2 (by omega)
            have hand2 : nI mm &&& nI (nb g c) = nI (mm &&& nb g c) := nI_and _ _
            unfold d_X0_countFrom_86b
            simp (disch := omega) only [↓jM_def, j_0, j_1, j_2, j_3, j_4, j_5, j_6, j_7, j_8, j_9, j_10, j_11, j_12, j_13, j_14, j_15, j_16, j_17, j_18, j_19, j_20, j_21, j_22, j_23, j_24, j_25, j_26, j_27, j_28, j_29, j_30, j_31, j_32, j_33, j_34, j_35, j_36, j_37, j_38, j_39, j_40, j_41, j_42, j_43, j_44, j_45, j_46, j_47, j_48, j_49, j_50, j_51, j_52, j_53, j_54, j_55, j_56, j_57, j_58, j_59, j_60, j_61, j_62, j_63, j_97, j_98, j_99, j_100, j_101, j_102, j_103, j_104, j_105, j_106, j_107, j_108, j_109, j_110, j_111, j_112, j_113, j_114, j_115, j_116, j_117, j_118, j_119, j_120, j_121, j_122, j_128, j_392, j_448, nI_add, nI_leI, nI_ltI, nI_eq, nI_clamp, iM_le, iM_lt, iM_nle, iM_nlt, iM_ne, iM_ne', Nat.add_zero, pk_mul, asr_inb, bd_some, bw_some, bx_inl, bx_inr, bh_inl, bh_inr, b2_eq0, b2_eq1, asr_zok, nz_nI, m2, hand2, bl_mask w m1 c7 m3, set_nI, lr_nb r w]
            rw [if_neg (by omega)]
            cases hb : bl g c k H with
            | true =>
              rw [hb, if_pos rfl, Nat.add_zero] at hK
              rw [if_neg (by decide)]; exact hK
            | false =>
              rw [hb, if_neg (by decide)] at hK
              rw [if_pos rfl]
              have r2 : LR (up2 Vk 103 k (nI (mm ||| 2 ^ c))) 1 g := lr_frame (fun q _ _ => up2_ne (by omega)) r
              rw [ihf (c + 1) _ _ (by omega) r2 (hH.set c7 m1 m3) (fun h o ho hLo hh => by
                unfold stH
                rw [hno h o (by omega) hLo hh, decide_eq_false (show ¬ o = c by omega)]; simp), bw_some]
              simp (disch := omega) only [up2_at, upd_eq, clr_nI, unset m1 c7 hmc, nI_add]
              rw [← m2, up2_back]
              exact hK
          · rintro K2 y0 y1 y2 y3 Vk ⟨rfl, rfl, rfl, rfl, rfl⟩
            unfold d_X0_countFrom_86b
            simp (disch := omega) only [↓jM_def, j_0, j_1, j_2, j_3, j_4, j_5, j_6, j_7, j_8, j_9, j_10, j_11, j_12, j_13, j_14, j_15, j_16, j_17, j_18, j_19, j_20, j_21, j_22, j_23, j_24, j_25, j_26, j_27, j_28, j_29, j_30, j_31, j_32, j_33, j_34, j_35, j_36, j_37, j_38, j_39, j_40, j_41, j_42, j_43, j_44, j_45, j_46, j_47, j_48, j_49, j_50, j_51, j_52, j_53, j_54, j_55, j_56, j_57, j_58, j_59, j_60, j_61, j_62, j_63, j_97, j_98, j_99, j_100, j_101, j_102, j_103, j_104, j_105, j_106, j_107, j_108, j_109, j_110, j_111, j_112, j_113, j_114, j_115, j_116, j_117, j_118, j_119, j_120, j_121, j_122, j_128, j_392, j_448, nI_add, nI_leI, nI_ltI, nI_eq, nI_clamp, iM_le, iM_lt, iM_nle, iM_nlt, iM_ne, iM_ne', Nat.add_zero, pk_mul, Nat.le_refl, if_true]
end
