/-! PURE ROWS: waysAgain, by numbers -/
def rst (g : Row) (u num : Nat) : Nat → Nat
  | 0 => num
  | c + 1 => if ptd g c = true then rst g u num c else rst g u num c / u
def dgt (g : Row) (u num c : Nat) : Nat := rst g u num c % u
def tw (g : Row) (u num c : Nat) : Int32 := if ptd g c = true then hu g c else nI (dgt g u num c)
/-- two neighbours of one hue, as the landed text looks for them -/
def badI (g : Row) (u num : Nat) (c : Nat) : Bool := ex (fun o => tt g c o && decide (tw g u num c = tw g u num o)) c
def HD (g : Row) (u num c : Nat) : HT := fun h o => decide (o < gN g) && (if ptd g o = true then decide (hu g o = nI h) else (decide (o < c) && decide (dgt g u num o = h)))
/-- .. as the reference does -/
def badM (g : Row) (u num : Nat) (c : Nat) : Bool := !ptd g c && bl g c (dgt g u num c) (HD g u num c)
def lv (g : Row) : Nat := cnt (fun c => !ptd g c) (gN g)
def byn (g : Row) (u : Nat) : Nat := cnt (fun num => !ex (badI g u num) (gN g)) (u ^ lv g)
section
variable {V V' : VT} {σ : Sg} {g : Row} {E1 E2 : String} {u : Nat} {L : Nat → Bool} {H : HT}
theorem rst_s (num c : Nat) : rst g u num (c + 1) = if ptd g c = true then rst g u num c else rst g u num c / u := rfl
theorem rst_le (num : Nat) : ∀ c, rst g u num c ≤ num
  | 0 => Nat.le_refl _
  | c + 1 => by
    have ih := rst_le num c
    rw [rst_s]
    split
    · exact ih
    · exact Nat.le_trans (Nat.div_le_self _ _) ih
theorem dgt_lt (h0 : 0 < u) (num c : Nat) : dgt g u num c < u := Nat.mod_lt _ h0
theorem good_eq (w : WF g) (h0 : 0 < u) (hu5 : u ≤ 5) (num : Nat) : ex (badI g u num) (gN g) = ex (badM g u num) (gN g) := by
  have n7 := wf_n7 w
  have dl := dgt_lt (g := g) h0 num
  have twu : ∀ c, ptd g c = false → tw g u num c = nI (dgt g u num c) := fun c h => by unfold tw; rw [h, if_neg (by decide)]
  have twp : ∀ c, ptd g c = true → tw g u num c = hu g c := fun c h => by unfold tw; rw [h, if_pos rfl]
  cases hM : ex (badM g u num) (gN g) with
  | true =>
    obtain ⟨c, hc, hb⟩ := ex_iff.mp hM
    unfold badM at hb
    simp only [Bool.and_eq_true, Bool.not_eq_true'] at hb
    obtain ⟨hp, hb⟩ := hb
    obtain ⟨o, ho, hq⟩ := ex_iff.mp hb
    simp only [Bool.and_eq_true] at hq
    obtain ⟨ht, hq⟩ := hq
    unfold HD at hq
    rw [decide_eq_true ho, Bool.true_and] at hq
    refine ex_iff.mpr ?_
    cases hpo : ptd g o with
    | true =>
      rw [hpo, if_pos rfl, decide_eq_true_eq] at hq
      have e : tw g u num c = tw g u num o := by rw [twu c hp, twp o hpo, hq]
      rcases Nat.lt_or_ge o c with q | q
      · exact ⟨c, hc, ex_iff.mpr ⟨o, q, by rw [ht, decide_eq_true e]; rfl⟩⟩
      · have hne := (wf_tt w (show c < 7 by omega) (show o < 7 by omega) ht).2.2.1
        refine ⟨o, ho, ex_iff.mpr ⟨c, by omega, ?_⟩⟩
        rw [wf_ts w (show o < 7 by omega) (show c < 7 by omega), ht, decide_eq_true e.symm]; rfl
    | false =>
      rw [hpo, if_neg (by decide)] at hq
      simp only [Bool.and_eq_true, decide_eq_true_eq] at hq
      have e : tw g u num c = tw g u num o := by rw [twu c hp, twu o hpo, hq.2]
      exact ⟨c, hc, ex_iff.mpr ⟨o, hq.1, by rw [ht, decide_eq_true e]; rfl⟩⟩
  | false =>
    refine ex_f.mpr (fun c hc => ?_)
    have hm := ex_f.mp hM
    unfold badI
    refine ex_f.mpr (fun o ho => ?_)
    cases ht : tt g c o with
    | false => rfl
    | true =>
      rw [Bool.true_and]
      rw [decide_eq_false_iff_not]
      intro e
      have ho7 : o < gN g := by omega
      have ht2 : tt g o c = true := by rw [wf_ts w (show o < 7 by omega) (show c < 7 by omega)]; exact ht
      cases hp : ptd g c with
      | true =>
        cases hpo : ptd g o with
        | true =>
          rw [twp c hp, twp o hpo] at e
          exact wf_nh w (by omega) (by omega) ht hp e
        | false =>
          have := hm o ho7
          unfold badM bl at this
          rw [hpo] at this
          have this : ex (fun o_1 => tt g o o_1 && HD g u num o (dgt g u num o) o_1) (gN g) = false := this
          have := ex_f.mp this c hc
          unfold HD at this
          rw [ht2, decide_eq_true hc, hp, if_pos rfl] at this
          rw [twp c hp, twu o hpo] at e
          rw [decide_eq_true e] at this
          cases this
      | false =>
        have := hm c hc
        unfold badM bl at this
        rw [hp] at this
        have this : ex (fun o_1 => tt g c o_1 && HD g u num c (dgt g u num c) o_1) (gN g) = false := this
        have := ex_f.mp this o ho7
        unfold HD at this
        rw [ht, decide_eq_true ho7] at this
        cases hpo : ptd g o with
        | true =>
          rw [hpo, if_pos rfl] at this
          rw [twu c hp, twp o hpo] at e
          rw [decide_eq_true e.symm] at this
          cases this
        | false =>
          rw [hpo, if_neg (by decide), decide_eq_true ho] at this
          rw [twu c hp, twu o hpo, nI_eq (by have := dl c; omega) (by have := dl o; omega)] at e
          rw [decide_eq_true e.symm] at this
          cases this
/-! the landed text's numbers -/
theorem i_spell (r : LR V 1 g) (w : WF g) {num : Nat} (hn : num < 2 ^ 20) : ∃ V', d_X0_spellOut (nI num) V = some V' ∧ (∀ q, q ≠ 104 → V' q = V q) ∧ ∀ c, c < gN g → V' 104 c = tw g (gU g) num c := by
  have n7 := wf_n7 w
  have u1 := wf_u1 w
  have u5 := wf_u5 w
  unfold d_X0_spellOut d_X0_spellOut_5
  refine lo2W_R (fun o : Option VT => ∃ V' : VT, o = some V' ∧ (∀ q, q ≠ 104 → V' q = V q) ∧ ∀ c, c < gN g → V' 104 c = tw g (gU g) num c) (gN g) (fun k y0 Vk => y0 = nI (rst g (gU g) num k) ∧ (∀ q, q ≠ 104 → Vk q = V q) ∧ ∀ c, c < k → Vk 104 c = tw g (gU g) num c) ?_ ?_ FU (show gN g < 1000 by omega) _ _ ⟨rfl, fun _ _ => rfl, fun c hc => by omega⟩
  · rintro K k y0 Vk hk ⟨rfl, h1, h2⟩ hK
    have rk : LR Vk 1 g := lr_frame (fun q _ _ => h1 q (by omega)) r
    have hr := rst_le (g := g) (u := gU g) num k
    have e2 : nI (rst g (gU g) num k) / nI (gU g) = nI (rst g (gU g) num k / gU g) := pk_div (by omega) (by omega) (by omega)
    have e1 : nI (rst g (gU g) num k) - nI (rst g (gU g) num k / gU g) * nI (gU g) = nI (rst g (gU g) num k % gU g) := by
      rw [← e2]
      exact pk_rem (by omega) (by omega) (by omega)
    unfold d_X0_spellOut_5b d_X0_spellOut_31
    simp (disch := omega) only [↓jM_def, j_0, j_1, j_2, j_3, j_4, j_5, j_6, j_7, j_8, j_9, j_10, j_11, j_12, j_13, j_14, j_15, j_16, j_17, j_18, j_19, j_20, j_21, j_22, j_23, j_24, j_25, j_26, j_27, j_28, j_29, j_30, j_31, j_32, j_33, j_34, j_35, j_36, j_37, j_38, j_39, j_40, j_41, j_42, j_43, j_44, j_45, j_46, j_47, j_48, j_49, j_50, j_51, j_52, j_53, j_54, j_55, j_56, j_57, j_58, j_59, j_60, j_61, j_62, j_63, j_97, j_98, j_99, j_100, j_101, j_102, j_103, j_104, j_105, j_106, j_107, j_108, j_109, j_110, j_111, j_112, j_113, j_114, j_115, j_116, j_117, j_118, j_119, j_120, j_121, j_122, j_128, j_392, j_448, asr_inb, bd_some, bw_some, bx_inl, bx_inr, bh_inl, bh_inr, b2_eq0, b2_eq1, asr_zok, nz_nI, nI_leI, nI_eq, nI_ltI, nI_clamp, nI_add, lr_n rk w, i_isP rk, lr_u rk w, lr_hu rk, e1, e2]
    rw [if_neg (by omega)]
    cases hp : ptd g k with
    | false =>
      rw [if_pos rfl, if_pos (by omega)]
      refine hK _ _ ⟨by rw [rst_s, hp, if_neg (by decide)], fun q hq => by rw [up2_ne hq, h1 q hq], fun c hc => ?_⟩
      rw [up2_at, upd_if]
      by_cases e : c = k
      · rw [if_pos e, e]; unfold tw; rw [hp, if_neg (by decide)]; rfl
      · rw [if_neg e]; exact h2 c (by omega)
    | true =>
      rw [if_neg (by decide)]
      refine hK _ _ ⟨by rw [rst_s, hp, if_pos rfl], fun q hq => by rw [up2_ne hq, h1 q hq], fun c hc => ?_⟩
      rw [up2_at, upd_if]
      by_cases e : c = k
      · rw [if_pos e, e]; unfold tw; rw [hp, if_pos rfl]
      · rw [if_neg e]; exact h2 c (by omega)
  · rintro K y0 Vk ⟨rfl, h1, h2⟩
    have rk : LR Vk 1 g := lr_frame (fun q _ _ => h1 q (by omega)) r
    unfold d_X0_spellOut_5b
    simp (disch := omega) only [nI_add, nI_leI, nI_ltI, nI_eq, nI_clamp, iM_le, iM_lt, iM_nle, iM_nlt, iM_ne, iM_ne', Nat.add_zero, pk_mul, lr_n rk w, Nat.le_refl, if_true]
    exact ⟨Vk, rfl, h1, h2⟩
theorem i_isWay (r : LR V 1 g) (w : WF g) {num : Nat} (hT : ∀ c, c < gN g → V 104 c = tw g u num c) : d_X0_isWay V = some (b2 (!ex (badI g u num) (gN g))) := by
  have n7 := wf_n7 w
  unfold d_X0_isWay d_X0_isWay_2
  refine lo1_inv (gN g) (fun k => ex (badI g u num) k = false) ?_ ?_ FU (show gN g < 1000 by omega) rfl
  · rintro K k hk hf hK
    unfold d_X0_isWay_2b d_X0_isWay_12
    simp (disch := omega) only [↓jM_def, j_0, j_1, j_2, j_3, j_4, j_5, j_6, j_7, j_8, j_9, j_10, j_11, j_12, j_13, j_14, j_15, j_16, j_17, j_18, j_19, j_20, j_21, j_22, j_23, j_24, j_25, j_26, j_27, j_28, j_29, j_30, j_31, j_32, j_33, j_34, j_35, j_36, j_37, j_38, j_39, j_40, j_41, j_42, j_43, j_44, j_45, j_46, j_47, j_48, j_49, j_50, j_51, j_52, j_53, j_54, j_55, j_56, j_57, j_58, j_59, j_60, j_61, j_62, j_63, j_97, j_98, j_99, j_100, j_101, j_102, j_103, j_104, j_105, j_106, j_107, j_108, j_109, j_110, j_111, j_112, j_113, j_114, j_115, j_116, j_117, j_118, j_119, j_120, j_121, j_122, j_128, j_392, j_448, nI_add, nI_leI, nI_ltI, nI_eq, nI_clamp, iM_le, iM_lt, iM_nle, iM_nlt, iM_ne, iM_ne', Nat.add_zero, pk_mul, asr_inb, bd_some, bw_some, bx_inl, bx_inr, bh_inl, bh_inr, b2_eq0, b2_eq1, asr_zok, nz_nI, lr_n r w]
    rw [if_neg (by omega)]
    refine lo2_inv k (fun j y0 => y0 = nI k ∧ ex (fun o => tt g k o && decide (tw g u num k = tw g u num o)) j = false) ?_ ?_ FU (show k < 1000 by omega) _ ⟨rfl, rfl⟩
    · rintro K2 j y0 hj ⟨rfl, hf2⟩ hK2
      unfold d_X0_isWay_12b
      simp (disch := omega) only [↓jM_def, j_0, j_1, j_2, j_3, j_4, j_5, j_6, j_7, j_8, j_9, j_10, j_11, j_12, j_13, j_14, j_15, j_16, j_17, j_18, j_19, j_20, j_21, j_22, j_23, j_24, j_25, j_26, j_27, j_28, j_29, j_30, j_31, j_32, j_33, j_34, j_35, j_36, j_37, j_38, j_39, j_40, j_41, j_42, j_43, j_44, j_45, j_46, j_47, j_48, j_49, j_50, j_51, j_52, j_53, j_54, j_55, j_56, j_57, j_58, j_59, j_60, j_61, j_62, j_63, j_97, j_98, j_99, j_100, j_101, j_102, j_103, j_104, j_105, j_106, j_107, j_108, j_109, j_110, j_111, j_112, j_113, j_114, j_115, j_116, j_117, j_118, j_119, j_120, j_121, j_122, j_128, j_392, j_448, nI_add, nI_leI, nI_ltI, nI_eq, nI_clamp, iM_le, iM_lt, iM_nle, iM_nlt, iM_ne, iM_ne', Nat.add_zero, pk_mul, asr_inb, bd_some, bw_some, bx_inl, bx_inr, bh_inl, bh_inr, b2_eq0, b2_eq1, asr_zok, nz_nI, i_areNb r w, hT]
      rw [if_neg (by omega)]
      cases ht : tt g k j with
      | false => rw [if_pos rfl]; exact hK2 _ ⟨rfl, by rw [ex_s, hf2, ht]; rfl⟩
      | true =>
        rw [if_neg (by decide)]
        by_cases e : tw g u num k = tw g u num j
        · rw [if_pos e]
          have hb : badI g u num k = true := ex_iff.mpr ⟨j, hj, by rw [ht, decide_eq_true e]; rfl⟩
          have : ex (badI g u num) (gN g) = true := ex_iff.mpr ⟨k, hk, hb⟩
          rw [this]; rfl
        · rw [if_neg e]; exact hK2 _ ⟨rfl, by rw [ex_s, hf2, ht, decide_eq_false e]; rfl⟩
    · rintro K2 y0 ⟨rfl, hf2⟩
      unfold d_X0_isWay_12b
      simp (disch := omega) only [↓jM_def, j_0, j_1, j_2, j_3, j_4, j_5, j_6, j_7, j_8, j_9, j_10, j_11, j_12, j_13, j_14, j_15, j_16, j_17, j_18, j_19, j_20, j_21, j_22, j_23, j_24, j_25, j_26, j_27, j_28, j_29, j_30, j_31, j_32, j_33, j_34, j_35, j_36, j_37, j_38, j_39, j_40, j_41, j_42, j_43, j_44, j_45, j_46, j_47, j_48, j_49, j_50, j_51, j_52, j_53, j_54, j_55, j_56, j_57, j_58, j_59, j_60, j_61, j_62, j_63, j_97, j_98, j_99, j_100, j_101, j_102, j_103, j_104, j_105, j_106, j_107, j_108, j_109, j_110, j_111, j_112, j_113, j_114, j_115, j_116, j_117, j_118, j_119, j_120, j_121, j_122, j_128, j_392, j_448, nI_add, nI_leI, nI_ltI, nI_eq, nI_clamp, iM_le, iM_lt, iM_nle, iM_nlt, iM_ne, iM_ne', Nat.add_zero, pk_mul, asr_inb, bd_some, bw_some, bx_inl, bx_inr, bh_inl, bh_inr, b2_eq0, b2_eq1, asr_zok, nz_nI, Nat.le_refl, if_true]
      refine hK ?_
      have hb : badI g u num k = false := hf2
      rw [ex_s, hf, hb]; rfl
  · rintro K hf
    unfold d_X0_isWay_2b
    simp (disch := omega) only [↓jM_def, j_0, j_1, j_2, j_3, j_4, j_5, j_6, j_7, j_8, j_9, j_10, j_11, j_12, j_13, j_14, j_15, j_16, j_17, j_18, j_19, j_20, j_21, j_22, j_23, j_24, j_25, j_26, j_27, j_28, j_29, j_30, j_31, j_32, j_33, j_34, j_35, j_36, j_37, j_38, j_39, j_40, j_41, j_42, j_43, j_44, j_45, j_46, j_47, j_48, j_49, j_50, j_51, j_52, j_53, j_54, j_55, j_56, j_57, j_58, j_59, j_60, j_61, j_62, j_63, j_97, j_98, j_99, j_100, j_101, j_102, j_103, j_104, j_105, j_106, j_107, j_108, j_109, j_110, j_111, j_112, j_113, j_114, j_115, j_116, j_117, j_118, j_119, j_120, j_121, j_122, j_128, j_392, j_448, nI_add, nI_leI, nI_ltI, nI_eq, nI_clamp, iM_le, iM_lt, iM_nle, iM_nlt, iM_ne, iM_ne', Nat.add_zero, pk_mul, asr_inb, bd_some, bw_some, bx_inl, bx_inr, bh_inl, bh_inr, b2_eq0, b2_eq1, asr_zok, nz_nI, lr_n r w, Nat.le_refl, if_true]
    rw [hf]; rfl
theorem pw_le {k : Nat} (hu5 : u ≤ 5) (h1 : 1 ≤ u) (hk : k ≤ 4) : u ^ k ≤ 625 := by
  have h2 : u ^ k ≤ 5 ^ k := Nat.pow_le_pow_left hu5 k
  have h3 : 5 ^ k ≤ 5 ^ 4 := Nat.pow_le_pow_right (by omega) hk
  have : 5 ^ 4 = 625 := by decide
  omega
theorem i_byNumbers (r : LR V 1 g) (w : WF g) (hl : lv g ≤ 4) : ∃ V', d_X0_countByNumbers V = some (nI (byn g (gU g)), V') ∧ ∀ q, q ≠ 104 → V' q = V q := by
  have n7 := wf_n7 w
  have u1 := wf_u1 w
  have u5 := wf_u5 w
  have pl := pw_le u5 u1 hl
  unfold d_X0_countByNumbers d_X0_countByNumbers_4
  refine lo2W_R (fun o : Option (Int32 × VT) => ∃ V' : VT, o = some (nI (byn g (gU g)), V') ∧ ∀ q, q ≠ 104 → V' q = V q) (gN g) (fun k y0 Vk => Vk = V ∧ y0 = nI (gU g ^ cnt (fun c => !ptd g c) k)) ?_ ?_ FU (show gN g < 1000 by omega) _ _ ⟨rfl, by show (1 : Int32) = nI (gU g ^ 0); rw [Nat.pow_zero]; rfl⟩
  · rintro K k y0 Vk hk ⟨rfl, rfl⟩ hK
    have hK := hK _ _ ⟨rfl, rfl⟩
    rw [cnt_s] at hK
    unfold d_X0_countByNumbers_4b
    simp (disch := omega) only [↓jM_def, j_0, j_1, j_2, j_3, j_4, j_5, j_6, j_7, j_8, j_9, j_10, j_11, j_12, j_13, j_14, j_15, j_16, j_17, j_18, j_19, j_20, j_21, j_22, j_23, j_24, j_25, j_26, j_27, j_28, j_29, j_30, j_31, j_32, j_33, j_34, j_35, j_36, j_37, j_38, j_39, j_40, j_41, j_42, j_43, j_44, j_45, j_46, j_47, j_48, j_49, j_50, j_51, j_52, j_53, j_54, j_55, j_56, j_57, j_58, j_59, j_60, j_61, j_62, j_63, j_97, j_98, j_99, j_100, j_101, j_102, j_103, j_104, j_105, j_106, j_107, j_108, j_109, j_110, j_111, j_112, j_113, j_114, j_115, j_116, j_117, j_118, j_119, j_120, j_121, j_122, j_128, j_392, j_448, nI_add, nI_leI, nI_ltI, nI_eq, nI_clamp, iM_le, iM_lt, iM_nle, iM_nlt, iM_ne, iM_ne', Nat.add_zero, pk_mul, asr_inb, bd_some, bw_some, bx_inl, bx_inr, bh_inl, bh_inr, b2_eq0, b2_eq1, asr_zok, nz_nI, lr_n r w, i_isP r, lr_u r w]
    rw [if_neg (by omega)]
    cases hp : ptd g k with
    | false =>
      rw [hp] at hK
      have hK : K (nI (gU g ^ (cnt (fun c => !ptd g c) k + 1))) (nI (k + 1)) Vk |> fun o => ∃ V' : VT, o = some (nI (byn g (gU g)), V') ∧ ∀ q, q ≠ 104 → V' q = Vk q := hK
      rw [if_pos rfl]
      rw [Nat.pow_succ] at hK
      exact hK
    | true =>
      rw [hp] at hK
      rw [if_neg (by decide), Nat.mul_one]
      exact hK
  · rintro K y0 Vk ⟨rfl, rfl⟩
    unfold d_X0_countByNumbers_4b d_X0_countByNumbers_42
    simp (disch := omega) only [↓jM_def, j_0, j_1, j_2, j_3, j_4, j_5, j_6, j_7, j_8, j_9, j_10, j_11, j_12, j_13, j_14, j_15, j_16, j_17, j_18, j_19, j_20, j_21, j_22, j_23, j_24, j_25, j_26, j_27, j_28, j_29, j_30, j_31, j_32, j_33, j_34, j_35, j_36, j_37, j_38, j_39, j_40, j_41, j_42, j_43, j_44, j_45, j_46, j_47, j_48, j_49, j_50, j_51, j_52, j_53, j_54, j_55, j_56, j_57, j_58, j_59, j_60, j_61, j_62, j_63, j_97, j_98, j_99, j_100, j_101, j_102, j_103, j_104, j_105, j_106, j_107, j_108, j_109, j_110, j_111, j_112, j_113, j_114, j_115, j_116, j_117, j_118, j_119, j_120, j_121, j_122, j_128, j_392, j_448, nI_add, nI_leI, nI_ltI, nI_eq, nI_clamp, iM_le, iM_lt, iM_nle, iM_nlt, iM_ne, iM_ne', Nat.add_zero, pk_mul, asr_inb, bd_some, bw_some, bx_inl, bx_inr, bh_inl, bh_inr, b2_eq0, b2_eq1, asr_zok, nz_nI, lr_n r w, Nat.le_refl, if_true]
    refine lo3W_R (fun o : Option (Int32 × VT) => ∃ V' : VT, o = some (nI (byn g (gU g)), V') ∧ ∀ q, q ≠ 104 → V' q = Vk q) (gU g ^ lv g) (fun k y0 y1 Vj => y0 = nI (gU g ^ lv g) ∧ y1 = nI (cnt (fun num => !ex (badI g (gU g) num) (gN g)) k) ∧ ∀ q, q ≠ 104 → Vj q = Vk q) ?_ ?_ FU (show gU g ^ lv g < 1000 by omega) _ _ _ ⟨rfl, rfl, fun _ _ => rfl⟩
    · rintro K2 k y0 y1 Vj hk ⟨rfl, rfl, hj⟩ hK
      have rj : LR Vj 1 g := lr_frame (fun q _ _ => hj q (by omega)) r
      obtain ⟨V3, a1, a2, a3⟩ := i_spell rj w (num := k) (by omega)
      have r3 : LR V3 1 g := lr_frame (fun q _ _ => a2 q (by omega)) rj
      have hK := hK (nI (gU g ^ lv g)) (nI (cnt (fun num => !ex (badI g (gU g) num) (gN g)) (k + 1))) V3 ⟨rfl, rfl, fun q hq => (a2 q hq).trans (hj q hq)⟩
      rw [cnt_s] at hK
      unfold d_X0_countByNumbers_42b
      simp (disch := omega) only [↓jM_def, j_0, j_1, j_2, j_3, j_4, j_5, j_6, j_7, j_8, j_9, j_10, j_11, j_12, j_13, j_14, j_15, j_16, j_17, j_18, j_19, j_20, j_21, j_22, j_23, j_24, j_25, j_26, j_27, j_28, j_29, j_30, j_31, j_32, j_33, j_34, j_35, j_36, j_37, j_38, j_39, j_40, j_41, j_42, j_43, j_44, j_45, j_46, j_47, j_48, j_49, j_50, j_51, j_52, j_53, j_54, j_55, j_56, j_57, j_58, j_59, j_60, j_61, j_62, j_63, j_97, j_98, j_99, j_100, j_101, j_102, j_103, j_104, j_105, j_106, j_107, j_108, j_109, j_110, j_111, j_112, j_113, j_114, j_115, j_116, j_117, j_118, j_119, j_120, j_121, j_122, j_128, j_392, j_448, nI_add, nI_leI, nI_ltI, nI_eq, nI_clamp, iM_le, iM_lt, iM_nle, iM_nlt, iM_ne, iM_ne', Nat.add_zero, pk_mul, asr_inb, bd_some, bw_some, bx_inl, bx_inr, bh_inl, bh_inr, b2_eq0, b2_eq1, asr_zok, nz_nI, a1, i_isWay r3 w a3]
      rw [if_neg (by omega)]
      cases hb : ex (badI g (gU g) k) (gN g) with
      | true => rw [hb] at hK; rw [if_pos (show (!true) = false from rfl)]; exact hK
      | false => rw [hb] at hK; rw [if_neg (show ¬ (!false) = false by decide)]; exact hK
    · rintro K2 y0 y1 Vj ⟨rfl, rfl, hj⟩
      unfold d_X0_countByNumbers_42b
      simp (disch := omega) only [↓jM_def, j_0, j_1, j_2, j_3, j_4, j_5, j_6, j_7, j_8, j_9, j_10, j_11, j_12, j_13, j_14, j_15, j_16, j_17, j_18, j_19, j_20, j_21, j_22, j_23, j_24, j_25, j_26, j_27, j_28, j_29, j_30, j_31, j_32, j_33, j_34, j_35, j_36, j_37, j_38, j_39, j_40, j_41, j_42, j_43, j_44, j_45, j_46, j_47, j_48, j_49, j_50, j_51, j_52, j_53, j_54, j_55, j_56, j_57, j_58, j_59, j_60, j_61, j_62, j_63, j_97, j_98, j_99, j_100, j_101, j_102, j_103, j_104, j_105, j_106, j_107, j_108, j_109, j_110, j_111, j_112, j_113, j_114, j_115, j_116, j_117, j_118, j_119, j_120, j_121, j_122, j_128, j_392, j_448, nI_add, nI_leI, nI_ltI, nI_eq, nI_clamp, iM_le, iM_lt, iM_nle, iM_nlt, iM_ne, iM_ne', Nat.add_zero, pk_mul, asr_inb, bd_some, bw_some, bx_inl, bx_inr, bh_inl, bh_inr, b2_eq0, b2_eq1, asr_zok, nz_nI, Nat.le_refl, if_true]
      exact ⟨Vj, rfl, hj⟩
def again (g : Row) : Nat := if lv g ≤ 4 then byn g (gU g) else wys g (gU g)
theorem I_waysAgain (h : AI V σ) (K : OKs σ) : DN (d_X4_waysAgain V) V (nI (again σ.1)) σ := by
  have n7 := wf_n7 K.w
  have hc := cnt_le (fun c => !ptd σ.1 c) (gN σ.1)
  unfold d_X4_waysAgain again
  rw [i_unpainted h.1 K.w, bd_some]
  have eb : d_J6_bitCount_0f7a4 (nI (opn σ.1)) V = some (nI (lv σ.1)) := bc_mk _ V n7
  rw [eb, bd_some]
  have hl7 : lv σ.1 ≤ 7 := Nat.le_trans hc n7
  simp (disch := omega) only [↓jM_def, j_0, j_1, j_2, j_3, j_4, j_5, j_6, j_7, j_8, j_9, j_10, j_11, j_12, j_13, j_14, j_15, j_16, j_17, j_18, j_19, j_20, j_21, j_22, j_23, j_24, j_25, j_26, j_27, j_28, j_29, j_30, j_31, j_32, j_33, j_34, j_35, j_36, j_37, j_38, j_39, j_40, j_41, j_42, j_43, j_44, j_45, j_46, j_47, j_48, j_49, j_50, j_51, j_52, j_53, j_54, j_55, j_56, j_57, j_58, j_59, j_60, j_61, j_62, j_63, j_97, j_98, j_99, j_100, j_101, j_102, j_103, j_104, j_105, j_106, j_107, j_108, j_109, j_110, j_111, j_112, j_113, j_114, j_115, j_116, j_117, j_118, j_119, j_120, j_121, j_122, j_128, j_392, j_448, nI_add, nI_leI, nI_ltI, nI_eq, nI_clamp, iM_le, iM_lt, iM_nle, iM_nlt, iM_ne, iM_ne', Nat.add_zero, pk_mul]
  by_cases hl : lv σ.1 ≤ 4
  · rw [if_pos hl, if_pos hl]
    obtain ⟨V', a1, a2⟩ := i_byNumbers h.1 K.w hl
    rw [a1, bw_some]
    exact ⟨V', rfl, h.frG (fun q hq => a2 q (by omega)) (by rw [a2 105 (by omega)]), fun q hq => a2 q (by omega)⟩
  · rw [if_neg hl, if_neg hl]
    obtain ⟨V', a1, a2⟩ := i_count h.1 K.w (wf_u5 K.w)
    rw [lr_u h.1 K.w, a1, bw_some]
    exact ⟨V', rfl, h.frG (fun q hq => a2 q (by omega)) (by rw [a2 105 (by omega)]), fun q hq => a2 q (by omega)⟩
/-! the reference's numbers -/
theorem m_byNumbers (w : WF (V 110)) (hl : lv (V 110) ≤ 4) : ∃ V', d_X5_waysAgain_22 (nI 1) (nI 0) V = some (nI (byn (V 110) (gU (V 110))), V') ∧ ∀ q, q ≠ 116 → V' q = V q := by
  have n7 := wf_n7 w
  have u1 := wf_u1 w
  have u5 := wf_u5 w
  have pl := pw_le u5 u1 hl
  have pk : ∀ k, k ≤ lv (V 110) → gU (V 110) ^ k ≤ 625 := fun k hk => pw_le u5 u1 (by omega)
  unfold d_X5_waysAgain_22
  refine lo2W_R (fun o : Option (Int32 × VT) => ∃ V' : VT, o = some (nI (byn (V 110) (gU (V 110))), V') ∧ ∀ q, q ≠ 116 → V' q = V q) (lv (V 110)) (fun k y0 Vk => Vk = V ∧ y0 = nI (gU (V 110) ^ k)) ?_ ?_ FU (show lv (V 110) < 1000 by omega) _ _ ⟨rfl, by rw [Nat.pow_zero]⟩
  · rintro K k y0 Vk hk ⟨rfl, rfl⟩ hK
    have hK := hK _ _ ⟨rfl, rfl⟩
    have el : d_X5_left Vk = some (nI (lv (Vk 110))) := m_left w
    unfold d_X5_waysAgain_22b
    simp (disch := omega) only [↓jM_def, j_0, j_1, j_2, j_3, j_4, j_5, j_6, j_7, j_8, j_9, j_10, j_11, j_12, j_13, j_14, j_15, j_16, j_17, j_18, j_19, j_20, j_21, j_22, j_23, j_24, j_25, j_26, j_27, j_28, j_29, j_30, j_31, j_32, j_33, j_34, j_35, j_36, j_37, j_38, j_39, j_40, j_41, j_42, j_43, j_44, j_45, j_46, j_47, j_48, j_49, j_50, j_51, j_52, j_53, j_54, j_55, j_56, j_57, j_58, j_59, j_60, j_61, j_62, j_63, j_97, j_98, j_99, j_100, j_101, j_102, j_103, j_104, j_105, j_106, j_107, j_108, j_109, j_110, j_111, j_112, j_113, j_114, j_115, j_116, j_117, j_118, j_119, j_120, j_121, j_122, j_128, j_392, j_448, nI_add, nI_leI, nI_ltI, nI_eq, nI_clamp, iM_le, iM_lt, iM_nle, iM_nlt, iM_ne, iM_ne', Nat.add_zero, pk_mul, asr_inb, bd_some, bw_some, bx_inl, bx_inr, bh_inl, bh_inr, b2_eq0, b2_eq1, asr_zok, nz_nI, el, wf_u w]
    rw [if_neg (by omega)]
    rw [Nat.pow_succ] at hK
    exact hK
  · rintro K y0 Vk ⟨rfl, rfl⟩
    have el : d_X5_left Vk = some (nI (lv (Vk 110))) := m_left w
    unfold d_X5_waysAgain_22b d_X5_waysAgain_50
    simp (disch := omega) only [↓jM_def, j_0, j_1, j_2, j_3, j_4, j_5, j_6, j_7, j_8, j_9, j_10, j_11, j_12, j_13, j_14, j_15, j_16, j_17, j_18, j_19, j_20, j_21, j_22, j_23, j_24, j_25, j_26, j_27, j_28, j_29, j_30, j_31, j_32, j_33, j_34, j_35, j_36, j_37, j_38, j_39, j_40, j_41, j_42, j_43, j_44, j_45, j_46, j_47, j_48, j_49, j_50, j_51, j_52, j_53, j_54, j_55, j_56, j_57, j_58, j_59, j_60, j_61, j_62, j_63, j_97, j_98, j_99, j_100, j_101, j_102, j_103, j_104, j_105, j_106, j_107, j_108, j_109, j_110, j_111, j_112, j_113, j_114, j_115, j_116, j_117, j_118, j_119, j_120, j_121, j_122, j_128, j_392, j_448, nI_add, nI_leI, nI_ltI, nI_eq, nI_clamp, iM_le, iM_lt, iM_nle, iM_nlt, iM_ne, iM_ne', Nat.add_zero, pk_mul, asr_inb, bd_some, bw_some, bx_inl, bx_inr, bh_inl, bh_inr, b2_eq0, b2_eq1, asr_zok, nz_nI, el, Nat.le_refl, if_true]
    generalize hg : Vk 110 = g at *
    refine lo3W_R (fun o : Option (Int32 × VT) => ∃ V' : VT, o = some (nI (byn g (gU g)), V') ∧ ∀ q, q ≠ 116 → V' q = Vk q) (gU g ^ lv g) (fun k y0 y1 Vj => y0 = nI (gU g ^ lv g) ∧ y1 = nI (cnt (fun num => !ex (badI g (gU g) num) (gN g)) k) ∧ ∀ q, q ≠ 116 → Vj q = Vk q) ?_ ?_ FU (show gU g ^ lv g < 1000 by omega) _ _ _ ⟨rfl, rfl, fun _ _ => rfl⟩
    · rintro K2 k y0 y1 Vj hk ⟨rfl, rfl, hj⟩ hK
      have hK : ∀ V9 : VT, (∀ q, q ≠ 116 → V9 q = Vk q) → ∃ V' : VT, K2 (nI (gU g ^ lv g)) (nI (cnt (fun num => !ex (badI g (gU g) num) (gN g)) k + (!ex (badM g (gU g) k) (gN g)).toNat)) (nI (k + 1)) V9 = some (nI (byn g (gU g)), V') ∧ ∀ q, q ≠ 116 → V' q = Vk q := fun V9 h9 => by
        rw [← good_eq w (by omega) u5 k]
        exact hK _ _ V9 ⟨rfl, rfl, h9⟩
      unfold d_X5_waysAgain_50b d_X5_waysAgain_64
      simp (disch := omega) only [↓jM_def, j_0, j_1, j_2, j_3, j_4, j_5, j_6, j_7, j_8, j_9, j_10, j_11, j_12, j_13, j_14, j_15, j_16, j_17, j_18, j_19, j_20, j_21, j_22, j_23, j_24, j_25, j_26, j_27, j_28, j_29, j_30, j_31, j_32, j_33, j_34, j_35, j_36, j_37, j_38, j_39, j_40, j_41, j_42, j_43, j_44, j_45, j_46, j_47, j_48, j_49, j_50, j_51, j_52, j_53, j_54, j_55, j_56, j_57, j_58, j_59, j_60, j_61, j_62, j_63, j_97, j_98, j_99, j_100, j_101, j_102, j_103, j_104, j_105, j_106, j_107, j_108, j_109, j_110, j_111, j_112, j_113, j_114, j_115, j_116, j_117, j_118, j_119, j_120, j_121, j_122, j_128, j_392, j_448, nI_add, nI_leI, nI_ltI, nI_eq, nI_clamp, iM_le, iM_lt, iM_nle, iM_nlt, iM_ne, iM_ne', Nat.add_zero, pk_mul, asr_inb, bd_some, bw_some, bx_inl, bx_inr, bh_inl, bh_inr, b2_eq0, b2_eq1, asr_zok, nz_nI]
      rw [if_neg (by omega)]
      refine lo6W_R (fun o : Option (Int32 × VT) => ∃ V' : VT, o = some (nI (byn g (gU g)), V') ∧ ∀ q, q ≠ 116 → V' q = Vk q) (gN g) (fun c z0 z1 z2 z3 z4 Vc => z0 = nI (gU g ^ lv g) ∧ z1 = nI (cnt (fun num => !ex (badI g (gU g) num) (gN g)) k) ∧ z2 = nI k ∧ (∀ q, q ≠ 116 → Vc q = Vk q) ∧ ((z4 = nI 0 ∧ ex (badM g (gU g) k) c = true) ∨ (z4 = nI 1 ∧ z3 = nI (rst g (gU g) k c) ∧ ex (badM g (gU g) k) c = false ∧ ∀ o, o < c → ptd g o = false → Vc 116 o = nI (dgt g (gU g) k o)))) ?_ ?_ FU (show gN g < 1000 by omega) _ _ _ _ _ _ ⟨rfl, rfl, rfl, hj, Or.inr ⟨rfl, rfl, rfl, fun o ho => by omega⟩⟩
      · rintro K3 c z0 z1 z2 z3 z4 Vc hc ⟨rfl, rfl, rfl, hv, hz⟩ hK3
        have e110 : Vc 110 = g := by rw [hv 110 (by omega)]; exact hg
        have wc' : WF (Vc 110) := by rw [e110]; exact w
        unfold d_X5_waysAgain_64b d_X5_waysAgain_152
        rcases hz with ⟨rfl, hb⟩ | ⟨rfl, rfl, hb, ht⟩
        · simp (disch := omega) only [↓jM_def, j_0, j_1, j_2, j_3, j_4, j_5, j_6, j_7, j_8, j_9, j_10, j_11, j_12, j_13, j_14, j_15, j_16, j_17, j_18, j_19, j_20, j_21, j_22, j_23, j_24, j_25, j_26, j_27, j_28, j_29, j_30, j_31, j_32, j_33, j_34, j_35, j_36, j_37, j_38, j_39, j_40, j_41, j_42, j_43, j_44, j_45, j_46, j_47, j_48, j_49, j_50, j_51, j_52, j_53, j_54, j_55, j_56, j_57, j_58, j_59, j_60, j_61, j_62, j_63, j_97, j_98, j_99, j_100, j_101, j_102, j_103, j_104, j_105, j_106, j_107, j_108, j_109, j_110, j_111, j_112, j_113, j_114, j_115, j_116, j_117, j_118, j_119, j_120, j_121, j_122, j_128, j_392, j_448, nI_add, nI_leI, nI_ltI, nI_eq, nI_clamp, iM_le, iM_lt, iM_nle, iM_nlt, iM_ne, iM_ne', Nat.add_zero, pk_mul, asr_inb, bd_some, bw_some, bx_inl, bx_inr, bh_inl, bh_inr, b2_eq0, b2_eq1, asr_zok, nz_nI, e110, wf_n w, if_true]
          rw [if_neg (by omega)]
          have hb2 : ex (badM g (gU g) k) (gN g) = true := by
            obtain ⟨i, h1, h2⟩ := ex_iff.mp hb
            exact ex_iff.mpr ⟨i, by omega, h2⟩
          have q := hK Vc hv
          rw [hb2] at q
          exact q
        · have hr := rst_le (g := g) (u := gU g) k c
          have e2 : nI (rst g (gU g) k c) / nI (gU g) = nI (rst g (gU g) k c / gU g) := pk_div (by omega) (by omega) (by omega)
          have e1 : nI (rst g (gU g) k c) - nI (rst g (gU g) k c / gU g * gU g) = nI (dgt g (gU g) k c) := by
            rw [← pk_mul, ← e2]
            exact pk_rem (by omega) (by omega) (by omega)
          have hd := dgt_lt (g := g) (u := gU g) (by omega) k c
          have w2 : WF (up2 Vc 116 c (nI (dgt g (gU g) k c)) 110) := by rw [up2_ne (by omega)]; exact wc'
          have ecl : d_X5_clashes (nI c) (nI (dgt g (gU g) k c)) (nI c) (up2 Vc 116 c (nI (dgt g (gU g) k c))) = some (b2 (bl g c (dgt g (gU g) k c) (HD g (gU g) k c))) := by
            rw [m_clashes w2 (by omega) (by omega), up2_ne (by omega), e110]
            refine congrArg (fun z => some (b2 z)) (bl_congr (fun o ho => ?_))
            unfold HV HD
            cases hpo : ptd g o with
            | true => rfl
            | false =>
              rw [if_neg (by decide), if_neg (by decide)]
              by_cases q : o < c
              · have hdo := dgt_lt (g := g) (u := gU g) (by omega) k o
                rw [up2_at, upd_ne (by omega), ht o q hpo]
                have : decide (nI (dgt g (gU g) k o) = nI (dgt g (gU g) k c)) = decide (dgt g (gU g) k o = dgt g (gU g) k c) := by
                  apply decide_eq_decide.mpr
                  exact nI_eq (by omega) (by omega)
                rw [this]
              · rw [decide_eq_false q]; rfl
          simp (disch := omega) only [↓jM_def, j_0, j_1, j_2, j_3, j_4, j_5, j_6, j_7, j_8, j_9, j_10, j_11, j_12, j_13, j_14, j_15, j_16, j_17, j_18, j_19, j_20, j_21, j_22, j_23, j_24, j_25, j_26, j_27, j_28, j_29, j_30, j_31, j_32, j_33, j_34, j_35, j_36, j_37, j_38, j_39, j_40, j_41, j_42, j_43, j_44, j_45, j_46, j_47, j_48, j_49, j_50, j_51, j_52, j_53, j_54, j_55, j_56, j_57, j_58, j_59, j_60, j_61, j_62, j_63, j_97, j_98, j_99, j_100, j_101, j_102, j_103, j_104, j_105, j_106, j_107, j_108, j_109, j_110, j_111, j_112, j_113, j_114, j_115, j_116, j_117, j_118, j_119, j_120, j_121, j_122, j_128, j_392, j_448, nI_add, nI_leI, nI_ltI, nI_eq, nI_clamp, iM_le, iM_lt, iM_nle, iM_nlt, iM_ne, iM_ne', Nat.add_zero, pk_mul, asr_inb, bd_some, bw_some, bx_inl, bx_inr, bh_inl, bh_inr, b2_eq0, b2_eq1, asr_zok, nz_nI, e110, wf_n w, m_isP wc', wf_u w, e1, e2, up2_at, upd_eq, ecl]
          rw [if_neg (by omega)]
          simp only [Nat.reduceEqDiff, if_false]
          cases hp : ptd g c with
          | true =>
            rw [if_neg (by decide)]
            have hbm : badM g (gU g) k c = false := by unfold badM; rw [hp]; rfl
            refine hK3 _ _ _ _ _ _ ⟨rfl, rfl, rfl, hv, Or.inr ⟨rfl, by rw [rst_s, hp, if_pos rfl], by rw [ex_s, hb, hbm]; rfl, fun o ho hpo => ?_⟩⟩
            have : o ≠ c := fun e => by rw [e, hp] at hpo; cases hpo
            exact ht o (by omega) hpo
          | false =>
            rw [if_pos rfl]
            have hv2 : ∀ q, q ≠ 116 → up2 Vc 116 c (nI (dgt g (gU g) k c)) q = Vk q := fun q hq => by rw [up2_ne hq]; exact hv q hq
            have hbm : badM g (gU g) k c = bl g c (dgt g (gU g) k c) (HD g (gU g) k c) := by unfold badM; rw [hp]; rfl
            cases hcl : bl g c (dgt g (gU g) k c) (HD g (gU g) k c) with
            | true =>
              rw [if_neg (by decide)]
              exact hK3 _ _ _ _ _ _ ⟨rfl, rfl, rfl, hv2, Or.inl ⟨rfl, by rw [ex_s, hbm, hcl]; simp⟩⟩
            | false =>
              rw [if_pos rfl]
              refine hK3 _ _ _ _ _ _ ⟨rfl, rfl, rfl, hv2, Or.inr ⟨rfl, by rw [rst_s, hp, if_neg (by decide)], by rw [ex_s, hb, hbm, hcl]; rfl, fun o ho hpo => ?_⟩⟩
              rw [up2_at, upd_if]
              by_cases e : o = c
              · rw [if_pos e, e]
              · rw [if_neg e]; exact ht o (by omega) hpo
      · rintro K3 z0 z1 z2 z3 z4 Vc ⟨rfl, rfl, rfl, hv, hz⟩
        have e110 : Vc 110 = g := by rw [hv 110 (by omega)]; exact hg
        unfold d_X5_waysAgain_64b d_X5_waysAgain_152
        have q := hK Vc hv
        rcases hz with ⟨rfl, hb⟩ | ⟨rfl, rfl, hb, ht⟩
        · simp (disch := omega) only [↓jM_def, j_0, j_1, j_2, j_3, j_4, j_5, j_6, j_7, j_8, j_9, j_10, j_11, j_12, j_13, j_14, j_15, j_16, j_17, j_18, j_19, j_20, j_21, j_22, j_23, j_24, j_25, j_26, j_27, j_28, j_29, j_30, j_31, j_32, j_33, j_34, j_35, j_36, j_37, j_38, j_39, j_40, j_41, j_42, j_43, j_44, j_45, j_46, j_47, j_48, j_49, j_50, j_51, j_52, j_53, j_54, j_55, j_56, j_57, j_58, j_59, j_60, j_61, j_62, j_63, j_97, j_98, j_99, j_100, j_101, j_102, j_103, j_104, j_105, j_106, j_107, j_108, j_109, j_110, j_111, j_112, j_113, j_114, j_115, j_116, j_117, j_118, j_119, j_120, j_121, j_122, j_128, j_392, j_448, nI_add, nI_leI, nI_ltI, nI_eq, nI_clamp, iM_le, iM_lt, iM_nle, iM_nlt, iM_ne, iM_ne', Nat.add_zero, pk_mul, asr_inb, bd_some, bw_some, bx_inl, bx_inr, bh_inl, bh_inr, b2_eq0, b2_eq1, asr_zok, nz_nI, e110, wf_n w, Nat.le_refl, if_true]
          rw [hb] at q
          exact q
        · simp (disch := omega) only [↓jM_def, j_0, j_1, j_2, j_3, j_4, j_5, j_6, j_7, j_8, j_9, j_10, j_11, j_12, j_13, j_14, j_15, j_16, j_17, j_18, j_19, j_20, j_21, j_22, j_23, j_24, j_25, j_26, j_27, j_28, j_29, j_30, j_31, j_32, j_33, j_34, j_35, j_36, j_37, j_38, j_39, j_40, j_41, j_42, j_43, j_44, j_45, j_46, j_47, j_48, j_49, j_50, j_51, j_52, j_53, j_54, j_55, j_56, j_57, j_58, j_59, j_60, j_61, j_62, j_63, j_97, j_98, j_99, j_100, j_101, j_102, j_103, j_104, j_105, j_106, j_107, j_108, j_109, j_110, j_111, j_112, j_113, j_114, j_115, j_116, j_117, j_118, j_119, j_120, j_121, j_122, j_128, j_392, j_448, nI_add, nI_leI, nI_ltI, nI_eq, nI_clamp, iM_le, iM_lt, iM_nle, iM_nlt, iM_ne, iM_ne', Nat.add_zero, pk_mul, asr_inb, bd_some, bw_some, bx_inl, bx_inr, bh_inl, bh_inr, b2_eq0, b2_eq1, asr_zok, nz_nI, e110, wf_n w, Nat.le_refl, if_true]
          simp only [Nat.reduceEqDiff, if_false]
          rw [hb] at q
          exact q
    · rintro K2 y0 y1 Vj ⟨rfl, rfl, hj⟩
      unfold d_X5_waysAgain_50b
      simp (disch := omega) only [↓jM_def, j_0, j_1, j_2, j_3, j_4, j_5, j_6, j_7, j_8, j_9, j_10, j_11, j_12, j_13, j_14, j_15, j_16, j_17, j_18, j_19, j_20, j_21, j_22, j_23, j_24, j_25, j_26, j_27, j_28, j_29, j_30, j_31, j_32, j_33, j_34, j_35, j_36, j_37, j_38, j_39, j_40, j_41, j_42, j_43, j_44, j_45, j_46, j_47, j_48, j_49, j_50, j_51, j_52, j_53, j_54, j_55, j_56, j_57, j_58, j_59, j_60, j_61, j_62, j_63, j_97, j_98, j_99, j_100, j_101, j_102, j_103, j_104, j_105, j_106, j_107, j_108, j_109, j_110, j_111, j_112, j_113, j_114, j_115, j_116, j_117, j_118, j_119, j_120, j_121, j_122, j_128, j_392, j_448, nI_add, nI_leI, nI_ltI, nI_eq, nI_clamp, iM_le, iM_lt, iM_nle, iM_nlt, iM_ne, iM_ne', Nat.add_zero, pk_mul, asr_inb, bd_some, bw_some, bx_inl, bx_inr, bh_inl, bh_inr, b2_eq0, b2_eq1, asr_zok, nz_nI, Nat.le_refl, if_true]
      exact ⟨Vj, rfl, hj⟩
theorem M_waysAgain (h : AJ V σ) (K : OKs σ) : DM (d_X5_waysAgain V) V (.inl (nI (again σ.1)), σ) := by
  have n7 := wf_n7 K.w
  have wV : WF (V 110) := by rw [h.1]; exact K.w
  have el : d_X5_left V = some (nI (lv σ.1)) := by rw [m_left wV, h.1]; rfl
  have hc := cnt_le (fun c => !ptd σ.1 c) (gN σ.1)
  have hl7 : lv σ.1 ≤ 7 := Nat.le_trans hc n7
  unfold d_X5_waysAgain again
  rw [el, bd_some]
  simp (disch := omega) only [↓jM_def, j_0, j_1, j_2, j_3, j_4, j_5, j_6, j_7, j_8, j_9, j_10, j_11, j_12, j_13, j_14, j_15, j_16, j_17, j_18, j_19, j_20, j_21, j_22, j_23, j_24, j_25, j_26, j_27, j_28, j_29, j_30, j_31, j_32, j_33, j_34, j_35, j_36, j_37, j_38, j_39, j_40, j_41, j_42, j_43, j_44, j_45, j_46, j_47, j_48, j_49, j_50, j_51, j_52, j_53, j_54, j_55, j_56, j_57, j_58, j_59, j_60, j_61, j_62, j_63, j_97, j_98, j_99, j_100, j_101, j_102, j_103, j_104, j_105, j_106, j_107, j_108, j_109, j_110, j_111, j_112, j_113, j_114, j_115, j_116, j_117, j_118, j_119, j_120, j_121, j_122, j_128, j_392, j_448, nI_add, nI_leI, nI_ltI, nI_eq, nI_clamp, iM_le, iM_lt, iM_nle, iM_nlt, iM_ne, iM_ne', Nat.add_zero, pk_mul]
  by_cases hl : lv σ.1 ≤ 4
  · rw [if_pos hl, if_pos hl]
    refine DM.pre h (nI 0) (fun V2 h2 hc e => ?_)
    rw [e]
    have w2 : WF (V2 110) := by rw [h2.1]; exact K.w
    obtain ⟨V', a1, a2⟩ := m_byNumbers (V := V2) w2 (by rw [h2.1]; exact hl)
    rw [h2.1] at a1
    rw [a1]
    exact DM.of rfl (h2.fr116 a2) (fr116 a2) (by rw [a2 109 (by omega)]; exact hc) (fun v' hv => by cases hv; rfl)
  · rw [if_neg hl, if_neg hl]
    obtain ⟨b, V', h1, h2, h3, h4, h5⟩ := M_ways h K
    rw [h1, bw_some]
    exact DM.of rfl h2 h3 h4 h5
end
