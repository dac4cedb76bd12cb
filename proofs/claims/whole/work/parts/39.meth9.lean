/-! PURE ROWS: isWell, clique -/
def sM (g : Row) : Nat → Nat
  | 0 => 0
  | k + 1 => sM g k ||| 2 ^ st g k
def cqm (g : Row) (S : Nat) : Option Nat := fnd (fun a => S.testBit a && !decide (S &&& bnot (nb g a ||| 2 ^ a) = 0)) (gN g)
def mxc (g : Row) : Nat → Nat
  | 0 => 0
  | k + 1 => if cqm g k = none ∧ mxc g k < pc k then pc k else mxc g k
section
variable {V V' : VT} {σ : Sg} {g r : Row} {E1 E2 : String}
theorem nI_andb (a b : Nat) : nI a &&& nI (bnot b) = nI (a &&& bnot b) := nI_and a (bnot b)
theorem i_noBorder (r : LR V 1 g) (w : WF g) : d_X1_noBorderInOneHue V = some (nI 1) := by
  have n7 := wf_n7 w
  unfold d_X1_noBorderInOneHue d_X1_noBorderInOneHue_2
  refine lo1_inv (gN g) (fun k => True) ?_ ?_ FU (show gN g < 1000 by omega) trivial
  · rintro K k hk - hK
    have hK := hK trivial
    unfold d_X1_noBorderInOneHue_2b d_X1_noBorderInOneHue_12
    simp (disch := omega) only [↓iM_def, i_0, i_1, i_2, i_3, i_4, i_5, i_6, i_7, i_8, i_9, i_10, i_12, i_17, i_29, i_31, i_33, i_36, i_37, i_40, i_41, i_42, i_43, i_44, i_45, i_47, i_48, i_50, i_53, i_55, i_56, i_57, i_58, i_59, i_60, i_61, i_98, i_99, i_100, i_102, i_104, i_106, i_110, i_112, i_119, i_120, i_128, i_392, i_448, nI_add, nI_leI, nI_ltI, nI_eq, nI_clamp, iM_le, iM_lt, iM_nle, iM_nlt, iM_ne, iM_ne', Nat.add_zero, pk_mul, asr_inb, bd_some, bw_some, bx_inl, bx_inr, bh_inl, bh_inr, b2_eq0, b2_eq1, asr_zok, nz_nI, lr_n r w]
    rw [if_neg (by omega)]
    refine lo2_inv k (fun j y0 => y0 = nI k) ?_ ?_ FU (show k < 1000 by omega) _ rfl
    · rintro K2 j y0 hj rfl hK2
      have hK2 := hK2 _ rfl
      unfold d_X1_noBorderInOneHue_12b
      simp (disch := omega) only [↓iM_def, i_0, i_1, i_2, i_3, i_4, i_5, i_6, i_7, i_8, i_9, i_10, i_12, i_17, i_29, i_31, i_33, i_36, i_37, i_40, i_41, i_42, i_43, i_44, i_45, i_47, i_48, i_50, i_53, i_55, i_56, i_57, i_58, i_59, i_60, i_61, i_98, i_99, i_100, i_102, i_104, i_106, i_110, i_112, i_119, i_120, i_128, i_392, i_448, nI_add, nI_leI, nI_ltI, nI_eq, nI_clamp, iM_le, iM_lt, iM_nle, iM_nlt, iM_ne, iM_ne', Nat.add_zero, pk_mul, asr_inb, bd_some, bw_some, bx_inl, bx_inr, bh_inl, bh_inr, b2_eq0, b2_eq1, asr_zok, nz_nI, i_areNb r w, i_isP r, lr_hu r]
      rw [if_neg (by omega)]
      cases ht : tt g k j with
      | false => rw [if_pos rfl]; exact hK2
      | true =>
        rw [if_neg (by decide)]
        cases hp : ptd g k with
        | false => rw [if_pos rfl]; exact hK2
        | true =>
          rw [if_neg (by decide), if_neg (wf_nh w (by omega) (by omega) ht hp)]
          exact hK2
    · rintro K2 y0 rfl
      unfold d_X1_noBorderInOneHue_12b
      simp (disch := omega) only [↓iM_def, i_0, i_1, i_2, i_3, i_4, i_5, i_6, i_7, i_8, i_9, i_10, i_12, i_17, i_29, i_31, i_33, i_36, i_37, i_40, i_41, i_42, i_43, i_44, i_45, i_47, i_48, i_50, i_53, i_55, i_56, i_57, i_58, i_59, i_60, i_61, i_98, i_99, i_100, i_102, i_104, i_106, i_110, i_112, i_119, i_120, i_128, i_392, i_448, nI_add, nI_leI, nI_ltI, nI_eq, nI_clamp, iM_le, iM_lt, iM_nle, iM_nlt, iM_ne, iM_ne', Nat.add_zero, pk_mul, asr_inb, bd_some, bw_some, bx_inl, bx_inr, bh_inl, bh_inr, b2_eq0, b2_eq1, asr_zok, nz_nI, Nat.le_refl, if_true]
      exact hK
  · rintro K -
    unfold d_X1_noBorderInOneHue_2b
    simp (disch := omega) only [↓iM_def, i_0, i_1, i_2, i_3, i_4, i_5, i_6, i_7, i_8, i_9, i_10, i_12, i_17, i_29, i_31, i_33, i_36, i_37, i_40, i_41, i_42, i_43, i_44, i_45, i_47, i_48, i_50, i_53, i_55, i_56, i_57, i_58, i_59, i_60, i_61, i_98, i_99, i_100, i_102, i_104, i_106, i_110, i_112, i_119, i_120, i_128, i_392, i_448, nI_add, nI_leI, nI_ltI, nI_eq, nI_clamp, iM_le, iM_lt, iM_nle, iM_nlt, iM_ne, iM_ne', Nat.add_zero, pk_mul, asr_inb, bd_some, bw_some, bx_inl, bx_inr, bh_inl, bh_inr, b2_eq0, b2_eq1, asr_zok, nz_nI, lr_n r w, Nat.le_refl, if_true]
theorem sM_bit (g : Row) (i : Nat) : ∀ k, (sM g k).testBit i = (fnd (fun j => decide (st g j = i)) k).isSome
  | 0 => by simp [sM, fnd]
  | k + 1 => by
    show (sM g k ||| 2 ^ st g k).testBit i = _
    rw [Nat.testBit_or, sM_bit g i k, p2_bit, fnd_s]
    by_cases e : st g k = i
    · rw [decide_eq_true e]
      cases fnd (fun j => decide (st g j = i)) k <;> simp
    · rw [decide_eq_false e]
      cases fnd (fun j => decide (st g j = i)) k <;> simp
theorem plc_ptd (w : WF g) {c : Nat} (hc : c < gN g) : (plc g c).isSome = ptd g c := by
  unfold plc
  cases hp : ptd g c with
  | true =>
    obtain ⟨k, hk, e⟩ := wf_all w hc hp
    cases hf : fnd (fun k => decide (st g k = c)) (gS g) with
    | some j => rfl
    | none =>
      have := fnd_none.mp hf k hk
      simp [e] at this
  | false =>
    cases hf : fnd (fun k => decide (st g k = c)) (gS g) with
    | none => rfl
    | some j =>
      obtain ⟨h1, h2, -⟩ := fnd_some.mp hf
      have h3 := wf_stp w h1
      have h4 : st g j = c := by simpa using h2
      rw [h4, hp] at h3
      cases h3
theorem plc_out (w : WF g) {c : Nat} (hc : gN g ≤ c) : (plc g c).isSome = false := by
  unfold plc
  cases hf : fnd (fun k => decide (st g k = c)) (gS g) with
  | none => rfl
  | some j =>
    obtain ⟨h1, h2, -⟩ := fnd_some.mp hf
    have h3 := wf_stn w h1
    have h4 : st g j = c := by simpa using h2
    omega
theorem sM_all (w : WF g) : sM g (gS g) ^^^ opn g = 2 ^ gN g - 1 := bit_ext (fun i => by
  rw [Nat.testBit_xor, sM_bit, Nat.testBit_two_pow_sub_one]
  unfold opn
  rw [mk_bit]
  show ((plc g i).isSome ^^ _) = _
  rcases Nat.lt_or_ge i (gN g) with h | h
  · rw [plc_ptd w h, decide_eq_true h]
    cases ptd g i <;> rfl
  · rw [plc_out w h, decide_eq_false (show ¬ i < gN g by omega)]
    rfl)
theorem i_stepsPainted (r : LR V 1 g) (w : WF g) : d_X1_stepsAreThePainted V = some (nI 1) := by
  have n7 := wf_n7 w
  have s7 := wf_s7 w
  unfold d_X1_stepsAreThePainted d_X1_stepsAreThePainted_4
  refine lo2_inv (gS g) (fun k y0 => y0 = nI (sM g k)) ?_ ?_ FU (show gS g < 1000 by omega) _ rfl
  · rintro K k y0 hk rfl hK
    have hn := wf_stn w hk
    have hK := hK _ rfl
    have e : sM g (k + 1) = sM g k ||| 2 ^ st g k := rfl
    rw [e] at hK
    unfold d_X1_stepsAreThePainted_4b
    simp (disch := omega) only [↓iM_def, i_0, i_1, i_2, i_3, i_4, i_5, i_6, i_7, i_8, i_9, i_10, i_12, i_17, i_29, i_31, i_33, i_36, i_37, i_40, i_41, i_42, i_43, i_44, i_45, i_47, i_48, i_50, i_53, i_55, i_56, i_57, i_58, i_59, i_60, i_61, i_98, i_99, i_100, i_102, i_104, i_106, i_110, i_112, i_119, i_120, i_128, i_392, i_448, nI_add, nI_leI, nI_ltI, nI_eq, nI_clamp, iM_le, iM_lt, iM_nle, iM_nlt, iM_ne, iM_ne', Nat.add_zero, pk_mul, asr_inb, bd_some, bw_some, bx_inl, bx_inr, bh_inl, bh_inr, b2_eq0, b2_eq1, asr_zok, nz_nI, lr_s r w, lr_st r w, set_nI]
    rw [if_neg (by omega)]
    exact hK
  · rintro K y0 rfl
    have hp : 1 ≤ 2 ^ gN g := Nat.one_le_two_pow
    have e1 : nI (2 ^ gN g) - nI 1 = nI (2 ^ gN g - 1) := pk_sub hp
    unfold d_X1_stepsAreThePainted_4b
    simp (disch := omega) only [↓iM_def, i_0, i_1, i_2, i_3, i_4, i_5, i_6, i_7, i_8, i_9, i_10, i_12, i_17, i_29, i_31, i_33, i_36, i_37, i_40, i_41, i_42, i_43, i_44, i_45, i_47, i_48, i_50, i_53, i_55, i_56, i_57, i_58, i_59, i_60, i_61, i_98, i_99, i_100, i_102, i_104, i_106, i_110, i_112, i_119, i_120, i_128, i_392, i_448, nI_add, nI_leI, nI_ltI, nI_eq, nI_clamp, iM_le, iM_lt, iM_nle, iM_nlt, iM_ne, iM_ne', Nat.add_zero, pk_mul, asr_inb, bd_some, bw_some, bx_inl, bx_inr, bh_inl, bh_inr, b2_eq0, b2_eq1, asr_zok, nz_nI, lr_s r w, Nat.le_refl, if_true, i_countPainted r w, i_unpainted r w, nI_xor, sM_all w, lr_n r w, shl_nI, e1]
theorem I_isWell (h : AI V σ) (K : OKs σ) : d_X4_isWell V = some (nI 1) := by
  unfold d_X4_isWell
  rw [i_noBorder h.1 K.w, bd_some, if_neg (by decide +kernel), i_stepsPainted h.1 K.w, bd_some, if_neg (by decide +kernel)]
  rfl
theorem M_isWell (h : AJ V σ) (K : OKs σ) : DM (d_X5_isWell V) V (.inl (nI 1), σ) := by
  have n7 := wf_n7 K.w
  have s7 := wf_s7 K.w
  unfold d_X5_isWell d_X5_isWell_7
  refine DM.pre h (nI 0) (fun V2 h2 hc e => ?_)
  rw [i_0, e]
  have w2 : WF (V2 110) := by rw [h2.1]; exact K.w
  have e9 : lo1W d_X5_isWell_7b FU (nI 0) V2 = some (nI 1, V2) := by
    refine lo1W_inv (gN σ.1) (fun k Vk => Vk = V2) ?_ ?_ FU (show gN σ.1 < 1000 by omega) _ rfl
    · rintro Kk k Vk hk rfl hK
      have hK := hK _ rfl
      unfold d_X5_isWell_7b d_X5_isWell_19
      simp (disch := omega) only [↓iM_def, i_0, i_1, i_2, i_3, i_4, i_5, i_6, i_7, i_8, i_9, i_10, i_12, i_17, i_29, i_31, i_33, i_36, i_37, i_40, i_41, i_42, i_43, i_44, i_45, i_47, i_48, i_50, i_53, i_55, i_56, i_57, i_58, i_59, i_60, i_61, i_98, i_99, i_100, i_102, i_104, i_106, i_110, i_112, i_119, i_120, i_128, i_392, i_448, nI_add, nI_leI, nI_ltI, nI_eq, nI_clamp, iM_le, iM_lt, iM_nle, iM_nlt, iM_ne, iM_ne', Nat.add_zero, pk_mul, asr_inb, bd_some, bw_some, bx_inl, bx_inr, bh_inl, bh_inr, b2_eq0, b2_eq1, asr_zok, nz_nI, h2.1, wf_n K.w]
      rw [if_neg (by omega)]
      refine lo2W_inv k (fun j y0 Vj => y0 = nI k ∧ Vj = Vk) ?_ ?_ FU (show k < 1000 by omega) _ _ ⟨rfl, rfl⟩
      · rintro K2 j y0 Vj hj ⟨rfl, rfl⟩ hK2
        have hK2 := hK2 _ _ ⟨rfl, rfl⟩
        unfold d_X5_isWell_19b
        simp (disch := omega) only [↓iM_def, i_0, i_1, i_2, i_3, i_4, i_5, i_6, i_7, i_8, i_9, i_10, i_12, i_17, i_29, i_31, i_33, i_36, i_37, i_40, i_41, i_42, i_43, i_44, i_45, i_47, i_48, i_50, i_53, i_55, i_56, i_57, i_58, i_59, i_60, i_61, i_98, i_99, i_100, i_102, i_104, i_106, i_110, i_112, i_119, i_120, i_128, i_392, i_448, nI_add, nI_leI, nI_ltI, nI_eq, nI_clamp, iM_le, iM_lt, iM_nle, iM_nlt, iM_ne, iM_ne', Nat.add_zero, pk_mul, asr_inb, bd_some, bw_some, bx_inl, bx_inr, bh_inl, bh_inr, b2_eq0, b2_eq1, asr_zok, nz_nI, m_touches w2, m_isP w2, m_hu, h2.1]
        rw [if_neg (by omega)]
        cases ht : tt σ.1 k j with
        | false => rw [if_pos rfl]; exact hK2
        | true =>
          rw [if_neg (by decide)]
          cases hp : ptd σ.1 k with
          | false => rw [if_pos rfl]; exact hK2
          | true =>
            rw [if_neg (by decide), if_neg (wf_nh K.w (by omega) (by omega) ht hp)]
            exact hK2
      · rintro K2 y0 Vj ⟨rfl, rfl⟩
        unfold d_X5_isWell_19b
        simp (disch := omega) only [↓iM_def, i_0, i_1, i_2, i_3, i_4, i_5, i_6, i_7, i_8, i_9, i_10, i_12, i_17, i_29, i_31, i_33, i_36, i_37, i_40, i_41, i_42, i_43, i_44, i_45, i_47, i_48, i_50, i_53, i_55, i_56, i_57, i_58, i_59, i_60, i_61, i_98, i_99, i_100, i_102, i_104, i_106, i_110, i_112, i_119, i_120, i_128, i_392, i_448, nI_add, nI_leI, nI_ltI, nI_eq, nI_clamp, iM_le, iM_lt, iM_nle, iM_nlt, iM_ne, iM_ne', Nat.add_zero, pk_mul, asr_inb, bd_some, bw_some, bx_inl, bx_inr, bh_inl, bh_inr, b2_eq0, b2_eq1, asr_zok, nz_nI, Nat.le_refl, if_true]
        exact hK
    · rintro Kk Vk rfl
      unfold d_X5_isWell_7b d_X5_isWell_72
      simp (disch := omega) only [↓iM_def, i_0, i_1, i_2, i_3, i_4, i_5, i_6, i_7, i_8, i_9, i_10, i_12, i_17, i_29, i_31, i_33, i_36, i_37, i_40, i_41, i_42, i_43, i_44, i_45, i_47, i_48, i_50, i_53, i_55, i_56, i_57, i_58, i_59, i_60, i_61, i_98, i_99, i_100, i_102, i_104, i_106, i_110, i_112, i_119, i_120, i_128, i_392, i_448, nI_add, nI_leI, nI_ltI, nI_eq, nI_clamp, iM_le, iM_lt, iM_nle, iM_nlt, iM_ne, iM_ne', Nat.add_zero, pk_mul, asr_inb, bd_some, bw_some, bx_inl, bx_inr, bh_inl, bh_inr, b2_eq0, b2_eq1, asr_zok, nz_nI, h2.1, wf_n K.w, Nat.le_refl, if_true]
      refine lo1W_inv (gN σ.1) (fun k Vj => Vj = Vk) ?_ ?_ FU (show gN σ.1 < 1000 by omega) _ rfl
      · rintro K2 k Vj hk rfl hK
        have hK := hK _ rfl
        have hpl : ∀ j, plc σ.1 k = some j → j < gS σ.1 := fun j hj => fnd_lt hj
        unfold d_X5_isWell_72b d_X5_isWell_100
        simp (disch := omega) only [↓iM_def, i_0, i_1, i_2, i_3, i_4, i_5, i_6, i_7, i_8, i_9, i_10, i_12, i_17, i_29, i_31, i_33, i_36, i_37, i_40, i_41, i_42, i_43, i_44, i_45, i_47, i_48, i_50, i_53, i_55, i_56, i_57, i_58, i_59, i_60, i_61, i_98, i_99, i_100, i_102, i_104, i_106, i_110, i_112, i_119, i_120, i_128, i_392, i_448, nI_add, nI_leI, nI_ltI, nI_eq, nI_clamp, iM_le, iM_lt, iM_nle, iM_nlt, iM_ne, iM_ne', Nat.add_zero, pk_mul, asr_inb, bd_some, bw_some, bx_inl, bx_inr, bh_inl, bh_inr, b2_eq0, b2_eq1, asr_zok, nz_nI, h2.1, wf_n K.w, m_isP w2, m_placeOf w2, io_lt (o := plc σ.1 k) (n := gS σ.1) (by omega) hpl]
        rw [if_neg (by omega)]
        have e8 := plc_ptd K.w hk
        cases hp : plc σ.1 k with
        | none =>
          rw [hp] at e8
          rw [if_pos rfl, if_pos (show ptd σ.1 k = false from e8.symm)]
          exact hK
        | some j =>
          rw [hp] at e8
          rw [if_neg (by intro q; cases q), if_pos (show ptd σ.1 k = true from e8.symm)]
          exact hK
      · rintro K2 Vj rfl
        unfold d_X5_isWell_72b
        simp (disch := omega) only [↓iM_def, i_0, i_1, i_2, i_3, i_4, i_5, i_6, i_7, i_8, i_9, i_10, i_12, i_17, i_29, i_31, i_33, i_36, i_37, i_40, i_41, i_42, i_43, i_44, i_45, i_47, i_48, i_50, i_53, i_55, i_56, i_57, i_58, i_59, i_60, i_61, i_98, i_99, i_100, i_102, i_104, i_106, i_110, i_112, i_119, i_120, i_128, i_392, i_448, nI_add, nI_leI, nI_ltI, nI_eq, nI_clamp, iM_le, iM_lt, iM_nle, iM_nlt, iM_ne, iM_ne', Nat.add_zero, pk_mul, asr_inb, bd_some, bw_some, bx_inl, bx_inr, bh_inl, bh_inr, b2_eq0, b2_eq1, asr_zok, nz_nI, h2.1, wf_n K.w, Nat.le_refl, if_true, m_paintedMany w2, wf_s K.w]
  rw [e9]
  exact DM.of rfl h2 (FrM.rf _) hc (fun v' hv => by cases hv; rfl)
/-! clique -/
theorem bit_S {x c : Nat} (h : x.testBit c = true) : (x = 2 ^ c) = (x &&& bnot (2 ^ c) = 0) ∨ ¬ x < 2 ^ 32 := by
  by_cases hx : x < 2 ^ 32
  · left
    apply propext
    constructor
    · intro e
      refine bit_ext (fun i => ?_)
      rw [Nat.zero_testBit, Nat.testBit_and]
      by_cases hi : i < 32
      · rw [bnot_bit _ hi, e]
        cases (2 ^ c).testBit i <;> rfl
      · rw [bit_ge hx (by omega)]; rfl
    · intro e
      refine bit_ext (fun i => ?_)
      rw [p2_bit]
      by_cases hi : i < 32
      · by_cases q : c = i
        · rw [← q, h]; simp
        · have := congrArg (fun z => z.testBit i) e
          simp only [Nat.testBit_and, bnot_bit _ hi, p2_bit, Nat.zero_testBit, decide_eq_false q] at this
          rw [decide_eq_false q]
          simpa using this
      · rw [bit_ge hx (by omega)]
        by_cases q : c = i
        · rw [q, bit_ge hx (by omega)] at h; cases h
        · rw [decide_eq_false q]
  · right; exact hx
theorem cq_eq (w : WF g) {S c : Nat} (hS : S < 128) (hc : c < 7) (hb : S.testBit c = true) : (S &&& bnot (nb g c) = 2 ^ c) = (S &&& bnot (nb g c ||| 2 ^ c) = 0) := by
  have hx : S &&& bnot (nb g c) < 2 ^ 7 := and_lt hS
  have hbit : (S &&& bnot (nb g c)).testBit c = true := by
    rw [Nat.testBit_and, hb, bnot_bit _ (by omega)]
    have := wf_ti w hc
    unfold tt at this
    rw [this]; rfl
  have e2 : (S &&& bnot (nb g c)) &&& bnot (2 ^ c) = S &&& bnot (nb g c ||| 2 ^ c) := bit_ext (fun i => by
    rw [Nat.testBit_and, Nat.testBit_and, Nat.testBit_and]
    by_cases hi : i < 32
    · rw [bnot_bit _ hi, bnot_bit _ hi, bnot_bit _ hi, Nat.testBit_or]
      cases S.testBit i <;> cases (nb g c).testBit i <;> cases (2 ^ c).testBit i <;> rfl
    · rw [bit_ge (n := 7) hS (by omega)]; rfl)
  rcases bit_S hbit with h | h
  · rw [h, e2]
  · exact absurd (show S &&& bnot (nb g c) < 2 ^ 32 by omega) h
theorem i_isClique (r : LR V 1 g) (w : WF g) {S : Nat} (hS : S < 128) : d_X1_isClique (nI S) V = some (b2 (decide (S < 2 ^ gN g) && (cqm g S).isNone)) := by
  have n7 := wf_n7 w
  have hp : 0 < 2 ^ gN g := Nat.two_pow_pos _
  have hd : S / 2 ^ gN g ≤ S := Nat.div_le_self _ _
  have e0 : (S / 2 ^ gN g = 0) = (S < 2 ^ gN g) := propext (Nat.div_eq_zero_iff_lt hp)
  unfold d_X1_isClique
  simp (disch := omega) only [↓iM_def, i_0, i_1, i_2, i_3, i_4, i_5, i_6, i_7, i_8, i_9, i_10, i_12, i_17, i_29, i_31, i_33, i_36, i_37, i_40, i_41, i_42, i_43, i_44, i_45, i_47, i_48, i_50, i_53, i_55, i_56, i_57, i_58, i_59, i_60, i_61, i_98, i_99, i_100, i_102, i_104, i_106, i_110, i_112, i_119, i_120, i_128, i_392, i_448, nI_add, nI_leI, nI_ltI, nI_eq, nI_clamp, iM_le, iM_lt, iM_nle, iM_nlt, iM_ne, iM_ne', Nat.add_zero, pk_mul, asr_inb, bd_some, bw_some, bx_inl, bx_inr, bh_inl, bh_inr, b2_eq0, b2_eq1, asr_zok, nz_nI, lr_n r w, shr_nI, e0]
  by_cases hl : S < 2 ^ gN g
  · rw [if_pos hl, decide_eq_true hl, Bool.true_and]
    unfold d_X1_isClique_13
    refine lo2_inv (gN g) (fun k y0 => y0 = nI S ∧ fnd (fun a => S.testBit a && !decide (S &&& bnot (nb g a ||| 2 ^ a) = 0)) k = none) ?_ ?_ FU (show gN g < 1000 by omega) _ ⟨rfl, rfl⟩
    · rintro K k y0 hk ⟨rfl, hf⟩ hK
      have a1 : S &&& bnot (nb g k) < 2 ^ 7 := and_lt hS
      have hbit : (S &&& bnot (nb g k)).testBit k = S.testBit k := by
        rw [Nat.testBit_and, bnot_bit _ (by omega)]
        have := wf_ti w (show k < 7 by omega)
        unfold tt at this
        rw [this]; simp
      have h2 : 2 ^ k < 2 ^ 7 := Nat.pow_lt_pow_right (by omega) (by omega)
      unfold d_X1_isClique_13b
      simp (disch := omega) only [↓iM_def, i_0, i_1, i_2, i_3, i_4, i_5, i_6, i_7, i_8, i_9, i_10, i_12, i_17, i_29, i_31, i_33, i_36, i_37, i_40, i_41, i_42, i_43, i_44, i_45, i_47, i_48, i_50, i_53, i_55, i_56, i_57, i_58, i_59, i_60, i_61, i_98, i_99, i_100, i_102, i_104, i_106, i_110, i_112, i_119, i_120, i_128, i_392, i_448, nI_add, nI_leI, nI_ltI, nI_eq, nI_clamp, iM_le, iM_lt, iM_nle, iM_nlt, iM_ne, iM_ne', Nat.add_zero, pk_mul, asr_inb, bd_some, bw_some, bx_inl, bx_inr, bh_inl, bh_inr, b2_eq0, b2_eq1, asr_zok, nz_nI, lr_n r w, lr_nb r w, not_nI, nI_andb, bt_nI, shl_nI, hbit]
      rw [if_neg (by omega)]
      cases hb : S.testBit k with
      | false =>
        rw [if_pos rfl]
        exact hK _ ⟨rfl, fnd_go hf (by simp [hb])⟩
      | true =>
        rw [if_neg (by decide)]
        have e1 := cq_eq w hS (show k < 7 by omega) hb
        by_cases q : S &&& bnot (nb g k) = 2 ^ k
        · rw [if_pos q]
          rw [e1] at q
          exact hK _ ⟨rfl, fnd_go hf (by simp [q])⟩
        · rw [if_neg q]
          rw [e1] at q
          unfold cqm
          rw [fnd_stop hk hf (by simp [hb, q])]
          rfl
    · rintro K y0 ⟨rfl, hf⟩
      unfold d_X1_isClique_13b
      simp (disch := omega) only [↓iM_def, i_0, i_1, i_2, i_3, i_4, i_5, i_6, i_7, i_8, i_9, i_10, i_12, i_17, i_29, i_31, i_33, i_36, i_37, i_40, i_41, i_42, i_43, i_44, i_45, i_47, i_48, i_50, i_53, i_55, i_56, i_57, i_58, i_59, i_60, i_61, i_98, i_99, i_100, i_102, i_104, i_106, i_110, i_112, i_119, i_120, i_128, i_392, i_448, nI_add, nI_leI, nI_ltI, nI_eq, nI_clamp, iM_le, iM_lt, iM_nle, iM_nlt, iM_ne, iM_ne', Nat.add_zero, pk_mul, asr_inb, bd_some, bw_some, bx_inl, bx_inr, bh_inl, bh_inr, b2_eq0, b2_eq1, asr_zok, nz_nI, lr_n r w, Nat.le_refl, if_true]
      unfold cqm
      rw [hf]
      rfl
  · rw [if_neg hl, decide_eq_false hl]
    rfl
theorem m_areAll (w : WF (V 110)) {S : Nat} (hS : S < 128) : d_X5_areAll (nI S) V = some (b2 (cqm (V 110) S).isNone) := by
  have n7 := wf_n7 w
  unfold d_X5_areAll d_X5_areAll_2
  refine lo2_inv (gN (V 110)) (fun k y0 => y0 = nI S ∧ fnd (fun a => S.testBit a && !decide (S &&& bnot (nb (V 110) a ||| 2 ^ a) = 0)) k = none) ?_ ?_ FU (show gN (V 110) < 1000 by omega) _ ⟨rfl, rfl⟩
  · rintro K k y0 hk ⟨rfl, hf⟩ hK
    have a1 : S &&& bnot (nb (V 110) k ||| 2 ^ k) < 2 ^ 7 := and_lt hS
    unfold d_X5_areAll_2b
    simp (disch := omega) only [↓iM_def, i_0, i_1, i_2, i_3, i_4, i_5, i_6, i_7, i_8, i_9, i_10, i_12, i_17, i_29, i_31, i_33, i_36, i_37, i_40, i_41, i_42, i_43, i_44, i_45, i_47, i_48, i_50, i_53, i_55, i_56, i_57, i_58, i_59, i_60, i_61, i_98, i_99, i_100, i_102, i_104, i_106, i_110, i_112, i_119, i_120, i_128, i_392, i_448, nI_add, nI_leI, nI_ltI, nI_eq, nI_clamp, iM_le, iM_lt, iM_nle, iM_nlt, iM_ne, iM_ne', Nat.add_zero, pk_mul, asr_inb, bd_some, bw_some, bx_inl, bx_inr, bh_inl, bh_inr, b2_eq0, b2_eq1, asr_zok, nz_nI, wf_n w, wf_nb w, not_nI, nI_andb, bt_nI, shl_nI, nI_or]
    rw [if_neg (by omega)]
    cases hb : S.testBit k with
    | false =>
      rw [if_neg (by decide)]
      exact hK _ ⟨rfl, fnd_go hf (by simp [hb])⟩
    | true =>
      rw [if_pos rfl]
      by_cases q : S &&& bnot (nb (V 110) k ||| 2 ^ k) = 0
      · rw [if_pos q]
        exact hK _ ⟨rfl, fnd_go hf (by simp [q])⟩
      · rw [if_neg q]
        unfold cqm
        rw [fnd_stop hk hf (by simp [hb, q])]
        rfl
  · rintro K y0 ⟨rfl, hf⟩
    unfold d_X5_areAll_2b
    simp (disch := omega) only [↓iM_def, i_0, i_1, i_2, i_3, i_4, i_5, i_6, i_7, i_8, i_9, i_10, i_12, i_17, i_29, i_31, i_33, i_36, i_37, i_40, i_41, i_42, i_43, i_44, i_45, i_47, i_48, i_50, i_53, i_55, i_56, i_57, i_58, i_59, i_60, i_61, i_98, i_99, i_100, i_102, i_104, i_106, i_110, i_112, i_119, i_120, i_128, i_392, i_448, nI_add, nI_leI, nI_ltI, nI_eq, nI_clamp, iM_le, iM_lt, iM_nle, iM_nlt, iM_ne, iM_ne', Nat.add_zero, pk_mul, asr_inb, bd_some, bw_some, bx_inl, bx_inr, bh_inl, bh_inr, b2_eq0, b2_eq1, asr_zok, nz_nI, wf_n w, Nat.le_refl, if_true]
    unfold cqm
    rw [hf]
    rfl
/-- the counting goes no further behind the last set -/
def mxi (g : Row) : Nat → Nat
  | 0 => 0
  | k + 1 => if k < 2 ^ gN g ∧ cqm g k = none ∧ mxi g k < pc k then pc k else mxi g k
theorem mxi_lt : ∀ k, k ≤ 2 ^ gN g → mxi g k = mxc g k
  | 0, _ => rfl
  | k + 1, h => by
    have ih := mxi_lt k (by omega)
    show (if k < 2 ^ gN g ∧ cqm g k = none ∧ mxi g k < pc k then pc k else mxi g k) = (if cqm g k = none ∧ mxc g k < pc k then pc k else mxc g k)
    rw [ih]
    by_cases q : cqm g k = none ∧ mxc g k < pc k
    · rw [if_pos q, if_pos ⟨by omega, q⟩]
    · rw [if_neg q, if_neg (fun z => q z.2)]
theorem mxi_ge : ∀ d, mxi g (2 ^ gN g + d) = mxc g (2 ^ gN g)
  | 0 => mxi_lt _ (Nat.le_refl _)
  | d + 1 => by
    have ih := mxi_ge d
    show (if 2 ^ gN g + d < 2 ^ gN g ∧ cqm g (2 ^ gN g + d) = none ∧ mxi g (2 ^ gN g + d) < pc (2 ^ gN g + d) then pc (2 ^ gN g + d) else mxi g (2 ^ gN g + d)) = _
    rw [if_neg (by omega), ih]
theorem pc_le (m : Nat) : pc m ≤ 7 := cnt_le _ _
theorem mxi_le : ∀ k, mxi g k ≤ 7
  | 0 => by show 0 ≤ 7; omega
  | k + 1 => by
    have ih := mxi_le k
    show (if k < 2 ^ gN g ∧ cqm g k = none ∧ mxi g k < pc k then pc k else mxi g k) ≤ 7
    split
    · exact pc_le _
    · exact ih
theorem mxc_le : ∀ k, mxc g k ≤ 7
  | 0 => by show 0 ≤ 7; omega
  | k + 1 => by
    have ih := mxc_le k
    show (if cqm g k = none ∧ mxc g k < pc k then pc k else mxc g k) ≤ 7
    split
    · exact pc_le _
    · exact ih
theorem I_clique (h : AI V σ) (K : OKs σ) : d_X4_clique V = some (nI (mxc σ.1 (2 ^ gN σ.1))) := by
  have n7 := wf_n7 K.w
  have hp : 2 ^ gN σ.1 ≤ 2 ^ 7 := Nat.pow_le_pow_right (by omega) n7
  obtain ⟨d, hd⟩ : ∃ d, 128 = 2 ^ gN σ.1 + d := ⟨128 - 2 ^ gN σ.1, by omega⟩
  have efin : mxi σ.1 128 = mxc σ.1 (2 ^ gN σ.1) := by rw [hd]; exact mxi_ge d
  rw [← efin]
  unfold d_X4_clique d_X4_clique_4
  refine lo2_inv 128 (fun k y0 => y0 = nI (mxi σ.1 k)) ?_ ?_ FU (show 128 < 1000 by omega) _ rfl
  · rintro Kk k y0 hk rfl hK
    have hK := hK _ rfl
    have hm := mxi_le (g := σ.1) k
    have hq := pc_le k
    have e : mxi σ.1 (k + 1) = if k < 2 ^ gN σ.1 ∧ cqm σ.1 k = none ∧ mxi σ.1 k < pc k then pc k else mxi σ.1 k := rfl
    rw [e] at hK
    unfold d_X4_clique_4b d_J9_max_7cf53
    generalize hF : d_J6_bitCount_0f7a4 = F
    have hb : F (nI k) V = some (nI (pc k)) := by rw [← hF]; exact bc_nI V hk
    simp (disch := omega) only [↓iM_def, i_0, i_1, i_2, i_3, i_4, i_5, i_6, i_7, i_8, i_9, i_10, i_12, i_17, i_29, i_31, i_33, i_36, i_37, i_40, i_41, i_42, i_43, i_44, i_45, i_47, i_48, i_50, i_53, i_55, i_56, i_57, i_58, i_59, i_60, i_61, i_98, i_99, i_100, i_102, i_104, i_106, i_110, i_112, i_119, i_120, i_128, i_392, i_448, nI_add, nI_leI, nI_ltI, nI_eq, nI_clamp, iM_le, iM_lt, iM_nle, iM_nlt, iM_ne, iM_ne', Nat.add_zero, pk_mul, asr_inb, bd_some, bw_some, bx_inl, bx_inr, bh_inl, bh_inr, b2_eq0, b2_eq1, asr_zok, nz_nI, i_isClique h.1 K.w, hb]
    rw [if_neg (by omega)]
    by_cases c1 : k < 2 ^ gN σ.1
    · rw [decide_eq_true c1, Bool.true_and]
      cases c2 : cqm σ.1 k with
      | none =>
        rw [c2] at hK
        rw [if_neg (by decide)]
        by_cases c3 : mxi σ.1 k < pc k
        · rw [if_pos ⟨c1, rfl, c3⟩] at hK
          rw [if_pos c3, bd_some]; exact hK
        · rw [if_neg (fun z => c3 z.2.2)] at hK
          rw [if_neg c3, bd_some]; exact hK
      | some j =>
        rw [c2, if_neg (fun z => by cases z.2.1)] at hK
        rw [if_pos (show (some j).isNone = false from rfl)]; exact hK
    · rw [if_neg (fun z => c1 z.1)] at hK
      rw [decide_eq_false c1, Bool.false_and, if_pos rfl]; exact hK
  · rintro Kk y0 rfl
    unfold d_X4_clique_4b
    simp (disch := omega) only [↓iM_def, i_0, i_1, i_2, i_3, i_4, i_5, i_6, i_7, i_8, i_9, i_10, i_12, i_17, i_29, i_31, i_33, i_36, i_37, i_40, i_41, i_42, i_43, i_44, i_45, i_47, i_48, i_50, i_53, i_55, i_56, i_57, i_58, i_59, i_60, i_61, i_98, i_99, i_100, i_102, i_104, i_106, i_110, i_112, i_119, i_120, i_128, i_392, i_448, nI_add, nI_leI, nI_ltI, nI_eq, nI_clamp, iM_le, iM_lt, iM_nle, iM_nlt, iM_ne, iM_ne', Nat.add_zero, pk_mul, asr_inb, bd_some, bw_some, bx_inl, bx_inr, bh_inl, bh_inr, b2_eq0, b2_eq1, asr_zok, nz_nI, Nat.le_refl, if_true]
theorem pc_n (w : WF g) {k : Nat} (hk : k < 2 ^ gN g) : cnt k.testBit (gN g) = pc k := by
  have n7 := wf_n7 w
  obtain ⟨d, hd⟩ : ∃ d, 7 = gN g + d := ⟨7 - gN g, by omega⟩
  have e : cnt (fun i => k.testBit (gN g + i)) d = 0 := cnt_0.mpr (fun i _ => bit_ge hk (by omega))
  unfold pc
  rw [hd, cnt_split, e, Nat.add_zero]
theorem M_clique (h : AJ V σ) (K : OKs σ) : DM (d_X5_clique V) V (.inl (nI (mxc σ.1 (2 ^ gN σ.1))), σ) := by
  have n7 := wf_n7 K.w
  have hp : 2 ^ gN σ.1 ≤ 2 ^ 7 := Nat.pow_le_pow_right (by omega) n7
  unfold d_X5_clique d_X5_clique_9
  refine DM.pre h (nI 0) (fun V2 h2 hc e => ?_)
  rw [i_0, e]
  have w2 : WF (V2 110) := by rw [h2.1]; exact K.w
  have e9 : lo2W d_X5_clique_9b FU (nI 0) (nI 0) V2 = some (nI (mxc σ.1 (2 ^ gN σ.1)), V2) := by
    refine lo2W_inv (2 ^ gN σ.1) (fun k y0 Vk => Vk = V2 ∧ y0 = nI (mxc σ.1 k)) ?_ ?_ FU (show 2 ^ gN σ.1 < 1000 by omega) _ _ ⟨rfl, rfl⟩
    · rintro Kk k y0 Vk hk ⟨rfl, rfl⟩ hK
      have hK := hK _ _ ⟨rfl, rfl⟩
      have hm := mxc_le (g := σ.1) k
      have e1 : mxc σ.1 (k + 1) = if cqm σ.1 k = none ∧ mxc σ.1 k < pc k then pc k else mxc σ.1 k := rfl
      rw [e1] at hK
      unfold d_X5_clique_9b d_X5_clique_26
      simp (disch := omega) only [↓iM_def, i_0, i_1, i_2, i_3, i_4, i_5, i_6, i_7, i_8, i_9, i_10, i_12, i_17, i_29, i_31, i_33, i_36, i_37, i_40, i_41, i_42, i_43, i_44, i_45, i_47, i_48, i_50, i_53, i_55, i_56, i_57, i_58, i_59, i_60, i_61, i_98, i_99, i_100, i_102, i_104, i_106, i_110, i_112, i_119, i_120, i_128, i_392, i_448, nI_add, nI_leI, nI_ltI, nI_eq, nI_clamp, iM_le, iM_lt, iM_nle, iM_nlt, iM_ne, iM_ne', Nat.add_zero, pk_mul, asr_inb, bd_some, bw_some, bx_inl, bx_inr, bh_inl, bh_inr, b2_eq0, b2_eq1, asr_zok, nz_nI, h2.1, wf_n K.w, shl_nI]
      rw [if_neg (by omega)]
      refine lo4W_inv (gN σ.1) (fun j y0 y1 y2 Vj => Vj = Vk ∧ y0 = nI (mxc σ.1 k) ∧ y1 = nI k ∧ y2 = nI (cnt k.testBit j)) ?_ ?_ FU (show gN σ.1 < 1000 by omega) _ _ _ _ ⟨rfl, rfl, rfl, rfl⟩
      · rintro K2 j y0 y1 y2 Vj hj ⟨rfl, rfl, rfl, rfl⟩ hK2
        have hK2 := hK2 _ _ _ _ ⟨rfl, rfl, rfl, rfl⟩
        rw [cnt_s] at hK2
        unfold d_X5_clique_26b
        simp (disch := omega) only [↓iM_def, i_0, i_1, i_2, i_3, i_4, i_5, i_6, i_7, i_8, i_9, i_10, i_12, i_17, i_29, i_31, i_33, i_36, i_37, i_40, i_41, i_42, i_43, i_44, i_45, i_47, i_48, i_50, i_53, i_55, i_56, i_57, i_58, i_59, i_60, i_61, i_98, i_99, i_100, i_102, i_104, i_106, i_110, i_112, i_119, i_120, i_128, i_392, i_448, nI_add, nI_leI, nI_ltI, nI_eq, nI_clamp, iM_le, iM_lt, iM_nle, iM_nlt, iM_ne, iM_ne', Nat.add_zero, pk_mul, asr_inb, bd_some, bw_some, bx_inl, bx_inr, bh_inl, bh_inr, b2_eq0, b2_eq1, asr_zok, nz_nI, h2.1, wf_n K.w, bt_nI]
        rw [if_neg (by omega)]
        unfold b2
        rw [nI_add]
        exact hK2
      · rintro K2 y0 y1 y2 Vj ⟨rfl, rfl, rfl, rfl⟩
        have hpc := pc_le k
        unfold d_X5_clique_26b
        simp (disch := omega) only [↓iM_def, i_0, i_1, i_2, i_3, i_4, i_5, i_6, i_7, i_8, i_9, i_10, i_12, i_17, i_29, i_31, i_33, i_36, i_37, i_40, i_41, i_42, i_43, i_44, i_45, i_47, i_48, i_50, i_53, i_55, i_56, i_57, i_58, i_59, i_60, i_61, i_98, i_99, i_100, i_102, i_104, i_106, i_110, i_112, i_119, i_120, i_128, i_392, i_448, nI_add, nI_leI, nI_ltI, nI_eq, nI_clamp, iM_le, iM_lt, iM_nle, iM_nlt, iM_ne, iM_ne', Nat.add_zero, pk_mul, asr_inb, bd_some, bw_some, bx_inl, bx_inr, bh_inl, bh_inr, b2_eq0, b2_eq1, asr_zok, nz_nI, h2.1, wf_n K.w, Nat.le_refl, if_true, pc_n K.w, m_areAll w2]
        by_cases c3 : mxc σ.1 k < pc k
        · rw [if_neg (by omega)]
          cases c2 : cqm σ.1 k with
          | none =>
            rw [c2, if_pos ⟨rfl, c3⟩] at hK
            rw [if_neg (by decide)]; exact hK
          | some j =>
            rw [c2, if_neg (fun z => by cases z.1)] at hK
            rw [if_pos (show (some j).isNone = false from rfl)]; exact hK
        · rw [if_neg (fun z => c3 z.2)] at hK
          rw [if_pos (by omega)]; exact hK
    · rintro Kk y0 Vk ⟨rfl, rfl⟩
      unfold d_X5_clique_9b
      simp (disch := omega) only [↓iM_def, i_0, i_1, i_2, i_3, i_4, i_5, i_6, i_7, i_8, i_9, i_10, i_12, i_17, i_29, i_31, i_33, i_36, i_37, i_40, i_41, i_42, i_43, i_44, i_45, i_47, i_48, i_50, i_53, i_55, i_56, i_57, i_58, i_59, i_60, i_61, i_98, i_99, i_100, i_102, i_104, i_106, i_110, i_112, i_119, i_120, i_128, i_392, i_448, nI_add, nI_leI, nI_ltI, nI_eq, nI_clamp, iM_le, iM_lt, iM_nle, iM_nlt, iM_ne, iM_ne', Nat.add_zero, pk_mul, asr_inb, bd_some, bw_some, bx_inl, bx_inr, bh_inl, bh_inr, b2_eq0, b2_eq1, asr_zok, nz_nI, h2.1, wf_n K.w, shl_nI, Nat.le_refl, if_true]
  rw [e9]
  exact DM.of rfl h2 (FrM.rf _) hc (fun v' hv => by cases hv; rfl)
end
