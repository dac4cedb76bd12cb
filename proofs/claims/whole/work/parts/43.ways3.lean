/-! PURE ROWS: the holders noted; the reference's ways -/
theorem lo1W_R {α : Type} {b : (Int32 → VT → Option α) → Int32 → VT → Option α} (R : Option α → Prop) (n : Nat) (P : Nat → VT → Prop) (hs : ∀ (K : Int32 → VT → Option α) (k : Nat) (V : VT), k < n → P k V → (∀ (V9 : VT), P (k + 1) V9 → R (K (nI (k + 1)) V9)) → R (b K (nI k) V)) (he : ∀ (K : Int32 → VT → Option α) (V : VT), P n V → R (b K (nI n) V)) : ∀ (fuel : Nat), n < fuel → ∀ (V : VT), P 0 V → R (lo1W b fuel (nI 0) V) := by
  have key : ∀ (m fuel k : Nat) (V : VT), k + m = n → m < fuel → P k V → R (lo1W b fuel (nI k) V) := by
    intro m
    induction m with
    | zero =>
      intro fuel k V hk hf hp
      obtain ⟨f, rfl⟩ : ∃ f, fuel = f + 1 := ⟨fuel - 1, by omega⟩
      have hk : k = n := by omega
      subst hk
      exact he _ V hp
    | succ m ih =>
      intro fuel k V hk hf hp
      obtain ⟨f, rfl⟩ : ∃ f, fuel = f + 1 := ⟨fuel - 1, by omega⟩
      exact hs _ k V (by omega) hp (fun V9 hq => ih f (k + 1) V9 (by omega) (by omega) hq)
  intro fuel hf V hp
  exact key n fuel 0 V (by omega) hf hp
theorem lo2W_R {α : Type} {b : (Int32 → Int32 → VT → Option α) → Int32 → Int32 → VT → Option α} (R : Option α → Prop) (n : Nat) (P : Nat → Int32 → VT → Prop) (hs : ∀ (K : Int32 → Int32 → VT → Option α) (k : Nat) (x0 : Int32) (V : VT), k < n → P k x0 V → (∀ (y0 : Int32) (V9 : VT), P (k + 1) y0 V9 → R (K y0 (nI (k + 1)) V9)) → R (b K x0 (nI k) V)) (he : ∀ (K : Int32 → Int32 → VT → Option α) (x0 : Int32) (V : VT), P n x0 V → R (b K x0 (nI n) V)) : ∀ (fuel : Nat), n < fuel → ∀ (x0 : Int32) (V : VT), P 0 x0 V → R (lo2W b fuel x0 (nI 0) V) := by
  have key : ∀ (m fuel k : Nat) (x0 : Int32) (V : VT), k + m = n → m < fuel → P k x0 V → R (lo2W b fuel x0 (nI k) V) := by
    intro m
    induction m with
    | zero =>
      intro fuel k x0 V hk hf hp
      obtain ⟨f, rfl⟩ : ∃ f, fuel = f + 1 := ⟨fuel - 1, by omega⟩
      have hk : k = n := by omega
      subst hk
      exact he _ x0 V hp
    | succ m ih =>
      intro fuel k x0 V hk hf hp
      obtain ⟨f, rfl⟩ : ∃ f, fuel = f + 1 := ⟨fuel - 1, by omega⟩
      exact hs _ k x0 V (by omega) hp (fun y0 V9 hq => ih f (k + 1) y0 V9 (by omega) (by omega) hq)
  intro fuel hf x0 V hp
  exact key n fuel 0 x0 V (by omega) hf hp
theorem lo3W_R {α : Type} {b : (Int32 → Int32 → Int32 → VT → Option α) → Int32 → Int32 → Int32 → VT → Option α} (R : Option α → Prop) (n : Nat) (P : Nat → Int32 → Int32 → VT → Prop) (hs : ∀ (K : Int32 → Int32 → Int32 → VT → Option α) (k : Nat) (x0 x1 : Int32) (V : VT), k < n → P k x0 x1 V → (∀ (y0 y1 : Int32) (V9 : VT), P (k + 1) y0 y1 V9 → R (K y0 y1 (nI (k + 1)) V9)) → R (b K x0 x1 (nI k) V)) (he : ∀ (K : Int32 → Int32 → Int32 → VT → Option α) (x0 x1 : Int32) (V : VT), P n x0 x1 V → R (b K x0 x1 (nI n) V)) : ∀ (fuel : Nat), n < fuel → ∀ (x0 x1 : Int32) (V : VT), P 0 x0 x1 V → R (lo3W b fuel x0 x1 (nI 0) V) := by
  have key : ∀ (m fuel k : Nat) (x0 x1 : Int32) (V : VT), k + m = n → m < fuel → P k x0 x1 V → R (lo3W b fuel x0 x1 (nI k) V) := by
    intro m
    induction m with
    | zero =>
      intro fuel k x0 x1 V hk hf hp
      obtain ⟨f, rfl⟩ : ∃ f, fuel = f + 1 := ⟨fuel - 1, by omega⟩
      have hk : k = n := by omega
      subst hk
      exact he _ x0 x1 V hp
    | succ m ih =>
      intro fuel k x0 x1 V hk hf hp
      obtain ⟨f, rfl⟩ : ∃ f, fuel = f + 1 := ⟨fuel - 1, by omega⟩
      exact hs _ k x0 x1 V (by omega) hp (fun y0 y1 V9 hq => ih f (k + 1) y0 y1 V9 (by omega) (by omega) hq)
  intro fuel hf x0 x1 V hp
  exact key n fuel 0 x0 x1 V (by omega) hf hp
theorem lo4W_R {α : Type} {b : (Int32 → Int32 → Int32 → Int32 → VT → Option α) → Int32 → Int32 → Int32 → Int32 → VT → Option α} (R : Option α → Prop) (n : Nat) (P : Nat → Int32 → Int32 → Int32 → VT → Prop) (hs : ∀ (K : Int32 → Int32 → Int32 → Int32 → VT → Option α) (k : Nat) (x0 x1 x2 : Int32) (V : VT), k < n → P k x0 x1 x2 V → (∀ (y0 y1 y2 : Int32) (V9 : VT), P (k + 1) y0 y1 y2 V9 → R (K y0 y1 y2 (nI (k + 1)) V9)) → R (b K x0 x1 x2 (nI k) V)) (he : ∀ (K : Int32 → Int32 → Int32 → Int32 → VT → Option α) (x0 x1 x2 : Int32) (V : VT), P n x0 x1 x2 V → R (b K x0 x1 x2 (nI n) V)) : ∀ (fuel : Nat), n < fuel → ∀ (x0 x1 x2 : Int32) (V : VT), P 0 x0 x1 x2 V → R (lo4W b fuel x0 x1 x2 (nI 0) V) := by
  have key : ∀ (m fuel k : Nat) (x0 x1 x2 : Int32) (V : VT), k + m = n → m < fuel → P k x0 x1 x2 V → R (lo4W b fuel x0 x1 x2 (nI k) V) := by
    intro m
    induction m with
    | zero =>
      intro fuel k x0 x1 x2 V hk hf hp
      obtain ⟨f, rfl⟩ : ∃ f, fuel = f + 1 := ⟨fuel - 1, by omega⟩
      have hk : k = n := by omega
      subst hk
      exact he _ x0 x1 x2 V hp
    | succ m ih =>
      intro fuel k x0 x1 x2 V hk hf hp
      obtain ⟨f, rfl⟩ : ∃ f, fuel = f + 1 := ⟨fuel - 1, by omega⟩
      exact hs _ k x0 x1 x2 V (by omega) hp (fun y0 y1 y2 V9 hq => ih f (k + 1) y0 y1 y2 V9 (by omega) (by omega) hq)
  intro fuel hf x0 x1 x2 V hp
  exact key n fuel 0 x0 x1 x2 V (by omega) hf hp
theorem lo5W_R {α : Type} {b : (Int32 → Int32 → Int32 → Int32 → Int32 → VT → Option α) → Int32 → Int32 → Int32 → Int32 → Int32 → VT → Option α} (R : Option α → Prop) (n : Nat) (P : Nat → Int32 → Int32 → Int32 → Int32 → VT → Prop) (hs : ∀ (K : Int32 → Int32 → Int32 → Int32 → Int32 → VT → Option α) (k : Nat) (x0 x1 x2 x3 : Int32) (V : VT), k < n → P k x0 x1 x2 x3 V → (∀ (y0 y1 y2 y3 : Int32) (V9 : VT), P (k + 1) y0 y1 y2 y3 V9 → R (K y0 y1 y2 y3 (nI (k + 1)) V9)) → R (b K x0 x1 x2 x3 (nI k) V)) (he : ∀ (K : Int32 → Int32 → Int32 → Int32 → Int32 → VT → Option α) (x0 x1 x2 x3 : Int32) (V : VT), P n x0 x1 x2 x3 V → R (b K x0 x1 x2 x3 (nI n) V)) : ∀ (fuel : Nat), n < fuel → ∀ (x0 x1 x2 x3 : Int32) (V : VT), P 0 x0 x1 x2 x3 V → R (lo5W b fuel x0 x1 x2 x3 (nI 0) V) := by
  have key : ∀ (m fuel k : Nat) (x0 x1 x2 x3 : Int32) (V : VT), k + m = n → m < fuel → P k x0 x1 x2 x3 V → R (lo5W b fuel x0 x1 x2 x3 (nI k) V) := by
    intro m
    induction m with
    | zero =>
      intro fuel k x0 x1 x2 x3 V hk hf hp
      obtain ⟨f, rfl⟩ : ∃ f, fuel = f + 1 := ⟨fuel - 1, by omega⟩
      have hk : k = n := by omega
      subst hk
      exact he _ x0 x1 x2 x3 V hp
    | succ m ih =>
      intro fuel k x0 x1 x2 x3 V hk hf hp
      obtain ⟨f, rfl⟩ : ∃ f, fuel = f + 1 := ⟨fuel - 1, by omega⟩
      exact hs _ k x0 x1 x2 x3 V (by omega) hp (fun y0 y1 y2 y3 V9 hq => ih f (k + 1) y0 y1 y2 y3 V9 (by omega) (by omega) hq)
  intro fuel hf x0 x1 x2 x3 V hp
  exact key n fuel 0 x0 x1 x2 x3 V (by omega) hf hp
theorem lo6W_R {α : Type} {b : (Int32 → Int32 → Int32 → Int32 → Int32 → Int32 → VT → Option α) → Int32 → Int32 → Int32 → Int32 → Int32 → Int32 → VT → Option α} (R : Option α → Prop) (n : Nat) (P : Nat → Int32 → Int32 → Int32 → Int32 → Int32 → VT → Prop) (hs : ∀ (K : Int32 → Int32 → Int32 → Int32 → Int32 → Int32 → VT → Option α) (k : Nat) (x0 x1 x2 x3 x4 : Int32) (V : VT), k < n → P k x0 x1 x2 x3 x4 V → (∀ (y0 y1 y2 y3 y4 : Int32) (V9 : VT), P (k + 1) y0 y1 y2 y3 y4 V9 → R (K y0 y1 y2 y3 y4 (nI (k + 1)) V9)) → R (b K x0 x1 x2 x3 x4 (nI k) V)) (he : ∀ (K : Int32 → Int32 → Int32 → Int32 → Int32 → Int32 → VT → Option α) (x0 x1 x2 x3 x4 : Int32) (V : VT), P n x0 x1 x2 x3 x4 V → R (b K x0 x1 x2 x3 x4 (nI n) V)) : ∀ (fuel : Nat), n < fuel → ∀ (x0 x1 x2 x3 x4 : Int32) (V : VT), P 0 x0 x1 x2 x3 x4 V → R (lo6W b fuel x0 x1 x2 x3 x4 (nI 0) V) := by
  have key : ∀ (m fuel k : Nat) (x0 x1 x2 x3 x4 : Int32) (V : VT), k + m = n → m < fuel → P k x0 x1 x2 x3 x4 V → R (lo6W b fuel x0 x1 x2 x3 x4 (nI k) V) := by
    intro m
    induction m with
    | zero =>
      intro fuel k x0 x1 x2 x3 x4 V hk hf hp
      obtain ⟨f, rfl⟩ : ∃ f, fuel = f + 1 := ⟨fuel - 1, by omega⟩
      have hk : k = n := by omega
      subst hk
      exact he _ x0 x1 x2 x3 x4 V hp
    | succ m ih =>
      intro fuel k x0 x1 x2 x3 x4 V hk hf hp
      obtain ⟨f, rfl⟩ : ∃ f, fuel = f + 1 := ⟨fuel - 1, by omega⟩
      exact hs _ k x0 x1 x2 x3 x4 V (by omega) hp (fun y0 y1 y2 y3 y4 V9 hq => ih f (k + 1) y0 y1 y2 y3 y4 V9 (by omega) (by omega) hq)
  intro fuel hf x0 x1 x2 x3 x4 V hp
  exact key n fuel 0 x0 x1 x2 x3 x4 V (by omega) hf hp
section
variable {V V' : VT} {σ : Sg} {g : Row} {E1 E2 : String} {u : Nat} {L : Nat → Bool} {H : HT}
theorem AI.frG (h : AI V σ) (hf : ∀ q, (q ≤ 9 ∨ (19 ≤ q ∧ q ≤ 101) ∨ q = 106 ∨ q = 108) → V' q = V q) (h105 : V' 105 1 = V 105 1) : AI V' σ := by
  obtain ⟨h1, ⟨o, h2, h3, h4, h5⟩, h6, ⟨h7, h8⟩, ⟨h9, h10⟩, h11, h12, h13⟩ := h
  have e := hf 0 (by omega)
  refine ⟨lr_frame (fun q _ _ => hf q (by omega)) h1, ⟨o, h2, by rw [hf 28 (by omega)]; exact h3, by rw [hf 28 (by omega)]; exact h4, fun k r q => lr_frame (fun q _ _ => hf q (by omega)) (h5 k r q)⟩, ?_, ⟨by rw [h105]; exact h7, fun i hi => by rw [hf 106 (by omega)]; exact h8 i hi⟩, ⟨by rw [e]; exact h9, fun i hi => by rw [hf 108 (by omega)]; exact h10 i hi⟩, by rw [e]; exact h11, by rw [e]; exact h12, by rw [e]; exact h13⟩
  unfold SI at h6 ⊢
  cases hs : σ.2.2.1 with
  | none => rw [hs] at h6; show V' 0 8 = _; rw [e]; exact h6
  | some r => rw [hs] at h6; exact ⟨by rw [e]; exact h6.1, lr_frame (fun q _ _ => hf q (by omega)) h6.2⟩
def hmk (g : Row) (h : Nat) : Nat := mk (fun o => decide (hu g o = nI h)) (gN g)
theorem i_noteHolders (r : LR V 1 g) (w : WF g) : ∃ V', d_X0_noteHolders V = some V' ∧ (∀ q, q ≠ 103 → V' q = V q) ∧ HM V' (hol g) := by
  have n7 := wf_n7 w
  have key : ∃ V' : VT, lo1W d_X0_noteHolders_2b FU (nI 0) V = some V' ∧ (∀ q, q ≠ 103 → V' q = V q) ∧ ∀ h, h < 5 → V' 103 h = nI (hmk g h) := by
    refine lo1W_R (fun o : Option VT => ∃ V' : VT, o = some V' ∧ (∀ q, q ≠ 103 → V' q = V q) ∧ ∀ h, h < 5 → V' 103 h = nI (hmk g h)) 5 (fun k Vk => (∀ q, q ≠ 103 → Vk q = V q) ∧ ∀ h, h < k → Vk 103 h = nI (hmk g h)) ?_ ?_ FU (show 5 < 1000 by omega) V ⟨fun _ _ => rfl, fun h hh => by omega⟩
    · rintro K k Vk hk ⟨h1, h2⟩ hK
      unfold d_X0_noteHolders_2b d_X0_noteHolders_16
      simp (disch := omega) only [↓iM_def, i_0, i_1, i_2, i_3, i_4, i_5, i_6, i_7, i_8, i_9, i_10, i_12, i_17, i_29, i_31, i_33, i_36, i_37, i_40, i_41, i_42, i_43, i_44, i_45, i_47, i_48, i_50, i_53, i_55, i_56, i_57, i_58, i_59, i_60, i_61, i_98, i_99, i_100, i_102, i_104, i_106, i_110, i_112, i_119, i_120, i_128, i_392, i_448, nI_add, nI_leI, nI_ltI, nI_eq, nI_clamp, iM_le, iM_lt, iM_nle, iM_nlt, iM_ne, iM_ne', Nat.add_zero, pk_mul, asr_inb, bd_some, bw_some, bx_inl, bx_inr, bh_inl, bh_inr, b2_eq0, b2_eq1, asr_zok, nz_nI]
      rw [if_neg (by omega)]
      refine lo2W_R (fun o : Option VT => ∃ V' : VT, o = some V' ∧ (∀ q, q ≠ 103 → V' q = V q) ∧ ∀ h, h < 5 → V' 103 h = nI (hmk g h)) (gN g) (fun j y0 Vj => y0 = nI k ∧ (∀ q, q ≠ 103 → Vj q = V q) ∧ (∀ h, h < k → Vj 103 h = nI (hmk g h)) ∧ Vj 103 k = nI (mk (fun o => decide (hu g o = nI k)) j)) ?_ ?_ FU (show gN g < 1000 by omega) _ _ ⟨rfl, fun q hq => by rw [up2_ne hq]; exact h1 q hq, fun h hh => by rw [up2_at, upd_ne (by omega)]; exact h2 h hh, by rw [up2_at, upd_eq]; rfl⟩
      · rintro K2 j y0 Vj hj ⟨rfl, a1, a2, a3⟩ hK2
        have rj : LR Vj 1 g := lr_frame (fun q _ _ => a1 q (by omega)) r
        unfold d_X0_noteHolders_16b
        simp (disch := omega) only [↓iM_def, i_0, i_1, i_2, i_3, i_4, i_5, i_6, i_7, i_8, i_9, i_10, i_12, i_17, i_29, i_31, i_33, i_36, i_37, i_40, i_41, i_42, i_43, i_44, i_45, i_47, i_48, i_50, i_53, i_55, i_56, i_57, i_58, i_59, i_60, i_61, i_98, i_99, i_100, i_102, i_104, i_106, i_110, i_112, i_119, i_120, i_128, i_392, i_448, nI_add, nI_leI, nI_ltI, nI_eq, nI_clamp, iM_le, iM_lt, iM_nle, iM_nlt, iM_ne, iM_ne', Nat.add_zero, pk_mul, asr_inb, bd_some, bw_some, bx_inl, bx_inr, bh_inl, bh_inr, b2_eq0, b2_eq1, asr_zok, nz_nI, lr_n rj w, lr_hu rj, a3, set_nI]
        rw [if_neg (by omega)]
        by_cases hq : hu g j = nI k
        · rw [if_pos hq]
          refine hK2 _ _ ⟨rfl, fun q hq => by rw [up2_ne hq]; exact a1 q hq, fun h hh => by rw [up2_at, upd_ne (by omega)]; exact a2 h hh, ?_⟩
          rw [up2_at, upd_eq, mk_s, if_pos (by simp [hq])]
        · rw [if_neg hq]
          refine hK2 _ _ ⟨rfl, a1, a2, ?_⟩
          rw [a3, mk_s, if_neg (by simp [hq]), Nat.or_zero]
      · rintro K2 y0 Vj ⟨rfl, a1, a2, a3⟩
        have rj : LR Vj 1 g := lr_frame (fun q _ _ => a1 q (by omega)) r
        unfold d_X0_noteHolders_16b
        simp (disch := omega) only [↓iM_def, i_0, i_1, i_2, i_3, i_4, i_5, i_6, i_7, i_8, i_9, i_10, i_12, i_17, i_29, i_31, i_33, i_36, i_37, i_40, i_41, i_42, i_43, i_44, i_45, i_47, i_48, i_50, i_53, i_55, i_56, i_57, i_58, i_59, i_60, i_61, i_98, i_99, i_100, i_102, i_104, i_106, i_110, i_112, i_119, i_120, i_128, i_392, i_448, nI_add, nI_leI, nI_ltI, nI_eq, nI_clamp, iM_le, iM_lt, iM_nle, iM_nlt, iM_ne, iM_ne', Nat.add_zero, pk_mul, asr_inb, bd_some, bw_some, bx_inl, bx_inr, bh_inl, bh_inr, b2_eq0, b2_eq1, asr_zok, nz_nI, lr_n rj w, Nat.le_refl, if_true]
        refine hK _ ⟨a1, fun h hh => ?_⟩
        by_cases e : h = k
        · rw [e]; exact a3
        · exact a2 h (by omega)
    · rintro K Vk ⟨h1, h2⟩
      unfold d_X0_noteHolders_2b
      simp (disch := omega) only [↓iM_def, i_0, i_1, i_2, i_3, i_4, i_5, i_6, i_7, i_8, i_9, i_10, i_12, i_17, i_29, i_31, i_33, i_36, i_37, i_40, i_41, i_42, i_43, i_44, i_45, i_47, i_48, i_50, i_53, i_55, i_56, i_57, i_58, i_59, i_60, i_61, i_98, i_99, i_100, i_102, i_104, i_106, i_110, i_112, i_119, i_120, i_128, i_392, i_448, nI_add, nI_leI, nI_ltI, nI_eq, nI_clamp, iM_le, iM_lt, iM_nle, iM_nlt, iM_ne, iM_ne', Nat.add_zero, pk_mul, asr_inb, bd_some, bw_some, bx_inl, bx_inr, bh_inl, bh_inr, b2_eq0, b2_eq1, asr_zok, nz_nI, Nat.le_refl, if_true]
      exact ⟨Vk, rfl, h1, h2⟩
  obtain ⟨V', a1, a2, a3⟩ := key
  refine ⟨V', a1, a2, fun h hh => ⟨hmk g h, Nat.lt_of_lt_of_le (mk_lt _ _) (Nat.pow_le_pow_right (n := 2) (by omega) n7), a3 h hh, fun o ho => ?_⟩⟩
  unfold hmk hol
  rw [mk_bit]
theorem lft_n {d : Nat} (h : lft g d = true) : d < gN g := by
  unfold lft at h
  simp only [Bool.and_eq_true, decide_eq_true_eq] at h
  exact h.1
theorem opn_bit {i : Nat} : (opn g).testBit i = lft g i := by
  unfold opn lft
  rw [mk_bit]
theorem hol_lft {h o : Nat} (hh : h < 5) (hl : lft g o = true) : hol g h o = false := by
  unfold lft at hl
  simp only [Bool.and_eq_true, Bool.not_eq_true'] at hl
  have h2 := hl.2
  rw [ptd_f] at h2
  unfold hol
  have : ¬ iM = nI h := fun q => (iM_ne' (by omega)).mp q
  rw [h2, decide_eq_false this, Bool.and_false]
theorem i_count (r : LR V 1 g) (w : WF g) (hu5 : u ≤ 5) : ∃ V', d_X0_count (nI u) V = some (nI (wys g u), V') ∧ ∀ q, q ≠ 103 → V' q = V q := by
  obtain ⟨V2, a1, a2, a3⟩ := i_noteHolders r w
  have r2 : LR V2 1 g := lr_frame (fun q _ _ => a2 q (by omega)) r
  unfold d_X0_count d_X0_countFrom
  rw [a1, bd_some, i_unpainted r2 w, bd_some, i_0, i_countFrom w hu5 (opn_lt w) (L := lft g) (fun i _ => opn_bit) (fun d hd => lft_n hd) 7 0 12 V2 (hol g) rfl (by omega) r2 a3 (fun h o _ hl hh => hol_lft hh hl), bw_some]
  exact ⟨V2, rfl, a2⟩
theorem I_ways (h : AI V σ) (K : OKs σ) : DN (d_X4_ways V) V (nI (wys σ.1 (gU σ.1))) σ := by
  obtain ⟨V', a1, a2⟩ := i_count h.1 K.w (wf_u5 K.w)
  unfold d_X4_ways
  rw [lr_u h.1 K.w, a1, bw_some]
  exact ⟨V', rfl, h.frG (fun q hq => a2 q (by omega)) (by rw [a2 105 (by omega)]), fun q hq => a2 q (by omega)⟩
/-- what the reference has tried so far -/
def HV (g : Row) (V : VT) (c : Nat) : HT := fun h o => decide (o < gN g) && (if ptd g o = true then decide (hu g o = nI h) else (decide (o < c) && decide (V 116 o = nI h)))
theorem m_clashes (w : WF (V 110)) {c t h : Nat} (hc : c < 7) (ht : t ≤ 7) : d_X5_clashes (nI c) (nI h) (nI t) V = some (b2 (bl (V 110) c h (HV (V 110) V t))) := by
  have n7 := wf_n7 w
  unfold d_X5_clashes d_X5_clashes_3
  refine lo4_inv (gN (V 110)) (fun k y0 y1 y2 => y0 = nI c ∧ y1 = nI h ∧ y2 = nI t ∧ ex (fun o => tt (V 110) c o && HV (V 110) V t h o) k = false) ?_ ?_ FU (show gN (V 110) < 1000 by omega) _ _ _ ⟨rfl, rfl, rfl, rfl⟩
  · rintro K k y0 y1 y2 hk ⟨rfl, rfl, rfl, hf⟩ hK
    have go : (tt (V 110) c k && HV (V 110) V t h k) = false → K (nI c) (nI h) (nI t) (nI (k + 1)) = some (b2 (bl (V 110) c h (HV (V 110) V t))) := fun q => hK _ _ _ ⟨rfl, rfl, rfl, by rw [ex_s, hf, q]; rfl⟩
    have st : (tt (V 110) c k && HV (V 110) V t h k) = true → some (nI 1) = some (b2 (bl (V 110) c h (HV (V 110) V t))) := fun q => by
      have : bl (V 110) c h (HV (V 110) V t) = true := ex_iff.mpr ⟨k, hk, q⟩
      rw [this]; rfl
    unfold d_X5_clashes_3b
    simp (disch := omega) only [↓iM_def, i_0, i_1, i_2, i_3, i_4, i_5, i_6, i_7, i_8, i_9, i_10, i_12, i_17, i_29, i_31, i_33, i_36, i_37, i_40, i_41, i_42, i_43, i_44, i_45, i_47, i_48, i_50, i_53, i_55, i_56, i_57, i_58, i_59, i_60, i_61, i_98, i_99, i_100, i_102, i_104, i_106, i_110, i_112, i_119, i_120, i_128, i_392, i_448, nI_add, nI_leI, nI_ltI, nI_eq, nI_clamp, iM_le, iM_lt, iM_nle, iM_nlt, iM_ne, iM_ne', Nat.add_zero, pk_mul, asr_inb, bd_some, bw_some, bx_inl, bx_inr, bh_inl, bh_inr, b2_eq0, b2_eq1, asr_zok, nz_nI, wf_n w, m_touches w, m_isP w, m_hu]
    rw [if_neg (by omega)]
    cases h1 : tt (V 110) c k with
    | false => rw [if_pos rfl]; exact go (by rw [h1]; rfl)
    | true =>
      rw [if_neg (by decide)]
      unfold HV at go st
      rw [h1, decide_eq_true hk] at go st
      cases h2 : ptd (V 110) k with
      | false =>
        rw [h2, if_neg (by decide)] at go st
        rw [if_pos rfl]
        by_cases h3 : t ≤ k
        · rw [if_pos h3]; exact go (by rw [decide_eq_false (show ¬ k < t by omega)]; rfl)
        · rw [if_neg h3]
          rw [decide_eq_true (show k < t by omega)] at go st
          by_cases h4 : V 116 k = nI h
          · rw [if_pos h4]; exact st (by rw [decide_eq_true h4]; rfl)
          · rw [if_neg h4]; exact go (by rw [decide_eq_false h4]; rfl)
      | true =>
        rw [h2, if_pos rfl] at go st
        rw [if_neg (by decide)]
        by_cases h4 : hu (V 110) k = nI h
        · rw [if_pos h4]; exact st (by rw [decide_eq_true h4]; rfl)
        · rw [if_neg h4]; exact go (by rw [decide_eq_false h4]; rfl)
  · rintro K y0 y1 y2 ⟨rfl, rfl, rfl, hf⟩
    unfold d_X5_clashes_3b
    simp (disch := omega) only [↓iM_def, i_0, i_1, i_2, i_3, i_4, i_5, i_6, i_7, i_8, i_9, i_10, i_12, i_17, i_29, i_31, i_33, i_36, i_37, i_40, i_41, i_42, i_43, i_44, i_45, i_47, i_48, i_50, i_53, i_55, i_56, i_57, i_58, i_59, i_60, i_61, i_98, i_99, i_100, i_102, i_104, i_106, i_110, i_112, i_119, i_120, i_128, i_392, i_448, nI_add, nI_leI, nI_ltI, nI_eq, nI_clamp, iM_le, iM_lt, iM_nle, iM_nlt, iM_ne, iM_ne', Nat.add_zero, pk_mul, asr_inb, bd_some, bw_some, bx_inl, bx_inr, bh_inl, bh_inr, b2_eq0, b2_eq1, asr_zok, nz_nI, wf_n w, Nat.le_refl, if_true]
    have : bl (V 110) c h (HV (V 110) V t) = false := hf
    rw [this]; rfl
theorem wm_bl (w x : Nat) : ∀ (m c : Nat) (H H' : HT), (∀ d h, c ≤ d → L d = true → h < u → bl g d h H = bl g d h H') → (∀ d, L d = true → d < gN g) → wm g u L w x m c H = wm g u L w x m c H'
  | 0, _, _, _, _, _ => rfl
  | m + 1, c, H, H', h, hL => by
    rw [wm_s, wm_s]
    by_cases hc : L c = true
    · rw [if_pos hc, if_pos hc]
      refine sumN_congr (fun i hi => ?_)
      rw [h c i (Nat.le_refl _) hc hi]
      by_cases hb : (c = w ∧ i ≠ x) ∨ bl g c i H' = true
      · rw [if_pos hb, if_pos hb]
      · rw [if_neg hb, if_neg hb]
        refine wm_bl w x m (c + 1) _ _ (fun d h' hd hLd hh => ?_) hL
        rw [bl_st g (hL c hc), bl_st g (hL c hc), h d h' (by omega) hLd hh]
    · rw [if_neg hc, if_neg hc]
      exact wm_bl w x m (c + 1) _ _ (fun d h' hd hLd hh => h d h' (by omega) hLd hh) hL
theorem m_waysFrom {x3 x4 : Int32} {w x : Nat} (hw : WF g) (hu5 : u ≤ 5) (hx3 : ∀ c, c < 7 → ((nI c = x3) = (c = w))) (hx4 : w < 7 → ∀ h, h < 5 → ((nI h = x4) = (h = x))) : ∀ (m c fuel : Nat) (V : VT), c + m = 7 → m < fuel → c ≤ gN g → V 110 = g →
    ∃ V', lo4W d_X5_waysFromb fuel (nI c) (nI u) x3 x4 V = some (nI (wm g u (lft g) w x m c (HV g V c)), V') ∧ (∀ q, q ≠ 116 → V' q = V q) ∧ ∀ i, i < c → V' 116 i = V 116 i := by
  have n7 := wf_n7 hw
  intro m
  induction m with
  | zero =>
    intro c fuel V hc hf hn hg
    obtain ⟨f, rfl⟩ : ∃ f, fuel = f + 1 := ⟨fuel - 1, by omega⟩
    have h7 : c = gN g := by omega
    refine ⟨V, ?_, fun _ _ => rfl, fun _ _ => rfl⟩
    show d_X5_waysFromb _ _ _ _ _ _ = _
    generalize lo4W d_X5_waysFromb f = KK
    unfold d_X5_waysFromb
    rw [hg, wf_n hw, if_pos (by rw [h7])]
    rfl
  | succ m ih =>
    intro c fuel V hc hf hn hg
    obtain ⟨f, rfl⟩ : ∃ f, fuel = f + 1 := ⟨fuel - 1, by omega⟩
    have wV : WF (V 110) := by rw [hg]; exact hw
    show ∃ V', d_X5_waysFromb (lo4W d_X5_waysFromb f) _ _ _ _ _ = some (_, V') ∧ _
    have ihf := fun c V h1 h2 h3 => ih c f V h1 (by omega) h2 h3
    generalize lo4W d_X5_waysFromb f = KK at ihf
    unfold d_X5_waysFromb
    rw [hg, wf_n hw]
    by_cases h7 : c = gN g
    · rw [if_pos (by rw [h7]), wm_tail w x (m + 1) c _ (fun d hd => by unfold lft; rw [decide_eq_false (show ¬ d < gN g by omega)]; rfl)]
      exact ⟨V, rfl, fun _ _ => rfl, fun _ _ => rfl⟩
    · have hcn : c < gN g := by omega
      rw [if_neg (by rw [nI_eq (by omega) (by omega)]; exact h7), m_isP wV (by omega), bd_some, hg]
      have hlc : lft g c = !ptd g c := by unfold lft; rw [decide_eq_true hcn]; rfl
      rw [wm_s]
      simp only [i_0, i_1, b2_eq0]
      cases hp : ptd g c with
      | true =>
        rw [hlc, hp, if_neg (show ¬ true = false by decide), if_neg (show ¬ (!true) = true by decide)]
        obtain ⟨V', a1, a2, a3⟩ := ihf (c + 1) V (by omega) (by omega) hg
        have e1 : nI c + nI 1 = nI (c + 1) := nI_add _ _
        rw [e1, a1, bw_some]
        refine ⟨V', ?_, a2, fun i hi => a3 i (by omega)⟩
        rw [wm_bl w x m (c + 1) (HV g V c) (HV g V (c + 1)) (fun d h hd _ _ => bl_congr (fun o ho => ?_)) (fun d hd => lft_n hd)]
        unfold HV
        by_cases e : o = c
        · rw [e, hp]; rfl
        · have : decide (o < c) = decide (o < c + 1) := by apply decide_eq_decide.mpr; omega
          rw [this]
      | false =>
        rw [hlc, hp, if_pos (show false = false from rfl), if_pos (show (!false) = true from rfl)]
        unfold d_X5_waysFrom_38
        refine lo6W_R (fun o : Option (Int32 × VT) => ∃ V' : VT, o = some (nI (sumN (fun h => if (c = w ∧ h ≠ x) ∨ bl g c h (HV g V c) = true then 0 else wm g u (lft g) w x m (c + 1) (stH (HV g V c) h c)) u), V') ∧ (∀ q, q ≠ 116 → V' q = V q) ∧ ∀ i, i < c → V' 116 i = V 116 i) u
          (fun k y0 y1 y2 y3 y4 Vk => y0 = nI c ∧ y1 = nI u ∧ y2 = x3 ∧ y3 = x4 ∧ y4 = nI (sumN (fun h => if (c = w ∧ h ≠ x) ∨ bl g c h (HV g V c) = true then 0 else wm g u (lft g) w x m (c + 1) (stH (HV g V c) h c)) k) ∧ (∀ q, q ≠ 116 → Vk q = V q) ∧ ∀ i, i < c → Vk 116 i = V 116 i) ?_ ?_ FU (show u < 1000 by omega) _ _ _ _ _ _ ⟨rfl, rfl, rfl, rfl, rfl, fun _ _ => rfl, fun _ _ => rfl⟩
        · rintro K2 k y0 y1 y2 y3 y4 Vk hk ⟨rfl, rfl, rfl, rfl, rfl, b1, b2'⟩ hK
          have hgk : Vk 110 = g := by rw [b1 110 (by omega)]; exact hg
          have wk : WF (Vk 110) := by rw [hgk]; exact hw
          have eH : ∀ h o, o < gN g → HV g Vk c h o = HV g V c h o := fun h o _ => by
            unfold HV
            by_cases e : o < c
            · rw [b2' o e]
            · rw [decide_eq_false e]; rfl
          have eB : ∀ h, bl g c h (HV g Vk c) = bl g c h (HV g V c) := fun h => bl_congr (fun o ho => eH h o ho)
          have step : ¬ (c = w ∧ k ≠ x) → (fun o : Option (Int32 × VT) => ∃ V' : VT, o = some (nI (sumN (fun h => if (c = w ∧ h ≠ x) ∨ bl g c h (HV g V c) = true then 0 else wm g u (lft g) w x m (c + 1) (stH (HV g V c) h c)) u), V') ∧ (∀ q, q ≠ 116 → V' q = V q) ∧ ∀ i, i < c → V' 116 i = V 116 i) (d_X5_waysFrom_56 KK K2 (nI c) (nI u) y2 y3 (nI (sumN (fun h => if (c = w ∧ h ≠ x) ∨ bl g c h (HV g V c) = true then 0 else wm g u (lft g) w x m (c + 1) (stH (HV g V c) h c)) k)) (nI k) Vk) := by
            intro hcw
            unfold d_X5_waysFrom_56
            rw [m_clashes wk (by omega) (by omega), bd_some, hgk, eB]
            simp only [i_0, i_1, b2_eq0, nI_add]
            cases hb : bl g c k (HV g V c) with
            | true =>
              rw [if_neg (show ¬ true = false by decide)]
              refine hK _ _ _ _ _ _ ⟨rfl, rfl, rfl, rfl, ?_, b1, b2'⟩
              rw [sumN_s, hb, if_pos (Or.inr rfl)]
              rfl
            | false =>
              rw [if_pos (show false = false from rfl), asr_inb (by omega) (by omega), nI_clamp (n := c) (by omega)]
              obtain ⟨V', a1, a2, a3⟩ := ihf (c + 1) (up2 Vk 116 c (nI k)) (by omega) (by omega) (by rw [up2_ne (by omega)]; exact hgk)
              rw [a1, bw_some, nI_add]
              refine hK _ _ _ _ _ _ ⟨rfl, rfl, rfl, rfl, ?_, fun q hq => by rw [a2 q hq, up2_ne hq, b1 q hq], fun i hi => by rw [a3 i (by omega), up2_at, upd_ne (by omega), b2' i hi]⟩
              rw [sumN_s, hb, if_neg (fun z => z.elim hcw (fun z => by cases z))]
              rw [wm_bl w x m (c + 1) (HV g (up2 Vk 116 c (nI k)) (c + 1)) (stH (HV g V c) k c) (fun d h hd _ hh => bl_congr (fun o ho => ?_)) (fun d hd => lft_n hd)]
              have := eH h o ho
              unfold HV at this ⊢
              unfold stH
              dsimp only
              by_cases e : o = c
              · subst e
                rw [hp, decide_eq_true ho, if_neg (by decide), if_neg (by decide), decide_eq_true (show o < o + 1 by omega), decide_eq_false (show ¬ o < o by omega), up2_at, upd_eq]
                have e5 : decide (nI k = nI h) = decide (h = k) := by
                  apply decide_eq_decide.mpr
                  rw [nI_eq (by omega) (by omega)]
                  exact eq_comm
                rw [e5]; simp
              · have e6 : decide (o < c + 1) = decide (o < c) := by apply decide_eq_decide.mpr; omega
                rw [up2_at, upd_ne e, e6, decide_eq_false e, Bool.and_false, Bool.or_false]
                exact this
          unfold d_X5_waysFrom_38b
          simp (disch := omega) only [nI_add, nI_leI, nI_ltI, nI_eq, nI_clamp, iM_le, iM_lt, iM_nle, iM_nlt, iM_ne, iM_ne', Nat.add_zero, pk_mul, hx3]
          rw [if_neg (by omega)]
          by_cases h1 : c = w
          · rw [if_pos h1]
            have e4 := hx4 (by omega) k (by omega)
            simp only [e4]
            by_cases h2 : k = x
            · rw [if_pos h2]; exact step (fun z => z.2 h2)
            · rw [if_neg h2]
              simp only [i_1, nI_add]
              refine hK _ _ _ _ _ _ ⟨rfl, rfl, rfl, rfl, ?_, b1, b2'⟩
              rw [sumN_s, if_pos (Or.inl ⟨h1, h2⟩)]
              rfl
          · rw [if_neg h1]; exact step (fun z => h1 z.1)
        · rintro K2 y0 y1 y2 y3 y4 Vk ⟨rfl, rfl, rfl, rfl, rfl, b1, b2'⟩
          unfold d_X5_waysFrom_38b
          simp (disch := omega) only [nI_add, nI_leI, nI_ltI, nI_eq, nI_clamp, iM_le, iM_lt, iM_nle, iM_nlt, iM_ne, iM_ne', Nat.add_zero, pk_mul, Nat.le_refl, if_true]
          exact ⟨Vk, rfl, b1, b2'⟩
end
