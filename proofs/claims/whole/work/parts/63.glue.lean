/-! PURE ROWS: the law's cases under the invariant (wip/whole/gen/mkglue.py) -/
def Inv (V : VT) : Prop := ∃ σ : Sg, AI V σ ∧ AJ V σ ∧ OKs σ
def GL (dL : Option (Int32 × VT)) (V : VT) (sp : (Int32 ⊕ Nat) × Sg) : Prop := ∃ V1, dL = some (cE sp.1, V1) ∧ AI V1 sp.2 ∧ (∀ q, 109 ≤ q → q < 118 → V1 q = V q) ∧ ∀ v, sp.1 = .inl v → V1 118 0 = v
theorem AI.up118 {V : VT} {σ : Sg} (h : AI V σ) (x : Int32) : AI (up2 V 118 0 x) σ := h.fr (fun q hq => up2_ne (by omega))
theorem gl2 {E1 E2 : String} {d : Option ((Int32 ⊕ String) × VT)} {V : VT} {sp : (Int32 ⊕ Nat) × Sg} (hE : E1 ≠ E2) (h : DI E1 E2 d V sp) (hc : ∀ c, sp.1 = .inr c → c = 1 ∨ c = 2) : GL (bh d (fun r6 V3 => some ((0 : Int32), (up2 V3 118 0 r6))) (fun E9 V3 => if E9 = E1 then some ((1 : Int32), V3) else if E9 = E2 then some ((2 : Int32), V3) else none)) V sp := by
  obtain ⟨V', h1, h2, h3⟩ := h
  obtain ⟨o, σ'⟩ := sp
  rw [h1]
  cases o with
  | inl v => exact ⟨up2 V' 118 0 v, rfl, h2.up118 v, fun q a b => by rw [up2_ne (by omega)]; exact h3 q a, fun w hw => by cases hw; rw [up2_at, upd_eq]⟩
  | inr c =>
    rcases hc c rfl with rfl | rfl
    · refine ⟨V', ?_, h2, fun q a _ => h3 q a, fun w hw => by cases hw⟩
      show (if E1 = E1 then some ((1 : Int32), V') else if E1 = E2 then some ((2 : Int32), V') else none) = _
      rw [if_pos rfl]; rfl
    · refine ⟨V', ?_, h2, fun q a _ => h3 q a, fun w hw => by cases hw⟩
      show (if E2 = E1 then some ((1 : Int32), V') else if E2 = E2 then some ((2 : Int32), V') else none) = _
      rw [if_neg (Ne.symm hE), if_pos rfl]; rfl
theorem gl1 {E1 E2 : String} {d : Option ((Int32 ⊕ String) × VT)} {V : VT} {sp : (Int32 ⊕ Nat) × Sg} (h : DI E1 E2 d V sp) (hc : ∀ c, sp.1 = .inr c → c = 1) : GL (bh d (fun r6 V3 => some ((0 : Int32), (up2 V3 118 0 r6))) (fun E9 V3 => if E9 = E1 then some ((1 : Int32), V3) else none)) V sp := by
  obtain ⟨V', h1, h2, h3⟩ := h
  obtain ⟨o, σ'⟩ := sp
  rw [h1]
  cases o with
  | inl v => exact ⟨up2 V' 118 0 v, rfl, h2.up118 v, fun q a b => by rw [up2_ne (by omega)]; exact h3 q a, fun w hw => by cases hw; rw [up2_at, upd_eq]⟩
  | inr c =>
    obtain rfl := hc c rfl
    refine ⟨V', ?_, h2, fun q a _ => h3 q a, fun w hw => by cases hw⟩
    show (if E1 = E1 then some ((1 : Int32), V') else none) = _
    rw [if_pos rfl]; rfl
def gA (dL : Option (Int32 × VT)) (dM : VT → Option (Int32 × VT)) : Option VT := bw dL (fun r2 V3 => bw (dM V3) (fun r5 V6 => bd (d_X5_thrown V6) (fun r8 => if r8 = r2 then if r2 = (0 : Int32) then if (V6 118 (0 : Int32).toNatClampNeg) = r5 then some V6 else none else some V6 else none)))
theorem cE_0 {o : Int32 ⊕ Nat} (hc : ∀ c, o = .inr c → c = 1 ∨ c = 2) : (∃ v, o = .inl v ∧ cE o = (0 : Int32)) ∨ ¬ cE o = (0 : Int32) := by
  cases o with
  | inl v => exact Or.inl ⟨v, rfl, rfl⟩
  | inr c =>
    right
    rcases hc c rfl with rfl | rfl <;> decide +kernel
theorem gA_ok {dL : Option (Int32 × VT)} {dM : VT → Option (Int32 × VT)} {V : VT} {σ : Sg} {sp : (Int32 ⊕ Nat) × Sg} (hK : OKs sp.2) (hL : GL dL V sp) (hM : ∀ V1, AJ V1 σ → DM (dM V1) V1 sp) (hJ : AJ V σ) (hc : ∀ c, sp.1 = .inr c → c = 1 ∨ c = 2) : ∃ V', gA dL dM = some V' ∧ Inv V' := by
  obtain ⟨V1, h1, h2, h3, h4⟩ := hL
  obtain ⟨b, V2, m1, m2, m3, m4, m5⟩ := hM V1 (hJ.fr (fun q a c => h3 q a c))
  have inv : Inv V2 := ⟨sp.2, h2.frM m3, m2, hK⟩
  refine ⟨V2, ?_, inv⟩
  unfold gA d_X5_thrown
  rw [h1, bw_some, m1, bw_some, bd_some, if_pos m4]
  rcases cE_0 hc with ⟨v, hv, e⟩ | e
  · rw [if_pos e, if_pos]
    show V2 118 0 = b
    rw [m5 v hv, m3 118 (by omega)]
    exact h4 v hv
  · rw [if_neg e]
def gB (dI : Option (Int32 × VT)) (dM : VT → Option (Int32 × VT)) : Option VT := bw dI (fun r2 V3 => bw (dM V3) (fun r5 V6 => if r2 = r5 then some V6 else none))
theorem gB_ok {dI : Option (Int32 × VT)} {dM : VT → Option (Int32 × VT)} {V : VT} {σ σ' : Sg} {v : Int32} (hK : OKs σ') (hI : DN dI V v σ') (hM : ∀ V1, AJ V1 σ → DM (dM V1) V1 (.inl v, σ')) (hJ : AJ V σ) : ∃ V', gB dI dM = some V' ∧ Inv V' := by
  obtain ⟨V1, h1, h2, h3⟩ := hI
  obtain ⟨b, V2, m1, m2, m3, m4, m5⟩ := hM V1 (hJ.frI h3)
  refine ⟨V2, ?_, σ', h2.frM m3, m2, hK⟩
  unfold gB
  rw [h1, bw_some, m1, bw_some, if_pos (m5 v rfl).symm]
def gC (dI : Option Int32) (dM : Option (Int32 × VT)) : Option VT := bd dI (fun r2 => bw dM (fun r4 V5 => if r2 = r4 then some V5 else none))
theorem gC_ok {dI : Option Int32} {dM : Option (Int32 × VT)} {V : VT} {σ : Sg} {v : Int32} (hK : OKs σ) (h : AI V σ) (hI : dI = some v) (hM : DM dM V (.inl v, σ)) : ∃ V', gC dI dM = some V' ∧ Inv V' := by
  obtain ⟨b, V2, m1, m2, m3, m4, m5⟩ := hM
  refine ⟨V2, ?_, σ, h.frM m3, m2, hK⟩
  unfold gC
  rw [hI, bd_some, m1, bw_some, if_pos (m5 v rfl).symm]
theorem er_read (σ : Sg) : ∀ c, (spRead σ).1 = .inr c → c = 1 ∨ c = 2 := by
  intro c hc
  unfold spRead at hc
  by_cases h : (pT σ.2.2.2.1.2 σ.2.2.2.1.1 31 0).1 = true
  · rw [if_pos h] at hc
    cases hr : (rn (pT σ.2.2.2.1.2 σ.2.2.2.1.1 31 0).2.2 (er σ iM) 0).1 with
    | inl v => rw [hr] at hc; cases hc
    | inr c' =>
      rw [hr] at hc
      cases hc
      have key : ∀ (os : List (Int32 × List Nat)) σ k c, (rn os σ k).1 = .inr c → c = 1 ∨ c = 2 := by
        intro os
        induction os with
        | nil => intro σ k c q; cases q
        | cons o os ih =>
          intro σ k c q
          cases he : (exo σ o).1 with
          | inl v => rw [rn_inl he] at q; exact ih _ _ _ q
          | inr c2 =>
            rw [rn_inr he] at q
            have q : (Sum.inr (if isRf o.1 c2 = true then 2 else 1) : Int32 ⊕ Nat) = .inr c := q
            cases q
            by_cases z : isRf o.1 c2 = true
            · rw [if_pos z]; exact Or.inr rfl
            · rw [if_neg z]; exact Or.inl rfl
      exact key _ _ _ _ hr
  · rw [if_neg h] at hc; cases hc; exact Or.inl rfl

theorem er_country (σ : Sg) (x1 : Int32) : ∀ c, (spCountry σ x1).1 = .inr c → c = 1 ∨ c = 2 := by
  unfold spCountry
  repeat' split
  all_goals (intro c hc; first | (cases hc; exact Or.inl rfl) | (cases hc; exact Or.inr rfl) | cases hc)
theorem c0_ok (V : VT) (x1 x2 x3 : Int32) (h : Inv V) : ∃ V', d_law_c0 x1 x2 x3 V = some V' ∧ Inv V' := by
  obtain ⟨σ, h, hJ, K⟩ := h
  exact gA_ok (dM := fun V => d_X5_country x1 V) (sp := spCountry σ x1) (K_country K x1) (gl2 (by decide) (I_country h K x1) (er_country σ x1)) (fun V1 h => M_country h K x1) hJ (er_country σ x1)
theorem er_border (σ : Sg) (x1 x2 : Int32) : ∀ c, (spBorder σ x1 x2).1 = .inr c → c = 1 ∨ c = 2 := by
  unfold spBorder
  repeat' split
  all_goals (intro c hc; first | (cases hc; exact Or.inl rfl) | (cases hc; exact Or.inr rfl) | cases hc)
theorem c1_ok (V : VT) (x1 x2 x3 : Int32) (h : Inv V) : ∃ V', d_law_c1 x1 x2 x3 V = some V' ∧ Inv V' := by
  obtain ⟨σ, h, hJ, K⟩ := h
  exact gA_ok (dM := fun V => d_X5_border x1 x2 V) (sp := spBorder σ x1 x2) (K_border K x1 x2) (gl2 (by decide) (I_border h K x1 x2) (er_border σ x1 x2)) (fun V1 h => M_border h K x1 x2) hJ (er_border σ x1 x2)
theorem er_erase (σ : Sg) (x1 x2 : Int32) : ∀ c, (spErase σ x1 x2).1 = .inr c → c = 1 ∨ c = 2 := by
  unfold spErase
  repeat' split
  all_goals (intro c hc; first | (cases hc; exact Or.inl rfl) | (cases hc; exact Or.inr rfl) | cases hc)
theorem c2_ok (V : VT) (x1 x2 x3 : Int32) (h : Inv V) : ∃ V', d_law_c2 x1 x2 x3 V = some V' ∧ Inv V' := by
  obtain ⟨σ, h, hJ, K⟩ := h
  exact gA_ok (dM := fun V => d_X5_erase x1 x2 V) (sp := spErase σ x1 x2) (K_erase K x1 x2) (gl2 (by decide) (I_erase h K x1 x2) (er_erase σ x1 x2)) (fun V1 h => M_erase h K x1 x2) hJ (er_erase σ x1 x2)
theorem er_countryOf (σ : Sg) (x1 x2 : Int32) : ∀ c, (spCountryOf σ x1 x2).1 = .inr c → c = 1 ∨ c = 2 := by
  unfold spCountryOf
  repeat' split
  all_goals (intro c hc; first | (cases hc; exact Or.inl rfl) | (cases hc; exact Or.inr rfl) | cases hc)
theorem KS_countryOf {σ : Sg} (K : OKs σ) (x1 x2 : Int32) : OKs (spCountryOf σ x1 x2).2 := by
  unfold spCountryOf
  repeat' split
  all_goals exact K
theorem c4_ok (V : VT) (x1 x2 x3 : Int32) (h : Inv V) : ∃ V', d_law_c4 x1 x2 x3 V = some V' ∧ Inv V' := by
  obtain ⟨σ, h, hJ, K⟩ := h
  exact gA_ok (dM := fun V => d_X5_countryOf x1 x2 V) (sp := spCountryOf σ x1 x2) (KS_countryOf K x1 x2) (gl2 (by decide) (I_countryOf h K x1 x2) (er_countryOf σ x1 x2)) (fun V1 h => M_countryOf h K x1 x2) hJ (er_countryOf σ x1 x2)
theorem er_hues (σ : Sg) (x1 : Int32) : ∀ c, (spHues σ x1).1 = .inr c → c = 1 ∨ c = 2 := by
  unfold spHues
  repeat' split
  all_goals (intro c hc; first | (cases hc; exact Or.inl rfl) | (cases hc; exact Or.inr rfl) | cases hc)
theorem c5_ok (V : VT) (x1 x2 x3 : Int32) (h : Inv V) : ∃ V', d_law_c5 x1 x2 x3 V = some V' ∧ Inv V' := by
  obtain ⟨σ, h, hJ, K⟩ := h
  exact gA_ok (dM := fun V => d_X5_hues x1 V) (sp := spHues σ x1) (K_hues K x1) (gl2 (by decide) (I_hues h K x1) (er_hues σ x1)) (fun V1 h => M_hues h K x1) hJ (er_hues σ x1)
theorem er_pots (σ : Sg) (x1 x2 : Int32) : ∀ c, (spPots σ x1 x2).1 = .inr c → c = 1 ∨ c = 2 := by
  unfold spPots
  repeat' split
  all_goals (intro c hc; first | (cases hc; exact Or.inl rfl) | (cases hc; exact Or.inr rfl) | cases hc)
theorem c6_ok (V : VT) (x1 x2 x3 : Int32) (h : Inv V) : ∃ V', d_law_c6 x1 x2 x3 V = some V' ∧ Inv V' := by
  obtain ⟨σ, h, hJ, K⟩ := h
  exact gA_ok (dM := fun V => d_X5_pots x1 x2 V) (sp := spPots σ x1 x2) (K_pots K x1 x2) (gl2 (by decide) (I_pots h K x1 x2) (er_pots σ x1 x2)) (fun V1 h => M_pots h K x1 x2) hJ (er_pots σ x1 x2)
theorem er_hueOf (σ : Sg) (x1 x2 : Int32) : ∀ c, (spHueOf σ x1 x2).1 = .inr c → c = 1 ∨ c = 2 := by
  unfold spHueOf
  repeat' split
  all_goals (intro c hc; first | (cases hc; exact Or.inl rfl) | (cases hc; exact Or.inr rfl) | cases hc)
theorem KS_hueOf {σ : Sg} (K : OKs σ) (x1 x2 : Int32) : OKs (spHueOf σ x1 x2).2 := by
  unfold spHueOf
  repeat' split
  all_goals exact K
theorem c7_ok (V : VT) (x1 x2 x3 : Int32) (h : Inv V) : ∃ V', d_law_c7 x1 x2 x3 V = some V' ∧ Inv V' := by
  obtain ⟨σ, h, hJ, K⟩ := h
  exact gA_ok (dM := fun V => d_X5_hueOf x1 x2 V) (sp := spHueOf σ x1 x2) (KS_hueOf K x1 x2) (gl2 (by decide) (I_hueOf h K x1 x2) (er_hueOf σ x1 x2)) (fun V1 h => M_hueOf h K x1 x2) hJ (er_hueOf σ x1 x2)
theorem er_paint (σ : Sg) (x1 x2 : Int32) : ∀ c, (spPaint σ x1 x2).1 = .inr c → c = 1 ∨ c = 2 := by
  unfold spPaint
  repeat' split
  all_goals (intro c hc; first | (cases hc; exact Or.inl rfl) | (cases hc; exact Or.inr rfl) | cases hc)
theorem c8_ok (V : VT) (x1 x2 x3 : Int32) (h : Inv V) : ∃ V', d_law_c8 x1 x2 x3 V = some V' ∧ Inv V' := by
  obtain ⟨σ, h, hJ, K⟩ := h
  exact gA_ok (dM := fun V => d_X5_paint x1 x2 V) (sp := spPaint σ x1 x2) (K_paint K x1 x2) (gl2 (by decide) (I_paint h K x1 x2) (er_paint σ x1 x2)) (fun V1 h => M_paint h K x1 x2) hJ (er_paint σ x1 x2)
theorem er_bars (σ : Sg) (x1 x2 : Int32) : ∀ c, (spBars σ x1 x2).1 = .inr c → c = 1 := by
  unfold spBars
  repeat' split
  all_goals (intro c hc; first | (cases hc; rfl) | cases hc)
theorem KS_bars {σ : Sg} (K : OKs σ) (x1 x2 : Int32) : OKs (spBars σ x1 x2).2 := by
  unfold spBars
  repeat' split
  all_goals exact K
theorem c9_ok (V : VT) (x1 x2 x3 : Int32) (h : Inv V) : ∃ V', d_law_c9 x1 x2 x3 V = some V' ∧ Inv V' := by
  obtain ⟨σ, h, hJ, K⟩ := h
  exact gA_ok (dM := fun V => d_X5_bars x1 x2 V) (sp := spBars σ x1 x2) (KS_bars K x1 x2) (gl1 (E2 := eIA) (I_bars h K x1 x2) (er_bars σ x1 x2)) (fun V1 h => M_bars h K x1 x2) hJ ((fun c hc => Or.inl (er_bars σ x1 x2 c hc)))
theorem er_back (σ : Sg) : ∀ c, (spBack σ).1 = .inr c → c = 1 := by
  unfold spBack
  repeat' split
  all_goals (intro c hc; first | (cases hc; rfl) | cases hc)
theorem c10_ok (V : VT) (x1 x2 x3 : Int32) (h : Inv V) : ∃ V', d_law_c10 x1 x2 x3 V = some V' ∧ Inv V' := by
  obtain ⟨σ, h, hJ, K⟩ := h
  exact gA_ok (dM := fun V => d_X5_back V) (sp := spBack σ) (K_back K) (gl1 (E2 := eIA) (I_back h K) (er_back σ )) (fun V1 h => M_back h K) hJ ((fun c hc => Or.inl (er_back σ  c hc)))
theorem er_step (σ : Sg) (x1 : Int32) : ∀ c, (spStep σ x1).1 = .inr c → c = 1 := by
  unfold spStep
  repeat' split
  all_goals (intro c hc; first | (cases hc; rfl) | cases hc)
theorem KS_step {σ : Sg} (K : OKs σ) (x1 : Int32) : OKs (spStep σ x1).2 := by
  unfold spStep
  repeat' split
  all_goals exact K
theorem c12_ok (V : VT) (x1 x2 x3 : Int32) (h : Inv V) : ∃ V', d_law_c12 x1 x2 x3 V = some V' ∧ Inv V' := by
  obtain ⟨σ, h, hJ, K⟩ := h
  exact gA_ok (dM := fun V => d_X5_step x1 V) (sp := spStep σ x1) (KS_step K x1) (gl1 (E2 := eIA) (I_step h K x1) (er_step σ x1)) (fun V1 h => M_step h K x1) hJ ((fun c hc => Or.inl (er_step σ x1 c hc)))
theorem er_stuck (σ : Sg) : ∀ c, (spStuck σ).1 = .inr c → c = 1 := by
  unfold spStuck
  repeat' split
  all_goals (intro c hc; first | (cases hc; rfl) | cases hc)
theorem KS_stuck {σ : Sg} (K : OKs σ) : OKs (spStuck σ).2 := by
  unfold spStuck
  repeat' split
  all_goals exact K
theorem c13_ok (V : VT) (x1 x2 x3 : Int32) (h : Inv V) : ∃ V', d_law_c13 x1 x2 x3 V = some V' ∧ Inv V' := by
  obtain ⟨σ, h, hJ, K⟩ := h
  exact gA_ok (dM := fun V => d_X5_stuck V) (sp := spStuck σ) (KS_stuck K) (gl1 (E2 := eIA) (I_stuck h K) (er_stuck σ )) (fun V1 h => M_stuck h K) hJ ((fun c hc => Or.inl (er_stuck σ  c hc)))
theorem er_next (σ : Sg) : ∀ c, (spNext σ).1 = .inr c → c = 1 := by
  unfold spNext
  repeat' split
  all_goals (intro c hc; first | (cases hc; rfl) | cases hc)
theorem KS_next {σ : Sg} (K : OKs σ) : OKs (spNext σ).2 := by
  unfold spNext
  repeat' split
  all_goals exact K
theorem c14_ok (V : VT) (x1 x2 x3 : Int32) (h : Inv V) : ∃ V', d_law_c14 x1 x2 x3 V = some V' ∧ Inv V' := by
  obtain ⟨σ, h, hJ, K⟩ := h
  exact gA_ok (dM := fun V => d_X5_next V) (sp := spNext σ) (KS_next K) (gl1 (E2 := eIA) (I_next h K) (er_next σ )) (fun V1 h => M_next h K) hJ ((fun c hc => Or.inl (er_next σ  c hc)))
theorem er_gentle (σ : Sg) (x1 : Int32) : ∀ c, (spGentle σ x1).1 = .inr c → c = 1 ∨ c = 2 := by
  unfold spGentle
  repeat' split
  all_goals (intro c hc; first | (cases hc; exact Or.inl rfl) | (cases hc; exact Or.inr rfl) | cases hc)
theorem KS_gentle {σ : Sg} (K : OKs σ) (x1 : Int32) : OKs (spGentle σ x1).2 := by
  unfold spGentle
  repeat' split
  all_goals exact K
theorem c15_ok (V : VT) (x1 x2 x3 : Int32) (h : Inv V) : ∃ V', d_law_c15 x1 x2 x3 V = some V' ∧ Inv V' := by
  obtain ⟨σ, h, hJ, K⟩ := h
  exact gA_ok (dM := fun V => d_X5_gentle x1 V) (sp := spGentle σ x1) (KS_gentle K x1) (gl2 (by decide) (I_gentle h K x1) (er_gentle σ x1)) (fun V1 h => M_gentle h K x1) hJ (er_gentle σ x1)
theorem er_wish (σ : Sg) (x1 x2 x3 : Int32) : ∀ c, (spWish σ x1 x2 x3).1 = .inr c → c = 1 ∨ c = 2 := by
  unfold spWish
  repeat' split
  all_goals (intro c hc; first | (cases hc; exact Or.inl rfl) | (cases hc; exact Or.inr rfl) | cases hc)
theorem c16_ok (V : VT) (x1 x2 x3 : Int32) (h : Inv V) : ∃ V', d_law_c16 x1 x2 x3 V = some V' ∧ Inv V' := by
  obtain ⟨σ, h, hJ, K⟩ := h
  exact gA_ok (dM := fun V => d_X5_wish x1 x2 x3 V) (sp := spWish σ x1 x2 x3) (K_wish K x1 x2 x3) (gl2 (by decide) (I_wish h K x1 x2 x3) (er_wish σ x1 x2 x3)) (fun V1 h => M_wish h K x1 x2 x3) hJ (er_wish σ x1 x2 x3)
theorem er_waysFor (σ : Sg) (x1 : Int32) : ∀ c, (spWaysFor σ x1).1 = .inr c → c = 1 ∨ c = 2 := by
  unfold spWaysFor
  repeat' split
  all_goals (intro c hc; first | (cases hc; exact Or.inl rfl) | (cases hc; exact Or.inr rfl) | cases hc)
theorem KS_waysFor {σ : Sg} (K : OKs σ) (x1 : Int32) : OKs (spWaysFor σ x1).2 := by
  unfold spWaysFor
  repeat' split
  all_goals exact K
theorem c20_ok (V : VT) (x1 x2 x3 : Int32) (h : Inv V) : ∃ V', d_law_c20 x1 x2 x3 V = some V' ∧ Inv V' := by
  obtain ⟨σ, h, hJ, K⟩ := h
  exact gA_ok (dM := fun V => d_X5_waysFor x1 V) (sp := spWaysFor σ x1) (KS_waysFor K x1) (gl2 (by decide) (I_waysFor h K x1) (er_waysFor σ x1)) (fun V1 h => M_waysFor h K x1) hJ (er_waysFor σ x1)
theorem er_fewest (σ : Sg) : ∀ c, (spFewest σ).1 = .inr c → c = 1 := by
  unfold spFewest
  repeat' split
  all_goals (intro c hc; first | (cases hc; rfl) | cases hc)
theorem KS_fewest {σ : Sg} (K : OKs σ) : OKs (spFewest σ).2 := by
  unfold spFewest
  repeat' split
  all_goals exact K
theorem c21_ok (V : VT) (x1 x2 x3 : Int32) (h : Inv V) : ∃ V', d_law_c21 x1 x2 x3 V = some V' ∧ Inv V' := by
  obtain ⟨σ, h, hJ, K⟩ := h
  exact gA_ok (dM := fun V => d_X5_fewest V) (sp := spFewest σ) (KS_fewest K) (gl1 (E2 := eIA) (I_fewest h K) (er_fewest σ )) (fun V1 h => M_fewest h K) hJ ((fun c hc => Or.inl (er_fewest σ  c hc)))
theorem er_line (σ : Sg) (x1 : Int32) : ∀ c, (spLine σ x1).1 = .inr c → c = 1 := by
  unfold spLine
  repeat' split
  all_goals (intro c hc; first | (cases hc; rfl) | cases hc)
theorem c23_ok (V : VT) (x1 x2 x3 : Int32) (h : Inv V) : ∃ V', d_law_c23 x1 x2 x3 V = some V' ∧ Inv V' := by
  obtain ⟨σ, h, hJ, K⟩ := h
  exact gA_ok (dM := fun V => d_X5_line x1 V) (sp := spLine σ x1) (K_line K x1) (gl1 (E2 := eIA) (I_line h K x1) (er_line σ x1)) (fun V1 h => M_line h K x1) hJ ((fun c hc => Or.inl (er_line σ x1 c hc)))
theorem er_character (σ : Sg) (x1 : Int32) : ∀ c, (spChar σ x1).1 = .inr c → c = 1 := by
  unfold spChar
  repeat' split
  all_goals (intro c hc; first | (cases hc; rfl) | cases hc)
theorem KS_character {σ : Sg} (K : OKs σ) (x1 : Int32) : OKs (spChar σ x1).2 := by
  unfold spChar
  repeat' split
  all_goals exact K
theorem c24_ok (V : VT) (x1 x2 x3 : Int32) (h : Inv V) : ∃ V', d_law_c24 x1 x2 x3 V = some V' ∧ Inv V' := by
  obtain ⟨σ, h, hJ, K⟩ := h
  exact gA_ok (dM := fun V => d_X5_character x1 V) (sp := spChar σ x1) (KS_character K x1) (gl1 (E2 := eIA) (I_character h K x1) (er_character σ x1)) (fun V1 h => M_character h K x1) hJ ((fun c hc => Or.inl (er_character σ x1 c hc)))
theorem c26_ok (V : VT) (x1 x2 x3 : Int32) (h : Inv V) : ∃ V', d_law_c26 x1 x2 x3 V = some V' ∧ Inv V' := by
  obtain ⟨σ, h, hJ, K⟩ := h
  exact gA_ok (dM := fun V => d_X5_read V) (sp := spRead σ) (K_read K) (gl2 (by decide) (I_read h K) (er_read σ )) (fun V1 h => M_read h K) hJ (er_read σ )
theorem er_account (σ : Sg) (x1 : Int32) : ∀ c, (spAccount σ x1).1 = .inr c → c = 1 := by
  unfold spAccount
  repeat' split
  all_goals (intro c hc; first | (cases hc; rfl) | cases hc)
theorem KS_account {σ : Sg} (K : OKs σ) (x1 : Int32) : OKs (spAccount σ x1).2 := by
  unfold spAccount
  repeat' split
  all_goals exact K
theorem c29_ok (V : VT) (x1 x2 x3 : Int32) (h : Inv V) : ∃ V', d_law_c29 x1 x2 x3 V = some V' ∧ Inv V' := by
  obtain ⟨σ, h, hJ, K⟩ := h
  exact gA_ok (dM := fun V => d_X5_account x1 V) (sp := spAccount σ x1) (KS_account K x1) (gl1 (E2 := eIA) (I_account h K x1) (er_account σ x1)) (fun V1 h => M_account h K x1) hJ ((fun c hc => Or.inl (er_account σ x1 c hc)))
theorem er_undo (σ : Sg) : ∀ c, (spUndo σ).1 = .inr c → c = 1 := by
  unfold spUndo
  repeat' split
  all_goals (intro c hc; first | (cases hc; rfl) | cases hc)
theorem c33_ok (V : VT) (x1 x2 x3 : Int32) (h : Inv V) : ∃ V', d_law_c33 x1 x2 x3 V = some V' ∧ Inv V' := by
  obtain ⟨σ, h, hJ, K⟩ := h
  exact gA_ok (dM := fun V => d_X5_undo V) (sp := spUndo σ) (K_undo K) (gl1 (E2 := eIA) (I_undo h K) (er_undo σ )) (fun V1 h => M_undo h K) hJ ((fun c hc => Or.inl (er_undo σ  c hc)))
theorem er_restore (σ : Sg) : ∀ c, (spRestore σ).1 = .inr c → c = 1 := by
  unfold spRestore
  repeat' split
  all_goals (intro c hc; first | (cases hc; rfl) | cases hc)
theorem c35_ok (V : VT) (x1 x2 x3 : Int32) (h : Inv V) : ∃ V', d_law_c35 x1 x2 x3 V = some V' ∧ Inv V' := by
  obtain ⟨σ, h, hJ, K⟩ := h
  exact gA_ok (dM := fun V => d_X5_restore V) (sp := spRestore σ) (K_restore K) (gl1 (E2 := eIA) (I_restore h K) (er_restore σ )) (fun V1 h => M_restore h K) hJ ((fun c hc => Or.inl (er_restore σ  c hc)))
theorem c11_ok (V : VT) (x1 x2 x3 : Int32) (h : Inv V) : ∃ V', d_law_c11 x1 x2 x3 V = some V' ∧ Inv V' := by
  obtain ⟨σ, h, hJ, K⟩ := h
  exact gB_ok (dM := fun V => d_X5_fill V) (σ := σ) (σ' := chg σ (aFill 7 σ.1).2) (v := nI (aFill 7 σ.1).1) (K_fill K) (I_fill h K) (fun V1 h => M_fill h K) hJ
theorem c18_ok (V : VT) (x1 x2 x3 : Int32) (h : Inv V) : ∃ V', d_law_c18 x1 x2 x3 V = some V' ∧ Inv V' := by
  obtain ⟨σ, h, hJ, K⟩ := h
  exact gB_ok (dM := fun V => d_X5_ways V) (σ := σ) (σ' := σ) (v := nI (wys σ.1 (gU σ.1))) (K) (I_ways h K) (fun V1 h => M_ways h K) hJ
theorem c19_ok (V : VT) (x1 x2 x3 : Int32) (h : Inv V) : ∃ V', d_law_c19 x1 x2 x3 V = some V' ∧ Inv V' := by
  obtain ⟨σ, h, hJ, K⟩ := h
  exact gB_ok (dM := fun V => d_X5_waysAgain V) (σ := σ) (σ' := σ) (v := nI (again σ.1)) (K) (I_waysAgain h K) (fun V1 h => M_waysAgain h K) hJ
theorem c34_ok (V : VT) (x1 x2 x3 : Int32) (h : Inv V) : ∃ V', d_law_c34 x1 x2 x3 V = some V' ∧ Inv V' := by
  obtain ⟨σ, h, hJ, K⟩ := h
  exact gB_ok (dM := fun V => d_X5_save V) (σ := σ) (σ' := svd σ) (v := nI (gN σ.1)) (K_save K) (I_save h K) (fun V1 h => M_save h K) hJ
theorem c17_ok (V : VT) (x1 x2 x3 : Int32) (h : Inv V) : ∃ V', d_law_c17 x1 x2 x3 V = some V' ∧ Inv V' := by
  obtain ⟨σ, h, hJ, K⟩ := h
  exact gC_ok (σ := σ) (v := sumFul σ.1) K h (I_fulfilled h K) (M_fulfilled hJ K)
theorem c22_ok (V : VT) (x1 x2 x3 : Int32) (h : Inv V) : ∃ V', d_law_c22 x1 x2 x3 V = some V' ∧ Inv V' := by
  obtain ⟨σ, h, hJ, K⟩ := h
  exact gC_ok (σ := σ) (v := nI (mxc σ.1 (2 ^ gN σ.1))) K h (I_clique h K) (M_clique hJ K)
theorem c27_ok (V : VT) (x1 x2 x3 : Int32) (h : Inv V) : ∃ V', d_law_c27 x1 x2 x3 V = some V' ∧ Inv V' := by
  obtain ⟨σ, h, hJ, K⟩ := h
  exact gC_ok (σ := σ) (v := σ.2.2.2.2.2.1) K h (I_errorPosition h) (M_errorPosition hJ)
theorem c30_ok (V : VT) (x1 x2 x3 : Int32) (h : Inv V) : ∃ V', d_law_c30 x1 x2 x3 V = some V' ∧ Inv V' := by
  obtain ⟨σ, h, hJ, K⟩ := h
  exact gC_ok (σ := σ) (v := nI 1) K h (I_isWell h K) (M_isWell hJ K)
theorem er_hasBorder (σ : Sg) (x1 x2 : Int32) : ∀ c, (spHasBorder σ x1 x2).1 = .inr c → c = 1 := by
  unfold spHasBorder
  repeat' split
  all_goals (intro c hc; first | (cases hc; rfl) | cases hc)
theorem c3_ok (V : VT) (x1 x2 x3 : Int32) (h : Inv V) : ∃ V', d_law_c3 x1 x2 x3 V = some V' ∧ Inv V' := by
  obtain ⟨σ, h, hJ, K⟩ := h
  have hI := I_hasBorder h K x1 x2
  have hM := fun V1 h => M_hasBorder (V := V1) (σ := σ) h K x1 x2
  unfold d_law_c3 d_L_hasBorder
  unfold spHasBorder at hI hM
  by_cases hc : isC σ.1 x1 = true ∧ isC σ.1 x2 = true
  · rw [if_pos hc] at hI
    simp only [if_pos hc] at hM
    obtain ⟨V1, h1, h2, h3⟩ := hI
    rw [h1]
    generalize tt σ.1 (nt x1) (nt x2) = bb at hM ⊢
    cases bb with
    | false =>
      obtain ⟨b, V2, m1, m2, m3, m4, m5⟩ := hM (up2 V1 118 0 (0 : Int32)) (hJ.fr (fun q a c => by rw [up2_ne (by omega)]; exact h3 q a))
      have e1 := m5 _ rfl
      refine ⟨V2, ?_, σ, (h2.up118 _).frM m3, m2, K⟩
      show bw (d_X5_hasBorder x1 x2 (up2 V1 118 0 (0 : Int32))) _ = _
      rw [m1, bw_some]
      unfold d_X5_thrown
      rw [bd_some, if_pos (show V2 109 7 = (0 : Int32) from m4), if_pos rfl, if_pos (show b = (0 : Int32) from e1), if_pos]
      show V2 118 0 = (0 : Int32)
      rw [m3 118 (by omega), up2_at, upd_eq]
    | true =>
      obtain ⟨b, V2, m1, m2, m3, m4, m5⟩ := hM (up2 V1 118 0 (1 : Int32)) (hJ.fr (fun q a c => by rw [up2_ne (by omega)]; exact h3 q a))
      have e1 := m5 _ rfl
      refine ⟨V2, ?_, σ, (h2.up118 _).frM m3, m2, K⟩
      show bw (d_X5_hasBorder x1 x2 (up2 V1 118 0 (1 : Int32))) _ = _
      rw [m1, bw_some]
      unfold d_X5_thrown
      rw [bd_some, if_pos (show V2 109 7 = (0 : Int32) from m4), if_pos rfl, if_neg (show ¬ b = (0 : Int32) by rw [e1]; decide +kernel), if_pos]
      show V2 118 0 = (1 : Int32)
      rw [m3 118 (by omega), up2_at, upd_eq]
  · rw [if_neg hc] at hI
    simp only [if_neg hc] at hM
    obtain ⟨V1, h1, h2, h3⟩ := hI
    obtain ⟨b, V2, m1, m2, m3, m4, m5⟩ := hM V1 (hJ.frI h3)
    refine ⟨V2, ?_, σ, h2.frM m3, m2, K⟩
    rw [h1]
    show bw (d_X5_hasBorder x1 x2 V1) _ = _
    rw [m1, bw_some]
    unfold d_X5_thrown
    rw [bd_some, if_pos (show V2 109 7 = (1 : Int32) from m4), if_neg (show ¬ (1 : Int32) = (0 : Int32) by decide +kernel)]
theorem chr_of (x : Int32) : isChr (x.toUInt32 % 65536).toInt32 := by
  refine ⟨(x.toUInt32 % 65536).toNat, ?_, ?_⟩
  · rw [UInt32.toNat_mod]
    exact Nat.mod_lt _ (by decide)
  · apply Int32.toBitVec_inj.1
    apply BitVec.eq_of_toNat_eq
    show (x.toUInt32 % 65536).toNat = (BitVec.ofNat 32 (x.toUInt32 % 65536).toNat).toNat
    rw [BitVec.toNat_ofNat, Nat.mod_eq_of_lt (UInt32.toNat_lt _)]
theorem er_append (σ : Sg) (x1 : Int32) : ∀ c, (spAppend σ x1).1 = .inr c → c = 1 := by
  unfold spAppend
  repeat' split
  all_goals (intro c hc; first | (cases hc; rfl) | cases hc)
theorem c25_ok (V : VT) (x1 x2 x3 : Int32) (h : Inv V) : ∃ V', d_law_c25 x1 x2 x3 V = some V' ∧ Inv V' := by
  obtain ⟨σ, h, hJ, K⟩ := h
  exact gA_ok (dM := fun V => d_X5_append (x1.toUInt32 % 65536).toInt32 V) (sp := spAppend σ (x1.toUInt32 % 65536).toInt32) (K_append K (chr_of x1)) (gl1 (E2 := eIA) (I_append h K (chr_of x1)) (er_append σ _)) (fun V1 h => M_append h K _) hJ (fun c hc => Or.inl (er_append σ _ c hc))
theorem er_refusal (σ : Sg) (x1 : Int32) : ∀ c, (spRefusal σ x1).1 = .inr c → c = 1 := by
  unfold spRefusal
  repeat' split
  all_goals (intro c hc; first | (cases hc; rfl) | cases hc)
theorem KS_refusal {σ : Sg} (K : OKs σ) (x1 : Int32) : OKs (spRefusal σ x1).2 := by
  unfold spRefusal
  repeat' split
  all_goals exact K
theorem refusal_ok (V : VT) (x : Int32) (h : Inv V) : ∃ V', gA (d_L_refusal x V) (fun V => d_X5_refusal x V) = some V' ∧ Inv V' := by
  obtain ⟨σ, h, hJ, K⟩ := h
  exact gA_ok (sp := spRefusal σ x) (KS_refusal K x) (gl1 (E2 := eIA) (I_refusal h x) (er_refusal σ x)) (fun V1 h => M_refusal h x) hJ (fun c hc => Or.inl (er_refusal σ x c hc))
theorem c28_ok (V : VT) (x1 x2 x3 : Int32) (h : Inv V) : ∃ V', d_law_c28 x1 x2 x3 V = some V' ∧ Inv V' := by
  unfold d_law_c28
  by_cases c : x1 = (0 : Int32)
  · simp only [if_pos c]
    exact refusal_ok V 0 h
  · simp only [if_neg c]
    exact refusal_ok V 1 h
theorem u64_up (V : VT) (x : UInt64) : u64 (upD V 119 x 119 0) (upD V 119 x 119 1) = x := by
  rw [upD_k, upd_ne (by omega), upd_eq, upd_eq]
  exact u64_halves x
theorem AI.upD {V : VT} {σ : Sg} (h : AI V σ) (x : UInt64) : AI (upD V 119 x) σ := h.fr (fun q hq => upD_o V x (by omega))
theorem ddiv_eq : ∀ z, z < 64 → ∀ s, s < 8 → 0 < s → Op.cmpValue (FP.dcmp (FP.ddiv (FP.i2d (nI z)) (FP.i2d (nI s))) (FP.ddiv (FP.i2d (nI z)) (FP.i2d (nI s)))) .l = 0 := by decide +kernel
theorem fdiv_eq : ∀ s, s < 8 → ∀ n, n < 8 → 0 < n → Op.cmpValue (FP.dcmp (FP.f2d (FP.fdiv (FP.i2f (nI s)) (FP.i2f (nI n)))) (FP.f2d (FP.fdiv (FP.i2f (nI s)) (FP.i2f (nI n))))) .l = 0 := by decide +kernel
theorem c31_ok (V : VT) (x1 x2 x3 : Int32) (h : Inv V) : ∃ V', d_law_c31 x1 x2 x3 V = some V' ∧ Inv V' := by
  obtain ⟨σ, h, hJ, K⟩ := h
  unfold d_law_c31 d_L_meanSize
  rw [I_meanSize h K]
  by_cases c : gS σ.1 = 0
  · rw [if_pos c]
    obtain ⟨b, V2, m1, m2, m3, m4, m5⟩ := M_meanSize hJ K
    rw [if_pos c] at m4
    refine ⟨V2, ?_, σ, h.frM m3, m2, K⟩
    show bw (d_X5_meanSize V) _ = _
    rw [m1, bw_some]
    unfold d_X5_thrown
    rw [bd_some, if_pos (show V2 109 7 = (1 : Int32) from m4), if_neg (show ¬ (1 : Int32) = (0 : Int32) by decide +kernel)]
  · rw [if_neg c]
    obtain ⟨b, V2, m1, m2, m3, m4, m5⟩ := M_meanSize (V := upD V 119 (mnV σ)) (σ := σ) (hJ.fr (fun q a b => upD_o V _ (by omega))) K
    rw [if_neg c] at m4
    refine ⟨V2, ?_, σ, (h.upD _).frM m3, m2, K⟩
    show bw (d_X5_meanSize (upD V 119 (mnV σ))) _ = _
    rw [m1, bw_some]
    unfold d_X5_thrown
    rw [bd_some, if_pos (show V2 109 7 = (0 : Int32) from m4), if_pos rfl, if_pos]
    rw [m5 c]
    show Op.cmpValue (FP.dcmp (u64 (V2 119 0) (V2 119 1)) (mnV σ)) .l = 0
    rw [m3 119 (by omega), u64_up]
    have s7 := wf_s7 K.w
    obtain ⟨z, hz, e⟩ := smS_nI K.w
    unfold mnV
    rw [e]
    exact ddiv_eq _ hz _ (by omega) (by omega)
theorem c32_ok (V : VT) (x1 x2 x3 : Int32) (h : Inv V) : ∃ V', d_law_c32 x1 x2 x3 V = some V' ∧ Inv V' := by
  obtain ⟨σ, h, hJ, K⟩ := h
  unfold d_law_c32 d_L_painted
  rw [I_painted h K]
  by_cases c : gN σ.1 = 0
  · rw [if_pos c]
    obtain ⟨b, V2, m1, m2, m3, m4, m5⟩ := M_painted hJ K
    rw [if_pos c] at m4
    refine ⟨V2, ?_, σ, h.frM m3, m2, K⟩
    show bw (d_X5_painted V) _ = _
    rw [m1, bw_some]
    unfold d_X5_thrown
    rw [bd_some, if_pos (show V2 109 7 = (1 : Int32) from m4), if_neg (show ¬ (1 : Int32) = (0 : Int32) by decide +kernel)]
  · rw [if_neg c]
    have ok := (pt_ok K (by omega)).2
    obtain ⟨b, V2, m1, m2, m3, m4, m5⟩ := M_painted (V := upD V 119 (FP.f2d (ptV σ))) (σ := σ) (hJ.fr (fun q a b => upD_o V _ (by omega))) K
    rw [if_neg c] at m4
    refine ⟨V2, ?_, σ, (h.upD _).frM m3, m2, K⟩
    show bw (asr (n64ok (FP.f2d (ptV σ))) (some ((0 : Int32), upD V 119 (FP.f2d (ptV σ))))) _ = _
    rw [asr_t ok, bw_some, m1, bw_some]
    unfold d_X5_thrown
    rw [bd_some, if_pos (show V2 109 7 = (0 : Int32) from m4), if_pos rfl, m5 c, asr_t ok, if_pos]
    show Op.cmpValue (FP.dcmp (u64 (V2 119 0) (V2 119 1)) (FP.f2d (ptV σ))) .l = 0
    rw [m3 119 (by omega), u64_up]
    have s7 := wf_s7 K.w
    have n7 := wf_n7 K.w
    exact fdiv_eq _ (by omega) _ (by omega) (by omega)
theorem body_ok (V : VT) (x0 x1 x2 x3 : Int32) (h : Inv V) : ∃ V', d_law_body x0 x1 x2 x3 V = some V' ∧ Inv V' := by
  unfold d_law_body
  by_cases n0 : (x0 &&& (63 : Int32)) = (0 : Int32)
  · rw [if_pos n0]; exact c0_ok V x1 x2 x3 h
  rw [if_neg n0]
  by_cases n1 : (x0 &&& (63 : Int32)) = (1 : Int32)
  · rw [if_pos n1]; exact c1_ok V x1 x2 x3 h
  rw [if_neg n1]
  by_cases n2 : (x0 &&& (63 : Int32)) = (2 : Int32)
  · rw [if_pos n2]; exact c2_ok V x1 x2 x3 h
  rw [if_neg n2]
  by_cases n3 : (x0 &&& (63 : Int32)) = (3 : Int32)
  · rw [if_pos n3]; exact c3_ok V x1 x2 x3 h
  rw [if_neg n3]
  by_cases n4 : (x0 &&& (63 : Int32)) = (4 : Int32)
  · rw [if_pos n4]; exact c4_ok V x1 x2 x3 h
  rw [if_neg n4]
  by_cases n5 : (x0 &&& (63 : Int32)) = (5 : Int32)
  · rw [if_pos n5]; exact c5_ok V x1 x2 x3 h
  rw [if_neg n5]
  by_cases n6 : (x0 &&& (63 : Int32)) = (6 : Int32)
  · rw [if_pos n6]; exact c6_ok V x1 x2 x3 h
  rw [if_neg n6]
  by_cases n7 : (x0 &&& (63 : Int32)) = (7 : Int32)
  · rw [if_pos n7]; exact c7_ok V x1 x2 x3 h
  rw [if_neg n7]
  by_cases n8 : (x0 &&& (63 : Int32)) = (8 : Int32)
  · rw [if_pos n8]; exact c8_ok V x1 x2 x3 h
  rw [if_neg n8]
  by_cases n9 : (x0 &&& (63 : Int32)) = (9 : Int32)
  · rw [if_pos n9]; exact c9_ok V x1 x2 x3 h
  rw [if_neg n9]
  by_cases n10 : (x0 &&& (63 : Int32)) = (10 : Int32)
  · rw [if_pos n10]; exact c10_ok V x1 x2 x3 h
  rw [if_neg n10]
  by_cases n11 : (x0 &&& (63 : Int32)) = (11 : Int32)
  · rw [if_pos n11]; exact c11_ok V x1 x2 x3 h
  rw [if_neg n11]
  by_cases n12 : (x0 &&& (63 : Int32)) = (12 : Int32)
  · rw [if_pos n12]; exact c12_ok V x1 x2 x3 h
  rw [if_neg n12]
  by_cases n13 : (x0 &&& (63 : Int32)) = (13 : Int32)
  · rw [if_pos n13]; exact c13_ok V x1 x2 x3 h
  rw [if_neg n13]
  by_cases n14 : (x0 &&& (63 : Int32)) = (14 : Int32)
  · rw [if_pos n14]; exact c14_ok V x1 x2 x3 h
  rw [if_neg n14]
  by_cases n15 : (x0 &&& (63 : Int32)) = (15 : Int32)
  · rw [if_pos n15]; exact c15_ok V x1 x2 x3 h
  rw [if_neg n15]
  by_cases n16 : (x0 &&& (63 : Int32)) = (16 : Int32)
  · rw [if_pos n16]; exact c16_ok V x1 x2 x3 h
  rw [if_neg n16]
  by_cases n17 : (x0 &&& (63 : Int32)) = (17 : Int32)
  · rw [if_pos n17]; exact c17_ok V x1 x2 x3 h
  rw [if_neg n17]
  by_cases n18 : (x0 &&& (63 : Int32)) = (18 : Int32)
  · rw [if_pos n18]; exact c18_ok V x1 x2 x3 h
  rw [if_neg n18]
  by_cases n19 : (x0 &&& (63 : Int32)) = (19 : Int32)
  · rw [if_pos n19]; exact c19_ok V x1 x2 x3 h
  rw [if_neg n19]
  by_cases n20 : (x0 &&& (63 : Int32)) = (20 : Int32)
  · rw [if_pos n20]; exact c20_ok V x1 x2 x3 h
  rw [if_neg n20]
  by_cases n21 : (x0 &&& (63 : Int32)) = (21 : Int32)
  · rw [if_pos n21]; exact c21_ok V x1 x2 x3 h
  rw [if_neg n21]
  by_cases n22 : (x0 &&& (63 : Int32)) = (22 : Int32)
  · rw [if_pos n22]; exact c22_ok V x1 x2 x3 h
  rw [if_neg n22]
  by_cases n23 : (x0 &&& (63 : Int32)) = (23 : Int32)
  · rw [if_pos n23]; exact c23_ok V x1 x2 x3 h
  rw [if_neg n23]
  by_cases n24 : (x0 &&& (63 : Int32)) = (24 : Int32)
  · rw [if_pos n24]; exact c24_ok V x1 x2 x3 h
  rw [if_neg n24]
  by_cases n25 : (x0 &&& (63 : Int32)) = (25 : Int32)
  · rw [if_pos n25]; exact c25_ok V x1 x2 x3 h
  rw [if_neg n25]
  by_cases n26 : (x0 &&& (63 : Int32)) = (26 : Int32)
  · rw [if_pos n26]; exact c26_ok V x1 x2 x3 h
  rw [if_neg n26]
  by_cases n27 : (x0 &&& (63 : Int32)) = (27 : Int32)
  · rw [if_pos n27]; exact c27_ok V x1 x2 x3 h
  rw [if_neg n27]
  by_cases n28 : (x0 &&& (63 : Int32)) = (28 : Int32)
  · rw [if_pos n28]; exact c28_ok V x1 x2 x3 h
  rw [if_neg n28]
  by_cases n29 : (x0 &&& (63 : Int32)) = (29 : Int32)
  · rw [if_pos n29]; exact c29_ok V x1 x2 x3 h
  rw [if_neg n29]
  by_cases n30 : (x0 &&& (63 : Int32)) = (30 : Int32)
  · rw [if_pos n30]; exact c30_ok V x1 x2 x3 h
  rw [if_neg n30]
  by_cases n31 : (x0 &&& (63 : Int32)) = (31 : Int32)
  · rw [if_pos n31]; exact c31_ok V x1 x2 x3 h
  rw [if_neg n31]
  by_cases n32 : (x0 &&& (63 : Int32)) = (32 : Int32)
  · rw [if_pos n32]; exact c32_ok V x1 x2 x3 h
  rw [if_neg n32]
  by_cases n33 : (x0 &&& (63 : Int32)) = (33 : Int32)
  · rw [if_pos n33]; exact c33_ok V x1 x2 x3 h
  rw [if_neg n33]
  by_cases n34 : (x0 &&& (63 : Int32)) = (34 : Int32)
  · rw [if_pos n34]; exact c34_ok V x1 x2 x3 h
  rw [if_neg n34]
  by_cases n35 : (x0 &&& (63 : Int32)) = (35 : Int32)
  · rw [if_pos n35]; exact c35_ok V x1 x2 x3 h
  rw [if_neg n35]
  exact ⟨V, rfl, h⟩
