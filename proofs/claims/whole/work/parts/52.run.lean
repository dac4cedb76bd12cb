/-! PURE ROWS: the orders of a text, one after another -/
def xo (σ : Sg) (L x y z : Int32) : (Int32 ⊕ Nat) × Sg :=
  if L = nI 98 then spBorderw σ x y else if L = nI 104 then spHuesw σ x else if L = nI 106 then spPotsw σ x y else if L = nI 112 then spPaintw σ x y else if L = nI 119 then spWishw σ x y z else if L = nI 120 then spBackw σ else (.inl (nI (aFill 7 σ.1).1), chw σ (aFill 7 σ.1).2)
def exo (σ : Sg) (o : Int32 × List Nat) : (Int32 ⊕ Nat) × Sg := xo σ o.1 (nI (o.2.getD 0 0)) (nI (o.2.getD 1 0)) (nI (o.2.getD 2 0))
def rn : List (Int32 × List Nat) → Sg → Nat → (Int32 ⊕ Nat) × Sg
  | [], σ, k => (.inl (nI k), σ)
  | o :: os, σ, k => match (exo σ o).1 with
    | .inl _ => rn os (exo σ o).2 (k + 1)
    | .inr c => (.inr (if isRf o.1 c = true then 2 else 1), (exo σ o).2)
theorem ne_l {a b : Nat} (h : a ≠ b) (ha : a < 2 ^ 31 := by omega) (hb : b < 2 ^ 31 := by omega) : ¬ nI a = nI b := by rw [nI_eq ha hb]; exact h
theorem shi_or {L : Int32} (h : shi L ≠ none) : L = nI 98 ∨ L = nI 104 ∨ L = nI 106 ∨ L = nI 112 ∨ L = nI 119 ∨ L = nI 120 ∨ L = nI 102 := by
  unfold shi at h
  by_cases c1 : L = nI 112
  · simp [c1]
  by_cases c2 : L = nI 98
  · simp [c2]
  by_cases c3 : L = nI 119
  · simp [c3]
  by_cases c4 : L = nI 104
  · simp [c4]
  by_cases c5 : L = nI 106
  · simp [c5]
  by_cases c6 : L = nI 120
  · simp [c6]
  by_cases c7 : L = nI 102
  · simp [c7]
  rw [if_neg c1, if_neg c2, if_neg c3, if_neg c4, if_neg c5, if_neg c6, if_neg c7] at h
  exact absurd rfl h
section
variable {V0 V V1 V' : VT} {σ σ' : Sg} {n i : Nat}
theorem xo_98 (x y z : Int32) : xo σ (nI 98) x y z = spBorderw σ x y := if_pos rfl
theorem xo_104 (x y z : Int32) : xo σ (nI 104) x y z = spHuesw σ x := (if_neg (ne_l (by omega))).trans (if_pos rfl)
theorem xo_106 (x y z : Int32) : xo σ (nI 106) x y z = spPotsw σ x y := (if_neg (ne_l (by omega))).trans ((if_neg (ne_l (by omega))).trans (if_pos rfl))
theorem xo_112 (x y z : Int32) : xo σ (nI 112) x y z = spPaintw σ x y := (if_neg (ne_l (by omega))).trans ((if_neg (ne_l (by omega))).trans ((if_neg (ne_l (by omega))).trans (if_pos rfl)))
theorem xo_119 (x y z : Int32) : xo σ (nI 119) x y z = spWishw σ x y z := (if_neg (ne_l (by omega))).trans ((if_neg (ne_l (by omega))).trans ((if_neg (ne_l (by omega))).trans ((if_neg (ne_l (by omega))).trans (if_pos rfl))))
theorem xo_120 (x y z : Int32) : xo σ (nI 120) x y z = spBackw σ := (if_neg (ne_l (by omega))).trans ((if_neg (ne_l (by omega))).trans ((if_neg (ne_l (by omega))).trans ((if_neg (ne_l (by omega))).trans ((if_neg (ne_l (by omega))).trans (if_pos rfl)))))
theorem xo_102 (x y z : Int32) : xo σ (nI 102) x y z = (.inl (nI (aFill 7 σ.1).1), chw σ (aFill 7 σ.1).2) := (if_neg (ne_l (by omega))).trans ((if_neg (ne_l (by omega))).trans ((if_neg (ne_l (by omega))).trans ((if_neg (ne_l (by omega))).trans ((if_neg (ne_l (by omega))).trans (if_neg (ne_l (by omega)))))))
theorem K_xo (K : OKs σ) {L : Int32} (hL : shi L ≠ none) (x y z : Int32) : OKs (xo σ L x y z).2 := by
  rcases shi_or hL with rfl | rfl | rfl | rfl | rfl | rfl | rfl
  · rw [xo_98]; exact K_borderw K x y
  · rw [xo_104]; exact K_huesw K x
  · rw [xo_106]; exact K_potsw K x y
  · rw [xo_112]; exact K_paintw K x y
  · rw [xo_119]; exact K_wishw K x y z
  · rw [xo_120]; exact K_backw K
  · rw [xo_102]; exact K_fillw K
theorem i_xo (h : CW V0 n σ V i) (K : OKs σ) {L : Int32} (hL : shi L ≠ none) (x y z : Int32) : RS9 (d_X4_judge L x y z V) (d_X4_perform L x y z V) V0 V n i (isRf L) (xo σ L x y z) := by
  rcases shi_or hL with rfl | rfl | rfl | rfl | rfl | rfl | rfl
  · rw [xo_98]; exact x_border h K x y z
  · rw [xo_104]; exact x_hues h K x y z
  · rw [xo_106]; exact x_pots h K x y z
  · rw [xo_112]; exact x_paint h K x y z
  · rw [xo_119]; exact x_wish h K x y z
  · rw [xo_120]; exact x_back h K x y z
  · rw [xo_102]; exact x_fill h K x y z
/-- what an order leaves as it was -/
def SAM (σ σ' : Sg) : Prop := σ'.2.1 = σ.2.1 ∧ σ'.2.2.1 = σ.2.2.1 ∧ σ'.2.2.2.1 = σ.2.2.2.1 ∧ σ'.2.2.2.2.1 = σ.2.2.2.2.1 ∧ σ'.2.2.2.2.2.1 = σ.2.2.2.2.2.1
theorem SAM.rf (σ : Sg) : SAM σ σ := ⟨rfl, rfl, rfl, rfl, rfl⟩
theorem SAM.tr {σ1 σ2 σ3 : Sg} (h : SAM σ1 σ2) (k : SAM σ2 σ3) : SAM σ1 σ3 := ⟨k.1.trans h.1, k.2.1.trans h.2.1, k.2.2.1.trans h.2.2.1, k.2.2.2.1.trans h.2.2.2.1, k.2.2.2.2.trans h.2.2.2.2⟩
theorem SAM.chw (σ : Sg) (g : Row) : SAM σ (chw σ g) := ⟨rfl, rfl, rfl, rfl, rfl⟩
theorem SAM.refu (σ : Sg) (r d : Int32) : SAM σ (refu σ r d) := ⟨rfl, rfl, rfl, rfl, rfl⟩
theorem xo_sam {L : Int32} (hL : shi L ≠ none) (x y z : Int32) : SAM σ (xo σ L x y z).2 ∧ ∀ c, (xo σ L x y z).1 = .inr c → c = 1 ∨ c = 2 := by
  rcases shi_or hL with rfl | rfl | rfl | rfl | rfl | rfl | rfl
  · rw [xo_98]
    unfold spBorderw
    repeat' split
    all_goals exact ⟨by first | exact SAM.rf _ | exact SAM.chw _ _ | exact SAM.refu _ _ _, fun c hc => by first | (cases hc; exact Or.inl rfl) | (cases hc; exact Or.inr rfl) | cases hc⟩
  · rw [xo_104]
    unfold spHuesw
    repeat' split
    all_goals exact ⟨by first | exact SAM.rf _ | exact SAM.chw _ _ | exact SAM.refu _ _ _, fun c hc => by first | (cases hc; exact Or.inl rfl) | (cases hc; exact Or.inr rfl) | cases hc⟩
  · rw [xo_106]
    unfold spPotsw
    repeat' split
    all_goals exact ⟨by first | exact SAM.rf _ | exact SAM.chw _ _ | exact SAM.refu _ _ _, fun c hc => by first | (cases hc; exact Or.inl rfl) | (cases hc; exact Or.inr rfl) | cases hc⟩
  · rw [xo_112]
    unfold spPaintw
    repeat' split
    all_goals exact ⟨by first | exact SAM.rf _ | exact SAM.chw _ _ | exact SAM.refu _ _ _, fun c hc => by first | (cases hc; exact Or.inl rfl) | (cases hc; exact Or.inr rfl) | cases hc⟩
  · rw [xo_119]
    unfold spWishw
    repeat' split
    all_goals exact ⟨by first | exact SAM.rf _ | exact SAM.chw _ _ | exact SAM.refu _ _ _, fun c hc => by first | (cases hc; exact Or.inl rfl) | (cases hc; exact Or.inr rfl) | cases hc⟩
  · rw [xo_120]
    unfold spBackw
    repeat' split
    all_goals exact ⟨by first | exact SAM.rf _ | exact SAM.chw _ _ | exact SAM.refu _ _ _, fun c hc => by first | (cases hc; exact Or.inl rfl) | (cases hc; exact Or.inr rfl) | cases hc⟩
  · rw [xo_102]
    exact ⟨SAM.chw _ _, fun c hc => by cases hc⟩
def dct : List Nat → Nat
  | [] => 0
  | p :: ps => (if p = 100 ∨ p = 110 then 1 else 0) + dct ps
theorem stepP_cnt {t : Nat → Int32} {p : Nat} {vs : List Nat} (h : (stepP t n p i vs).1 = true) : (stepP t n p i vs).2.2.length = vs.length + (if p = 100 ∨ p = 110 then 1 else 0) := by
  unfold stepP at h ⊢
  by_cases c : p = 100 ∨ p = 110
  · rw [if_pos c] at h ⊢
    rw [if_pos c]
    by_cases q : 0 < (num t n (if p = 100 then 1 else 2) i 0).1 ∧ vs.length < 3
    · rw [if_pos q]
      exact List.length_append
    · rw [if_neg q] at h
      cases h
  · rw [if_neg c] at h ⊢
    rw [if_neg c]
    by_cases q : hr t n i = nI p
    · rw [if_pos q]; rfl
    · rw [if_neg q] at h; cases h
theorem pRun_cnt {t : Nat → Int32} : ∀ (ps : List Nat) i vs, (pRun t n ps i vs).1 = true → (pRun t n ps i vs).2.2.length = vs.length + dct ps := by
  intro ps
  induction ps with
  | nil => intro i vs _; rfl
  | cons p ps ih =>
    intro i vs h
    unfold pRun at h ⊢
    by_cases c : (stepP t n p i vs).1 = true
    · rw [if_pos c] at h ⊢
      rw [ih _ _ h, stepP_cnt c, Nat.add_assoc]
      rfl
    · rw [if_neg c] at h
      exact absurd h c
def VO (o : Int32 × List Nat) : Prop := ∃ k, shi o.1 = some k ∧ o.2.length = dct (prt k)
theorem VO.ne {o : Int32 × List Nat} (h : VO o) : shi o.1 ≠ none := by
  obtain ⟨k, hk, -⟩ := h
  rw [hk]
  intro q
  cases q
theorem pOrd_vo {t : Nat → Int32} (h : (pOrd t n i).1 = true) : VO (hr t n i, (pOrd t n i).2.2) := by
  cases hs : shi (hr t n i) with
  | none => rw [pOrd_no hs] at h; cases h
  | some k =>
    rw [pOrd_of hs] at h ⊢
    exact ⟨k, hs, (pRun_cnt _ _ _ h).trans (Nat.zero_add _)⟩
theorem pT_vo {t : Nat → Int32} : ∀ m i, ∀ o ∈ (pT t n m i).2.2, VO o := by
  intro m
  induction m with
  | zero => intro i o h; cases h
  | succ m ih =>
    intro i o h
    cases c : (pOrd t n i).1 with
    | false => rw [pT_no c] at h; cases h
    | true =>
      by_cases c2 : (pOrd t n i).2.1 < n
      · by_cases c3 : t (pOrd t n i).2.1 = nI 59
        · rw [pT_go c c2 c3] at h
          rcases List.mem_cons.mp h with rfl | h
          · exact pOrd_vo c
          · exact ih _ o h
        · rw [pT_bad c c2 c3] at h; cases h
      · rw [pT_end c c2] at h
        rcases List.mem_cons.mp h with rfl | h
        · exact pOrd_vo c
        · cases h
theorem xo_val {o : Int32 × List Nat} (hv : VO o) {f : Nat → Int32} (hf : ∀ j v, o.2[j]? = some v → f j = nI v) : xo σ o.1 (f 0) (f 1) (f 2) = exo σ o := by
  obtain ⟨L, vs⟩ := o
  obtain ⟨k, hk, hl⟩ := hv
  have g : ∀ j, j < vs.length → f j = nI (vs.getD j 0) := fun j hj => by
    rw [hf j vs[j] (List.getElem?_eq_getElem hj), List.getD_eq_getElem?_getD, List.getElem?_eq_getElem hj]
    rfl
  have hk : shi L = some k := hk
  have hl : vs.length = dct (prt k) := hl
  unfold exo
  show xo σ L _ _ _ = xo σ L _ _ _
  rcases shi_or (L := L) (by rw [hk]; intro q; cases q) with rfl | rfl | rfl | rfl | rfl | rfl | rfl
  · have : k = 1 := by have := hk.symm.trans (show shi (nI 98) = some 1 from rfl); exact Option.some.inj this
    subst this
    have hl : vs.length = 2 := hl
    rw [xo_98, xo_98, g 0 (by omega), g 1 (by omega)]
  · have : k = 4 := by have := hk.symm.trans (show shi (nI 104) = some 4 from rfl); exact Option.some.inj this
    subst this
    have hl : vs.length = 1 := hl
    rw [xo_104, xo_104, g 0 (by omega)]
  · have : k = 5 := by have := hk.symm.trans (show shi (nI 106) = some 5 from rfl); exact Option.some.inj this
    subst this
    have hl : vs.length = 2 := hl
    rw [xo_106, xo_106, g 0 (by omega), g 1 (by omega)]
  · have : k = 0 := by have := hk.symm.trans (show shi (nI 112) = some 0 from rfl); exact Option.some.inj this
    subst this
    have hl : vs.length = 2 := hl
    rw [xo_112, xo_112, g 0 (by omega), g 1 (by omega)]
  · have : k = 3 := by have := hk.symm.trans (show shi (nI 119) = some 3 from rfl); exact Option.some.inj this
    subst this
    have hl : vs.length = 3 := hl
    rw [xo_119, xo_119, g 0 (by omega), g 1 (by omega), g 2 (by omega)]
  · rw [xo_120, xo_120]
  · rw [xo_102, xo_102]
end
