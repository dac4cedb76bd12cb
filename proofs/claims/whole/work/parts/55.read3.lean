/-! PURE ROWS: the reference's read -/
def RD (d : Option (Int32 × VT)) (V0 : VT) (os : List (Int32 × List Nat)) (r : (Int32 ⊕ Nat) × Sg) : Prop := match r.1 with
  | .inl _ => ∃ b V', d = d_X5_read_95 (nI os.length) b V' ∧ AJw V' r.2 ∧ FrW V0 V' ∧ V' 109 7 = nI 0
  | .inr c => ∃ b V' j o c', os[j]? = some o ∧ d = d_X5_read_95 (nI (j + 1)) b V' ∧ AJw V' r.2 ∧ FrW V0 V' ∧ V' 109 7 = nI c' ∧ (c' = 1 ∨ c' = 2) ∧ c = if isRf o.1 c' = true then 2 else 1
theorem bw_id (d : Option (Int32 × VT)) : bw d (fun r V => some (r, V)) = d := by
  cases d with
  | none => rfl
  | some p => rfl
section
variable {V0 V V' : VT} {σ : Sg}
theorem m_carries (h : AJw V σ) (K : OKs σ) {o : Int32 × List Nat} (hv : VO o) {k : Nat} (hk : k < 32) (hL : V 117 (4 * k) = o.1) (hf : ∀ j v, o.2[j]? = some v → V 117 (4 * k + 1 + j) = nI v) : DMw (d_X5_carries (nI (4 * k)) V) V (exo σ o) := by
  rw [← xo_val hv (f := fun j => V 117 (4 * k + 1 + j)) hf]
  have hne := hv.ne
  unfold d_X5_carries
  simp (disch := omega) only [asr_inb, nI_clamp, hL, j_1, j_2, j_3, nI_add, bw_id]
  show DMw _ V (xo σ o.1 (V 117 (4 * k + 1)) (V 117 (4 * k + 2)) (V 117 (4 * k + 3)))
  generalize o.1 = L at hne ⊢
  have a1 : ¬ nI 104 = (98 : Int32) := by decide +kernel
  have a2 : ¬ nI 106 = (98 : Int32) := by decide +kernel
  have a3 : ¬ nI 106 = (104 : Int32) := by decide +kernel
  have a4 : ¬ nI 112 = (98 : Int32) := by decide +kernel
  have a5 : ¬ nI 112 = (104 : Int32) := by decide +kernel
  have a6 : ¬ nI 112 = (106 : Int32) := by decide +kernel
  have b1 : ¬ nI 119 = (98 : Int32) := by decide +kernel
  have b2 : ¬ nI 119 = (104 : Int32) := by decide +kernel
  have b3 : ¬ nI 119 = (106 : Int32) := by decide +kernel
  have b4 : ¬ nI 119 = (112 : Int32) := by decide +kernel
  have c1 : ¬ nI 120 = (98 : Int32) := by decide +kernel
  have c2 : ¬ nI 120 = (104 : Int32) := by decide +kernel
  have c3 : ¬ nI 120 = (106 : Int32) := by decide +kernel
  have c4 : ¬ nI 120 = (112 : Int32) := by decide +kernel
  have c5 : ¬ nI 120 = (119 : Int32) := by decide +kernel
  have d1 : ¬ nI 102 = (98 : Int32) := by decide +kernel
  have d2 : ¬ nI 102 = (104 : Int32) := by decide +kernel
  have d3 : ¬ nI 102 = (106 : Int32) := by decide +kernel
  have d4 : ¬ nI 102 = (112 : Int32) := by decide +kernel
  have d5 : ¬ nI 102 = (119 : Int32) := by decide +kernel
  have d6 : ¬ nI 102 = (120 : Int32) := by decide +kernel
  rcases shi_or hne with rfl | rfl | rfl | rfl | rfl | rfl | rfl
  · rw [xo_98, if_pos (show nI 98 = (98 : Int32) from rfl)]; exact M_borderw h K _ _
  · rw [xo_104, if_neg a1, if_pos (show nI 104 = (104 : Int32) from rfl)]; exact M_huesw h K _
  · rw [xo_106, if_neg a2, if_neg a3, if_pos (show nI 106 = (106 : Int32) from rfl)]; exact M_potsw h K _ _
  · rw [xo_112, if_neg a4, if_neg a5, if_neg a6, if_pos (show nI 112 = (112 : Int32) from rfl)]; exact M_paintw h K _ _
  · rw [xo_119, if_neg b1, if_neg b2, if_neg b3, if_neg b4, if_pos (show nI 119 = (119 : Int32) from rfl)]; exact M_wishw h K _ _ _
  · rw [xo_120, if_neg c1, if_neg c2, if_neg c3, if_neg c4, if_neg c5, if_pos (show nI 120 = (120 : Int32) from rfl)]; exact M_backw h K
  · rw [xo_102, if_neg d1, if_neg d2, if_neg d3, if_neg d4, if_neg d5, if_neg d6]; exact M_fillw h K
theorem m_loop {os : List (Int32 × List Nat)} (hN : os.length < 32) (hT : TD V0 os) (h18 : V0 109 18 = nI os.length) : ∀ (rest pre : List (Int32 × List Nat)) σ V b f, os = pre ++ rest → AJw V σ → OKs σ → FrW V0 V → V 109 7 = nI 0 → (∀ o ∈ rest, VO o) → rest.length + 1 < f → RD (lo2W d_X5_read_66b f (nI pre.length) b V) V0 os (rn rest σ pre.length) := by
  intro rest
  induction rest with
  | nil =>
    intro pre σ V b f ho h K hF h7 _ hf
    obtain ⟨f, rfl⟩ : ∃ f', f = f' + 1 := ⟨f - 1, by omega⟩
    rw [List.append_nil] at ho
    subst ho
    refine ⟨b, V, ?_, h, hF, h7⟩
    show d_X5_read_66b (lo2W d_X5_read_66b f) _ b V = _
    unfold d_X5_read_66b
    rw [hF.2 18 (by omega) (by omega) (by omega), h18, if_pos (Int32.le_refl _)]
  | cons o rest ih =>
    intro pre σ V b f ho h K hF h7 hvo hf
    rw [List.length_cons] at hf
    obtain ⟨f, rfl⟩ : ∃ f', f = f' + 1 := ⟨f - 1, by omega⟩
    have hl : os.length = pre.length + (rest.length + 1) := by rw [ho, List.length_append, List.length_cons]
    have hget : os[pre.length]? = some o := by rw [ho, List.getElem?_append_right (Nat.le_refl _), Nat.sub_self]; rfl
    obtain ⟨t1, t2, t3⟩ := hT _ o hget
    have e117 : V 117 = V0 117 := hF.1 117 (by omega) (by omega)
    have v1 := hvo o (List.mem_cons_self ..)
    have hx := m_carries h K v1 (k := pre.length) (by omega) (by rw [e117]; exact t2) (fun j v q => by rw [e117]; exact t3 j v q)
    obtain ⟨b2, V2, w1, w2, w3, w4, w5⟩ := hx
    have ih := ih (pre ++ [o]) (exo σ o).2 V2 b2 f (by rw [ho, List.append_assoc]; rfl) w2 (K_xo K v1.ne _ _ _) (hF.tr w3)
    obtain ⟨f, rfl⟩ : ∃ f', f = f' + 1 := ⟨f - 1, by omega⟩
    have nx : ∀ c', V2 109 7 = nI c' → (c' = 1 ∨ c' = 2) → lo2W d_X5_read_66b (f + 1) (nI (pre.length + 1)) b2 V2 = d_X5_read_95 (nI (pre.length + 1)) b2 V2 := by
      intro c' q1 q2
      show d_X5_read_66b (lo2W d_X5_read_66b f) _ b2 V2 = _
      unfold d_X5_read_66b
      rw [(hF.tr w3).2 18 (by omega) (by omega) (by omega), h18]
      by_cases c : os.length ≤ pre.length + 1
      · rw [if_pos (by rw [nI_leI (by omega) (by omega)]; exact c)]
      · rw [if_neg (by rw [nI_leI (by omega) (by omega)]; exact c), q1, if_neg (show ¬ nI c' = (0 : Int32) by rcases q2 with rfl | rfl <;> decide +kernel)]
    show RD (d_X5_read_66b (lo2W d_X5_read_66b (f + 1)) _ b V) _ _ _
    generalize lo2W d_X5_read_66b (f + 1) = KK at ih nx ⊢
    unfold d_X5_read_66b
    rw [hF.2 18 (by omega) (by omega) (by omega), h18, if_neg (by rw [nI_leI (by omega) (by omega)]; omega), h7, if_pos (show nI 0 = (0 : Int32) from rfl), j_4, pk_mul, w1, bw_some, j_1, nI_add]
    cases he : (exo σ o).1 with
    | inl v =>
      rw [rn_inl he]
      rw [he] at w4
      rw [List.length_append, List.length_singleton] at ih
      exact ih w4 (fun o' ho' => hvo o' (List.mem_cons_of_mem _ ho')) (by omega)
    | inr c =>
      rw [rn_inr he]
      rw [he] at w4
      have hc := (xo_sam v1.ne _ _ _).2 c he
      exact ⟨b2, V2, pre.length, o, c, hget, nx c w4 hc, w2, hF.tr w3, w4, hc, rfl⟩
theorem m_isRf {L : Int32} {c : Nat} (h7 : V 109 7 = nI c) (hc : c = 1 ∨ c = 2) : d_X5_isRefusal L V = some (b2 (isRf L c)) := by
  unfold d_X5_isRefusal isRf d_X5_isRefusal_40
  rw [h7, j_120, j_112, j_98, j_104]
  by_cases c1 : L = nI 120
  · rw [if_pos c1, if_pos c1]
    rcases hc with rfl | rfl <;> rfl
  · rw [if_neg c1, if_neg c1]
    by_cases c2 : L = nI 112
    · rw [if_pos c2, if_pos c2]
      rcases hc with rfl | rfl <;> rfl
    · rw [if_neg c2, if_neg c2]
      by_cases c3 : L = nI 98
      · rw [if_pos c3, if_pos c3]
        rcases hc with rfl | rfl <;> rfl
      · rw [if_neg c3, if_neg c3]
        by_cases c4 : L = nI 104
        · rw [if_pos c4, if_pos c4]
          rcases hc with rfl | rfl <;> rfl
        · rw [if_neg c4, if_neg c4]; rfl
theorem RM.con {ls : List Row} {g g' : Row} (h : RM V (push ls g)) (e : ∀ i, i < 56 → g i = g' i) : RM V (push ls g') := by
  obtain ⟨h1, h2⟩ := h
  refine ⟨by rw [h1, push_len, push_len], fun k r q i hi => ?_⟩
  unfold push at q h2
  rcases Nat.lt_trichotomy k (if ls.length = 8 then ls.tail else ls).length with c | c | c
  · rw [List.getElem?_append_left c] at q
    exact h2 k r (by rw [List.getElem?_append_left c]; exact q) i hi
  · rw [List.getElem?_append_right (by omega), c, Nat.sub_self] at q
    cases q
    rw [h2 k g (by rw [List.getElem?_append_right (by omega), c, Nat.sub_self]; rfl) i hi]
    exact e i hi
  · rw [List.getElem?_eq_none (by rw [List.length_append, List.length_singleton]; omega)] at q
    cases q
end
