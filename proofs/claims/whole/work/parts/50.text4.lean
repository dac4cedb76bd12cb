/-! PURE ROWS: the reference's orderHere and isText -/
theorem pOrd_of {t : Nat → Int32} {n i k : Nat} (h : shi (hr t n i) = some k) : pOrd t n i = pRun t n (prt k) (i + 1) [] := by unfold pOrd; rw [h]
theorem pOrd_no {t : Nat → Int32} {n i : Nat} (h : shi (hr t n i) = none) : pOrd t n i = (false, i, []) := by unfold pOrd; rw [h]
section
variable {V0 V V' : VT} {t : Nat → Int32} {n i M : Nat} {vs : List Nat} {L : Int32}
theorem m_orderHere (X : Tx V t n) (h18 : V 109 18 = nI M) (h16 : V 109 16 = nI i) (hM : 4 * M + 3 < 128) (hi : i ≤ n) : RP V M (hr t n i) (d_X5_orderHere V) (pOrd t n i) := by
  have n60 := X.1
  have hh : d_X5_here V = some (hr t n i) := m_here X (fun _ _ _ => rfl) (fun _ _ _ => rfl) h16 (by omega)
  have P0 : PW V M (hr t n i) (up2 V 117 (4 * M) (hr t n i)) i [] := ⟨fun q _ b => up2_ne b, fun j _ => by rw [up2_ne (by omega)], by rw [up2_ne (by omega)]; exact h16, by rw [up2_at, upd_eq], fun j v q => (by cases q), fun j hj => by rw [up2_at, upd_ne (by omega)]⟩
  unfold d_X5_orderHere
  rw [hh, bd_some, h18]
  simp (maxSteps := 4000000) (disch := omega) only [j_0, j_1, j_2, j_3, j_4, j_43, j_42, j_45, j_61, j_98, j_102, j_104, j_106, j_112, j_119, j_120, pk_mul, nI_add, asr_inb, nI_clamp]
  generalize up2 V 117 (4 * M) (hr t n i) = V1 at P0 ⊢
  have sk : ∀ x, d_X5_skips x V1 = if hr t n i = x then some (nI 1, up2 V1 109 16 (nI (i + 1))) else some (nI 0, V1) := m_skips X P0.1 (fun j a _ => P0.2.1 j a) P0.2.2.1 (by omega)
  have P2 := P0.at (i + 1)
  generalize up2 V1 109 16 (nI (i + 1)) = V2 at P2 sk
  have e1 : ¬ nI 1 = nI 0 := by decide +kernel
  have hlt : ∀ p, p < 2 ^ 31 → hr t n i = nI p → i + 1 ≤ n := fun p hp h => hr_is hp h
  by_cases c1 : hr t n i = nI 112
  · rw [sk, if_pos c1, bw_some, if_neg e1, pOrd_of (k := 0) (by rw [c1]; rfl)]
    have hl := hlt _ (by omega) c1
    refine RP.dig X hM P2 hl (by rfl) (by decide) (Or.inl rfl) rfl (fun V3 i3 v3 P3 hi3 l3 => ?_)
    refine RP.chr X P3 hi3 (by omega) (fun V4 i4 P4 hi4 => ?_)
    refine RP.dig X hM P4 hi4 (by rw [l3]; rfl) (by rw [l3]; decide) (Or.inl rfl) rfl (fun V5 i5 v5 P5 hi5 l5 => ?_)
    exact RP.nil P5
  rw [sk, if_neg c1, bw_some, if_pos rfl]
  by_cases c2 : hr t n i = nI 98
  · rw [sk, if_pos c2, bw_some, if_neg e1, pOrd_of (k := 1) (by rw [c2]; rfl)]
    have hl := hlt _ (by omega) c2
    refine RP.dig X hM P2 hl (by rfl) (by decide) (Or.inl rfl) rfl (fun V3 i3 v3 P3 hi3 l3 => ?_)
    refine RP.chr X P3 hi3 (by omega) (fun V4 i4 P4 hi4 => ?_)
    refine RP.dig X hM P4 hi4 (by rw [l3]; rfl) (by rw [l3]; decide) (Or.inl rfl) rfl (fun V5 i5 v5 P5 hi5 l5 => ?_)
    exact RP.nil P5
  rw [sk, if_neg c2, bw_some, if_pos rfl]
  by_cases c3 : hr t n i = nI 119
  · rw [sk, if_pos c3, bw_some, if_neg e1, pOrd_of (k := 3) (by rw [c3]; rfl)]
    have hl := hlt _ (by omega) c3
    refine RP.dig X hM P2 hl (by rfl) (by decide) (Or.inl rfl) rfl (fun V3 i3 v3 P3 hi3 l3 => ?_)
    refine RP.chr X P3 hi3 (by omega) (fun V4 i4 P4 hi4 => ?_)
    refine RP.dig X hM P4 hi4 (by rw [l3]; rfl) (by rw [l3]; decide) (Or.inl rfl) rfl (fun V5 i5 v5 P5 hi5 l5 => ?_)
    refine RP.chr X P5 hi5 (by omega) (fun V6 i6 P6 hi6 => ?_)
    refine RP.dig X hM P6 hi6 (by rw [l5, l3]; rfl) (by rw [l5, l3]; decide) (Or.inl rfl) rfl (fun V7 i7 v7 P7 hi7 l7 => ?_)
    exact RP.nil P7
  rw [sk, if_neg c3, bw_some, if_pos rfl]
  by_cases c4 : hr t n i = nI 104
  · rw [sk, if_pos c4, bw_some, if_neg e1, pOrd_of (k := 4) (by rw [c4]; rfl)]
    have hl := hlt _ (by omega) c4
    exact RP.last X hM P2 hl (by rfl) (by decide) (Or.inr rfl) rfl
  rw [sk, if_neg c4, bw_some, if_pos rfl]
  by_cases c5 : hr t n i = nI 106
  · rw [sk, if_pos c5, bw_some, if_neg e1, pOrd_of (k := 5) (by rw [c5]; rfl)]
    have hl := hlt _ (by omega) c5
    refine RP.dig X hM P2 hl (by rfl) (by decide) (Or.inl rfl) rfl (fun V3 i3 v3 P3 hi3 l3 => ?_)
    refine RP.chr X P3 hi3 (by omega) (fun V4 i4 P4 hi4 => ?_)
    refine RP.dig X hM P4 hi4 (by rw [l3]; rfl) (by rw [l3]; decide) (Or.inr rfl) rfl (fun V5 i5 v5 P5 hi5 l5 => ?_)
    exact RP.nil P5
  rw [sk, if_neg c5, bw_some, if_pos rfl]
  by_cases c6 : hr t n i = nI 120
  · rw [sk, if_pos c6, bw_some, if_neg e1, pOrd_of (k := 2) (by rw [c6]; rfl)]
    exact RP.nil P2
  rw [sk, if_neg c6, bw_some, if_pos rfl]
  by_cases c7 : hr t n i = nI 102
  · rw [sk, if_pos c7, bw_some, if_neg e1, pOrd_of (k := 2) (by rw [c7]; rfl)]
    exact RP.nil P2
  rw [sk, if_neg c7, bw_some, if_pos rfl, pOrd_no (by unfold shi; rw [if_neg c1, if_neg c2, if_neg c3, if_neg c4, if_neg c5, if_neg c6, if_neg c7])]
  exact ⟨V1, rfl, P0⟩
def TD (V : VT) (os : List (Int32 × List Nat)) : Prop := ∀ k o, os[k]? = some o → o.2.length ≤ 3 ∧ V 117 (4 * k) = o.1 ∧ ∀ j v, o.2[j]? = some v → V 117 (4 * k + 1 + j) = nI v
def QW (V0 V : VT) (i : Nat) : Prop := (∀ q, q ≠ 109 → q ≠ 117 → V q = V0 q) ∧ (∀ j, j ≠ 16 → j ≠ 18 → V 109 j = V0 109 j) ∧ V 109 16 = nI i
theorem m_text (X : Tx V0 t n) : ∀ m i V f os, QW V0 V i → V 109 18 = nI os.length → TD V os → i ≤ n → n + 2 ≤ i + 2 * m → 2 * os.length ≤ i → m < f → ∃ V', lo0W d_X5_isText_10b f V = some (b2 (pT t n m i).1, V') ∧ QW V0 V' (pT t n m i).2.1 ∧ ((pT t n m i).1 = true → V' 109 18 = nI (os ++ (pT t n m i).2.2).length ∧ TD V' (os ++ (pT t n m i).2.2)) := by
  have n60 := X.1
  intro m
  induction m with
  | zero => intro i V f os _ _ _ h1 h2; omega
  | succ m ih =>
    intro i V f os h h18 hT h1 h2 ho hf
    obtain ⟨f, rfl⟩ : ∃ f', f = f' + 1 := ⟨f - 1, by omega⟩
    have XV : Tx V t n := ⟨n60, by rw [h.2.1 11 (by omega) (by omega)]; exact X.2.1, fun j hj => by rw [h.1 114 (by omega) (by omega)]; exact X.2.2 j hj⟩
    obtain ⟨V1, q1, q2⟩ := m_orderHere XV h18 h.2.2 (by omega) h1
    obtain ⟨l1, l2, l3⟩ := pOrd_le (t := t) h1
    show ∃ V', d_X5_isText_10b (lo0W d_X5_isText_10b f) _ = _ ∧ _
    generalize hK : lo0W d_X5_isText_10b f = KK
    unfold d_X5_isText_10b
    rw [q1, bw_some, j_0]
    have hQ : QW V0 V1 (pOrd t n i).2.1 := ⟨fun q a b => (q2.1 q a b).trans (h.1 q a b), fun j a b => (q2.2.1 j a).trans (h.2.1 j a b), q2.2.2.1⟩
    cases c : (pOrd t n i).1 with
    | false =>
      rw [if_pos (show b2 false = nI 0 from rfl), pT_no c]
      exact ⟨V1, rfl, hQ, fun q => by cases q⟩
    | true =>
      have l3 := l3 c
      rw [if_neg (show ¬ b2 true = nI 0 by decide +kernel)]
      have e18 : V1 109 18 = nI os.length := (q2.2.1 18 (by omega)).trans h18
      have hT1 : TD V1 (os ++ [(hr t n i, (pOrd t n i).2.2)]) := by
        intro k o q
        rcases Nat.lt_trichotomy k os.length with c9 | c9 | c9
        · rw [List.getElem?_append_left c9] at q
          obtain ⟨t1, t2, t3⟩ := hT k o q
          refine ⟨t1, (q2.2.2.2.2.2 _ (by omega)).trans t2, fun j v hv => ?_⟩
          have hj := (List.getElem?_eq_some_iff.mp hv).1
          exact (q2.2.2.2.2.2 _ (by omega)).trans (t3 j v hv)
        · subst c9
          rw [List.getElem?_append_right (Nat.le_refl _), Nat.sub_self] at q
          cases q
          exact ⟨pOrd_len t n i, q2.2.2.2.1, q2.2.2.2.2.1⟩
        · rw [List.getElem?_eq_none (by rw [List.length_append, List.length_singleton]; omega)] at q
          cases q
      have e18' : V1 109 18 + 1 = nI (os ++ [(hr t n i, (pOrd t n i).2.2)]).length := by
        rw [e18, j_1, nI_add, List.length_append, List.length_singleton]
      rw [e18']
      have hQ2 : QW V0 (up2 V1 109 18 (nI (os ++ [(hr t n i, (pOrd t n i).2.2)]).length)) (pOrd t n i).2.1 := ⟨fun q a b => by rw [up2_ne a]; exact hQ.1 q a b, fun j a b => by rw [up2_at, upd_ne b]; exact hQ.2.1 j a b, by rw [up2_at, upd_ne (by omega)]; exact hQ.2.2⟩
      have g18 : up2 V1 109 18 (nI (os ++ [(hr t n i, (pOrd t n i).2.2)]).length) 109 18 = nI (os ++ [(hr t n i, (pOrd t n i).2.2)]).length := by rw [up2_at, upd_eq]
      have hT2 : TD (up2 V1 109 18 (nI (os ++ [(hr t n i, (pOrd t n i).2.2)]).length)) (os ++ [(hr t n i, (pOrd t n i).2.2)]) := by
        intro k o q
        rw [up2_ne (by omega)]
        exact hT1 k o q
      generalize up2 V1 109 18 (nI (os ++ [(hr t n i, (pOrd t n i).2.2)]).length) = V2 at hQ2 g18 hT2 ⊢
      rw [j_59, m_skips X hQ2.1 hQ2.2.1 hQ2.2.2 (by omega)]
      by_cases c2 : (pOrd t n i).2.1 < n
      · rw [hr_in c2]
        by_cases c3 : t (pOrd t n i).2.1 = nI 59
        · rw [if_pos c3, bw_some, if_neg (show ¬ nI 1 = nI 0 by decide +kernel), pT_go c c2 c3]
          obtain ⟨V3, w1, w2, w3⟩ := ih ((pOrd t n i).2.1 + 1) (up2 V2 109 16 (nI ((pOrd t n i).2.1 + 1))) f (os ++ [(hr t n i, (pOrd t n i).2.2)]) ⟨fun q a b => by rw [up2_ne a]; exact hQ2.1 q a b, fun j a b => by rw [up2_at, upd_ne a]; exact hQ2.2.1 j a b, by rw [up2_at, upd_eq]⟩ (by rw [up2_at, upd_ne (by omega)]; exact g18) (fun k o q => by rw [up2_ne (by omega)]; exact hT2 k o q) (by omega) (by omega) (by rw [List.length_append, List.length_singleton]; omega) (by omega)
          rw [hK] at w1
          refine ⟨V3, w1, w2, fun q => ?_⟩
          have w4 := w3 q
          rw [List.append_assoc] at w4
          exact w4
        · rw [if_neg c3, bw_some, if_pos rfl, pT_bad c c2 c3, hQ2.2.2, hQ2.2.1 11 (by omega) (by omega), X.2.1, if_neg (by rw [nI_eq (by omega) (by omega)]; omega)]
          exact ⟨V2, rfl, hQ2, fun q => by cases q⟩
      · rw [hr_out c2, if_neg (fun q => (iM_ne' (show 59 < 2 ^ 31 by omega)).mp q), bw_some, if_pos rfl, pT_end c c2, hQ2.2.2, hQ2.2.1 11 (by omega) (by omega), X.2.1, if_pos (by congr 1; omega)]
        exact ⟨V2, rfl, hQ2, fun _ => ⟨g18, hT2⟩⟩
theorem m_isText (X : Tx V t n) : ∃ V', d_X5_isText V = some (b2 (pT t n 31 0).1, V') ∧ QW V V' (pT t n 31 0).2.1 ∧ ((pT t n 31 0).1 = true → V' 109 18 = nI (pT t n 31 0).2.2.length ∧ TD V' (pT t n 31 0).2.2) :=
  m_text X 31 0 (up2 (up2 V 109 16 (0 : Int32)) 109 18 (0 : Int32)) FU [] ⟨fun q a _ => by rw [up2_ne a, up2_ne a], fun j a b => by rw [up2_at, upd_ne b, up2_at, upd_ne a], by rw [up2_at, upd_ne (by omega), up2_at, upd_eq]; rfl⟩ (by rw [up2_at, upd_eq]; rfl) (fun k o q => by cases q) (Nat.zero_le _) (by have := X.1; omega) (Nat.zero_le _) (show 31 < 1000 by omega)
end
