/-! PURE ROWS: the landed reading, to findError -/
section
variable {V0 V V' : VT} {t : Nat → Int32} {n i : Nat} {vs : List Nat} {L : Int32}
theorem PS.push (h : PS V0 n L V i vs) (v : Nat) : PS V0 n L (up2 (up2 V 107 vs.length (nI v)) 105 5 (nI (vs.length + 1))) i (vs ++ [v]) := by
  obtain ⟨h1, h2, h3, h4, h5, h6⟩ := h
  have e : ∀ j, j ≠ 5 → up2 (up2 V 107 vs.length (nI v)) 105 5 (nI (vs.length + 1)) 105 j = V 105 j := fun j hj => by rw [up2_at, upd_ne hj, up2_ne (by omega)]
  refine ⟨fun q a b => by rw [up2_ne a, up2_ne b]; exact h1 q a b, by rw [e _ (by omega)]; exact h2, by rw [e _ (by omega)]; exact h3, by rw [e _ (by omega)]; exact h4, by rw [up2_at, upd_eq, List.length_append, List.length_singleton], fun j w q => ?_⟩
  rw [up2_ne (by omega), up2_at]
  rcases Nat.lt_trichotomy j vs.length with c | c | c
  · rw [upd_ne (by omega)]
    rw [List.getElem?_append_left c] at q
    exact h6 j w q
  · subst c
    rw [upd_eq]
    rw [List.getElem?_append_right (Nat.le_refl _), Nat.sub_self] at q
    cases q
    rfl
  · rw [List.getElem?_eq_none (by rw [List.length_append, List.length_singleton]; omega)] at q
    cases q
theorem i_tpart (n60 : n ≤ 60) (T : ∀ j, j < n → V0 106 j = t j) {p : Nat} (hp : p < 128) (h : PS V0 n L V i vs) (hi : i ≤ n) (hl : vs.length ≤ 3) : ∃ V', d_X2_takePart (nI p) V = some (b2 (stepP t n p i vs).1, V') ∧ PS V0 n L V' (stepP t n p i vs).2.1 (stepP t n p i vs).2.2 := by
  have dig : ∀ m, m ≤ 2 → ∃ V', d_X2_takeDigits (nI m) V = some (b2 (decide (0 < (num t n m i 0).1 ∧ vs.length < 3)), V') ∧ PS V0 n L V' (i + (num t n m i 0).1) (if 0 < (num t n m i 0).1 ∧ vs.length < 3 then vs ++ [(num t n m i 0).2] else vs) := by
    intro m hm
    obtain ⟨V1, q1, q2⟩ := i_digits n60 T m i 0 0 V FU h hi (by omega) (show m < 1000 by omega)
    unfold d_X2_takeDigits d_X2_takeDigits_4
    rw [Nat.zero_add, Nat.zero_add] at q1
    have h5 := q2.2.2.2.2.1
    have hb := num_le (t := t) m i 0 hi
    by_cases c : 0 < (num t n m i 0).1 ∧ vs.length < 3
    · refine ⟨_, ?_, by rw [if_pos c]; exact q2.push _⟩
      refine q1.trans ?_
      unfold d_X2_takeDigits_82
      rw [decide_eq_true c, j_0, j_3, j_1, if_neg (by rw [nI_eq (by omega) (by omega)]; omega), h5, if_pos (by rw [nI_ltI (by omega) (by omega)]; omega), asr_inb c.2 (by omega), nI_clamp (by omega), nI_add]
      rfl
    · refine ⟨V1, ?_, by rw [if_neg c]; exact q2⟩
      refine q1.trans ?_
      unfold d_X2_takeDigits_82
      rw [decide_eq_false c, j_0, j_3]
      by_cases c1 : (num t n m i 0).1 = 0
      · rw [c1, if_pos rfl]; rfl
      · rw [if_neg (by rw [nI_eq (by omega) (by omega)]; omega), h5, if_neg (by rw [nI_ltI (by omega) (by omega)]; omega)]
        rfl
  have h2 := h.2.1
  have h3 := h.2.2.1
  have h106 : V 106 = V0 106 := h.1 106 (by omega) (by omega)
  have fin : ∀ {m : Nat}, (if p = 100 then 1 else 2) = m → (p = 100 ∨ p = 110) → m ≤ 2 → ∀ F : Option (Int32 × VT), (∀ V', d_X2_takeDigits (nI m) V = some (b2 (decide (0 < (num t n m i 0).1 ∧ vs.length < 3)), V') → F = some (b2 (decide (0 < (num t n m i 0).1 ∧ vs.length < 3)), V')) → ∃ V', F = some (b2 (stepP t n p i vs).1, V') ∧ PS V0 n L V' (stepP t n p i vs).2.1 (stepP t n p i vs).2.2 := by
    intro m hm hpp hm2 F hF
    obtain ⟨V', q1, q2⟩ := dig m hm2
    refine ⟨V', ?_, ?_⟩
    · rw [hF V' q1]
      unfold stepP
      rw [if_pos hpp, hm]
      by_cases c : 0 < (num t n m i 0).1 ∧ vs.length < 3
      · rw [if_pos c, decide_eq_true c]
      · rw [if_neg c, decide_eq_false c]
    · unfold stepP
      rw [if_pos hpp, hm]
      by_cases c : 0 < (num t n m i 0).1 ∧ vs.length < 3
      · rw [if_pos c] at q2 ⊢; exact q2
      · rw [if_neg c] at q2 ⊢; exact q2
  unfold d_X2_takePart
  by_cases c1 : p = 100
  · subst c1
    rw [if_pos (show nI 100 = (100 : Int32) from j_100.symm)]
    refine fin (m := 1) (if_pos rfl) (Or.inl rfl) (by omega) _ (fun V' q => ?_)
    rw [j_1, q, bw_some, asr_zok]
  · rw [if_neg (show ¬ nI p = (100 : Int32) by rw [j_100, nI_eq (by omega) (by omega)]; exact c1)]
    by_cases c2 : p = 110
    · subst c2
      rw [if_pos (show nI 110 = (110 : Int32) from j_110.symm)]
      refine fin (m := 2) (if_neg c1) (Or.inr rfl) (by omega) _ (fun V' q => ?_)
      rw [j_2, q, bw_some, asr_zok]
    · rw [if_neg (show ¬ nI p = (110 : Int32) by rw [j_110, nI_eq (by omega) (by omega)]; exact c2), h2, h3]
      unfold stepP
      rw [if_neg (show ¬ (p = 100 ∨ p = 110) by omega)]
      by_cases hin : i < n
      · rw [if_neg (by rw [nI_leI (by omega) (by omega)]; omega), asr_inb (show i < 60 by omega) (by omega), nI_clamp (by omega), h106, T i hin, hr_in hin]
        by_cases c3 : t i = nI p
        · rw [if_pos c3, if_pos c3, j_1, nI_add]
          exact ⟨_, rfl, h.at (i + 1)⟩
        · rw [if_neg c3, if_neg c3, j_0]
          exact ⟨V, rfl, h⟩
      · rw [if_pos (by rw [nI_leI (by omega) (by omega)]; omega), hr_out hin, if_neg (fun q => (iM_ne' (show p < 2 ^ 31 by omega)).mp q), j_0]
        exact ⟨V, rfl, h⟩
theorem i_run (n60 : n ≤ 60) (T : ∀ j, j < n → V0 106 j = t j) {i5 : Nat} : ∀ (ps : List Nat) k i vs V f, (∀ j p, ps[j]? = some p → strCh i5 (k + j) = nI p) → (∀ p ∈ ps, p < 128) → strLen.getD i5 0 = k + ps.length → k + ps.length < 100 → PS V0 n L V i vs → i ≤ n → vs.length ≤ 3 → ps.length < f → ∃ V', lo1W (d_X2_takeParts_57b i5) f (nI k) V = some (b2 (pRun t n ps i vs).1, V') ∧ PS V0 n L V' (pRun t n ps i vs).2.1 (pRun t n ps i vs).2.2 := by
  intro ps
  induction ps with
  | nil =>
    intro k i vs V f _ _ hl h1 h _ _ hf
    obtain ⟨f, rfl⟩ : ∃ f', f = f' + 1 := ⟨f - 1, by simp at hf; omega⟩
    refine ⟨V, ?_, h⟩
    show d_X2_takeParts_57b i5 _ _ _ = _
    unfold d_X2_takeParts_57b
    rw [hl]
    exact if_pos (Int32.le_refl _)
  | cons p ps ih =>
    intro k i vs V f hs hp hl h1 h hi hv hf
    have hlen : (p :: ps).length = ps.length + 1 := List.length_cons ..
    rw [hlen] at hl h1 hf
    obtain ⟨f, rfl⟩ : ∃ f', f = f' + 1 := ⟨f - 1, by omega⟩
    have hp1 := hp p (List.mem_cons_self ..)
    obtain ⟨V1, q1, q2⟩ := i_tpart n60 T hp1 h hi hv
    have e0 : strCh i5 k = nI p := hs 0 p rfl
    show ∃ V', d_X2_takeParts_57b i5 (lo1W (d_X2_takeParts_57b i5) f) _ _ = _ ∧ _
    generalize hK : lo1W (d_X2_takeParts_57b i5) f = KK
    unfold d_X2_takeParts_57b
    rw [hl, if_neg (by rw [nI_leI (by omega) (by omega)]; omega), asr_inb (show k < k + (ps.length + 1) by omega) (by omega), nI_clamp (by omega), e0, q1, bw_some, j_0, j_1]
    unfold pRun
    cases c : (stepP t n p i vs).1 with
    | false =>
      rw [if_pos (show b2 false = nI 0 from rfl), if_neg (by decide)]
      refine ⟨V1, ?_, q2⟩
      rw [c]; rfl
    | true =>
      rw [if_neg (show ¬ b2 true = nI 0 by decide +kernel), if_pos rfl, nI_add]
      obtain ⟨V2, w1, w2⟩ := ih (k + 1) _ _ V1 f (fun j r hj => by rw [Nat.add_assoc, Nat.add_comm 1 j]; exact hs (j + 1) r hj) (fun r hr => hp r (List.mem_cons_of_mem _ hr)) (by omega) (by omega) q2 (stepP_le (Nat.lt_trans hp1 (by omega)) hi).2 (stepP_len hv) (by omega)
      rw [hK] at w1
      exact ⟨V2, w1, w2⟩
/-- between the orders -/
def QS (V0 : VT) (n : Nat) (V : VT) (i : Nat) : Prop := (∀ q, q ≠ 105 → q ≠ 107 → V q = V0 q) ∧ V 105 1 = nI n ∧ V 105 2 = nI i
theorem QS.at (h : QS V0 n V i) (i' : Nat) : QS V0 n (up2 V 105 2 (nI i')) i' := ⟨fun q a b => by rw [up2_ne a]; exact h.1 q a b, by rw [up2_at, upd_ne (by omega)]; exact h.2.1, by rw [up2_at, upd_eq]⟩
theorem PS.q (h : PS V0 n L V i vs) : QS V0 n V i := ⟨h.1, h.2.1, h.2.2.1⟩
theorem i_parts (n60 : n ≤ 60) (T : ∀ j, j < n → V0 106 j = t j) (h : QS V0 n V i) (hi : i < 2 ^ 30) : ∃ V', d_X2_takeParts V = some (b2 (pOrd t n i).1, V') ∧ QS V0 n V' (pOrd t n i).2.1 ∧ ((pOrd t n i).1 = true → V' 105 3 = hr t n i ∧ ∀ j v, (pOrd t n i).2.2[j]? = some v → V' 107 j = nI v) := by
  obtain ⟨h1, h2, h3⟩ := id h
  have h106 : V 106 = V0 106 := h1 106 (by omega) (by omega)
  unfold d_X2_takeParts pOrd
  rw [h2, h3]
  by_cases hin : i < n
  · rw [if_pos (by rw [nI_ltI (by omega) (by omega)]; omega), asr_inb (show i < 60 by omega) (by omega), nI_clamp (by omega), h106, T i hin, i_shape, bd_some, hr_in hin]
    have g1 : ∀ q, q ≠ 105 → up2 V 105 3 (t i) q = V q := fun q a => up2_ne a
    have g2 : ∀ j, j ≠ 3 → up2 V 105 3 (t i) 105 j = V 105 j := fun j a => by rw [up2_at, upd_ne a]
    cases hs : shi (t i) with
    | none => exact ⟨_, rfl, ⟨fun q a b => by rw [g1 q a]; exact h1 q a b, by rw [g2 _ (by omega)]; exact h2, by rw [g2 _ (by omega)]; exact h3⟩, fun q => by cases q⟩
    | some k =>
      have hk := shi_lt hs
      obtain ⟨a1, a2, a3⟩ := prt_all k hk
      have hP : PS V0 n (t i) (up2 (up2 (up2 V 105 3 (t i)) 105 2 (nI (i + 1))) 105 5 (nI 0)) (i + 1) [] := by
        have g3 : ∀ j, j ≠ 5 → up2 (up2 (up2 V 105 3 (t i)) 105 2 (nI (i + 1))) 105 5 (nI 0) 105 j = up2 (up2 V 105 3 (t i)) 105 2 (nI (i + 1)) 105 j := fun j a => by rw [up2_at, upd_ne a]
        refine ⟨fun q a b => by rw [up2_ne a, up2_ne a, up2_ne a]; exact h1 q a b, ?_, ?_, ?_, by rw [up2_at, upd_eq]; rfl, fun j v q => by cases q⟩
        · rw [g3 _ (by omega), up2_at, upd_ne (by omega), up2_at, upd_ne (by omega)]; exact h2
        · rw [g3 _ (by omega), up2_at, upd_eq]
        · rw [g3 _ (by omega), up2_at, upd_ne (by omega), up2_at, upd_eq]
      have hget : ∀ j p, (prt k)[j]? = some p → strCh k (0 + j) = nI p := fun j p q => by
        have hj := (List.getElem?_eq_some_iff.mp q).1
        rw [Nat.zero_add, a3 j (by omega) hj]
        congr 1
        rw [List.getD_eq_getElem?_getD, q]
        rfl
      obtain ⟨V', q1, q2⟩ := i_run n60 T (prt k) 0 (i + 1) [] _ FU hget (prt_lt k hk) (by omega) (by omega) hP (by omega) (Nat.zero_le _) (show (prt k).length < 1000 by omega)
      refine ⟨V', ?_, q2.q, fun _ => ⟨q2.2.2.2.1, q2.2.2.2.2.2⟩⟩
      show d_X2_takeParts_57 k (0 : Int32) (up2 (up2 (up2 V 105 3 (t i)) 105 2 (nI i + (1 : Int32))) 105 5 (0 : Int32)) = _
      rw [j_0, j_1, nI_add]
      exact q1
  · rw [if_neg (by rw [nI_ltI (by omega) (by omega)]; omega), hr_out hin, shi_M, j_0]
    exact ⟨V, rfl, h, fun q => by cases q⟩
end
def pT (t : Nat → Int32) (n : Nat) : Nat → Nat → Bool × Nat × List (Int32 × List Nat)
  | 0, i => (false, i, [])
  | m + 1, i => if (pOrd t n i).1 = true then
      if (pOrd t n i).2.1 < n then
        if t (pOrd t n i).2.1 = nI 59 then ((pT t n m ((pOrd t n i).2.1 + 1)).1, (pT t n m ((pOrd t n i).2.1 + 1)).2.1, (hr t n i, (pOrd t n i).2.2) :: (pT t n m ((pOrd t n i).2.1 + 1)).2.2)
        else (false, (pOrd t n i).2.1, [])
      else (true, (pOrd t n i).2.1, [(hr t n i, (pOrd t n i).2.2)])
    else (false, (pOrd t n i).2.1, [])
theorem pT_no {t : Nat → Int32} {n m i : Nat} (h : (pOrd t n i).1 = false) : pT t n (m + 1) i = (false, (pOrd t n i).2.1, []) := if_neg (by rw [h]; decide)
theorem pT_end {t : Nat → Int32} {n m i : Nat} (h : (pOrd t n i).1 = true) (h2 : ¬ (pOrd t n i).2.1 < n) : pT t n (m + 1) i = (true, (pOrd t n i).2.1, [(hr t n i, (pOrd t n i).2.2)]) := (if_pos h).trans (if_neg h2)
theorem pT_bad {t : Nat → Int32} {n m i : Nat} (h : (pOrd t n i).1 = true) (h2 : (pOrd t n i).2.1 < n) (h3 : ¬ t (pOrd t n i).2.1 = nI 59) : pT t n (m + 1) i = (false, (pOrd t n i).2.1, []) := (if_pos h).trans ((if_pos h2).trans (if_neg h3))
theorem pT_go {t : Nat → Int32} {n m i : Nat} (h : (pOrd t n i).1 = true) (h2 : (pOrd t n i).2.1 < n) (h3 : t (pOrd t n i).2.1 = nI 59) : pT t n (m + 1) i = ((pT t n m ((pOrd t n i).2.1 + 1)).1, (pT t n m ((pOrd t n i).2.1 + 1)).2.1, (hr t n i, (pOrd t n i).2.2) :: (pT t n m ((pOrd t n i).2.1 + 1)).2.2) := (if_pos h).trans ((if_pos h2).trans (if_pos h3))
section
variable {V0 V V' : VT} {t : Nat → Int32} {n i : Nat} {vs : List Nat} {L : Int32}
theorem i_err (n60 : n ≤ 60) (T : ∀ j, j < n → V0 106 j = t j) : ∀ m i k V f, QS V0 n V i → i ≤ n → n + 2 ≤ i + 2 * m → k + m ≤ 60 → m < f → ∃ V', lo1W d_X2_findError_7b f (nI k) V = some (if (pT t n m i).1 = true then iM else nI (pT t n m i).2.1, V') ∧ QS V0 n V' (pT t n m i).2.1 := by
  intro m
  induction m with
  | zero => intro i k V f _ h1 h2; omega
  | succ m ih =>
    intro i k V f h h1 h2 hk hf
    obtain ⟨f, rfl⟩ : ∃ f', f = f' + 1 := ⟨f - 1, by omega⟩
    obtain ⟨V1, q1, q2, -⟩ := i_parts n60 T h (by omega)
    obtain ⟨l1, l2, l3⟩ := pOrd_le (t := t) h1
    have h106 : V1 106 = V0 106 := q2.1 106 (by omega) (by omega)
    show ∃ V', d_X2_findError_7b (lo1W d_X2_findError_7b f) _ _ = _ ∧ _
    generalize hK : lo1W d_X2_findError_7b f = KK
    unfold d_X2_findError_7b
    rw [j_60, if_neg (by rw [nI_leI (by omega) (by omega)]; omega), q1, bw_some, j_0, q2.2.1, q2.2.2]
    cases c : (pOrd t n i).1 with
    | false =>
      rw [if_pos (show b2 false = nI 0 from rfl), pT_no c]
      exact ⟨V1, rfl, q2⟩
    | true =>
      rw [if_neg (show ¬ b2 true = nI 0 by decide +kernel)]
      have l3 := l3 c
      by_cases c2 : (pOrd t n i).2.1 < n
      · rw [if_pos (by rw [nI_ltI (by omega) (by omega)]; exact c2), asr_inb (show (pOrd t n i).2.1 < 60 by omega) (by omega), nI_clamp (by omega), h106, T _ c2, j_59, j_1]
        by_cases c3 : t (pOrd t n i).2.1 = nI 59
        · rw [if_pos c3, nI_add, nI_add, pT_go c c2 c3]
          obtain ⟨V2, w1, w2⟩ := ih ((pOrd t n i).2.1 + 1) (k + 1) _ f (q2.at _) (by omega) (by omega) (by omega) (by omega)
          rw [hK] at w1
          exact ⟨V2, w1, w2⟩
        · rw [if_neg c3, pT_bad c c2 c3]
          exact ⟨V1, rfl, q2⟩
      · rw [if_neg (by rw [nI_ltI (by omega) (by omega)]; exact c2), pT_end c c2]
        exact ⟨V1, rfl, q2⟩
theorem i_findError (n60 : n ≤ 60) (h1 : V 105 1 = nI n) (T : ∀ j, j < n → V 106 j = t j) : ∃ V', d_X2_findError V = some (if (pT t n 31 0).1 = true then iM else nI (pT t n 31 0).2.1, V') ∧ QS V n V' (pT t n 31 0).2.1 :=
  i_err n60 T 31 0 0 _ FU ⟨fun q a b => up2_ne a, by rw [up2_at, upd_ne (by omega)]; exact h1, by rw [up2_at, upd_eq]; rfl⟩ (Nat.zero_le _) (by omega) (by omega) (show 31 < 1000 by omega)
end
