/-! PURE ROWS: the reference's reading -/
section
variable {V0 V V' : VT} {t : Nat → Int32} {n i M : Nat} {vs : List Nat} {L : Int32}
def PW (V0 : VT) (M : Nat) (L : Int32) (V : VT) (i : Nat) (vs : List Nat) : Prop := (∀ q, q ≠ 109 → q ≠ 117 → V q = V0 q) ∧ (∀ j, j ≠ 16 → V 109 j = V0 109 j) ∧ V 109 16 = nI i ∧ V 117 (4 * M) = L ∧ (∀ j v, vs[j]? = some v → V 117 (4 * M + 1 + j) = nI v) ∧ ∀ j, j < 4 * M → V 117 j = V0 117 j
theorem PW.at (h : PW V0 M L V i vs) (i' : Nat) : PW V0 M L (up2 V 109 16 (nI i')) i' vs := by
  obtain ⟨h1, h2, h3, h4, h5, h6⟩ := h
  exact ⟨fun q a b => by rw [up2_ne a]; exact h1 q a b, fun j hj => by rw [up2_at, upd_ne hj]; exact h2 j hj, by rw [up2_at, upd_eq], by rw [up2_ne (by omega)]; exact h4, fun j v q => by rw [up2_ne (by omega)]; exact h5 j v q, fun j hj => by rw [up2_ne (by omega)]; exact h6 j hj⟩
theorem PW.w (h : PW V0 M L V i vs) (v : Nat) : PW V0 M L (up2 V 117 (4 * M + 1 + vs.length) (nI v)) i (vs ++ [v]) := by
  obtain ⟨h1, h2, h3, h4, h5, h6⟩ := h
  refine ⟨fun q a b => by rw [up2_ne b]; exact h1 q a b, fun j hj => by rw [up2_ne (by omega)]; exact h2 j hj, by rw [up2_ne (by omega)]; exact h3, by rw [up2_at, upd_ne (by omega)]; exact h4, fun j w q => ?_, fun j hj => by rw [up2_at, upd_ne (by omega)]; exact h6 j hj⟩
  rw [up2_at]
  rcases Nat.lt_trichotomy j vs.length with c | c | c
  · rw [upd_ne (by omega)]
    rw [List.getElem?_append_left c] at q
    exact h5 j w q
  · subst c
    rw [upd_eq]
    rw [List.getElem?_append_right (Nat.le_refl _), Nat.sub_self] at q
    cases q
    rfl
  · rw [List.getElem?_eq_none (by rw [List.length_append, List.length_singleton]; omega)] at q
    cases q
/-- the same value written again -/
theorem PW.w2 {v : Nat} (h : PW V0 M L V i (vs ++ [v])) (v' : Nat) : PW V0 M L (up2 V 117 (4 * M + 1 + vs.length) (nI v')) i (vs ++ [v']) := by
  obtain ⟨h1, h2, h3, h4, h5, h6⟩ := h
  have hh : PW V0 M L V i vs := ⟨h1, h2, h3, h4, fun j w q => h5 j w (by rw [List.getElem?_append_left (List.getElem?_eq_some_iff.mp q).1]; exact q), h6⟩
  exact hh.w v'
def Tx (V0 : VT) (t : Nat → Int32) (n : Nat) : Prop := n ≤ 60 ∧ V0 109 11 = nI n ∧ ∀ j, j < n → V0 114 j = t j
theorem m_here (X : Tx V0 t n) (hf : ∀ q, q ≠ 109 → q ≠ 117 → V q = V0 q) (h2 : ∀ j, j ≠ 16 → j ≠ 18 → V 109 j = V0 109 j) (h3 : V 109 16 = nI i) (hi : i < 2 ^ 30) : d_X5_here V = some (hr t n i) := by
  obtain ⟨n60, hL, T⟩ := X
  unfold d_X5_here
  rw [h2 11 (by omega) (by omega), hL, h3, hf 114 (by omega) (by omega)]
  by_cases h : i < n
  · rw [if_neg (by rw [nI_leI (by omega) (by omega)]; omega), asr_inb (show i < 60 by omega) (by omega), nI_clamp (by omega), T i h, hr_in h]
  · rw [if_pos (by rw [nI_leI (by omega) (by omega)]; omega), hr_out h]; rfl
theorem PW.here (X : Tx V0 t n) (h : PW V0 M L V i vs) (hi : i < 2 ^ 30) : d_X5_here V = some (hr t n i) := m_here X h.1 (fun j a _ => h.2.1 j a) h.2.2.1 hi
theorem m_skips (X : Tx V0 t n) (hf : ∀ q, q ≠ 109 → q ≠ 117 → V q = V0 q) (h2 : ∀ j, j ≠ 16 → j ≠ 18 → V 109 j = V0 109 j) (h3 : V 109 16 = nI i) (hi : i < 2 ^ 30) (x : Int32) : d_X5_skips x V = if hr t n i = x then some (nI 1, up2 V 109 16 (nI (i + 1))) else some (nI 0, V) := by
  unfold d_X5_skips
  rw [m_here X hf h2 h3 hi, bd_some, h3, j_1, j_0, nI_add]
theorem m_num (X : Tx V0 t n) (hM : 4 * M + 3 < 128) : ∀ m i v k V f, PW V0 M L V i (vs ++ [v]) → vs.length < 3 → i ≤ n → k + m ≤ 2 → m < f → ∃ V', lo3W d_X5_number_25b f (nI (4 * M + 1 + vs.length)) (nI (k + m)) (nI k) V = some (nI 1, V') ∧ PW V0 M L V' (i + (num t n m i v).1) (vs ++ [(num t n m i v).2]) := by
  have n60 := X.1
  intro m
  induction m with
  | zero =>
    intro i v k V f h _ _ hk hf
    obtain ⟨f, rfl⟩ : ∃ f', f = f' + 1 := ⟨f - 1, by omega⟩
    refine ⟨V, ?_, h⟩
    show d_X5_number_25b _ _ _ _ _ = _
    unfold d_X5_number_25b
    exact if_pos (Int32.le_refl _)
  | succ m ih =>
    intro i v k V f h hv hin hk hf
    obtain ⟨f, rfl⟩ : ∃ f', f = f' + 1 := ⟨f - 1, by omega⟩
    have hh := PW.here X h (by omega)
    have e117 : V 117 (4 * M + 1 + vs.length) = nI v := h.2.2.2.2.1 vs.length v (by rw [List.getElem?_append_right (Nat.le_refl _), Nat.sub_self]; rfl)
    show ∃ V', d_X5_number_25b (lo3W d_X5_number_25b f) _ _ _ _ = _ ∧ _
    have ih := ih (i + 1)
    generalize hK : lo3W d_X5_number_25b f = KK
    unfold d_X5_number_25b
    rw [if_neg (by rw [nI_leI (by omega) (by omega)]; omega), hh, bd_some, j_48, j_57, m_in, bd_some]
    have e0 : (decide (nI 48 ≤ hr t n i) && decide (hr t n i ≤ nI 57)) = isD (hr t n i) := rfl
    rw [e0]
    cases c : isD (hr t n i) with
    | false =>
      rw [if_pos (show b2 false = (0 : Int32) from rfl), num_f (by rw [c]; decide)]
      exact ⟨V, by rw [j_1], h⟩
    | true =>
      have hi := hr_lt c
      obtain ⟨d, hd, e⟩ := isD_of c
      have et : t i = nI (48 + d) := (hr_in hi).symm.trans e
      rw [if_neg (show ¬ b2 true = (0 : Int32) by decide +kernel), num_t c, et, dv_nI hd, bd_some, e, h.2.2.1]
      simp only [asr_inb (show 4 * M + 1 + vs.length < 128 by omega) (show 128 < 2 ^ 31 by omega), nI_clamp (show 4 * M + 1 + vs.length < 2 ^ 31 by omega), e117]
      have e2 : (10 : Int32) * nI v + nI (48 + d) - nI 48 = nI (10 * v + d) := by
        rw [j_10, pk_mul, nI_add, show nI (10 * v + (48 + d)) - nI 48 = nI (10 * v + (48 + d) - 48) from pk_sub (by omega)]
        congr 1
        omega
      rw [e2, j_1, nI_add, nI_add]
      obtain ⟨V', q1, q2⟩ := ih (10 * v + d) (k + 1) _ f ((h.w2 (10 * v + d)).at (i + 1)) hv (by omega) (by omega) (by omega)
      rw [hK, show k + 1 + m = k + (m + 1) by omega] at q1
      refine ⟨V', q1, ?_⟩
      rw [Nat.add_right_comm] at q2
      exact q2
theorem m_number (X : Tx V0 t n) (hM : 4 * M + 3 < 128) {m : Nat} (h : PW V0 M L V i vs) (hi : i ≤ n) (hl : vs.length < 3) (hm : m = 1 ∨ m = 2) {p : Nat} (hp : p = 100 ∨ p = 110) (hpm : (if p = 100 then 1 else 2) = m) : ∃ V', d_X5_number (nI (4 * M + 1 + vs.length)) (nI m) V = some (b2 (stepP t n p i vs).1, V') ∧ PW V0 M L V' (stepP t n p i vs).2.1 (stepP t n p i vs).2.2 := by
  have n60 := X.1
  have hh := PW.here X h (by omega)
  unfold d_X5_number stepP
  rw [if_pos hp, hpm, hh, bd_some, j_48, j_57, m_in, bd_some, j_0]
  have e0 : (decide (nI 48 ≤ hr t n i) && decide (hr t n i ≤ nI 57)) = isD (hr t n i) := rfl
  rw [e0]
  cases c : isD (hr t n i) with
  | false =>
    have en : num t n m i 0 = (0, 0) := by
      rcases hm with rfl | rfl
      · exact num_f (by rw [c]; decide)
      · exact num_f (by rw [c]; decide)
    rw [if_pos (show b2 false = nI 0 from rfl), en]
    exact ⟨V, rfl, h⟩
  | true =>
    have en : 0 < (num t n m i 0).1 := by
      rcases hm with rfl | rfl
      · rw [num_t c]; exact Nat.succ_pos _
      · rw [num_t c]; exact Nat.succ_pos _
    rw [if_neg (show ¬ b2 true = nI 0 by decide +kernel), asr_inb (by omega) (by omega), nI_clamp (by omega), if_pos ⟨en, hl⟩]
    obtain ⟨V', q1, q2⟩ := m_num X hM m i 0 0 _ FU (h.w 0) hl hi (by omega) (show m < 1000 by omega)
    rw [Nat.zero_add] at q1
    exact ⟨V', q1, q2⟩
def RP (V0 : VT) (M : Nat) (L : Int32) (d : Option (Int32 × VT)) (r : Bool × Nat × List Nat) : Prop := ∃ V', d = some (b2 r.1, V') ∧ PW V0 M L V' r.2.1 r.2.2
theorem RP.nil (h : PW V0 M L V i vs) : RP V0 M L (some (nI 1, V)) (pRun t n [] i vs) := ⟨V, rfl, h⟩
theorem RP.dig (X : Tx V0 t n) (hM : 4 * M + 3 < 128) (h : PW V0 M L V i vs) (hi : i ≤ n) {x : Nat} (hx : x = 4 * M + 1 + vs.length) (hl : vs.length < 3) {p m : Nat} (hp : p = 100 ∨ p = 110) (hpm : (if p = 100 then 1 else 2) = m) {F : VT → Option (Int32 × VT)} {ps : List Nat} (kk : ∀ V' i' vs', PW V0 M L V' i' vs' → i' ≤ n → vs'.length = vs.length + 1 → RP V0 M L (F V') (pRun t n ps i' vs')) : RP V0 M L (bw (d_X5_number (nI x) (nI m) V) fun r V => if r = nI 0 then some (nI 0, V) else F V) (pRun t n (p :: ps) i vs) := by
  have n60 := X.1
  subst hx
  have hm : m = 1 ∨ m = 2 := by rw [← hpm]; split <;> simp
  obtain ⟨V', q1, q2⟩ := m_number X hM h hi hl hm hp hpm
  unfold pRun
  rw [q1, bw_some]
  cases c : (stepP t n p i vs).1 with
  | false =>
    rw [if_pos (show b2 false = nI 0 from rfl), if_neg (by decide)]
    exact ⟨V', by rw [c]; rfl, q2⟩
  | true =>
    rw [if_neg (show ¬ b2 true = nI 0 by decide +kernel), if_pos rfl]
    refine kk _ _ _ q2 (stepP_le (by omega) hi).2 ?_
    unfold stepP at c ⊢
    rw [if_pos hp, hpm] at c ⊢
    by_cases c2 : 0 < (num t n m i 0).1 ∧ vs.length < 3
    · rw [if_pos c2]
      exact List.length_append
    · rw [if_neg c2] at c
      cases c
theorem RP.chr (X : Tx V0 t n) (h : PW V0 M L V i vs) (hi : i ≤ n) {p : Nat} (hp : p < 2 ^ 31 ∧ p ≠ 100 ∧ p ≠ 110) {F : VT → Option (Int32 × VT)} {ps : List Nat} (kk : ∀ V' i', PW V0 M L V' i' vs → i' ≤ n → RP V0 M L (F V') (pRun t n ps i' vs)) : RP V0 M L (bw (d_X5_skips (nI p) V) fun r V => if r = nI 0 then some (nI 0, V) else F V) (pRun t n (p :: ps) i vs) := by
  have n60 := X.1
  have e : stepP t n p i vs = if hr t n i = nI p then (true, i + 1, vs) else (false, i, vs) := if_neg (by omega)
  rw [m_skips X h.1 (fun j a _ => h.2.1 j a) h.2.2.1 (by omega)]
  unfold pRun
  rw [e]
  by_cases c : hr t n i = nI p
  · rw [if_pos c, if_pos c, bw_some, if_neg (show ¬ nI 1 = nI 0 by decide +kernel), if_pos (show (true, i + 1, vs).1 = true from rfl)]
    exact kk _ _ (h.at (i + 1)) (hr_is hp.1 c)
  · rw [if_neg c, if_neg c, bw_some, if_pos rfl, if_neg (show ¬ (false, i, vs).1 = true from fun q => by cases q)]
    exact ⟨V, rfl, h⟩
theorem RP.last (X : Tx V0 t n) (hM : 4 * M + 3 < 128) (h : PW V0 M L V i vs) (hi : i ≤ n) {x : Nat} (hx : x = 4 * M + 1 + vs.length) (hl : vs.length < 3) {p m : Nat} (hp : p = 100 ∨ p = 110) (hpm : (if p = 100 then 1 else 2) = m) : RP V0 M L (bw (d_X5_number (nI x) (nI m) V) fun r V => asr (zok r) (some (r, V))) (pRun t n [p] i vs) := by
  have n60 := X.1
  subst hx
  have hm : m = 1 ∨ m = 2 := by rw [← hpm]; split <;> simp
  obtain ⟨V', q1, q2⟩ := m_number X hM h hi hl hm hp hpm
  refine ⟨V', ?_, ?_⟩
  · rw [q1, bw_some, asr_zok]
    unfold pRun
    cases c : (stepP t n p i vs).1 with
    | false => rw [if_neg (by decide), c]
    | true => rfl
  · unfold pRun
    cases c : (stepP t n p i vs).1 with
    | false => rw [if_neg (by decide)]; exact q2
    | true => exact q2
end
