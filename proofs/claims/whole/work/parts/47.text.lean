/-! PURE ROWS: the grammar of the texts, and the landed reading of it -/
def isD (c : Int32) : Bool := decide (nI 48 ≤ c) && decide (c ≤ nI 57)
def dv (c : Int32) : Nat := nt c - 48
theorem isD_of {c : Int32} (h : isD c = true) : ∃ d, d < 10 ∧ c = nI (48 + d) := by
  unfold isD at h
  simp only [Bool.and_eq_true, decide_eq_true_eq] at h
  have h0 : (0 : Int32) ≤ nI 48 := by decide +kernel
  obtain ⟨j, hj, e⟩ := nI_of2 (x := c) (M := nI 57) (n := 57) (nI_toInt (by omega)) (fun q => absurd (Int32.le_trans h0 h.1) (Int32.not_le.mpr q)) h.2
  have h1 := h.1
  rw [e, nI_leI (by omega) (by omega)] at h1
  exact ⟨j - 48, by omega, by rw [e]; congr 1; omega⟩
theorem isD_no {c : Int32} (h : ¬ isD c = true) (h1 : ¬ c < nI 48) : nI 57 < c := by
  unfold isD at h
  simp only [Bool.and_eq_true, decide_eq_true_eq] at h
  exact Int32.not_le.mp (fun q => h ⟨Int32.not_lt.mp h1, q⟩)
theorem dv_nI {d : Nat} (h : d < 10) : dv (nI (48 + d)) = d := by unfold dv; rw [nt_nI (by omega)]; omega
theorem isD_M : isD iM = false := by decide +kernel
def hr (t : Nat → Int32) (n i : Nat) : Int32 := if i < n then t i else iM
theorem hr_in {t : Nat → Int32} {n i : Nat} (h : i < n) : hr t n i = t i := if_pos h
theorem hr_out {t : Nat → Int32} {n i : Nat} (h : ¬ i < n) : hr t n i = iM := if_neg h
theorem hr_lt {t : Nat → Int32} {n i : Nat} (h : isD (hr t n i) = true) : i < n := by
  apply Classical.byContradiction
  intro q
  rw [hr_out q, isD_M] at h
  cases h
theorem hr_is {t : Nat → Int32} {n i p : Nat} (hp : p < 2 ^ 31) (h : hr t n i = nI p) : i < n := by
  apply Classical.byContradiction
  intro q
  rw [hr_out q] at h
  exact (iM_ne' hp).mp h
def num (t : Nat → Int32) (n : Nat) : Nat → Nat → Nat → Nat × Nat
  | 0, _, v => (0, v)
  | m + 1, i, v => if isD (hr t n i) = true then ((num t n m (i + 1) (10 * v + dv (t i))).1 + 1, (num t n m (i + 1) (10 * v + dv (t i))).2) else (0, v)
theorem num_t {t : Nat → Int32} {n m i v : Nat} (h : isD (hr t n i) = true) : num t n (m + 1) i v = ((num t n m (i + 1) (10 * v + dv (t i))).1 + 1, (num t n m (i + 1) (10 * v + dv (t i))).2) := if_pos h
theorem num_f {t : Nat → Int32} {n m i v : Nat} (h : ¬ isD (hr t n i) = true) : num t n (m + 1) i v = (0, v) := if_neg h
theorem num_le {t : Nat → Int32} {n : Nat} : ∀ m i v, i ≤ n → i + (num t n m i v).1 ≤ n := by
  intro m
  induction m with
  | zero => intro i v h; exact h
  | succ m ih =>
    intro i v h
    by_cases c : isD (hr t n i) = true
    · have h2 := hr_lt c
      have h3 := ih (i + 1) (10 * v + dv (t i)) (by omega)
      rw [num_t c]
      show i + ((num t n m (i + 1) (10 * v + dv (t i))).1 + 1) ≤ n
      omega
    · rw [num_f c]; exact h
def stepP (t : Nat → Int32) (n p i : Nat) (vs : List Nat) : Bool × Nat × List Nat :=
  if p = 100 ∨ p = 110 then
    if 0 < (num t n (if p = 100 then 1 else 2) i 0).1 ∧ vs.length < 3 then (true, i + (num t n (if p = 100 then 1 else 2) i 0).1, vs ++ [(num t n (if p = 100 then 1 else 2) i 0).2]) else (false, i + (num t n (if p = 100 then 1 else 2) i 0).1, vs)
  else if hr t n i = nI p then (true, i + 1, vs) else (false, i, vs)
def pRun (t : Nat → Int32) (n : Nat) : List Nat → Nat → List Nat → Bool × Nat × List Nat
  | [], i, vs => (true, i, vs)
  | p :: ps, i, vs => if (stepP t n p i vs).1 = true then pRun t n ps (stepP t n p i vs).2.1 (stepP t n p i vs).2.2 else stepP t n p i vs
theorem stepP_le {t : Nat → Int32} {n p i : Nat} {vs : List Nat} (hp : p < 2 ^ 31) (h : i ≤ n) : i ≤ (stepP t n p i vs).2.1 ∧ (stepP t n p i vs).2.1 ≤ n := by
  unfold stepP
  by_cases c : p = 100 ∨ p = 110
  · rw [if_pos c]
    have h1 := num_le (t := t) (n := n) (if p = 100 then 1 else 2) i 0 h
    by_cases q : 0 < (num t n (if p = 100 then 1 else 2) i 0).1 ∧ vs.length < 3
    · rw [if_pos q]; exact ⟨Nat.le_add_right _ _, h1⟩
    · rw [if_neg q]; exact ⟨Nat.le_add_right _ _, h1⟩
  · rw [if_neg c]
    by_cases c2 : hr t n i = nI p
    · rw [if_pos c2]
      have := hr_is hp c2
      exact ⟨Nat.le_succ i, this⟩
    · rw [if_neg c2]; exact ⟨Nat.le_refl i, h⟩
theorem stepP_len {t : Nat → Int32} {n p i : Nat} {vs : List Nat} (h : vs.length ≤ 3) : (stepP t n p i vs).2.2.length ≤ 3 := by
  unfold stepP
  by_cases c : p = 100 ∨ p = 110
  · rw [if_pos c]
    by_cases q : 0 < (num t n (if p = 100 then 1 else 2) i 0).1 ∧ vs.length < 3
    · rw [if_pos q]
      show (vs ++ [_]).length ≤ 3
      rw [List.length_append, List.length_singleton]
      omega
    · rw [if_neg q]; exact h
  · rw [if_neg c]
    split <;> exact h
theorem pRun_le {t : Nat → Int32} {n : Nat} : ∀ (ps : List Nat) i vs, (∀ p ∈ ps, p < 2 ^ 31) → i ≤ n → i ≤ (pRun t n ps i vs).2.1 ∧ (pRun t n ps i vs).2.1 ≤ n := by
  intro ps
  induction ps with
  | nil => intro i vs _ h; exact ⟨Nat.le_refl i, h⟩
  | cons p ps ih =>
    intro i vs hp h
    have h1 := stepP_le (t := t) (vs := vs) (hp p (List.mem_cons_self ..)) h
    unfold pRun
    split
    · have h2 := ih (stepP t n p i vs).2.1 (stepP t n p i vs).2.2 (fun q hq => hp q (List.mem_cons_of_mem _ hq)) h1.2
      exact ⟨Nat.le_trans h1.1 h2.1, h2.2⟩
    · exact h1
theorem pRun_len {t : Nat → Int32} {n : Nat} : ∀ (ps : List Nat) i vs, vs.length ≤ 3 → (pRun t n ps i vs).2.2.length ≤ 3 := by
  intro ps
  induction ps with
  | nil => intro i vs h; exact h
  | cons p ps ih =>
    intro i vs h
    unfold pRun
    split
    · exact ih _ _ (stepP_len h)
    · exact stepP_len h
/-- which shape a letter has -/
def shi (x : Int32) : Option Nat := if x = nI 112 then some 0 else if x = nI 98 then some 1 else if x = nI 119 then some 3 else if x = nI 104 then some 4 else if x = nI 106 then some 5 else if x = nI 120 then some 2 else if x = nI 102 then some 2 else none
def prt : Nat → List Nat
  | 0 => [100, 61, 100]
  | 1 => [100, 45, 100]
  | 3 => [100, 61, 100, 42, 100]
  | 4 => [110]
  | 5 => [100, 43, 110]
  | _ => []
theorem shi_lt {x : Int32} {k : Nat} (h : shi x = some k) : k < 6 := by
  unfold shi at h
  repeat' split at h
  all_goals first | (cases h; decide) | cases h
theorem prt_all : ∀ k, k < 6 → strLen.getD k 0 = (prt k).length ∧ (prt k).length < 6 ∧ ∀ j, j < 6 → j < (prt k).length → strCh k j = nI ((prt k).getD j 0) := by decide +kernel
theorem prt_lt : ∀ k, k < 6 → ∀ p ∈ prt k, p < 128 := by decide +kernel
theorem shi_M : shi iM = none := by decide +kernel
theorem i_shape (x : Int32) (V : VT) : d_X2_shapeOf x V = some (shi x) := by
  unfold shi
  by_cases c1 : x = nI 112
  · rw [if_pos c1, c1]; rfl
  rw [if_neg c1]
  by_cases c2 : x = nI 98
  · rw [if_pos c2, c2]; rfl
  rw [if_neg c2]
  by_cases c3 : x = nI 119
  · rw [if_pos c3, c3]; rfl
  rw [if_neg c3]
  by_cases c4 : x = nI 104
  · rw [if_pos c4, c4]; rfl
  rw [if_neg c4]
  by_cases c5 : x = nI 106
  · rw [if_pos c5, c5]; rfl
  rw [if_neg c5]
  by_cases c6 : x = nI 120
  · rw [if_pos c6, c6]; rfl
  rw [if_neg c6]
  by_cases c7 : x = nI 102
  · rw [if_pos c7, c7]; rfl
  rw [if_neg c7]
  have e1 : ¬ x = (112 : Int32) := c1
  have e2 : ¬ x = (98 : Int32) := c2
  have e3 : ¬ x = (119 : Int32) := c3
  have e4 : ¬ x = (104 : Int32) := c4
  have e5 : ¬ x = (106 : Int32) := c5
  have e6 : ¬ x = (120 : Int32) := c6
  have e7 : ¬ x = (102 : Int32) := c7
  unfold d_X2_shapeOf
  simp only [if_neg e1, if_neg e2, if_neg e3, if_neg e4, if_neg e5, if_neg e6, if_neg e7, ite_self]
def pOrd (t : Nat → Int32) (n i : Nat) : Bool × Nat × List Nat := match shi (hr t n i) with
  | none => (false, i, [])
  | some k => pRun t n (prt k) (i + 1) []
theorem pOrd_le {t : Nat → Int32} {n i : Nat} (h : i ≤ n) : i ≤ (pOrd t n i).2.1 ∧ (pOrd t n i).2.1 ≤ n ∧ ((pOrd t n i).1 = true → i + 1 ≤ (pOrd t n i).2.1) := by
  unfold pOrd
  cases hs : shi (hr t n i) with
  | none => exact ⟨Nat.le_refl i, h, fun q => by cases q⟩
  | some k =>
    have hi : i < n := Classical.byContradiction (fun q => by rw [hr_out q, shi_M] at hs; cases hs)
    have h1 := pRun_le (t := t) (prt k) (i + 1) [] (fun p hp => Nat.lt_trans (prt_lt k (shi_lt hs) p hp) (by omega)) (show i + 1 ≤ n from hi)
    exact ⟨Nat.le_trans (Nat.le_succ i) h1.1, h1.2, fun _ => h1.1⟩
theorem pOrd_len (t : Nat → Int32) (n i : Nat) : (pOrd t n i).2.2.length ≤ 3 := by
  unfold pOrd
  cases shi (hr t n i) with
  | none => exact Nat.zero_le _
  | some k => exact pRun_len _ _ _ (Nat.zero_le _)
section
variable {V0 V V' : VT} {t : Nat → Int32} {n i : Nat} {vs : List Nat} {L : Int32}
def PS (V0 : VT) (n : Nat) (L : Int32) (V : VT) (i : Nat) (vs : List Nat) : Prop := (∀ q, q ≠ 105 → q ≠ 107 → V q = V0 q) ∧ V 105 1 = nI n ∧ V 105 2 = nI i ∧ V 105 3 = L ∧ V 105 5 = nI vs.length ∧ ∀ j v, vs[j]? = some v → V 107 j = nI v
theorem PS.at (h : PS V0 n L V i vs) (i' : Nat) : PS V0 n L (up2 V 105 2 (nI i')) i' vs := by
  obtain ⟨h1, h2, h3, h4, h5, h6⟩ := h
  exact ⟨fun q a b => by rw [up2_ne a]; exact h1 q a b, by rw [up2_at, upd_ne (by omega)]; exact h2, by rw [up2_at, upd_eq], by rw [up2_at, upd_ne (by omega)]; exact h4, by rw [up2_at, upd_ne (by omega)]; exact h5, fun j v q => by rw [up2_ne (by omega)]; exact h6 j v q⟩
theorem i_digits (n60 : n ≤ 60) (T : ∀ j, j < n → V0 106 j = t j) : ∀ m i v k V f, PS V0 n L V i vs → i ≤ n → k + m ≤ 2 → m < f → ∃ V', lo3W d_X2_takeDigits_4b f (nI (k + m)) (nI v) (nI k) V = d_X2_takeDigits_82 (nI (num t n m i v).2) (nI (k + (num t n m i v).1)) V' ∧ PS V0 n L V' (i + (num t n m i v).1) vs := by
  intro m
  induction m with
  | zero =>
    intro i v k V f h hin hk hf
    obtain ⟨f, rfl⟩ : ∃ f', f = f' + 1 := ⟨f - 1, by omega⟩
    refine ⟨V, ?_, h⟩
    show d_X2_takeDigits_4b _ _ _ _ _ = _
    unfold d_X2_takeDigits_4b
    exact if_pos (Int32.le_refl _)
  | succ m ih =>
    intro i v k V f h hin hk hf
    obtain ⟨f, rfl⟩ : ∃ f', f = f' + 1 := ⟨f - 1, by omega⟩
    have h2 := h.2.1
    have h3 := h.2.2.1
    have h106 : V 106 = V0 106 := h.1 106 (by omega) (by omega)
    have ih := ih (i + 1)
    show ∃ V', d_X2_takeDigits_4b (lo3W d_X2_takeDigits_4b f) _ _ _ _ = _ ∧ _
    generalize hK : lo3W d_X2_takeDigits_4b f = KK
    unfold d_X2_takeDigits_4b
    rw [if_neg (by rw [nI_leI (by omega) (by omega)]; omega), h2, h3]
    by_cases hi : i < n
    · rw [if_neg (by rw [nI_leI (by omega) (by omega)]; omega), nI_clamp (by omega), h106, T i hi]
      simp only [asr_inb (show i < 60 by omega) (show 60 < 2 ^ 31 by omega)]
      have eh : hr t n i = t i := hr_in hi
      by_cases c : isD (hr t n i) = true
      · have c9 := c
        rw [eh] at c
        obtain ⟨d, hd, e⟩ := isD_of c
        rw [num_t c9, e, dv_nI hd, if_neg (by rw [j_48, nI_ltI (by omega) (by omega)]; omega), if_neg (by rw [j_57, nI_ltI (by omega) (by omega)]; omega)]
        have e2 : nI v * (10 : Int32) + (nI (48 + d) - (48 : Int32)) = nI (10 * v + d) := by
          rw [j_48, j_10, show nI (48 + d) - nI 48 = nI (48 + d - 48) from pk_sub (by omega), pk_mul, nI_add]
          congr 1
          omega
        rw [e2, j_1, nI_add, nI_add]
        obtain ⟨V', q1, q2⟩ := ih (10 * v + d) (k + 1) _ f (h.at (i + 1)) (by omega) (by omega) (by omega)
        rw [hK] at q1
        rw [show k + 1 + m = k + (m + 1) by omega] at q1
        refine ⟨V', ?_, ?_⟩
        · refine q1.trans ?_
          rw [Nat.add_right_comm]
          rfl
        · rw [Nat.add_right_comm] at q2
          exact q2
      · refine ⟨V, ?_, by rw [num_f c]; exact h⟩
        rw [num_f c]
        rw [eh] at c
        by_cases c1 : t i < (48 : Int32)
        · exact if_pos c1
        · rw [if_neg c1]
          exact if_pos (isD_no c (fun q => c1 (by rw [j_48]; exact q)))
    · have c : ¬ isD (hr t n i) = true := fun q => hi (hr_lt q)
      refine ⟨V, ?_, by rw [num_f c]; exact h⟩
      rw [num_f c]
      exact if_pos (by rw [nI_leI (by omega) (by omega)]; omega)
end
