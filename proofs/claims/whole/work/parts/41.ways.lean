/-! PURE ROWS: ways, counted country by country -/
def ex (p : Nat → Bool) : Nat → Bool
  | 0 => false
  | k + 1 => ex p k || p k
theorem ex_s (p : Nat → Bool) (k : Nat) : ex p (k + 1) = (ex p k || p k) := rfl
theorem ex_iff {p : Nat → Bool} : ∀ {n : Nat}, ex p n = true ↔ ∃ i, i < n ∧ p i = true
  | 0 => ⟨(fun h => by cases h), (fun ⟨i, h, _⟩ => by omega)⟩
  | n + 1 => by
    rw [ex_s, Bool.or_eq_true]
    constructor
    · rintro (h | h)
      · obtain ⟨i, h1, h2⟩ := ex_iff.mp h
        exact ⟨i, by omega, h2⟩
      · exact ⟨n, by omega, h⟩
    · rintro ⟨i, h1, h2⟩
      rcases Nat.lt_or_ge i n with q | q
      · exact Or.inl (ex_iff.mpr ⟨i, q, h2⟩)
      · have : i = n := by omega
        subst this
        exact Or.inr h2
theorem ex_f {p : Nat → Bool} {n : Nat} : ex p n = false ↔ ∀ i, i < n → p i = false := by
  constructor
  · intro h i hi
    cases q : p i with
    | false => rfl
    | true => rw [ex_iff.mpr ⟨i, hi, q⟩] at h; cases h
  · intro h
    cases q : ex p n with
    | false => rfl
    | true =>
      obtain ⟨i, h1, h2⟩ := ex_iff.mp q
      rw [h i h1] at h2; cases h2
theorem ex_congr {p q : Nat → Bool} : ∀ {n : Nat}, (∀ i, i < n → p i = q i) → ex p n = ex q n
  | 0, _ => rfl
  | n + 1, h => by rw [ex_s, ex_s, ex_congr (fun i hi => h i (by omega)), h n (by omega)]
theorem ex_or (p q : Nat → Bool) : ∀ n, ex (fun i => p i || q i) n = (ex p n || ex q n)
  | 0 => rfl
  | n + 1 => by
    rw [ex_s, ex_s, ex_s, ex_or p q n]
    cases ex p n <;> cases ex q n <;> cases p n <;> cases q n <;> rfl
theorem ex_one (p : Nat → Bool) {n w : Nat} (hw : w < n) : ex (fun i => p i && decide (i = w)) n = p w := by
  cases h : p w with
  | true => exact ex_iff.mpr ⟨w, hw, by simp [h]⟩
  | false =>
    refine ex_f.mpr (fun i _ => ?_)
    by_cases e : i = w
    · rw [e, h]; rfl
    · rw [decide_eq_false e, Bool.and_false]
abbrev HT : Type := Nat → Nat → Bool
/-- a neighbour of c has the hue h -/
def bl (g : Row) (c h : Nat) (H : HT) : Bool := ex (fun o => tt g c o && H h o) (gN g)
def stH (H : HT) (h c : Nat) : HT := fun h' o => H h' o || (decide (h' = h) && decide (o = c))
theorem bl_st (g : Row) {c c' h h' : Nat} {H : HT} (hc : c < gN g) : bl g c' h' (stH H h c) = (bl g c' h' H || (decide (h' = h) && tt g c' c)) := by
  unfold bl stH
  have e : ex (fun o => tt g c' o && (H h' o || (decide (h' = h) && decide (o = c)))) (gN g) = ex (fun o => (tt g c' o && H h' o) || ((decide (h' = h) && tt g c' o) && decide (o = c))) (gN g) := ex_congr (fun i _ => by
    cases tt g c' i <;> cases H h' i <;> cases decide (h' = h) <;> cases decide (i = c) <;> rfl)
  rw [e, ex_or, ex_one (fun o => decide (h' = h) && tt g c' o) hc]
theorem bl_congr {g : Row} {c h : Nat} {H H' : HT} (e : ∀ o, o < gN g → H h o = H' h o) : bl g c h H = bl g c h H' := ex_congr (fun i hi => by rw [e i hi])
def wc (g : Row) (u : Nat) (L : Nat → Bool) : Nat → Nat → HT → Nat
  | 0, _, _ => 1
  | m + 1, c, H => if L c = true then sumN (fun h => if bl g c h H = true then 0 else wc g u L m (c + 1) (stH H h c)) u else wc g u L m (c + 1) H
def wm (g : Row) (u : Nat) (L : Nat → Bool) (w x : Nat) : Nat → Nat → HT → Nat
  | 0, _, _ => 1
  | m + 1, c, H => if L c = true then sumN (fun h => if (c = w ∧ h ≠ x) ∨ bl g c h H = true then 0 else wm g u L w x m (c + 1) (stH H h c)) u else wm g u L w x m (c + 1) H
section
variable {g : Row} {u : Nat} {L L' : Nat → Bool}
theorem wc_s (m c : Nat) (H : HT) : wc g u L (m + 1) c H = if L c = true then sumN (fun h => if bl g c h H = true then 0 else wc g u L m (c + 1) (stH H h c)) u else wc g u L m (c + 1) H := rfl
theorem wm_s (w x m c : Nat) (H : HT) : wm g u L w x (m + 1) c H = if L c = true then sumN (fun h => if (c = w ∧ h ≠ x) ∨ bl g c h H = true then 0 else wm g u L w x m (c + 1) (stH H h c)) u else wm g u L w x m (c + 1) H := rfl
/-- what counts of H: what it shuts out later -/
theorem wc_bl : ∀ (m c : Nat) (H H' : HT), c + m ≤ 7 → (∀ d h, c ≤ d → L d = true → h < u → bl g d h H = bl g d h H') → (∀ d, L d = true → d < gN g) → wc g u L m c H = wc g u L m c H'
  | 0, _, _, _, _, _, _ => rfl
  | m + 1, c, H, H', hm, h, hL => by
    rw [wc_s, wc_s]
    by_cases hc : L c = true
    · rw [if_pos hc, if_pos hc]
      refine sumN_congr (fun i hi => ?_)
      rw [h c i (Nat.le_refl _) hc hi]
      by_cases hb : bl g c i H' = true
      · rw [if_pos hb, if_pos hb]
      · rw [if_neg hb, if_neg hb]
        refine wc_bl m (c + 1) _ _ (by omega) (fun d h' hd hLd hh => ?_) hL
        rw [bl_st g (hL c hc), bl_st g (hL c hc), h d h' (by omega) hLd hh]
    · rw [if_neg hc, if_neg hc]
      exact wc_bl m (c + 1) _ _ (by omega) (fun d h' hd hLd hh => h d h' (by omega) hLd hh) hL
theorem wc_L : ∀ (m c : Nat) (H : HT), (∀ d, c ≤ d → L d = L' d) → wc g u L m c H = wc g u L' m c H
  | 0, _, _, _ => rfl
  | m + 1, c, H, h => by
    rw [wc_s, wc_s, ← h c (Nat.le_refl _)]
    by_cases hc : L c = true
    · rw [if_pos hc, if_pos hc]
      refine sumN_congr (fun i _ => ?_)
      rw [wc_L m (c + 1) _ (fun d hd => h d (by omega))]
    · rw [if_neg hc, if_neg hc]
      exact wc_L m (c + 1) _ (fun d hd => h d (by omega))
theorem wc_tail : ∀ (m c : Nat) (H : HT), (∀ d, c ≤ d → L d = false) → wc g u L m c H = 1
  | 0, _, _, _ => rfl
  | m + 1, c, H, h => by
    rw [wc_s, h c (Nat.le_refl _), if_neg (by decide)]
    exact wc_tail m (c + 1) H (fun d hd => h d (by omega))
theorem wm_tail (w x : Nat) : ∀ (m c : Nat) (H : HT), (∀ d, c ≤ d → L d = false) → wm g u L w x m c H = 1
  | 0, _, _, _ => rfl
  | m + 1, c, H, h => by
    rw [wm_s, h c (Nat.le_refl _), if_neg (by decide)]
    exact wm_tail w x m (c + 1) H (fun d hd => h d (by omega))
theorem wm_past (w x : Nat) : ∀ (m c : Nat) (H : HT), (∀ d, c ≤ d → L d = true → d ≠ w) → wm g u L w x m c H = wc g u L m c H
  | 0, _, _, _ => rfl
  | m + 1, c, H, h => by
    rw [wm_s, wc_s]
    by_cases hc : L c = true
    · rw [if_pos hc, if_pos hc]
      refine sumN_congr (fun i _ => ?_)
      rw [wm_past w x m (c + 1) _ (fun d hd => h d (by omega))]
      have hn := h c (Nat.le_refl _) hc
      by_cases hb : bl g c i H = true
      · rw [if_pos hb, if_pos (Or.inr hb)]
      · rw [if_neg hb, if_neg (fun q => q.elim (fun z => hn z.1) hb)]
    · rw [if_neg hc, if_neg hc]
      exact wm_past w x m (c + 1) _ (fun d hd => h d (by omega))
theorem wc_le : ∀ (m c : Nat) (H : HT), u ≤ 5 → wc g u L m c H ≤ 5 ^ m
  | 0, _, _, _ => Nat.le_refl _
  | m + 1, c, H, hu => by
    have ih : ∀ c H, wc g u L m c H ≤ 5 ^ m := fun c H => wc_le m c H hu
    have hp : 5 ^ (m + 1) = 5 ^ m * 5 := Nat.pow_succ 5 m
    rw [wc_s]
    by_cases hc : L c = true
    · rw [if_pos hc]
      have h1 : sumN (fun h => if bl g c h H = true then 0 else wc g u L m (c + 1) (stH H h c)) u ≤ 5 ^ m * u := sumN_le u (fun i _ => by
        by_cases hb : bl g c i H = true
        · simp only [if_pos hb]; exact Nat.zero_le _
        · simp only [if_neg hb]; exact ih _ _)
      have h2 : 5 ^ m * u ≤ 5 ^ m * 5 := Nat.mul_le_mul_left _ hu
      omega
    · rw [if_neg hc]
      have h1 := ih (c + 1) H
      omega
theorem sumN_0 {f : Nat → Nat} : ∀ {n : Nat}, (∀ i, i < n → f i = 0) → sumN f n = 0
  | 0, _ => rfl
  | n + 1, h => by rw [sumN_s, sumN_0 (fun i hi => h i (by omega)), h n (by omega)]
theorem sumN_one {f : Nat → Nat} {x : Nat} : ∀ {n : Nat}, (∀ i, i < n → i ≠ x → f i = 0) → sumN f n = if x < n then f x else 0
  | 0, _ => by rw [if_neg (by omega)]; rfl
  | n + 1, h => by
    rw [sumN_s, sumN_one (fun i hi => h i (by omega))]
    by_cases e : n = x
    · subst e
      rw [if_neg (by omega), if_pos (by omega)]
      omega
    · rw [h n (by omega) e]
      by_cases q : x < n
      · rw [if_pos q, if_pos (by omega), Nat.add_zero]
      · rw [if_neg q, if_neg (by omega)]
theorem sumN_const (p : Nat → Bool) (k : Nat) : ∀ n, sumN (fun i => if p i = true then 0 else k) n = cnt (fun i => !p i) n * k
  | 0 => by show 0 = 0 * k; omega
  | n + 1 => by
    rw [sumN_s, cnt_s, sumN_const p k n, Nat.add_mul]
    cases p n <;> simp
/-- the wish is seen to at once, or in its turn -/
theorem wm_wc (w : WF g) {v x : Nat} (hv : v < gN g) (hLv : L v = true) (hL : ∀ d, L d = true → d < gN g) (hL' : ∀ d, L' d = (L d && !decide (d = v))) : ∀ (m c : Nat) (H : HT), c + m = 7 → c ≤ v →
    wm g u L v x m c H = if x < u ∧ bl g v x H = false then wc g u L' m c (stH H x v) else 0
  | 0, c, H, h1, h2 => by have := wf_n7 w; omega
  | m + 1, c, H, h1, h2 => by
    have n7 := wf_n7 w
    rw [wm_s, wc_s, hL' c]
    by_cases e : c = v
    · subst e
      have e1 : (L c && !decide (c = c)) = false := by simp
      rw [if_pos hLv, e1, if_neg (show ¬ false = true by decide)]
      rw [sumN_one (x := x) (fun i _ hi => if_pos (Or.inl ⟨rfl, hi⟩))]
      have e2 : wm g u L c x m (c + 1) (stH H x c) = wc g u L' m (c + 1) (stH H x c) := by
        rw [wm_past c x m (c + 1) _ (fun d hd _ => by omega)]
        exact wc_L m (c + 1) _ (fun d hd => by rw [hL' d, decide_eq_false (show ¬ d = c by omega)]; simp)
      by_cases hx : x < u
      · rw [if_pos hx]
        cases hb : bl g c x H with
        | true => rw [if_pos (Or.inr rfl), if_neg (fun z => by cases z.2)]
        | false => rw [if_neg (fun z => z.elim (fun z => z.2 rfl) (fun z => by cases z)), if_pos ⟨hx, rfl⟩, e2]
      · rw [if_neg hx, if_neg (fun z => hx z.1)]
    · have e1 : (L c && !decide (c = v)) = L c := by rw [decide_eq_false e]; simp
      rw [e1]
      by_cases hc : L c = true
      · rw [if_pos hc, if_pos hc]
        have hcn := hL c hc
        have ih : ∀ h, wm g u L v x m (c + 1) (stH H h c) = if x < u ∧ bl g v x (stH H h c) = false then wc g u L' m (c + 1) (stH (stH H h c) x v) else 0 := fun h => wm_wc w hv hLv hL hL' m (c + 1) _ (by omega) (by omega)
        have sw : ∀ h, stH (stH H h c) x v = stH (stH H x v) h c := fun h => by
          funext h' o
          unfold stH
          cases H h' o <;> cases decide (h' = h) <;> cases decide (o = c) <;> cases decide (h' = x) <;> cases decide (o = v) <;> rfl
        by_cases hP : x < u ∧ bl g v x H = false
        · rw [if_pos hP]
          refine sumN_congr (fun i _ => ?_)
          rw [ih i, sw i, bl_st g hcn, bl_st g hv, hP.2, Bool.false_or, wf_ts w (show v < 7 by omega) (show c < 7 by omega)]
          have es : decide (x = i) = decide (i = x) := by apply decide_eq_decide.mpr; exact eq_comm
          rw [es]
          cases hb : bl g c i H with
          | true => rw [if_pos (Or.inr rfl), if_pos (by rfl)]
          | false =>
            rw [if_neg (fun z => z.elim (fun z => e z.1) (fun z => by cases z)), Bool.false_or]
            cases hq : (decide (i = x) && tt g c v) with
            | true => rw [if_neg (fun z => by cases z.2), if_pos rfl]
            | false => rw [if_pos ⟨hP.1, rfl⟩, if_neg (by decide)]
        · rw [if_neg hP]
          refine sumN_0 (fun i _ => ?_)
          have hz : ¬ (x < u ∧ bl g v x (stH H i c) = false) := fun z => hP ⟨z.1, by
            have q := z.2
            rw [bl_st g hcn] at q
            cases h0 : bl g v x H with
            | false => rfl
            | true => rw [h0] at q; cases q⟩
          have hi0 : wm g u L v x m (c + 1) (stH H i c) = 0 := by rw [ih i, if_neg hz]
          rw [hi0]
          split <;> rfl
      · rw [if_neg hc, if_neg hc]
        exact wm_wc w hv hLv hL hL' m (c + 1) H (by omega) (by omega)
/-- none that comes later minds the choice: one count does for all hues -/
theorem wc_short (w : WF g) (hu : u ≤ 5) (hL : ∀ d, L d = true → d < gN g) {m c : Nat} {H : HT} (hm : c + m + 1 = 7) (hc : L c = true) (hno : ∀ o, c ≤ o → o < 7 → (tt g c o && L o) = false) :
    sumN (fun h => if bl g c h H = true then 0 else wc g u L m (c + 1) (stH H h c)) u = cnt (fun h => !bl g c h H) u * wc g u L m (c + 1) H := by
  have n7 := wf_n7 w
  rw [← sumN_const]
  refine sumN_congr (fun i _ => ?_)
  have e : wc g u L m (c + 1) (stH H i c) = wc g u L m (c + 1) H := by
    refine wc_bl m (c + 1) _ _ (by omega) (fun d h' hd hLd _ => ?_) hL
    rw [bl_st g (hL c hc), wf_ts w (show d < 7 by have := hL d hLd; omega) (show c < 7 by omega)]
    have := hno d (by omega) (by have := hL d hLd; omega)
    rw [hLd, Bool.and_true] at this
    rw [this]; simp
  rw [e]
end
