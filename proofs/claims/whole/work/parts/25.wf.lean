/-! PURE ROWS: what holds of a row goes on holding -/
theorem wf_same {g g' : Row} (w : WF g) (u : Nat) (u1 : 1 ≤ u) (u5 : u ≤ 5) (e0 : g' 0 = g 0) (e47 : g' 47 = g 47) (e36 : g' 36 = nI u) (eh : ∀ c, c < 7 → hu g' c = hu g c) (ew : ∀ c, c < 7 → wi g' c = iM ∨ ∃ h, h < 5 ∧ wi g' c = nI h) (ez : ∀ c, c < 7 → sz g' c = sz g c) (eb : ∀ a, a < 7 → g' (29 + a) = g (29 + a)) (es : ∀ k, k < 7 → g' (48 + k) = g (48 + k)) : WF g' := by
  have n7 := wf_n7 w
  have s7 := wf_s7 w
  have eN : gN g' = gN g := by unfold gN; rw [e0]
  have eU : gU g' = u := by unfold gU; rw [e36, nI_clamp (by omega)]
  have eS : gS g' = gS g := by unfold gS; rw [e47]
  have ep : ∀ c, c < 7 → ptd g' c = ptd g c := fun c hc => by unfold ptd; rw [eh c hc]
  have enb : ∀ a, a < 7 → nb g' a = nb g a := fun a ha => by unfold nb; rw [eb a ha]
  have et : ∀ a b, a < 7 → tt g' a b = tt g a b := fun a b ha => by unfold tt; rw [enb a ha]
  have est : ∀ k, k < 7 → st g' k = st g k := fun k hk => by unfold st; rw [es k hk]
  refine ⟨⟨by rw [eN, e0]; exact wf_n w, by rw [eN]; exact n7⟩, ⟨by rw [eU]; exact e36, by rw [eU]; exact u1, by rw [eU]; exact u5⟩, ⟨by rw [eS, e47]; exact wf_s w, by rw [eS, eN, wf_sc w]; exact cnt_congr (fun i hi => (ep i (by omega)).symm)⟩, fun c hc => by rw [eh c hc]; exact wf_hu w c hc, ew, fun c hc => ?_, fun a ha => ?_, fun a b ha hb h => ?_, fun a b ha hb h hp => ?_, fun k hk => ?_, fun j k hj hk => ?_, fun c hc h => ?_⟩
  · rw [eN] at hc; rw [ez c (by omega)]; exact wf_sz w c hc
  · rw [enb a ha, eb a ha]; exact ⟨wf_nb w ha, wf_nb7 w ha⟩
  · rw [et a b ha] at h; rw [eN, et b a hb]; exact wf_tt w ha hb h
  · rw [et a b ha] at h; rw [ep a ha] at hp; rw [eh a ha, eh b hb]; exact wf_nh w ha hb h hp
  · rw [eS] at hk; rw [est k (by omega), eN, es k (by omega), ep _ (by have := wf_stn w hk; omega)]; exact ⟨wf_st w hk, wf_stn w hk, wf_stp w hk⟩
  · rw [eS] at hk; rw [est j (by omega), est k (by omega)]; exact wf_std w hj hk
  · rw [eN] at hc; rw [ep c (by omega)] at h
    obtain ⟨k, hk, e⟩ := wf_all w hc h
    exact ⟨k, by rw [eS]; exact hk, by rw [est k (by omega)]; exact e⟩
theorem wf_bring {g : Row} (w : WF g) {h : Nat} (hh : h < 5) (m : Int32) : WF (aBring g h m) := by
  unfold aBring
  refine wf_same w (gU g) (wf_u1 w) (wf_u5 w) (g_o (by omega)) (g_o (by omega)) (by rw [g_o (by omega)]; exact wf_u w) (fun c hc => hu_o (by omega)) (fun c hc => by rw [wi_o (by omega)]; exact wf_wi w c hc) (fun c hc => sz_o (by omega)) (fun a ha => g_o (by omega)) (fun k hk => g_o (by omega))
theorem wf_wish {g : Row} (w : WF g) {c h : Nat} (hc : c < 7) (hh : h < 5) (x : Int32) : WF (aWish g c (nI h) x) := by
  unfold aWish
  refine wf_same w (gU g) (wf_u1 w) (wf_u5 w) (by rw [g_o (by omega), g_o (by omega)]) (by rw [g_o (by omega), g_o (by omega)]) (by rw [g_o (by omega), g_o (by omega)]; exact wf_u w) (fun c hc => by rw [hu_o (by omega), hu_o (by omega)]) (fun d hd => ?_) (fun c hc => by rw [sz_o (by omega), sz_o (by omega)]) (fun a ha => by rw [g_o (by omega), g_o (by omega)]) (fun k hk => by rw [g_o (by omega), g_o (by omega)])
  rw [wi_o (by omega)]
  by_cases e : d = c
  · subst e; rw [wi_at]; exact Or.inr ⟨h, hh, rfl⟩
  · rw [wi_o (by omega)]; exact wf_wi w d hd
theorem wf_hues {g : Row} (w : WF g) {u : Nat} (u1 : 1 ≤ u) (u5 : u ≤ 5) : WF (aHues g u) := by
  unfold aHues
  refine wf_same w u u1 u5 (g_o (by omega)) (g_o (by omega)) (upd_eq _ _ _) (fun c hc => hu_o (by omega)) (fun c hc => by rw [wi_o (by omega)]; exact wf_wi w c hc) (fun c hc => sz_o (by omega)) (fun a ha => g_o (by omega)) (fun k hk => g_o (by omega))
theorem tt_part {g : Row} (w : WF g) {a b : Nat} (ha : a < 7) (hb : b < 7) (hn : a ≠ b) {x y : Nat} (hx : x < 7) (hy : y < 7) : tt (aPart g a b) x y = (tt g x y && !(decide (x = a) && decide (y = b)) && !(decide (x = b) && decide (y = a))) := by
  have h1 : nb g a &&& bnot (2 ^ b) < 2 ^ 7 := and_lt (wf_nb7 w ha)
  have h2 : nb g b &&& bnot (2 ^ a) < 2 ^ 7 := and_lt (wf_nb7 w hb)
  unfold aPart tt
  by_cases e1 : x = b
  · subst e1
    rw [nb_at (by omega), Nat.testBit_and, bnot_bit _ (by omega), p2_bit, decide_eq_false (show ¬ x = a from fun q => hn q.symm), decide_eq_true (rfl : x = x)]
    simp [eq_comm]
  · rw [nb_o (by omega)]
    by_cases e2 : x = a
    · subst e2
      rw [nb_at (by omega), Nat.testBit_and, bnot_bit _ (by omega), p2_bit]
      simp [e1, eq_comm]
    · rw [nb_o (by omega)]
      simp [e1, e2]
theorem wf_part {g : Row} (w : WF g) {a b : Nat} (ha : a < gN g) (hb : b < gN g) (hn : a ≠ b) : WF (aPart g a b) := by
  have n7 := wf_n7 w
  have h1 : nb g a &&& bnot (2 ^ b) < 2 ^ 7 := and_lt (wf_nb7 w (by omega))
  have h2 : nb g b &&& bnot (2 ^ a) < 2 ^ 7 := and_lt (wf_nb7 w (by omega))
  have eN : gN (aPart g a b) = gN g := by unfold aPart; rw [gN_o (by omega), gN_o (by omega)]
  have eU : gU (aPart g a b) = gU g := by unfold aPart; rw [gU_o (by omega), gU_o (by omega)]
  have eS : gS (aPart g a b) = gS g := by unfold aPart; rw [gS_o (by omega), gS_o (by omega)]
  have eh : ∀ c, c < 7 → hu (aPart g a b) c = hu g c := fun c hc => by unfold aPart; rw [hu_o (by omega), hu_o (by omega)]
  have ep : ∀ c, c < 7 → ptd (aPart g a b) c = ptd g c := fun c hc => by unfold ptd; rw [eh c hc]
  have es : ∀ k, k < gS g → st (aPart g a b) k = st g k := fun k hk => by unfold aPart; have := wf_s7 w; rw [st_o (by omega), st_o (by omega)]
  have tj := fun {x y : Nat} (hx : x < 7) (hy : y < 7) => tt_part w (show a < 7 by omega) (show b < 7 by omega) hn hx hy
  refine ⟨⟨?_, by rw [eN]; exact n7⟩, ⟨?_, by rw [eU]; exact wf_u1 w, by rw [eU]; exact wf_u5 w⟩, ⟨?_, ?_⟩, fun c hc => by rw [eh c hc]; exact wf_hu w c hc, fun c hc => ?_, fun c hc => ?_, fun c hc => ?_, fun x y hx hy h => ?_, fun x y hx hy h hp => ?_, fun k hk => ?_, fun j k hj hk => ?_, fun c hc h => ?_⟩
  · rw [eN]; unfold aPart; rw [g_o (by omega), g_o (by omega)]; exact wf_n w
  · rw [eU]; unfold aPart; rw [g_o (by omega), g_o (by omega)]; exact wf_u w
  · rw [eS]; unfold aPart; rw [g_o (by omega), g_o (by omega)]; exact wf_s w
  · rw [eS, eN, wf_sc w]; exact cnt_congr (fun i hi => (ep i (by omega)).symm)
  · unfold aPart; rw [wi_o (by omega), wi_o (by omega)]; exact wf_wi w c hc
  · rw [eN] at hc; unfold aPart; rw [sz_o (by omega), sz_o (by omega)]; exact wf_sz w c hc
  · unfold aPart
    by_cases e1 : c = b
    · subst e1
      rw [nb_at (by omega), upd_eq]; exact ⟨rfl, h2⟩
    · rw [nb_o (by omega), g_o (by omega)]
      by_cases e2 : c = a
      · subst e2
        rw [nb_at (by omega), upd_eq]; exact ⟨rfl, h1⟩
      · rw [nb_o (by omega), g_o (by omega)]; exact ⟨wf_nb w hc, wf_nb7 w hc⟩
  · rw [eN, tj hy hx]
    rw [tj hx hy] at h
    simp only [Bool.and_eq_true, Bool.not_eq_true', Bool.and_eq_false_iff, decide_eq_false_iff_not] at h ⊢
    obtain ⟨q1, q2, q3, q4⟩ := wf_tt w hx hy h.1.1
    exact ⟨q1, q2, q3, ⟨q4, h.2.symm⟩, h.1.2.symm⟩
  · rw [tj hx hy] at h
    rw [ep x hx] at hp
    rw [eh x hx, eh y hy]
    simp only [Bool.and_eq_true] at h
    exact wf_nh w hx hy h.1.1 hp
  · rw [eS] at hk
    rw [es k hk, eN, ep _ (by have := wf_stn w hk; omega)]
    refine ⟨?_, wf_stn w hk, wf_stp w hk⟩
    unfold aPart; rw [g_o (by omega), g_o (by omega)]; exact wf_st w hk
  · rw [eS] at hk
    rw [es j (by omega), es k hk]
    exact wf_std w hj hk
  · rw [eN] at hc
    rw [ep c (by omega)] at h
    obtain ⟨k, hk, e⟩ := wf_all w hc h
    exact ⟨k, by rw [eS]; exact hk, by rw [es k hk]; exact e⟩
/-- a land with a country that is not painted has room for a step -/
theorem s_room {g : Row} (w : WF g) {c : Nat} (hc : c < gN g) (hp : ptd g c = false) : gS g < gN g := by
  have h := cnt_upd (p := ptd g) (q := fun _ => true) hc (n := gN g)
  have h2 : cnt (ptd g) (gN g) < gN g := by
    have h3 := cnt_upd (p := ptd g) (q := fun i => ptd g i || decide (i = c)) (n := gN g) hc (fun i _ hn => by simp [hn])
    have h4 := cnt_le (fun i => ptd g i || decide (i = c)) (gN g)
    simp [hp] at h3
    omega
  rw [wf_sc w]
  exact h2
theorem cover_N (g : Row) {c h : Nat} (hc : c < 7) (hh : h < 5) : gN (aCover g c h) = gN g := by unfold aCover; rw [gN_o (by omega), gN_o (by omega), gN_o (by omega), gN_o (by omega), gN_o (by omega)]
theorem cover_U (g : Row) {c h : Nat} (hc : c < 7) (hh : h < 5) (hs : gS g < 7) : gU (aCover g c h) = gU g := by unfold aCover; rw [gU_o (by omega), gU_o (by omega), gU_o (by omega), gU_o (by omega), gU_o (by omega)]
theorem cover_S (g : Row) {c h : Nat} (hs : gS g < 7) : gS (aCover g c h) = gS g + 1 := by unfold aCover; rw [gS_at (by omega)]
theorem cover_hu (g : Row) {c h : Nat} (hc : c < 7) (hh : h < 5) {d : Nat} (hd : d < 7) : hu (aCover g c h) d = if d = c then nI h else hu g d := by
  unfold aCover
  rw [hu_o (by omega), hu_o (by omega), hu_o (by omega), hu_o (by omega)]
  by_cases e : d = c
  · subst e; rw [hu_at, if_pos rfl]
  · rw [hu_o (by omega), if_neg e]
theorem cover_ptd (g : Row) {c h : Nat} (hc : c < 7) (hh : h < 5) {d : Nat} (hd : d < 7) : ptd (aCover g c h) d = (ptd g d || decide (d = c)) := by
  unfold ptd
  rw [cover_hu g hc hh hd]
  by_cases e : d = c
  · have : ¬ nI h = iM := fun q => (iM_ne (by omega)).mp q
    simp [e, this]
  · simp [e]
theorem cover_nb (g : Row) {c h : Nat} (hc : c < 7) (hh : h < 5) {a : Nat} (ha : a < 7) : nb (aCover g c h) a = nb g a := by unfold aCover; rw [nb_o (by omega), nb_o (by omega), nb_o (by omega), nb_o (by omega), nb_o (by omega)]
theorem cover_tt (g : Row) {c h : Nat} (hc : c < 7) (hh : h < 5) {a b : Nat} (ha : a < 7) : tt (aCover g c h) a b = tt g a b := by unfold tt; rw [cover_nb g hc hh ha]
theorem cover_st (g : Row) {c h : Nat} (hc : c < 7) (hh : h < 5) (hs : gS g < 7) {k : Nat} (hk : k ≤ gS g) : st (aCover g c h) k = if k = gS g then c else st g k := by
  unfold aCover
  rw [st_o (by omega)]
  by_cases e : k = gS g
  · subst e; rw [st_at (by omega), if_pos rfl]
  · rw [st_o (by omega), st_o (by omega), st_o (by omega), st_o (by omega), if_neg e]
theorem wf_cover {g : Row} (w : WF g) {c h : Nat} (hc : c < gN g) (hp : ptd g c = false) (hh : h < 5) (hf : nbIn g c (nI h) = none) : WF (aCover g c h) := by
  have n7 := wf_n7 w
  have hs := s_room w hc hp
  have hc7 : c < 7 := by omega
  have hs7 : gS g < 7 := by omega
  have eN := cover_N g hc7 hh
  have eS := cover_S g (c := c) (h := h) hs7
  refine ⟨⟨?_, by rw [eN]; exact n7⟩, ⟨?_, by rw [cover_U g hc7 hh hs7]; exact wf_u1 w, by rw [cover_U g hc7 hh hs7]; exact wf_u5 w⟩, ⟨?_, ?_⟩, fun d hd => ?_, fun d hd => ?_, fun d hd => ?_, fun d hd => ?_, fun x y hx hy q => ?_, fun x y hx hy q hpx => ?_, fun k hk => ?_, fun j k hj hk => ?_, fun d hd q => ?_⟩
  · rw [eN]; unfold aCover; rw [g_o (by omega), g_o (by omega), g_o (by omega), g_o (by omega), g_o (by omega)]; exact wf_n w
  · rw [cover_U g hc7 hh hs7]; unfold aCover; rw [g_o (by omega), g_o (by omega), g_o (by omega), g_o (by omega), g_o (by omega)]; exact wf_u w
  · rw [eS]; unfold aCover; rw [upd_eq]
  · rw [eS, eN]
    have h3 := cnt_upd (p := ptd g) (q := ptd (aCover g c h)) (n := gN g) hc (fun i hi hn => by rw [cover_ptd g hc7 hh (by omega)]; simp [hn])
    rw [cover_ptd g hc7 hh hc7, hp, ← wf_sc w] at h3
    simpa using h3
  · rw [cover_hu g hc7 hh hd]
    by_cases e : d = c
    · rw [if_pos e]; exact Or.inr ⟨h, hh, rfl⟩
    · rw [if_neg e]; exact wf_hu w d hd
  · unfold aCover; rw [wi_o (by omega), wi_o (by omega), wi_o (by omega), wi_o (by omega), wi_o (by omega)]; exact wf_wi w d hd
  · rw [eN] at hd; unfold aCover; rw [sz_o (by omega), sz_o (by omega), sz_o (by omega), sz_o (by omega), sz_o (by omega)]; exact wf_sz w d hd
  · rw [cover_nb g hc7 hh hd]; refine ⟨?_, wf_nb7 w hd⟩; unfold aCover; rw [g_o (by omega), g_o (by omega), g_o (by omega), g_o (by omega), g_o (by omega)]; exact wf_nb w hd
  · rw [cover_tt g hc7 hh hx] at q; rw [eN, cover_tt g hc7 hh hy]; exact wf_tt w hx hy q
  · rw [cover_tt g hc7 hh hx] at q
    rw [cover_hu g hc7 hh hx, cover_hu g hc7 hh hy]
    have hf := fnd_none.mp hf
    by_cases e1 : x = c
    · by_cases e2 : y = c
      · exact absurd (e1.trans e2.symm) (wf_tt w hx hy q).2.2.1
      · rw [if_pos e1, if_neg e2]
        have h5 := hf y (wf_tt w hx hy q).2.1
        rw [← e1, q, Bool.true_and, decide_eq_false_iff_not] at h5
        exact fun z => h5 z.symm
    · by_cases e2 : y = c
      · rw [if_neg e1, if_pos e2]
        have h5 := hf x (wf_tt w hx hy q).1
        have q2 := (wf_tt w hx hy q).2.2.2
        rw [← e2, q2, Bool.true_and, decide_eq_false_iff_not] at h5
        exact h5
      · rw [if_neg e1, if_neg e2]
        rw [cover_ptd g hc7 hh hx] at hpx
        exact wf_nh w hx hy q (by simpa [e1] using hpx)
  · rw [eS] at hk
    rw [cover_st g hc7 hh hs7 (by omega), eN]
    by_cases e : k = gS g
    · rw [if_pos e, cover_ptd g hc7 hh hc7]
      refine ⟨?_, hc, by simp⟩
      unfold aCover; rw [g_o (by omega), e, upd_eq]
    · rw [if_neg e]
      have hk' : k < gS g := by omega
      have hn := wf_stn w hk'
      rw [cover_ptd g hc7 hh (by omega), wf_stp w hk']
      refine ⟨?_, hn, rfl⟩
      unfold aCover; rw [g_o (by omega), g_o (by omega), g_o (by omega), g_o (by omega), g_o (by omega)]; exact wf_st w hk'
  · rw [eS] at hk
    rw [cover_st g hc7 hh hs7 (by omega), cover_st g hc7 hh hs7 (by omega), if_neg (by omega)]
    have hj' : j < gS g := by omega
    by_cases e : k = gS g
    · rw [if_pos e]
      intro z
      have := wf_stp w hj'
      rw [z, hp] at this
      cases this
    · rw [if_neg e]; exact wf_std w hj (by omega)
  · rw [eN] at hd
    rw [cover_ptd g hc7 hh (by omega)] at q
    by_cases e : d = c
    · exact ⟨gS g, by omega, by rw [cover_st g hc7 hh hs7 (by omega), if_pos rfl, e]⟩
    · obtain ⟨k, hk, e3⟩ := wf_all w hd (by simpa [e] using q)
      exact ⟨k, by omega, by rw [cover_st g hc7 hh hs7 (by omega), if_neg (by omega), e3]⟩
