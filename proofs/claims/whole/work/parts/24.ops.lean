/-! PURE ROWS: what changes do to a row -/
def setc (V : VT) (k : Nat) (r : Nat → Int32) : VT := fun a => if a = k then r else V a
theorem up2_setc (V : VT) (k j : Nat) (x : Int32) : up2 V k j x = setc V k (upd (V k) j x) := rfl
theorem setc_at (V : VT) (k : Nat) (r : Nat → Int32) : setc V k r k = r := by simp [setc]
theorem setc_ne {V : VT} {k a : Nat} {r : Nat → Int32} (h : a ≠ k) : setc V k r a = V a := by simp [setc, h]
theorem setc_setc (V : VT) (k : Nat) (r r' : Nat → Int32) : setc (setc V k r) k r' = setc V k r' := by
  funext a
  by_cases h : a = k
  · subst h; rw [setc_at, setc_at]
  · rw [setc_ne h, setc_ne h, setc_ne h]
section
variable {g : Row} {i : Nat} {x : Int32}
theorem g_o {j : Nat} (h : j ≠ i) : upd g i x j = g j := upd_ne h
theorem gN_o (h : 0 ≠ i) : gN (upd g i x) = gN g := by unfold gN; rw [upd_ne h]
theorem gU_o (h : 36 ≠ i) : gU (upd g i x) = gU g := by unfold gU; rw [upd_ne h]
theorem gS_o (h : 47 ≠ i) : gS (upd g i x) = gS g := by unfold gS; rw [upd_ne h]
theorem sz_o {c : Nat} (h : 1 + 4 * c + 0 ≠ i) : sz (upd g i x) c = sz g c := upd_ne h
theorem hu_o {c : Nat} (h : 1 + 4 * c + 1 ≠ i) : hu (upd g i x) c = hu g c := upd_ne h
theorem wi_o {c : Nat} (h : 1 + 4 * c + 2 ≠ i) : wi (upd g i x) c = wi g c := upd_ne h
theorem cr_o {c : Nat} (h : 1 + 4 * c + 3 ≠ i) : cr (upd g i x) c = cr g c := upd_ne h
theorem nb_o {c : Nat} (h : 29 + c ≠ i) : nb (upd g i x) c = nb g c := by unfold nb; rw [upd_ne h]
theorem po_o {c : Nat} (h : 37 + c ≠ i) : po (upd g i x) c = po g c := upd_ne h
theorem us_o {c : Nat} (h : 42 + c ≠ i) : us (upd g i x) c = us g c := upd_ne h
theorem st_o {c : Nat} (h : 48 + c ≠ i) : st (upd g i x) c = st g c := by unfold st; rw [upd_ne h]
theorem ptd_o {c : Nat} (h : 1 + 4 * c + 1 ≠ i) : ptd (upd g i x) c = ptd g c := by unfold ptd; rw [hu_o h]
theorem tt_o {a b : Nat} (h : 29 + a ≠ i) : tt (upd g i x) a b = tt g a b := by unfold tt; rw [nb_o h]
theorem gN_at {n : Nat} (h : n < 2 ^ 31) : gN (upd g 0 (nI n)) = n := by unfold gN; rw [upd_eq, nI_clamp h]
theorem gU_at {n : Nat} (h : n < 2 ^ 31) : gU (upd g 36 (nI n)) = n := by unfold gU; rw [upd_eq, nI_clamp h]
theorem gS_at {n : Nat} (h : n < 2 ^ 31) : gS (upd g 47 (nI n)) = n := by unfold gS; rw [upd_eq, nI_clamp h]
theorem sz_at {c : Nat} : sz (upd g (1 + 4 * c + 0) x) c = x := upd_eq _ _ _
theorem hu_at {c : Nat} : hu (upd g (1 + 4 * c + 1) x) c = x := upd_eq _ _ _
theorem wi_at {c : Nat} : wi (upd g (1 + 4 * c + 2) x) c = x := upd_eq _ _ _
theorem cr_at {c : Nat} : cr (upd g (1 + 4 * c + 3) x) c = x := upd_eq _ _ _
theorem nb_at {c n : Nat} (h : n < 2 ^ 31) : nb (upd g (29 + c) (nI n)) c = n := by unfold nb; rw [upd_eq, nI_clamp h]
theorem po_at {c : Nat} : po (upd g (37 + c) x) c = x := upd_eq _ _ _
theorem us_at {c : Nat} : us (upd g (42 + c) x) c = x := upd_eq _ _ _
theorem st_at {c n : Nat} (h : n < 2 ^ 31) : st (upd g (48 + c) (nI n)) c = n := by unfold st; rw [upd_eq, nI_clamp h]
end
def aJoin (g : Row) (a b : Nat) : Row := upd (upd g (29 + a) (nI (nb g a ||| 2 ^ b))) (29 + b) (nI (nb g b ||| 2 ^ a))
def aPart (g : Row) (a b : Nat) : Row := upd (upd g (29 + a) (nI (nb g a &&& bnot (2 ^ b)))) (29 + b) (nI (nb g b &&& bnot (2 ^ a)))
def mn99 (x : Int32) : Int32 := if x < nI 99 then x else nI 99
def aBring (g : Row) (h : Nat) (m : Int32) : Row := upd g (37 + h) (mn99 (po g h + m))
def aWish (g : Row) (c : Nat) (h w : Int32) : Row := upd (upd g (1 + 4 * c + 2) h) (1 + 4 * c + 3) w
def aHues (g : Row) (u : Nat) : Row := upd g 36 (nI u)
def aCover (g : Row) (c h : Nat) : Row := upd (upd (upd (upd (upd g (1 + 4 * c + 1) (nI h)) (37 + h) (po g h - sz g c)) (42 + h) (us g h + sz g c)) (48 + gS g) (nI c)) 47 (nI (gS g + 1))
def aBack (g : Row) : Row := upd (upd (upd (upd g 47 (nI (gS g - 1))) (48 + (gS g - 1)) (nI 0)) (1 + 4 * st g (gS g - 1) + 1) iM) 55 (g 55 + nI 1)
def aCountry (g : Row) (z : Int32) : Row := upd (upd (upd (upd (upd (upd g 0 (nI (gN g + 1))) (1 + 4 * gN g + 0) z) (1 + 4 * gN g + 1) iM) (1 + 4 * gN g + 2) iM) (1 + 4 * gN g + 3) (nI 0)) (29 + gN g) (nI 0)
theorem LR1 {V : VT} {g : Row} (h8 : V 1 8 = g 0) (h9 : V 1 9 = g 36) (h10 : V 1 10 = g 47) (h11 : V 1 11 = g 55) (hc : ∀ c, c < 7 → V 2 c = sz g c ∧ V 3 c = hu g c ∧ V 4 c = wi g c ∧ V 5 c = cr g c ∧ V 6 c = g (29 + c)) (hh : ∀ h, h < 5 → V 8 h = po g h ∧ V 9 h = us g h) (hs : ∀ k, k < gS g → V 7 k = g (48 + k)) : LR V 1 g := ⟨h8, h9, h10, h11, hc, hh, hs⟩
theorem lr_8 {V : VT} {g : Row} (r : LR V 1 g) : V 1 8 = g 0 := r.1
theorem lr_9 {V : VT} {g : Row} (r : LR V 1 g) : V 1 9 = g 36 := r.2.1
theorem lr_10 {V : VT} {g : Row} (r : LR V 1 g) : V 1 10 = g 47 := r.2.2.1
theorem lr_6 {V : VT} {g : Row} (r : LR V 1 g) {c : Nat} (h : c < 7) : V 6 c = g (29 + c) := (r.2.2.2.2.1 c h).2.2.2.2
theorem lr_7 {V : VT} {g : Row} (r : LR V 1 g) {k : Nat} (h : k < gS g) : V 7 k = g (48 + k) := r.2.2.2.2.2.2 k h
/-! join, part -/
theorem tt_join {g : Row} (w : WF g) {a b : Nat} (ha : a < 7) (hb : b < 7) (hn : a ≠ b) {x y : Nat} (hx : x < 7) (hy : y < 7) : tt (aJoin g a b) x y = (tt g x y || (decide (x = a) && decide (y = b)) || (decide (x = b) && decide (y = a))) := by
  have h1 : nb g a ||| 2 ^ b < 2 ^ 7 := or_lt (wf_nb7 w ha) (Nat.pow_lt_pow_right (by omega) hb)
  have h2 : nb g b ||| 2 ^ a < 2 ^ 7 := or_lt (wf_nb7 w hb) (Nat.pow_lt_pow_right (by omega) ha)
  unfold aJoin tt
  by_cases e1 : x = b
  · subst e1
    rw [nb_at (by omega), Nat.testBit_or, p2_bit, decide_eq_false (show ¬ x = a from fun q => hn q.symm), decide_eq_true (rfl : x = x)]
    simp [eq_comm]
  · rw [nb_o (by omega)]
    by_cases e2 : x = a
    · subst e2
      rw [nb_at (by omega), Nat.testBit_or, p2_bit]
      simp [e1, eq_comm]
    · rw [nb_o (by omega)]
      simp [e1, e2]
theorem wf_join {g : Row} (w : WF g) {a b : Nat} (ha : a < gN g) (hb : b < gN g) (hn : a ≠ b) (hq : ptd g a = true → hu g a ≠ hu g b) : WF (aJoin g a b) := by
  have n7 := wf_n7 w
  have h1 : nb g a ||| 2 ^ b < 2 ^ 7 := or_lt (wf_nb7 w (by omega)) (Nat.pow_lt_pow_right (by omega) (by omega))
  have h2 : nb g b ||| 2 ^ a < 2 ^ 7 := or_lt (wf_nb7 w (by omega)) (Nat.pow_lt_pow_right (by omega) (by omega))
  have eN : gN (aJoin g a b) = gN g := by unfold aJoin; rw [gN_o (by omega), gN_o (by omega)]
  have eU : gU (aJoin g a b) = gU g := by unfold aJoin; rw [gU_o (by omega), gU_o (by omega)]
  have eS : gS (aJoin g a b) = gS g := by unfold aJoin; rw [gS_o (by omega), gS_o (by omega)]
  have eh : ∀ c, c < 7 → hu (aJoin g a b) c = hu g c := fun c hc => by unfold aJoin; rw [hu_o (by omega), hu_o (by omega)]
  have ep : ∀ c, c < 7 → ptd (aJoin g a b) c = ptd g c := fun c hc => by unfold ptd; rw [eh c hc]
  have es : ∀ k, k < gS g → st (aJoin g a b) k = st g k := fun k hk => by unfold aJoin; have := wf_s7 w; rw [st_o (by omega), st_o (by omega)]
  have tj := fun {x y : Nat} (hx : x < 7) (hy : y < 7) => tt_join w (show a < 7 by omega) (show b < 7 by omega) hn hx hy
  refine ⟨⟨?_, by rw [eN]; exact n7⟩, ⟨?_, by rw [eU]; exact wf_u1 w, by rw [eU]; exact wf_u5 w⟩, ⟨?_, ?_⟩, fun c hc => by rw [eh c hc]; exact wf_hu w c hc, fun c hc => ?_, fun c hc => ?_, fun c hc => ?_, fun x y hx hy h => ?_, fun x y hx hy h hp => ?_, fun k hk => ?_, fun j k hj hk => ?_, fun c hc h => ?_⟩
  · rw [eN]; unfold aJoin; rw [g_o (by omega), g_o (by omega)]; exact wf_n w
  · rw [eU]; unfold aJoin; rw [g_o (by omega), g_o (by omega)]; exact wf_u w
  · rw [eS]; unfold aJoin; rw [g_o (by omega), g_o (by omega)]; exact wf_s w
  · rw [eS, eN, wf_sc w]; exact cnt_congr (fun i hi => (ep i (by omega)).symm)
  · unfold aJoin; rw [wi_o (by omega), wi_o (by omega)]; exact wf_wi w c hc
  · rw [eN] at hc; unfold aJoin; rw [sz_o (by omega), sz_o (by omega)]; exact wf_sz w c hc
  · unfold aJoin
    by_cases e1 : c = b
    · subst e1
      rw [nb_at (by omega), upd_eq]; exact ⟨rfl, h2⟩
    · rw [nb_o (by omega), g_o (by omega)]
      by_cases e2 : c = a
      · subst e2
        rw [nb_at (by omega), upd_eq]; exact ⟨rfl, h1⟩
      · rw [nb_o (by omega), g_o (by omega)]; exact ⟨wf_nb w hc, wf_nb7 w hc⟩
  · rw [eN, tj hy hx]
    rw [tj hx hy] at h
    simp only [Bool.or_eq_true, Bool.and_eq_true, decide_eq_true_eq] at h ⊢
    rcases h with (h | ⟨rfl, rfl⟩) | ⟨rfl, rfl⟩
    · obtain ⟨q1, q2, q3, q4⟩ := wf_tt w hx hy h
      exact ⟨q1, q2, q3, Or.inl (Or.inl q4)⟩
    · exact ⟨ha, hb, hn, Or.inr ⟨rfl, rfl⟩⟩
    · exact ⟨hb, ha, fun q => hn q.symm, Or.inl (Or.inr ⟨rfl, rfl⟩)⟩
  · rw [tj hx hy] at h
    rw [ep x hx] at hp
    rw [eh x hx, eh y hy]
    simp only [Bool.or_eq_true, Bool.and_eq_true, decide_eq_true_eq] at h
    rcases h with (h | ⟨rfl, rfl⟩) | ⟨rfl, rfl⟩
    · exact wf_nh w hx hy h hp
    · exact hq hp
    · intro q
      rw [ptd_t] at hp
      exact hq (by rw [ptd_t, ← q]; exact hp) q.symm
  · rw [eS] at hk
    rw [es k hk, eN, ep _ (by have := wf_stn w hk; omega)]
    refine ⟨?_, wf_stn w hk, wf_stp w hk⟩
    unfold aJoin; rw [g_o (by omega), g_o (by omega)]; exact wf_st w hk
  · rw [eS] at hk
    rw [es j (by omega), es k hk]
    exact wf_std w hj hk
  · rw [eN] at hc
    rw [ep c (by omega)] at h
    obtain ⟨k, hk, e⟩ := wf_all w hc h
    exact ⟨k, by rw [eS]; exact hk, by rw [es k hk]; exact e⟩
