/-! PURE ROWS: line -/
def nbl (g : Row) (c : Nat) : Nat → List Int32
  | 0 => []
  | k + 1 => if tt g c k = true then (nbl g c k ++ (if nbl g c k = [] then [] else [nI 44])) ++ [nI (48 + k)] else nbl g c k
def lin (g : Row) (c : Nat) : List Int32 :=
  ((([nI (48 + c)] ++ [nI 58]) ++ [if ptd g c = true then nI 48 + hu g c else nI 45]) ++ [nI 40]) ++ nbl g c (gN g) ++ [nI 41] ++ (if stk g c = true then [nI 33] else [])
/-- the line of the landed text, of the reference, as a list -/
def PI (V : VT) (L : List Int32) : Prop := V 0 7 = nI L.length ∧ ∀ i, i < L.length → V 108 i = L.getD i 0
def PM (V : VT) (L : List Int32) : Prop := V 109 14 = nI L.length ∧ ∀ i, i < L.length → V 115 i = L.getD i 0
def FP0 (V V' : VT) : Prop := (∀ q, q ≠ 0 → q ≠ 108 → V' q = V q) ∧ ∀ i, i ≠ 7 → V' 0 i = V 0 i
def FP1 (V V' : VT) : Prop := (∀ q, q ≠ 109 → q ≠ 115 → V' q = V q) ∧ ∀ i, i ≠ 14 → V' 109 i = V 109 i
theorem FP0.tr {V V1 V2 : VT} (h : FP0 V V1) (h2 : FP0 V1 V2) : FP0 V V2 := ⟨fun q a b => (h2.1 q a b).trans (h.1 q a b), fun i a => (h2.2 i a).trans (h.2 i a)⟩
theorem FP1.tr {V V1 V2 : VT} (h : FP1 V V1) (h2 : FP1 V1 V2) : FP1 V V2 := ⟨fun q a b => (h2.1 q a b).trans (h.1 q a b), fun i a => (h2.2 i a).trans (h.2 i a)⟩
theorem FP0.rf (V : VT) : FP0 V V := ⟨fun _ _ _ => rfl, fun _ _ => rfl⟩
theorem FP1.rf (V : VT) : FP1 V V := ⟨fun _ _ _ => rfl, fun _ _ => rfl⟩
theorem getD_app {L : List Int32} {x : Int32} {i : Nat} (h : i < L.length) : (L ++ [x]).getD i 0 = L.getD i 0 := by
  rw [List.getD_eq_getElem?_getD, List.getD_eq_getElem?_getD, List.getElem?_append_left h]
theorem getD_end {L : List Int32} {x : Int32} : (L ++ [x]).getD L.length 0 = x := by
  rw [List.getD_eq_getElem?_getD, List.getElem?_append_right (Nat.le_refl _), Nat.sub_self]
  rfl
theorem c16 {z : Nat} (h : z < 65536) : ((nI z).toUInt32 % 65536).toInt32 = nI z := by
  rw [pk_char, pk_tn (by omega), Nat.mod_eq_of_lt h]
section
variable {V V' : VT} {σ : Sg} {g r : Row} {E1 E2 : String}
theorem i_put {L : List Int32} (h : PI V L) (hl : L.length < 17) {z : Nat} (hz : z < 65536) : ∃ V', d_X4_put (nI z) V = some V' ∧ PI V' (L ++ [nI z]) ∧ FP0 V V' := by
  obtain ⟨h1, h2⟩ := h
  unfold d_X4_put
  rw [h1]
  simp (disch := omega) only [↓iM_def, i_0, i_1, i_2, i_3, i_4, i_5, i_6, i_7, i_8, i_9, i_10, i_12, i_17, i_29, i_31, i_33, i_36, i_37, i_40, i_41, i_42, i_43, i_44, i_45, i_47, i_48, i_50, i_53, i_55, i_56, i_57, i_58, i_59, i_60, i_61, i_98, i_99, i_100, i_102, i_104, i_106, i_110, i_112, i_119, i_120, i_128, i_392, i_448, nI_add, nI_leI, nI_ltI, nI_eq, nI_clamp, iM_le, iM_lt, iM_nle, iM_nlt, iM_ne, iM_ne', Nat.add_zero, pk_mul, asr_inb, bd_some, bw_some, bx_inl, bx_inr, bh_inl, bh_inr, b2_eq0, b2_eq1, asr_zok, nz_nI, chr_nar hz]
  rw [if_neg (by omega)]
  refine ⟨_, rfl, ⟨by rw [up2_at, upd_eq]; simp, fun i hi => ?_⟩, fun q q1 q2 => by rw [up2_ne q1, up2_ne q2], fun i hi => by rw [up2_at, upd_ne hi, up2_ne (by omega)]⟩
  rw [up2_ne (by omega), up2_at, upd_if]
  rw [List.length_append] at hi
  have hi : i < L.length + 1 := hi
  by_cases e : i = L.length
  · rw [if_pos e, e, getD_end]
  · rw [if_neg e, getD_app (by omega)]
    exact h2 i (by omega)
theorem i_putDigit {L : List Int32} (h : PI V L) (hl : L.length < 17) {c : Nat} (hc : c < 100) : ∃ V', d_X4_putDigit (nI c) V = some V' ∧ PI V' (L ++ [nI (48 + c)]) ∧ FP0 V V' := by
  obtain ⟨V', a1, a2, a3⟩ := i_put h hl (z := 48 + c) (by omega)
  refine ⟨V', ?_, a2, a3⟩
  unfold d_X4_putDigit
  have e : (((48 : Int32) + nI c).toUInt32 % 65536).toInt32 = nI (48 + c) := by
    have e1 : (48 : Int32) + nI c = nI (48 + c) := nI_add 48 c
    rw [e1, c16 (by omega)]
  rw [e, a1]
  rfl
theorem nbl_len (w : WF g) {c : Nat} (hc : c < gN g) : ∀ k, k ≤ gN g → ((nbl g c k = [] ∧ cnt (tt g c) k = 0) ∨ (nbl g c k).length + 1 = 2 * cnt (tt g c) k)
  | 0, _ => Or.inl ⟨rfl, rfl⟩
  | k + 1, hk => by
    have ih := nbl_len w hc k (by omega)
    rw [cnt_s]
    show ((if tt g c k = true then (nbl g c k ++ (if nbl g c k = [] then [] else [nI 44])) ++ [nI (48 + k)] else nbl g c k) = [] ∧ _) ∨ (if tt g c k = true then (nbl g c k ++ (if nbl g c k = [] then [] else [nI 44])) ++ [nI (48 + k)] else nbl g c k).length + 1 = _
    cases ht : tt g c k with
    | false =>
      rw [if_neg (by decide)]
      exact ih
    | true =>
      rw [if_pos rfl]
      right
      rcases ih with ⟨h1, h2⟩ | h1
      · rw [h1, h2]; rfl
      · have hne : ¬ nbl g c k = [] := by
          intro q
          rw [q] at h1
          have h1 : 0 + 1 = 2 * cnt (tt g c) k := h1
          omega
        rw [if_neg hne]
        simp only [List.length_append, List.length_cons, List.length_nil, Bool.toNat_true]
        omega
theorem cnt6 (w : WF g) {c : Nat} (hc : c < gN g) : cnt (tt g c) (gN g) ≤ 6 := by
  have n7 := wf_n7 w
  have h := cnt_upd (p := tt g c) (q := fun i => tt g c i || decide (i = c)) (n := gN g) hc (fun i _ hn => by simp [hn])
  have h2 := cnt_le (fun i => tt g c i || decide (i = c)) (gN g)
  rw [wf_ti w (by omega)] at h
  simp at h
  omega
theorem cnt_le2 (p : Nat → Bool) {a b : Nat} (h : a ≤ b) : cnt p a ≤ cnt p b := by
  obtain ⟨d, rfl⟩ : ∃ d, b = a + d := ⟨b - a, by omega⟩
  rw [cnt_split]
  omega
theorem nbl_11 (w : WF g) {c : Nat} (hc : c < gN g) {k : Nat} (hk : k ≤ gN g) : (nbl g c k).length ≤ 11 := by
  have h6 := cnt6 w hc
  have h7 := cnt_le2 (tt g c) hk
  rcases nbl_len w hc k hk with ⟨h, -⟩ | h
  · rw [h]; show 0 ≤ 11; omega
  · omega
/-- room for one more neighbour -/
theorem nbl_more (w : WF g) {c : Nat} (hc : c < gN g) {k : Nat} (hk : k < gN g) (ht : tt g c k = true) : (nbl g c k).length ≤ 9 := by
  have h6 := cnt6 w hc
  have h7 := cnt_le2 (tt g c) (show k + 1 ≤ gN g by omega)
  rw [cnt_s, ht] at h7
  have h7 : cnt (tt g c) k + 1 ≤ cnt (tt g c) (gN g) := h7
  rcases nbl_len w hc k (by omega) with ⟨h, -⟩ | h
  · rw [h]; show 0 ≤ 9; omega
  · omega
theorem lr_fp {V V' : VT} (hf : FP0 V V') (r : LR V 1 g) : LR V' 1 g := lr_frame (fun q q1 q2 => hf.1 q (by omega) (by omega)) r
theorem i_putNb (r : LR V 1 g) (w : WF g) {c : Nat} (hc : c < gN g) {L : List Int32} (h : PI V L) (hl : L.length = 4) : ∃ V', d_X4_putNeighbours (nI c) V = some V' ∧ PI V' (L ++ nbl g c (gN g)) ∧ FP0 V V' := by
  have n7 := wf_n7 w
  have key : ∀ (m k : Nat) (fuel : Nat) (Vk : VT), k + m = gN g → m < fuel → PI Vk (L ++ nbl g c k) → FP0 V Vk → ∃ V', lo3W d_X4_putNeighbours_4b fuel (nI c) (if nbl g c k = [] then nI 1 else nI 0) (nI k) Vk = some V' ∧ PI V' (L ++ nbl g c (gN g)) ∧ FP0 V V' := by
    intro m
    induction m with
    | zero =>
      intro k fuel Vk hk hf hP hF
      obtain ⟨f, rfl⟩ : ∃ f, fuel = f + 1 := ⟨fuel - 1, by omega⟩
      have hk : k = gN g := by omega
      subst hk
      refine ⟨Vk, ?_, hP, hF⟩
      show d_X4_putNeighbours_4b _ _ _ _ _ = _
      generalize lo3W d_X4_putNeighbours_4b f = KK
      unfold d_X4_putNeighbours_4b
      simp (disch := omega) only [↓iM_def, i_0, i_1, i_2, i_3, i_4, i_5, i_6, i_7, i_8, i_9, i_10, i_12, i_17, i_29, i_31, i_33, i_36, i_37, i_40, i_41, i_42, i_43, i_44, i_45, i_47, i_48, i_50, i_53, i_55, i_56, i_57, i_58, i_59, i_60, i_61, i_98, i_99, i_100, i_102, i_104, i_106, i_110, i_112, i_119, i_120, i_128, i_392, i_448, nI_add, nI_leI, nI_ltI, nI_eq, nI_clamp, iM_le, iM_lt, iM_nle, iM_nlt, iM_ne, iM_ne', Nat.add_zero, pk_mul, asr_inb, bd_some, bw_some, bx_inl, bx_inr, bh_inl, bh_inr, b2_eq0, b2_eq1, asr_zok, nz_nI, lr_n (lr_fp hF r) w, Nat.le_refl, if_true]
    | succ m ih =>
      intro k fuel Vk hk hf hP hF
      obtain ⟨f, rfl⟩ : ∃ f, fuel = f + 1 := ⟨fuel - 1, by omega⟩
      have rk := lr_fp hF r
      show ∃ V', d_X4_putNeighbours_4b (lo3W d_X4_putNeighbours_4b f) _ _ _ _ = some V' ∧ _
      generalize hKK : lo3W d_X4_putNeighbours_4b f = KK
      unfold d_X4_putNeighbours_4b d_X4_putNeighbours_37
      simp (disch := omega) only [↓jM_def, j_0, j_1, j_2, j_3, j_4, j_5, j_6, j_7, j_8, j_9, j_10, j_11, j_12, j_13, j_14, j_15, j_16, j_17, j_18, j_19, j_20, j_21, j_22, j_23, j_24, j_25, j_26, j_27, j_28, j_29, j_30, j_31, j_32, j_33, j_34, j_35, j_36, j_37, j_38, j_39, j_40, j_41, j_42, j_43, j_44, j_45, j_46, j_47, j_48, j_49, j_50, j_51, j_52, j_53, j_54, j_55, j_56, j_57, j_58, j_59, j_60, j_61, j_62, j_63, j_97, j_98, j_99, j_100, j_101, j_102, j_103, j_104, j_105, j_106, j_107, j_108, j_109, j_110, j_111, j_112, j_113, j_114, j_115, j_116, j_117, j_118, j_119, j_120, j_121, j_122, j_128, j_392, j_448, nI_add, nI_leI, nI_ltI, nI_eq, nI_clamp, iM_le, iM_lt, iM_nle, iM_nlt, iM_ne, iM_ne', Nat.add_zero, pk_mul, asr_inb, bd_some, bw_some, bx_inl, bx_inr, bh_inl, bh_inr, b2_eq0, b2_eq1, asr_zok, nz_nI, lr_n rk w, i_areNb rk w]
      rw [if_neg (by omega)]
      cases ht : tt g c k with
      | false =>
        rw [if_pos rfl]
        have e : nbl g c (k + 1) = nbl g c k := by
          show (if tt g c k = true then _ else nbl g c k) = _
          rw [ht, if_neg (by decide)]
        have q := ih (k + 1) f Vk (by omega) (by omega) (by rw [e]; exact hP) hF
        rw [e, hKK] at q
        exact q
      | true =>
        rw [if_neg (by decide)]
        have e : nbl g c (k + 1) = (nbl g c k ++ (if nbl g c k = [] then [] else [nI 44])) ++ [nI (48 + k)] := by
          show (if tt g c k = true then _ else nbl g c k) = _
          rw [ht, if_pos rfl]
        have hne : ¬ nbl g c (k + 1) = [] := by rw [e]; simp
        have hm := nbl_more w hc (show k < gN g by omega) ht
        by_cases h0 : nbl g c k = []
        · rw [if_pos h0, if_neg (by decide +kernel)]
          obtain ⟨V2, a1, a2, a3⟩ := i_putDigit hP (by rw [List.length_append]; omega) (c := k) (by omega)
          rw [a1, bd_some]
          have q := ih (k + 1) f V2 (by omega) (by omega) (by rw [e, if_pos h0, List.append_nil, ← List.append_assoc]; exact a2) (hF.tr a3)
          rw [if_neg hne, hKK] at q
          exact q
        · rw [if_neg h0, if_pos (by decide +kernel)]
          obtain ⟨V2, a1, a2, a3⟩ := i_put hP (by rw [List.length_append]; omega) (z := 44) (by omega)
          obtain ⟨V3, b1, b2, b3⟩ := i_putDigit a2 (by rw [List.length_append, List.length_append]; show _ + 1 < 17; omega) (c := k) (by omega)
          rw [a1, bd_some, b1, bd_some]
          have q := ih (k + 1) f V3 (by omega) (by omega) (by rw [e, if_neg h0, ← List.append_assoc, ← List.append_assoc]; exact b2) ((hF.tr a3).tr b3)
          rw [if_neg hne, hKK] at q
          exact q
  unfold d_X4_putNeighbours d_X4_putNeighbours_4
  have q := key (gN g) 0 FU V (by omega) (show gN g < 1000 by omega) (by show PI V (L ++ []); rw [List.append_nil]; exact h) (FP0.rf V)
  exact q
def spLine (σ : Sg) (x : Int32) : (Int32 ⊕ Nat) × Sg :=
  if isC σ.1 x = true then (.inl (nI (lin σ.1 (nt x)).length), (σ.1, σ.2.1, σ.2.2.1, σ.2.2.2.1, ((lin σ.1 (nt x)).length, fun i => (lin σ.1 (nt x)).getD i 0), σ.2.2.2.2.2)) else (.inr 1, σ)
theorem lin_len (w : WF g) {c : Nat} (hc : c < gN g) : (lin g c).length ≤ 17 := by
  have h := nbl_11 w hc (Nat.le_refl _)
  unfold lin
  by_cases hs : stk g c = true
  · rw [if_pos hs]
    simp only [List.length_append, List.length_cons, List.length_nil]
    omega
  · rw [if_neg hs]
    simp only [List.length_append, List.length_cons, List.length_nil]
    omega
theorem nbl_chr (w : WF g) (c : Nat) : ∀ k, k ≤ 7 → ∀ x ∈ nbl g c k, isChr x
  | 0, _, x, hx => by cases hx
  | k + 1, hk, x, hx => by
    have ih := nbl_chr w c k (by omega)
    have e : nbl g c (k + 1) = if tt g c k = true then (nbl g c k ++ (if nbl g c k = [] then [] else [nI 44])) ++ [nI (48 + k)] else nbl g c k := rfl
    rw [e] at hx
    by_cases ht : tt g c k = true
    · rw [if_pos ht] at hx
      rcases List.mem_append.mp hx with q | q
      · rcases List.mem_append.mp q with q | q
        · exact ih x q
        · by_cases h0 : nbl g c k = []
          · rw [if_pos h0] at q; cases q
          · rw [if_neg h0] at q
            have : x = nI 44 := by simpa using q
            exact ⟨44, by omega, this⟩
      · have : x = nI (48 + k) := by simpa using q
        exact ⟨48 + k, by omega, this⟩
    · rw [if_neg ht] at hx
      exact ih x hx
theorem lin_chr (w : WF g) {c : Nat} (hc : c < gN g) : ∀ x ∈ lin g c, isChr x := by
  have n7 := wf_n7 w
  intro x hx
  have hcol : isChr (if ptd g c = true then nI 48 + hu g c else nI 45) := by
    by_cases hp : ptd g c = true
    · rw [if_pos hp]
      obtain ⟨k, k5, e⟩ := ptd_h w (show c < 7 by omega) hp
      rw [e, nI_add]
      exact ⟨48 + k, by omega, rfl⟩
    · rw [if_neg hp]; exact ⟨45, by omega, rfl⟩
  unfold lin at hx
  simp only [List.mem_append, List.mem_singleton] at hx
  rcases hx with (((((rfl | rfl) | rfl) | rfl) | h) | rfl) | h
  · exact ⟨48 + c, by omega, rfl⟩
  · exact ⟨58, by omega, rfl⟩
  · exact hcol
  · exact ⟨40, by omega, rfl⟩
  · exact nbl_chr w c _ n7 x h
  · exact ⟨41, by omega, rfl⟩
  · by_cases hs : stk g c = true
    · rw [if_pos hs, List.mem_singleton] at h
      exact ⟨33, by omega, h⟩
    · rw [if_neg hs] at h; cases h
theorem K_line (K : OKs σ) (x : Int32) : OKs (spLine σ x).2 := by
  have n7 := wf_n7 K.w
  unfold spLine
  by_cases h : isC σ.1 x = true
  · rw [if_pos h]
    obtain ⟨a, ha, rfl⟩ := isC_of K.w h
    rw [nt_nI (a := a) (by omega)]
    obtain ⟨k1, k2, k3, k4, k5⟩ := K
    refine ⟨k1, k2, k3, k4, lin_len k1 ha, fun i hi => ?_⟩
    have hi : i < (lin σ.1 a).length := hi
    refine lin_chr k1 ha _ ?_
    show (lin σ.1 a).getD i 0 ∈ _
    rw [List.getD_eq_getElem?_getD, List.getElem?_eq_getElem hi]
    exact List.getElem_mem hi
  · rw [if_neg h]; exact K
/-- a new line, all else as it was -/
theorem AI.line {L : List Int32} (h : AI V σ) (hP : PI V' L) (hF : FP0 V V') : AI V' (σ.1, σ.2.1, σ.2.2.1, σ.2.2.2.1, (L.length, fun i => L.getD i 0), σ.2.2.2.2.2) := by
  obtain ⟨h1, ⟨o, h2, h3, h4, h5⟩, h6, ⟨h7, h8⟩, -, h11, h12, h13⟩ := h
  obtain ⟨f, f0⟩ := hF
  refine ⟨lr_frame (fun q _ _ => f q (by omega) (by omega)) h1, ⟨o, h2, by rw [f 28 (by omega) (by omega)]; exact h3, by rw [f 28 (by omega) (by omega)]; exact h4, fun k r q => lr_frame (fun q _ _ => f q (by omega) (by omega)) (h5 k r q)⟩, ?_, ⟨by rw [f 105 (by omega) (by omega)]; exact h7, fun i hi => by rw [f 106 (by omega) (by omega)]; exact h8 i hi⟩, hP, by rw [f0 _ (by omega)]; exact h11, by rw [f0 _ (by omega)]; exact h12, by rw [f0 _ (by omega)]; exact h13⟩
  show SI V' σ.2.2.1
  unfold SI at h6 ⊢
  cases hs : σ.2.2.1 with
  | none => rw [hs] at h6; show V' 0 8 = _; rw [f0 _ (by omega)]; exact h6
  | some r => rw [hs] at h6; exact ⟨by rw [f0 _ (by omega)]; exact h6.1, lr_frame (fun q _ _ => f q (by omega) (by omega)) h6.2⟩
theorem I_line (h : AI V σ) (K : OKs σ) (x : Int32) : DI eIO E2 (d_X4_line x V) V (spLine σ x) := by
  have n7 := wf_n7 K.w
  unfold d_X4_line spLine
  cases hx : isC σ.1 x with
  | false =>
    rw [i_stopC_f h K hx, bx_inr, if_neg (by decide)]
    exact DI.err h (Or.inr trivial)
  | true =>
    rw [i_stopC_t h K hx, bx_inl, if_pos rfl]
    obtain ⟨a, ha, rfl⟩ := isC_of K.w hx
    rw [nt_nI (a := a) (by omega)]
    have p0 : PI (up2 V 0 7 (0 : Int32)) [] := ⟨by rw [up2_at, upd_eq]; rfl, fun i hi => by cases hi⟩
    have f0 : FP0 V (up2 V 0 7 (0 : Int32)) := ⟨fun q q1 _ => up2_ne q1, fun i hi => by rw [up2_at, upd_ne hi]⟩
    obtain ⟨V1, a1, a2, a3⟩ := i_putDigit p0 (by show 0 < 17; omega) (c := a) (by omega)
    obtain ⟨V2, b1, q2, q3⟩ := i_put a2 (by show 1 < 17; omega) (z := 58) (by omega)
    have b1' : d_X4_put (58 : Int32) V1 = some V2 := b1
    have fr2 := (f0.tr a3).tr q3
    rw [a1, bd_some, b1', bd_some, i_isP (lr_fp fr2 h.1) (by omega), bd_some]
    have tail : ∀ (V3 : VT) (z : Int32), PI V3 ((([] ++ [nI (48 + a)]) ++ [nI 58]) ++ [z]) → FP0 V V3 → z = (if ptd σ.1 a = true then nI 48 + hu σ.1 a else nI 45) → DI eIO E2 (d_X4_line_54 (nI a) V3) V (.inl (nI (lin σ.1 a).length), (σ.1, σ.2.1, σ.2.2.1, σ.2.2.2.1, ((lin σ.1 a).length, fun i => (lin σ.1 a).getD i 0), σ.2.2.2.2.2)) := by
      intro V3 z hP hF hz
      unfold d_X4_line_54
      have n11 := nbl_11 K.w ha (Nat.le_refl _)
      obtain ⟨V4, c1, c2, c3⟩ := i_put hP (by show 3 < 17; omega) (z := 40) (by omega)
      have c1' : d_X4_put (40 : Int32) V3 = some V4 := c1
      have fr4 := hF.tr c3
      obtain ⟨V5, d1, d2, d3⟩ := i_putNb (lr_fp fr4 h.1) K.w ha c2 rfl
      have fr5 := fr4.tr d3
      obtain ⟨V6, e1, e2, e3⟩ := i_put d2 (by rw [List.length_append]; show 4 + _ < 17; omega) (z := 41) (by omega)
      have e1' : d_X4_put (41 : Int32) V5 = some V6 := e1
      have fr6 := fr5.tr e3
      rw [c1', bd_some, d1, bd_some, e1', bd_some, i_isStuck (lr_fp fr6 h.1) K.w (by omega), bd_some]
      cases hs : stk σ.1 a with
      | false =>
        have el : ((((([] ++ [nI (48 + a)]) ++ [nI 58]) ++ [z]) ++ [nI 40]) ++ nbl σ.1 a (gN σ.1)) ++ [nI 41] = lin σ.1 a := by
          unfold lin
          rw [hs, if_neg (show ¬ false = true by decide), List.append_nil, hz]
          rfl
        rw [if_pos (show b2 false = (0 : Int32) from rfl)]
        rw [el] at e2
        refine ⟨V6, by rw [e2.1]; rfl, h.line e2 fr6, fun q hq => fr6.1 q (by omega) (by omega)⟩
      | true =>
        rw [if_neg (show ¬ b2 true = (0 : Int32) by decide +kernel)]
        obtain ⟨V7, g1, g2, g3⟩ := i_put e2 (by rw [List.length_append, List.length_append]; show 4 + _ + 1 < 17; omega) (z := 33) (by omega)
        have g1' : d_X4_put (33 : Int32) V6 = some V7 := g1
        have fr7' := fr6.tr g3
        have el : (((((([] ++ [nI (48 + a)]) ++ [nI 58]) ++ [z]) ++ [nI 40]) ++ nbl σ.1 a (gN σ.1)) ++ [nI 41]) ++ [nI 33] = lin σ.1 a := by
          unfold lin
          rw [hs, if_pos rfl, hz]
          rfl
        rw [el] at g2
        rw [g1', bd_some]
        refine ⟨V7, by rw [g2.1]; rfl, h.line g2 fr7', fun q hq => fr7'.1 q (by omega) (by omega)⟩
    cases hp : ptd σ.1 a with
    | false =>
      rw [if_pos (show b2 false = (0 : Int32) from rfl)]
      obtain ⟨V3, c1, c2, c3⟩ := i_put q2 (by show 2 < 17; omega) (z := 45) (by omega)
      have c1' : d_X4_put (45 : Int32) V2 = some V3 := c1
      rw [c1', bd_some]
      exact tail V3 _ c2 (fr2.tr c3) (by rw [hp, if_neg (by decide)])
    | true =>
      rw [if_neg (show ¬ b2 true = (0 : Int32) by decide +kernel)]
      obtain ⟨k, k5, ek⟩ := ptd_h K.w (show a < 7 by omega) hp
      obtain ⟨V3, c1, c2, c3⟩ := i_putDigit q2 (by show 2 < 17; omega) (c := k) (by omega)
      simp (disch := omega) only [asr_inb, nI_clamp, lr_hu (lr_fp fr2 h.1), ek]
      rw [c1, bd_some]
      exact tail V3 _ c2 (fr2.tr c3) (by rw [hp, if_pos rfl, ek, nI_add])
theorem m_writes {L : List Int32} (h : PM V L) (hl : L.length < 40) {z : Nat} (hz : z < 65536) : ∃ V', d_X5_writes (nI z) V = some V' ∧ PM V' (L ++ [nI z]) ∧ FP1 V V' := by
  obtain ⟨h1, h2⟩ := h
  unfold d_X5_writes
  rw [h1]
  simp (disch := omega) only [↓iM_def, i_0, i_1, i_2, i_3, i_4, i_5, i_6, i_7, i_8, i_9, i_10, i_12, i_17, i_29, i_31, i_33, i_36, i_37, i_40, i_41, i_42, i_43, i_44, i_45, i_47, i_48, i_50, i_53, i_55, i_56, i_57, i_58, i_59, i_60, i_61, i_98, i_99, i_100, i_102, i_104, i_106, i_110, i_112, i_119, i_120, i_128, i_392, i_448, nI_add, nI_leI, nI_ltI, nI_eq, nI_clamp, iM_le, iM_lt, iM_nle, iM_nlt, iM_ne, iM_ne', Nat.add_zero, pk_mul, asr_inb, bd_some, bw_some, bx_inl, bx_inr, bh_inl, bh_inr, b2_eq0, b2_eq1, asr_zok, nz_nI, c16 hz, chr_nar hz]
  refine ⟨_, rfl, ⟨by rw [up2_at, upd_eq]; simp, fun i hi => ?_⟩, fun q q1 q2 => by rw [up2_ne q1, up2_ne q2], fun i hi => by rw [up2_at, upd_ne hi, up2_ne (by omega)]⟩
  rw [up2_ne (by omega), up2_at, upd_if]
  rw [List.length_append] at hi
  have hi : i < L.length + 1 := hi
  by_cases e : i = L.length
  · rw [if_pos e, e, getD_end]
  · rw [if_neg e, getD_app (by omega)]
    exact h2 i (by omega)
theorem AJ.line {L : List Int32} (h : AJ V σ) (hP : PM V' L) (hF : FP1 V V') : AJ V' (σ.1, σ.2.1, σ.2.2.1, σ.2.2.2.1, (L.length, fun i => L.getD i 0), σ.2.2.2.2.2) := by
  obtain ⟨h1, ⟨h2, h3⟩, h4, ⟨h5, h6⟩, -, h9, h10, h11, h12⟩ := h
  obtain ⟨f, g⟩ := hF
  refine ⟨by rw [f 110 (by omega) (by omega)]; exact h1, ⟨by rw [g _ (by omega)]; exact h2, fun k r q i hi => by rw [f 111 (by omega) (by omega)]; exact h3 k r q i hi⟩, ?_, ⟨by rw [g _ (by omega)]; exact h5, fun i hi => by rw [f 114 (by omega) (by omega)]; exact h6 i hi⟩, hP, by rw [g _ (by omega)]; exact h9, by rw [g _ (by omega)]; exact h10, by rw [g _ (by omega)]; exact h11, by rw [g _ (by omega)]; exact h12⟩
  show SM V' σ.2.2.1
  unfold SM at h4 ⊢
  cases hs : σ.2.2.1 with
  | none => rw [hs] at h4; show V' 109 4 = _; rw [g _ (by omega)]; exact h4
  | some r => rw [hs] at h4; exact ⟨by rw [g _ (by omega)]; exact h4.1, fun i hi => by rw [f 112 (by omega) (by omega)]; exact h4.2 i hi⟩
theorem m_lineLoop (w : WF g) {c : Nat} (hc : c < gN g) {L : List Int32} (hl : L.length = 4) : ∀ (m k : Nat) (fuel : Nat) (Vk : VT), k + m = gN g → m < fuel → PM Vk (L ++ nbl g c k) → Vk 110 = g → ∃ V', lo3W d_X5_line_77b fuel (nI c) (if nbl g c k = [] then nI 1 else nI 0) (nI k) Vk = some (V' 109 14, V') ∧ PM V' (((L ++ nbl g c (gN g)) ++ [nI 41]) ++ (if stk g c = true then [nI 33] else [])) ∧ FP1 Vk V' := by
  have n7 := wf_n7 w
  intro m
  induction m with
  | zero =>
    intro k fuel Vk hk hf hP hg
    obtain ⟨f, rfl⟩ : ∃ f, fuel = f + 1 := ⟨fuel - 1, by omega⟩
    have hk : k = gN g := by omega
    subst hk
    have n11 := nbl_11 w hc (Nat.le_refl _)
    have w2 : WF (Vk 110) := by rw [hg]; exact w
    obtain ⟨V1, a1, a2, a3⟩ := m_writes hP (by rw [List.length_append]; omega) (z := 41) (by omega)
    have w1 : WF (V1 110) := by rw [a3.1 110 (by omega) (by omega), hg]; exact w
    have e1 : V1 110 = g := by rw [a3.1 110 (by omega) (by omega), hg]
    show ∃ V', d_X5_line_77b _ _ _ _ _ = some (V' 109 14, V') ∧ _
    generalize lo3W d_X5_line_77b f = KK
    unfold d_X5_line_77b
    simp (disch := omega) only [↓jM_def, j_0, j_1, j_2, j_3, j_4, j_5, j_6, j_7, j_8, j_9, j_10, j_11, j_12, j_13, j_14, j_15, j_16, j_17, j_18, j_19, j_20, j_21, j_22, j_23, j_24, j_25, j_26, j_27, j_28, j_29, j_30, j_31, j_32, j_33, j_34, j_35, j_36, j_37, j_38, j_39, j_40, j_41, j_42, j_43, j_44, j_45, j_46, j_47, j_48, j_49, j_50, j_51, j_52, j_53, j_54, j_55, j_56, j_57, j_58, j_59, j_60, j_61, j_62, j_63, j_97, j_98, j_99, j_100, j_101, j_102, j_103, j_104, j_105, j_106, j_107, j_108, j_109, j_110, j_111, j_112, j_113, j_114, j_115, j_116, j_117, j_118, j_119, j_120, j_121, j_122, j_128, j_392, j_448, nI_add, nI_leI, nI_ltI, nI_eq, nI_clamp, iM_le, iM_lt, iM_nle, iM_nlt, iM_ne, iM_ne', Nat.add_zero, pk_mul, hg, wf_n w, Nat.le_refl, if_true, a1, bd_some, m_isStuck w1, e1, b2_eq0]
    cases hs : stk g c with
    | false =>
      rw [if_pos rfl, if_neg (by decide), List.append_nil]
      exact ⟨V1, rfl, a2, a3⟩
    | true =>
      rw [if_neg (by decide), if_pos rfl]
      obtain ⟨V2, q1, q2, q3⟩ := m_writes a2 (by rw [List.length_append, List.length_append]; show _ + 1 < 40; omega) (z := 33) (by omega)
      rw [q1, bd_some]
      exact ⟨V2, rfl, q2, a3.tr q3⟩
  | succ m ih =>
    intro k fuel Vk hk hf hP hg
    obtain ⟨f, rfl⟩ : ∃ f, fuel = f + 1 := ⟨fuel - 1, by omega⟩
    have w2 : WF (Vk 110) := by rw [hg]; exact w
    show ∃ V', d_X5_line_77b (lo3W d_X5_line_77b f) _ _ _ _ = some (V' 109 14, V') ∧ _
    generalize hKK : lo3W d_X5_line_77b f = KK
    unfold d_X5_line_77b d_X5_line_109
    simp (disch := omega) only [↓jM_def, j_0, j_1, j_2, j_3, j_4, j_5, j_6, j_7, j_8, j_9, j_10, j_11, j_12, j_13, j_14, j_15, j_16, j_17, j_18, j_19, j_20, j_21, j_22, j_23, j_24, j_25, j_26, j_27, j_28, j_29, j_30, j_31, j_32, j_33, j_34, j_35, j_36, j_37, j_38, j_39, j_40, j_41, j_42, j_43, j_44, j_45, j_46, j_47, j_48, j_49, j_50, j_51, j_52, j_53, j_54, j_55, j_56, j_57, j_58, j_59, j_60, j_61, j_62, j_63, j_97, j_98, j_99, j_100, j_101, j_102, j_103, j_104, j_105, j_106, j_107, j_108, j_109, j_110, j_111, j_112, j_113, j_114, j_115, j_116, j_117, j_118, j_119, j_120, j_121, j_122, j_128, j_392, j_448, nI_add, nI_leI, nI_ltI, nI_eq, nI_clamp, iM_le, iM_lt, iM_nle, iM_nlt, iM_ne, iM_ne', Nat.add_zero, pk_mul, asr_inb, bd_some, bw_some, bx_inl, bx_inr, bh_inl, bh_inr, b2_eq0, b2_eq1, asr_zok, nz_nI, hg, wf_n w, m_touches w2]
    rw [if_neg (by omega)]
    cases ht : tt g c k with
    | false =>
      rw [if_pos rfl]
      have e : nbl g c (k + 1) = nbl g c k := by
        show (if tt g c k = true then _ else nbl g c k) = _
        rw [ht, if_neg (by decide)]
      have q := ih (k + 1) f Vk (by omega) (by omega) (by rw [e]; exact hP) hg
      rw [e, hKK] at q
      exact q
    | true =>
      rw [if_neg (by decide)]
      have e : nbl g c (k + 1) = (nbl g c k ++ (if nbl g c k = [] then [] else [nI 44])) ++ [nI (48 + k)] := by
        show (if tt g c k = true then _ else nbl g c k) = _
        rw [ht, if_pos rfl]
      have hne : ¬ nbl g c (k + 1) = [] := by rw [e]; simp
      have hm := nbl_more w hc (show k < gN g by omega) ht
      by_cases h0 : nbl g c k = []
      · rw [if_pos h0, if_neg (by decide +kernel)]
        obtain ⟨V2, a1, a2, a3⟩ := m_writes hP (by rw [List.length_append]; omega) (z := 48 + k) (by omega)
        rw [a1, bd_some]
        obtain ⟨V', q1, q2, q3⟩ := ih (k + 1) f V2 (by omega) (by omega) (by rw [e, if_pos h0, List.append_nil, ← List.append_assoc]; exact a2) (by rw [a3.1 110 (by omega) (by omega)]; exact hg)
        rw [if_neg hne, hKK] at q1
        exact ⟨V', q1, q2, a3.tr q3⟩
      · rw [if_neg h0, if_pos (by decide +kernel)]
        obtain ⟨V2, a1, a2, a3⟩ := m_writes hP (by rw [List.length_append]; omega) (z := 44) (by omega)
        obtain ⟨V3, c1, c2, c3⟩ := m_writes a2 (by rw [List.length_append, List.length_append]; show _ + 1 < 40; omega) (z := 48 + k) (by omega)
        rw [a1, bd_some, c1, bd_some]
        obtain ⟨V', q1, q2, q3⟩ := ih (k + 1) f V3 (by omega) (by omega) (by rw [e, if_neg h0, ← List.append_assoc, ← List.append_assoc]; exact c2) (by rw [c3.1 110 (by omega) (by omega), a3.1 110 (by omega) (by omega)]; exact hg)
        rw [if_neg hne, hKK] at q1
        exact ⟨V', q1, q2, (a3.tr c3).tr q3⟩
theorem M_line (h : AJ V σ) (K : OKs σ) (x : Int32) : DM (d_X5_line x V) V (spLine σ x) := by
  have n7 := wf_n7 K.w
  have wV : WF (V 110) := by rw [h.1]; exact K.w
  unfold d_X5_line spLine
  simp only [m_isCountry wV, bd_some, ↓iM_def, i_0, i_1, i_2, i_3, i_4, i_5, i_6, i_7, i_8, i_9, i_10, i_12, i_17, i_29, i_31, i_33, i_36, i_37, i_40, i_41, i_42, i_43, i_44, i_45, i_47, i_48, i_50, i_53, i_55, i_56, i_57, i_58, i_59, i_60, i_61, i_98, i_99, i_100, i_102, i_104, i_106, i_110, i_112, i_119, i_120, i_128, i_392, i_448, b2_eq0, h.1]
  cases hx : isC σ.1 x with
  | false =>
    rw [if_pos rfl, if_neg (by decide)]
    unfold d_X5_line_14
    simp only [↓iM_def, i_0, i_1, i_2, i_3, i_4, i_5, i_6, i_7, i_8, i_9, i_10, i_12, i_17, i_29, i_31, i_33, i_36, i_37, i_40, i_41, i_42, i_43, i_44, i_45, i_47, i_48, i_50, i_53, i_55, i_56, i_57, i_58, i_59, i_60, i_61, i_98, i_99, i_100, i_102, i_104, i_106, i_110, i_112, i_119, i_120, i_128, i_392, i_448, m_fail0, m_fail1, m_fail2, e10, eq_self, if_true, if_false, bw_some]
    exact DM.err h _
  | true =>
    rw [if_neg (by decide), if_pos rfl]
    obtain ⟨a, ha, rfl⟩ := isC_of K.w hx
    rw [nt_nI (a := a) (by omega)]
    unfold d_X5_line_14
    simp only [↓iM_def, i_0, i_1, i_2, i_3, i_4, i_5, i_6, i_7, i_8, i_9, i_10, i_12, i_17, i_29, i_31, i_33, i_36, i_37, i_40, i_41, i_42, i_43, i_44, i_45, i_47, i_48, i_50, i_53, i_55, i_56, i_57, i_58, i_59, i_60, i_61, i_98, i_99, i_100, i_102, i_104, i_106, i_110, i_112, i_119, i_120, i_128, i_392, i_448, m_fail0, m_fail1, m_fail2, e10, eq_self, if_true, if_false, bw_some]
    refine DM.pre h (nI 0) (fun V2 h2 hc e => ?_)
    rw [e]
    have p0 : PM (up2 V2 109 14 (nI 0)) [] := ⟨by rw [up2_at, upd_eq]; rfl, fun i hi => by cases hi⟩
    have f0 : FP1 V2 (up2 V2 109 14 (nI 0)) := ⟨fun q q1 _ => up2_ne q1, fun i hi => by rw [up2_at, upd_ne hi]⟩
    obtain ⟨V3, a1, a2, a3⟩ := m_writes p0 (by show 0 < 40; omega) (z := 48 + a) (by omega)
    obtain ⟨V4, c1, c2, c3⟩ := m_writes a2 (by show 1 < 40; omega) (z := 58) (by omega)
    have fr4 := (f0.tr a3).tr c3
    have e4 : V4 110 = σ.1 := by rw [fr4.1 110 (by omega) (by omega)]; exact h2.1
    have w4 : WF (V4 110) := by rw [e4]; exact K.w
    rw [nI_add, a1, bd_some, c1, bd_some, m_isP w4 (by omega), bd_some, m_hu (by omega), bd_some, e4]
    simp only [b2_eq0]
    have tail : ∀ (z : Nat), z < 65536 → nI z = (if ptd σ.1 a = true then nI 48 + hu σ.1 a else nI 45) → DM (d_X5_line_64 (nI a) (nI z) V4) V2 (.inl (nI (lin σ.1 a).length), (σ.1, σ.2.1, σ.2.2.1, σ.2.2.2.1, ((lin σ.1 a).length, fun i => (lin σ.1 a).getD i 0), σ.2.2.2.2.2)) := by
      intro z hz ez
      unfold d_X5_line_64 d_X5_line_77
      obtain ⟨V5, d1, d2, d3⟩ := m_writes c2 (by show 2 < 40; omega) hz
      obtain ⟨V6, e1, e2, e3⟩ := m_writes d2 (by show 3 < 40; omega) (z := 40) (by omega)
      have e1' : d_X5_writes (40 : Int32) V5 = some V6 := e1
      have fr6 := (fr4.tr d3).tr e3
      have e6 : V6 110 = σ.1 := by rw [fr6.1 110 (by omega) (by omega)]; exact h2.1
      obtain ⟨V', q1, q2, q3⟩ := m_lineLoop K.w ha (L := (((([] ++ [nI (48 + a)]) ++ [nI 58]) ++ [nI z]) ++ [nI 40])) rfl (gN σ.1) 0 FU V6 (by omega) (show gN σ.1 < 1000 by omega) (by show PM V6 (_ ++ []); rw [List.append_nil]; exact e2) e6
      have q1' : lo3W d_X5_line_77b FU (nI a) (1 : Int32) (0 : Int32) V6 = some (V' 109 14, V') := q1
      rw [d1, bd_some, e1', bd_some, q1']
      have el : ((((((([] ++ [nI (48 + a)]) ++ [nI 58]) ++ [nI z]) ++ [nI 40]) ++ nbl σ.1 a (gN σ.1)) ++ [nI 41]) ++ (if stk σ.1 a = true then [nI 33] else [])) = lin σ.1 a := by
        unfold lin
        rw [ez]
        rfl
      rw [el] at q2
      have frE := fr6.tr q3
      exact DM.of rfl (h2.line q2 frE) (fun q hq => frE.1 q (by omega) (by omega)) (by rw [frE.2 7 (by omega)]; exact hc) (fun v' hv => by cases hv; exact q2.1)
    cases hp : ptd σ.1 a with
    | false =>
      rw [if_pos rfl]
      exact tail 45 (by omega) (by rw [hp, if_neg (by decide)])
    | true =>
      rw [if_neg (by decide)]
      obtain ⟨k, k5, ek⟩ := ptd_h K.w (show a < 7 by omega) hp
      rw [ek, nI_add]
      exact tail (48 + k) (by omega) (by rw [hp, if_pos rfl, ek, nI_add])
end
