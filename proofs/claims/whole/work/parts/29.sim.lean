/-! PURE ROWS: the state of both sides in one value -/
abbrev Sg : Type := Row × List Row × Option Row × (Nat × (Nat → Int32)) × (Nat × (Nat → Int32)) × Int32 × Int32 × Int32
def refu (σ : Sg) (r d : Int32) : Sg := (σ.1, σ.2.1, σ.2.2.1, σ.2.2.2.1, σ.2.2.2.2.1, σ.2.2.2.2.2.1, r, d)
def chg (σ : Sg) (g' : Row) : Sg := (g', push σ.2.1 σ.1, σ.2.2)
def SI (V : VT) : Option Row → Prop
  | none => V 0 8 = nI 0
  | some r => V 0 8 = nI 1 ∧ LR V 19 r
def SM (V : VT) : Option Row → Prop
  | none => V 109 4 = nI 0
  | some r => V 109 4 = nI 1 ∧ ∀ i, i < 56 → V 112 i = r i
def TI (V : VT) (t : Nat × (Nat → Int32)) : Prop := V 105 1 = nI t.1 ∧ ∀ i, i < t.1 → V 106 i = t.2 i
def TM (V : VT) (t : Nat × (Nat → Int32)) : Prop := V 109 11 = nI t.1 ∧ ∀ i, i < t.1 → V 114 i = t.2 i
def NI (V : VT) (t : Nat × (Nat → Int32)) : Prop := V 0 7 = nI t.1 ∧ ∀ i, i < t.1 → V 108 i = t.2 i
def NM (V : VT) (t : Nat × (Nat → Int32)) : Prop := V 109 14 = nI t.1 ∧ ∀ i, i < t.1 → V 115 i = t.2 i
def AI (V : VT) (σ : Sg) : Prop := LR V 1 σ.1 ∧ RI V σ.2.1 ∧ SI V σ.2.2.1 ∧ TI V σ.2.2.2.1 ∧ NI V σ.2.2.2.2.1 ∧ V 0 9 = σ.2.2.2.2.2.1 ∧ V 0 10 = σ.2.2.2.2.2.2.1 ∧ V 0 11 = σ.2.2.2.2.2.2.2
def AJ (V : VT) (σ : Sg) : Prop := V 110 = σ.1 ∧ RM V σ.2.1 ∧ SM V σ.2.2.1 ∧ TM V σ.2.2.2.1 ∧ NM V σ.2.2.2.2.1 ∧ V 109 12 = σ.2.2.2.2.2.1 ∧ V 109 8 = σ.2.2.2.2.2.2.1 ∧ V 109 9 = σ.2.2.2.2.2.2.2 ∧ V 109 6 = nI 0
def isChr (x : Int32) : Prop := ∃ z, z < 65536 ∧ x = nI z
def OKs (σ : Sg) : Prop := WF σ.1 ∧ (σ.2.1.length ≤ 8 ∧ ∀ r ∈ σ.2.1, WF r) ∧ (∀ r, σ.2.2.1 = some r → WF r) ∧ (σ.2.2.2.1.1 ≤ 60 ∧ ∀ i, i < σ.2.2.2.1.1 → isChr (σ.2.2.2.1.2 i)) ∧ (σ.2.2.2.2.1.1 ≤ 17 ∧ ∀ i, i < σ.2.2.2.2.1.1 → isChr (σ.2.2.2.2.1.2 i))
def FrI (V V' : VT) : Prop := ∀ q, 109 ≤ q → V' q = V q
def FrM (V V' : VT) : Prop := ∀ q, q < 109 ∨ 118 ≤ q → V' q = V q
theorem FrI.rf (V : VT) : FrI V V := fun _ _ => rfl
theorem FrM.rf (V : VT) : FrM V V := fun _ _ => rfl
theorem FrI.tr {V V1 V2 : VT} (h : FrI V V1) (h2 : FrI V1 V2) : FrI V V2 := fun q hq => (h2 q hq).trans (h q hq)
theorem FrM.tr {V V1 V2 : VT} (h : FrM V V1) (h2 : FrM V1 V2) : FrM V V2 := fun q hq => (h2 q hq).trans (h q hq)
def oE (E1 E2 : String) : Int32 ⊕ Nat → Int32 ⊕ String
  | .inl v => .inl v
  | .inr k => .inr (if k = 1 then E1 else E2)
def cE : Int32 ⊕ Nat → Int32
  | .inl _ => nI 0
  | .inr k => nI k
/-- the landed text does what is said -/
def DI (E1 E2 : String) (d : Option ((Int32 ⊕ String) × VT)) (V : VT) (sp : (Int32 ⊕ Nat) × Sg) : Prop := ∃ V', d = some (oE E1 E2 sp.1, V') ∧ AI V' sp.2 ∧ FrI V V'
/-- the reference does what is said -/
def DM (d : Option (Int32 × VT)) (V : VT) (sp : (Int32 ⊕ Nat) × Sg) : Prop := ∃ b V', d = some (b, V') ∧ AJ V' sp.2 ∧ FrM V V' ∧ V' 109 7 = cE sp.1 ∧ ∀ v, sp.1 = .inl v → b = v
theorem DM.of {d : Option (Int32 × VT)} {V V' : VT} {o : Int32 ⊕ Nat} {σ : Sg} {b : Int32} (h1 : d = some (b, V')) (h2 : AJ V' σ) (h3 : FrM V V') (h4 : V' 109 7 = cE o) (h5 : ∀ v, o = .inl v → b = v) : DM d V (o, σ) := ⟨b, V', h1, h2, h3, h4, h5⟩
section
variable {V V' : VT} {σ : Sg}
theorem OKs.w (K : OKs σ) : WF σ.1 := K.1
theorem OKs.l8 (K : OKs σ) : σ.2.1.length ≤ 8 := K.2.1.1
theorem OKs.chg (K : OKs σ) {g' : Row} (h : WF g') : OKs (chg σ g') := by
  obtain ⟨k1, ⟨k2, k3⟩, k4⟩ := K
  refine ⟨h, ⟨?_, fun r hr => ?_⟩, k4⟩
  · show (push σ.2.1 σ.1).length ≤ 8
    rw [push_len]
    split <;> omega
  · rcases push_mem hr with rfl | q
    · exact k1
    · exact k3 r q
theorem OKs.refu (K : OKs σ) (r d : Int32) : OKs (refu σ r d) := K
theorem AJ.fr (h : AJ V σ) (hf : ∀ q, 109 ≤ q → q < 118 → V' q = V q) : AJ V' σ := by
  obtain ⟨h1, ⟨h2, h3⟩, h4, ⟨h5, h6⟩, ⟨h7, h8⟩, h9, h10, h11, h12⟩ := h
  have e := hf 109 (by omega) (by omega)
  refine ⟨by rw [hf 110 (by omega) (by omega)]; exact h1, ⟨by rw [e]; exact h2, fun k r q i hi => by rw [hf 111 (by omega) (by omega)]; exact h3 k r q i hi⟩, ?_, ⟨by rw [e]; exact h5, fun i hi => by rw [hf 114 (by omega) (by omega)]; exact h6 i hi⟩, ⟨by rw [e]; exact h7, fun i hi => by rw [hf 115 (by omega) (by omega)]; exact h8 i hi⟩, by rw [e]; exact h9, by rw [e]; exact h10, by rw [e]; exact h11, by rw [e]; exact h12⟩
  unfold SM at h4 ⊢
  cases hs : σ.2.2.1 with
  | none => rw [hs] at h4; show V' 109 4 = _; rw [e]; exact h4
  | some r => rw [hs] at h4; exact ⟨by rw [e]; exact h4.1, fun i hi => by rw [hf 112 (by omega) (by omega)]; exact h4.2 i hi⟩
theorem AJ.frI (h : AJ V σ) (hf : FrI V V') : AJ V' σ := h.fr (fun q h1 _ => hf q h1)
theorem AI.fr (h : AI V σ) (hf : ∀ q, q < 109 → V' q = V q) : AI V' σ := by
  obtain ⟨h1, ⟨o, h2, h3, h4, h5⟩, h6, ⟨h7, h8⟩, ⟨h9, h10⟩, h11, h12, h13⟩ := h
  have e := hf 0 (by omega)
  refine ⟨lr_frame (fun q _ _ => hf q (by omega)) h1, ⟨o, h2, by rw [hf 28 (by omega)]; exact h3, by rw [hf 28 (by omega)]; exact h4, fun k r q => lr_frame (fun q _ _ => hf q (by omega)) (h5 k r q)⟩, ?_, ⟨by rw [hf 105 (by omega)]; exact h7, fun i hi => by rw [hf 106 (by omega)]; exact h8 i hi⟩, ⟨by rw [e]; exact h9, fun i hi => by rw [hf 108 (by omega)]; exact h10 i hi⟩, by rw [e]; exact h11, by rw [e]; exact h12, by rw [e]; exact h13⟩
  unfold SI at h6 ⊢
  cases hs : σ.2.2.1 with
  | none => rw [hs] at h6; show V' 0 8 = _; rw [e]; exact h6
  | some r => rw [hs] at h6; exact ⟨by rw [e]; exact h6.1, lr_frame (fun q _ _ => hf q (by omega)) h6.2⟩
theorem AI.frM (h : AI V σ) (hf : FrM V V') : AI V' σ := h.fr (fun q h1 => hf q (Or.inl h1))
theorem AI.land (h : AI V σ) {g' : Row} (hl : LR V' 1 g') (hf : ∀ q, q = 0 ∨ 10 ≤ q → V' q = V q) : AI V' (g', σ.2) := by
  obtain ⟨h1, ⟨o, h2, h3, h4, h5⟩, h6, ⟨h7, h8⟩, ⟨h9, h10⟩, h11, h12, h13⟩ := h
  have e := hf 0 (by omega)
  refine ⟨hl, ⟨o, h2, by rw [hf 28 (by omega)]; exact h3, by rw [hf 28 (by omega)]; exact h4, fun k r q => lr_frame (fun q _ _ => hf q (by omega)) (h5 k r q)⟩, ?_, ⟨by rw [hf 105 (by omega)]; exact h7, fun i hi => by rw [hf 106 (by omega)]; exact h8 i hi⟩, ⟨by rw [e]; exact h9, fun i hi => by rw [hf 108 (by omega)]; exact h10 i hi⟩, by rw [e]; exact h11, by rw [e]; exact h12, by rw [e]; exact h13⟩
  show SI V' σ.2.2.1
  unfold SI at h6 ⊢
  cases hs : σ.2.2.1 with
  | none => rw [hs] at h6; show V' 0 8 = _; rw [e]; exact h6
  | some r => rw [hs] at h6; exact ⟨by rw [e]; exact h6.1, lr_frame (fun q _ _ => hf q (by omega)) h6.2⟩
theorem AI.keep (h : AI V σ) (K : OKs σ) : ∃ V', d_X3_keep 1 V = some V' ∧ AI V' (σ.1, push σ.2.1 σ.1, σ.2.2) ∧ FrI V V' := by
  obtain ⟨h1, h2, h6, ⟨h7, h8⟩, ⟨h9, h10⟩, h11, h12, h13⟩ := h
  obtain ⟨V', c1, c2, c3⟩ := i_keep (b := 1) (Or.inl rfl) (wf_s7 K.w) h1 K.l8 h2
  have hf : ∀ q, q ≠ 28 → ¬ (30 ≤ q ∧ q < 102) → V' q = V q := c3
  have e := hf 0 (by omega) (by omega)
  refine ⟨V', c1, ⟨lr_frame (fun q _ _ => hf q (by omega) (by omega)) h1, c2, ?_, ⟨by rw [hf 105 (by omega) (by omega)]; exact h7, fun i hi => by rw [hf 106 (by omega) (by omega)]; exact h8 i hi⟩, ⟨by rw [e]; exact h9, fun i hi => by rw [hf 108 (by omega) (by omega)]; exact h10 i hi⟩, by rw [e]; exact h11, by rw [e]; exact h12, by rw [e]; exact h13⟩, fun q hq => hf q (by omega) (by omega)⟩
  show SI V' σ.2.2.1
  unfold SI at h6 ⊢
  cases hs : σ.2.2.1 with
  | none => rw [hs] at h6; show V' 0 8 = _; rw [e]; exact h6
  | some r => rw [hs] at h6; exact ⟨by rw [e]; exact h6.1, lr_frame (fun q _ _ => hf q (by omega) (by omega)) h6.2⟩
/-- a change: kept first, then done -/
theorem AI.change (h : AI V σ) (K : OKs σ) : ∃ V1, d_X3_keep 1 V = some V1 ∧ LR V1 1 σ.1 ∧ FrI V V1 ∧ ∀ {V2 : VT} {g' : Row}, LR V2 1 g' → (∀ q, q = 0 ∨ 10 ≤ q → V2 q = V1 q) → AI V2 (chg σ g') ∧ FrI V V2 := by
  obtain ⟨V1, c1, c2, c3⟩ := h.keep K
  exact ⟨V1, c1, c2.1, c3, fun hl hf => ⟨c2.land hl hf, fun q hq => (hf q (by omega)).trans (c3 q hq)⟩⟩
theorem AI.why (h : AI V σ) (r d : Int32) : AI (up2 (up2 V 0 10 r) 0 11 d) (refu σ r d) := by
  obtain ⟨h1, ⟨o, h2, h3, h4, h5⟩, h6, ⟨h7, h8⟩, ⟨h9, h10⟩, h11, h12, h13⟩ := h
  have hf : ∀ q, q ≠ 0 → up2 (up2 V 0 10 r) 0 11 d q = V q := fun q hq => by rw [up2_ne hq, up2_ne hq]
  have e : ∀ i, i < 10 → up2 (up2 V 0 10 r) 0 11 d 0 i = V 0 i := fun i hi => by rw [up2_at, upd_ne (by omega), up2_at, upd_ne (by omega)]
  refine ⟨lr_frame (fun q _ _ => hf q (by omega)) h1, ⟨o, h2, by rw [hf 28 (by omega)]; exact h3, by rw [hf 28 (by omega)]; exact h4, fun k r q => lr_frame (fun q _ _ => hf q (by omega)) (h5 k r q)⟩, ?_, ⟨by rw [hf 105 (by omega)]; exact h7, fun i hi => by rw [hf 106 (by omega)]; exact h8 i hi⟩, ⟨by rw [e 7 (by omega)]; exact h9, fun i hi => by rw [hf 108 (by omega)]; exact h10 i hi⟩, by rw [e 9 (by omega)]; exact h11, by rw [up2_at, upd_ne (by omega), up2_at, upd_eq]; rfl, by rw [up2_at, upd_eq]; rfl⟩
  show SI _ σ.2.2.1
  unfold SI at h6 ⊢
  cases hs : σ.2.2.1 with
  | none => rw [hs] at h6; show up2 (up2 V 0 10 r) 0 11 d 0 8 = _; rw [e 8 (by omega)]; exact h6
  | some r' => rw [hs] at h6; exact ⟨by rw [e 8 (by omega)]; exact h6.1, lr_frame (fun q _ _ => hf q (by omega)) h6.2⟩
/-! the reference's side -/
theorem AJ.c7 (h : AJ V σ) (x : Int32) : AJ (up2 V 109 7 x) σ := by
  obtain ⟨h1, ⟨h2, h3⟩, h4, ⟨h5, h6⟩, ⟨h7, h8⟩, h9, h10, h11, h12⟩ := h
  have e : ∀ i, i ≠ 7 → up2 V 109 7 x 109 i = V 109 i := fun i hi => by rw [up2_at, upd_ne hi]
  have f : ∀ q, q ≠ 109 → up2 V 109 7 x q = V q := fun q hq => up2_ne hq
  refine ⟨by rw [f 110 (by omega)]; exact h1, ⟨by rw [e _ (by omega)]; exact h2, fun k r q i hi => by rw [f 111 (by omega)]; exact h3 k r q i hi⟩, ?_, ⟨by rw [e _ (by omega)]; exact h5, fun i hi => by rw [f 114 (by omega)]; exact h6 i hi⟩, ⟨by rw [e _ (by omega)]; exact h7, fun i hi => by rw [f 115 (by omega)]; exact h8 i hi⟩, by rw [e _ (by omega)]; exact h9, by rw [e _ (by omega)]; exact h10, by rw [e _ (by omega)]; exact h11, by rw [e _ (by omega)]; exact h12⟩
  unfold SM at h4 ⊢
  cases hs : σ.2.2.1 with
  | none => rw [hs] at h4; show up2 V 109 7 x 109 4 = _; rw [e _ (by omega)]; exact h4
  | some r => rw [hs] at h4; exact ⟨by rw [e _ (by omega)]; exact h4.1, fun i hi => by rw [f 112 (by omega)]; exact h4.2 i hi⟩
theorem fr7 (V : VT) (i : Nat) (x : Int32) : FrM V (up2 V 109 i x) := fun q hq => up2_ne (by omega)
theorem AJ.refuse (h : AJ V σ) (p r d : Int32) : AJ (up2 (up2 (up2 V 109 7 p) 109 8 r) 109 9 d) (refu σ r d) := by
  obtain ⟨h1, ⟨h2, h3⟩, h4, ⟨h5, h6⟩, ⟨h7, h8⟩, h9, h10, h11, h12⟩ := h.c7 p
  have e : ∀ i, i ≠ 8 → i ≠ 9 → up2 (up2 (up2 V 109 7 p) 109 8 r) 109 9 d 109 i = up2 V 109 7 p 109 i := fun i hi hj => by rw [up2_at, upd_ne hj, up2_at, upd_ne hi]
  have f : ∀ q, q ≠ 109 → up2 (up2 (up2 V 109 7 p) 109 8 r) 109 9 d q = up2 V 109 7 p q := fun q hq => by rw [up2_ne hq, up2_ne hq]
  refine ⟨by rw [f 110 (by omega)]; exact h1, ⟨by rw [e _ (by omega) (by omega)]; exact h2, fun k r q i hi => by rw [f 111 (by omega)]; exact h3 k r q i hi⟩, ?_, ⟨by rw [e _ (by omega) (by omega)]; exact h5, fun i hi => by rw [f 114 (by omega)]; exact h6 i hi⟩, ⟨by rw [e _ (by omega) (by omega)]; exact h7, fun i hi => by rw [f 115 (by omega)]; exact h8 i hi⟩, by rw [e _ (by omega) (by omega)]; exact h9, by rw [up2_at, upd_ne (by omega), up2_at, upd_eq]; rfl, by rw [up2_at, upd_eq]; rfl, by rw [e _ (by omega) (by omega)]; exact h12⟩
  show SM _ σ.2.2.1
  unfold SM at h4 ⊢
  cases hs : σ.2.2.1 with
  | none => rw [hs] at h4; show up2 (up2 (up2 V 109 7 p) 109 8 r) 109 9 d 109 4 = _; rw [e _ (by omega) (by omega)]; exact h4
  | some r' => rw [hs] at h4; exact ⟨by rw [e _ (by omega) (by omega)]; exact h4.1, fun i hi => by rw [f 112 (by omega)]; exact h4.2 i hi⟩
theorem m_refuses (p r d : Int32) : d_X5_refuses p r d V = some (nI 0, up2 (up2 (up2 V 109 7 p) 109 8 r) 109 9 d) := rfl
theorem m_fails (k : Nat) (hk : k < 2 ^ 31) : d_X5_fails (nI k) V = some (b2 (decide (0 < k)), up2 V 109 7 (nI k)) := by
  unfold d_X5_fails
  simp (disch := omega) only [i_0, i_1, nI_leI]
  by_cases h : k ≤ 0
  · rw [if_pos h, decide_eq_false (by omega)]; rfl
  · rw [if_neg h, decide_eq_true (by omega)]; rfl
theorem AJ.row (h : AJ V σ) {g' : Row} : AJ (setc V 110 g') (g', σ.2) := by
  obtain ⟨h1, ⟨h2, h3⟩, h4, ⟨h5, h6⟩, ⟨h7, h8⟩, h9, h10, h11, h12⟩ := h
  have f : ∀ q, q ≠ 110 → setc V 110 g' q = V q := fun q hq => setc_ne hq
  refine ⟨setc_at _ _ _, ⟨by rw [f _ (by omega)]; exact h2, fun k r q i hi => by rw [f 111 (by omega)]; exact h3 k r q i hi⟩, ?_, ⟨by rw [f _ (by omega)]; exact h5, fun i hi => by rw [f 114 (by omega)]; exact h6 i hi⟩, ⟨by rw [f _ (by omega)]; exact h7, fun i hi => by rw [f 115 (by omega)]; exact h8 i hi⟩, by rw [f _ (by omega)]; exact h9, by rw [f _ (by omega)]; exact h10, by rw [f _ (by omega)]; exact h11, by rw [f _ (by omega)]; exact h12⟩
  show SM _ σ.2.2.1
  unfold SM at h4 ⊢
  cases hs : σ.2.2.1 with
  | none => rw [hs] at h4; show setc V 110 g' 109 4 = _; rw [f _ (by omega)]; exact h4
  | some r => rw [hs] at h4; exact ⟨by rw [f _ (by omega)]; exact h4.1, fun i hi => by rw [f 112 (by omega)]; exact h4.2 i hi⟩
theorem AJ.keep (h : AJ V σ) (K : OKs σ) : ∃ V', d_X5_keeps 110 V = some V' ∧ AJ V' (σ.1, push σ.2.1 σ.1, σ.2.2) ∧ FrM V V' ∧ V' 109 7 = V 109 7 := by
  obtain ⟨h1, h2, h4, ⟨h5, h6⟩, ⟨h7, h8⟩, h9, h10, h11, h12⟩ := h
  obtain ⟨V', c1, c2, c3, c4⟩ := m_keeps (a := 110) (Or.inl rfl) h12 K.l8 h2
  rw [h1] at c2
  refine ⟨V', c1, ⟨by rw [c3 110 (by omega) (by omega)]; exact h1, c2, ?_, ⟨by rw [c4 _ (by omega)]; exact h5, fun i hi => by rw [c3 114 (by omega) (by omega)]; exact h6 i hi⟩, ⟨by rw [c4 _ (by omega)]; exact h7, fun i hi => by rw [c3 115 (by omega) (by omega)]; exact h8 i hi⟩, by rw [c4 _ (by omega)]; exact h9, by rw [c4 _ (by omega)]; exact h10, by rw [c4 _ (by omega)]; exact h11, by rw [c4 _ (by omega)]; exact h12⟩, fun q hq => c3 q (by omega) (by omega), c4 7 (by omega)⟩
  show SM _ σ.2.2.1
  unfold SM at h4 ⊢
  cases hs : σ.2.2.1 with
  | none => rw [hs] at h4; show V' 109 4 = _; rw [c4 _ (by omega)]; exact h4
  | some r => rw [hs] at h4; exact ⟨by rw [c4 _ (by omega)]; exact h4.1, fun i hi => by rw [c3 112 (by omega) (by omega)]; exact h4.2 i hi⟩
theorem fr110 (V : VT) (r : Row) : FrM V (setc V 110 r) := fun q hq => setc_ne (by omega)
end
