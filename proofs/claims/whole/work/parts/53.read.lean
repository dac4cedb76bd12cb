/-! PURE ROWS: the landed read -/
def RC (d : Option (Int32 × VT)) (V0 : VT) (n : Nat) (r : (Int32 ⊕ Nat) × Sg) : Prop := match r.1 with
  | .inl v => ∃ V' i', d = d_X4_carryOutAll_125 v V' ∧ CW V0 n r.2 V' i'
  | .inr c => ∃ V' i', d = bd (d_X1_copyFrom 1 10 V') (fun V13 => some (if c = 2 then (-1 : Int32) else (-2 : Int32), V13)) ∧ CW V0 n r.2 V' i'
section
variable {V0 V V1 V' : VT} {σ σ' : Sg} {n i : Nat} {t : Nat → Int32}
theorem rn_inl {o : Int32 × List Nat} {os : List (Int32 × List Nat)} {k : Nat} {v : Int32} (h : (exo σ o).1 = .inl v) : rn (o :: os) σ k = rn os (exo σ o).2 (k + 1) := by
  show (match (exo σ o).1 with | .inl _ => rn os (exo σ o).2 (k + 1) | .inr c => (.inr (if isRf o.1 c = true then 2 else 1), (exo σ o).2)) = _
  rw [h]
theorem rn_inr {o : Int32 × List Nat} {os : List (Int32 × List Nat)} {k c : Nat} (h : (exo σ o).1 = .inr c) : rn (o :: os) σ k = (.inr (if isRf o.1 c = true then 2 else 1), (exo σ o).2) := by
  show (match (exo σ o).1 with | .inl _ => rn os (exo σ o).2 (k + 1) | .inr c => (.inr (if isRf o.1 c = true then 2 else 1), (exo σ o).2)) = _
  rw [h]
theorem rn_all : ∀ (os : List (Int32 × List Nat)) σ k, (∀ o ∈ os, VO o) → OKs σ → OKs (rn os σ k).2 ∧ SAM σ (rn os σ k).2 ∧ (∀ v, (rn os σ k).1 = .inl v → v = nI (k + os.length)) ∧ ∀ c, (rn os σ k).1 = .inr c → c = 1 ∨ c = 2 := by
  intro os
  induction os with
  | nil => intro σ k _ K; exact ⟨K, SAM.rf _, fun v hv => by cases hv; rfl, fun c hc => by cases hc⟩
  | cons o os ih =>
    intro σ k hv K
    have v1 := hv o (List.mem_cons_self ..)
    have K1 : OKs (exo σ o).2 := K_xo K v1.ne _ _ _
    have S1 : SAM σ (exo σ o).2 := (xo_sam v1.ne _ _ _).1
    cases he : (exo σ o).1 with
    | inl v =>
      rw [rn_inl he]
      obtain ⟨a1, a2, a3, a4⟩ := ih (exo σ o).2 (k + 1) (fun o' ho => hv o' (List.mem_cons_of_mem _ ho)) K1
      exact ⟨a1, S1.tr a2, fun w hw => by rw [a3 w hw, List.length_cons]; congr 1; omega, a4⟩
    | inr c =>
      rw [rn_inr he]
      refine ⟨K1, S1, fun w hw => (by cases hw), fun c' hc => ?_⟩
      cases hc
      split
      · exact Or.inr rfl
      · exact Or.inl rfl
theorem i_order (n60 : n ≤ 60) (T : ∀ j, j < n → V0 106 j = t j) (h : CW V0 n σ V i) (hi : i < 2 ^ 30) : ∃ V', d_X2_takeOrder V = some (b2 (pOrd t n i).1, V') ∧ CW V0 n σ V' ((pOrd t n i).2.1 + 1) ∧ ((pOrd t n i).1 = true → V' 105 3 = hr t n i ∧ ∀ j v, (pOrd t n i).2.2[j]? = some v → V' 107 j = nI v) := by
  obtain ⟨h1, h2, h3, h4, h5, h6, h7⟩ := h
  obtain ⟨V1, q1, q2, q3⟩ := i_parts (V0 := V) (V := V) (t := t) n60 (fun j hj => by rw [h5 106 (by omega) (by omega) (by omega)]; exact T j hj) ⟨fun _ _ _ => rfl, h6, h7⟩ hi
  obtain ⟨p1, p2, p3⟩ := q2
  have e0 : V1 0 = V 0 := p1 0 (by omega) (by omega)
  refine ⟨up2 V1 105 2 (nI ((pOrd t n i).2.1 + 1)), ?_, ⟨lr_frame (fun q _ _ => by rw [up2_ne (by omega)]; exact p1 q (by omega) (by omega)) h1, ?_, ?_, ?_, ?_, ?_, ?_⟩, fun hq => ?_⟩
  · unfold d_X2_takeOrder
    rw [q1, bw_some, asr_zok, p3, j_1, nI_add]
  · rw [up2_ne (by omega), e0]; exact h2
  · rw [up2_ne (by omega), e0]; exact h3
  · intro j a b; rw [up2_ne (by omega), e0]; exact h4 j a b
  · intro q a b c; rw [up2_ne b]; exact (p1 q b c).trans (h5 q a b c)
  · rw [up2_at, upd_ne (by omega)]; exact p2
  · rw [up2_at, upd_eq]
  · obtain ⟨r1, r2⟩ := q3 hq
    exact ⟨by rw [up2_at, upd_ne (by omega)]; exact r1, fun j v q => by rw [up2_ne (by omega)]; exact r2 j v q⟩
/-- one order, and what comes behind it -/
theorem i_onward (n60 : n ≤ 60) (T : ∀ j, j < n → V0 106 j = t j) (h : CW V0 n σ V i) (K : OKs σ) (hi : i < 2 ^ 30) (hp : (pOrd t n i).1 = true) {k f : Nat} (hk : k < 60) {os : List (Int32 × List Nat)} (kk : ∀ V', CW V0 n (exo σ (hr t n i, (pOrd t n i).2.2)).2 V' ((pOrd t n i).2.1 + 1) → RC (lo1W d_X4_carryOutAll_21b f (nI (k + 1)) V') V0 n (rn os (exo σ (hr t n i, (pOrd t n i).2.2)).2 (k + 1))) : RC (lo1W d_X4_carryOutAll_21b (f + 1) (nI k) V) V0 n (rn ((hr t n i, (pOrd t n i).2.2) :: os) σ k) := by
  have v1 := pOrd_vo hp
  obtain ⟨V1, q1, q2, q3⟩ := i_order n60 T h hi
  obtain ⟨r1, r2⟩ := q3 hp
  have hx := i_xo q2 K v1.ne (V1 107 0) (V1 107 1) (V1 107 2)
  rw [show xo σ (hr t n i, (pOrd t n i).2.2).1 (V1 107 0) (V1 107 1) (V1 107 2) = exo σ (hr t n i, (pOrd t n i).2.2) from xo_val v1 (f := V1 107) r2] at hx
  have r1 : V1 105 3 = (hr t n i, (pOrd t n i).2.2).1 := r1
  generalize (hr t n i, (pOrd t n i).2.2) = o at *
  show RC (d_X4_carryOutAll_21b (lo1W d_X4_carryOutAll_21b f) (nI k) V) V0 n _
  generalize lo1W d_X4_carryOutAll_21b f = KK at kk ⊢
  unfold d_X4_carryOutAll_21b
  rw [if_neg (by rw [j_60, nI_leI (by omega) (by omega)]; omega), q1, hp, bw_some, if_neg (show ¬ b2 true = (0 : Int32) by decide +kernel), r1]
  unfold RS9 at hx
  cases he : (exo σ o).1 with
  | inl v =>
    rw [he] at hx
    obtain ⟨x1, V2, x2, x3⟩ := hx
    rw [rn_inl he, x1, bw_some, if_pos (show nI 0 = (0 : Int32) from rfl), r1, x2, bd_some, j_1, nI_add]
    exact kk V2 x3
  | inr c =>
    rw [he] at hx
    obtain ⟨V2, x1, x2⟩ := hx
    rw [rn_inr he, x1, bw_some]
    by_cases hrf : isRf o.1 c = true
    · rw [if_pos hrf, if_pos hrf, if_neg (show ¬ (-1 : Int32) = (0 : Int32) by decide +kernel)]
      exact ⟨V2, _, rfl, x2⟩
    · rw [if_neg hrf, if_neg hrf, if_neg (show ¬ (-2 : Int32) = (0 : Int32) by decide +kernel)]
      exact ⟨V2, _, rfl, x2⟩
theorem i_stop (n60 : n ≤ 60) (T : ∀ j, j < n → V0 106 j = t j) (h : CW V0 n σ V i) (hi : i < 2 ^ 30) (hn : ¬ i < n) {k f : Nat} (hk : k < 60) : RC (lo1W d_X4_carryOutAll_21b (f + 1) (nI k) V) V0 n (rn [] σ k) := by
  obtain ⟨V1, q1, q2, q3⟩ := i_order n60 T h hi
  rw [pOrd_no (by rw [hr_out hn]; rfl)] at q1 q2
  refine ⟨V1, i + 1, ?_, q2⟩
  show d_X4_carryOutAll_21b (lo1W d_X4_carryOutAll_21b f) (nI k) V = _
  unfold d_X4_carryOutAll_21b
  rw [if_neg (by rw [j_60, nI_leI (by omega) (by omega)]; omega), q1, bw_some, if_pos (show b2 false = (0 : Int32) from rfl)]
theorem i_carry (n60 : n ≤ 60) (T : ∀ j, j < n → V0 106 j = t j) : ∀ m i σ k V f, CW V0 n σ V i → OKs σ → (pT t n m i).1 = true → i ≤ n → k + m ≤ 50 → m + 1 < f → RC (lo1W d_X4_carryOutAll_21b f (nI k) V) V0 n (rn (pT t n m i).2.2 σ k) := by
  intro m
  induction m with
  | zero => intro i σ k V f _ _ h; cases h
  | succ m ih =>
    intro i σ k V f h K hT hi hk hf
    obtain ⟨f, rfl⟩ : ∃ f', f = f' + 1 := ⟨f - 1, by omega⟩
    obtain ⟨l1, l2, l3⟩ := pOrd_le (t := t) hi
    cases c : (pOrd t n i).1 with
    | false => rw [pT_no c] at hT; cases hT
    | true =>
      have v1 := pOrd_vo c
      have K1 : OKs (exo σ (hr t n i, (pOrd t n i).2.2)).2 := K_xo K v1.ne _ _ _
      by_cases c2 : (pOrd t n i).2.1 < n
      · by_cases c3 : t (pOrd t n i).2.1 = nI 59
        · rw [pT_go c c2 c3] at hT ⊢
          exact i_onward n60 T h K (by omega) c (by omega) (fun V' h' => ih _ _ _ V' f h' K1 hT (by omega) (by omega) (by omega))
        · rw [pT_bad c c2 c3] at hT; cases hT
      · rw [pT_end c c2]
        obtain ⟨f, rfl⟩ : ∃ f', f = f' + 1 := ⟨f - 1, by omega⟩
        exact i_onward n60 T h K (by omega) c (by omega) (fun V' h' => i_stop n60 T h' (by omega) (by omega) (by omega))
end
def er (σ : Sg) (e : Int32) : Sg := (σ.1, σ.2.1, σ.2.2.1, (0, σ.2.2.2.1.2), σ.2.2.2.2.1, e, σ.2.2.2.2.2.2)
def kp (σ : Sg) (g : Row) : Sg := (σ.1, push σ.2.1 g, σ.2.2)
def spRead (σ : Sg) : (Int32 ⊕ Nat) × Sg :=
  if (pT σ.2.2.2.1.2 σ.2.2.2.1.1 31 0).1 = true then
    match (rn (pT σ.2.2.2.1.2 σ.2.2.2.1.1 31 0).2.2 (er σ iM) 0).1 with
    | .inl v => (.inl v, kp (rn (pT σ.2.2.2.1.2 σ.2.2.2.1.1 31 0).2.2 (er σ iM) 0).2 σ.1)
    | .inr c => (.inr c, chw (rn (pT σ.2.2.2.1.2 σ.2.2.2.1.1 31 0).2.2 (er σ iM) 0).2 (mix σ.1 (rn (pT σ.2.2.2.1.2 σ.2.2.2.1.1 31 0).2.2 (er σ iM) 0).2.1))
  else (.inr 1, er σ (nI (pT σ.2.2.2.1.2 σ.2.2.2.1.1 31 0).2.1))
section
variable {V V' : VT} {σ : Sg}
theorem OKs.er (K : OKs σ) (e : Int32) : OKs (er σ e) := ⟨K.1, K.2.1, K.2.2.1, ⟨Nat.zero_le _, fun i hi => absurd hi (Nat.not_lt_zero i)⟩, K.2.2.2.2⟩
theorem OKs.kp (K : OKs σ) {g : Row} (w : WF g) : OKs (kp σ g) := by
  obtain ⟨k1, ⟨k2, k3⟩, k4⟩ := K
  refine ⟨k1, ⟨?_, fun r hr => ?_⟩, k4⟩
  · show (push σ.2.1 g).length ≤ 8
    rw [push_len]
    split <;> omega
  · rcases push_mem hr with rfl | q
    · exact w
    · exact k3 r q
theorem K_read (K : OKs σ) : OKs (spRead σ).2 := by
  unfold spRead
  by_cases h : (pT σ.2.2.2.1.2 σ.2.2.2.1.1 31 0).1 = true
  · rw [if_pos h]
    obtain ⟨a1, -⟩ := rn_all (pT σ.2.2.2.1.2 σ.2.2.2.1.1 31 0).2.2 (er σ iM) 0 (pT_vo 31 0) (K.er iM)
    cases (rn (pT σ.2.2.2.1.2 σ.2.2.2.1.1 31 0).2.2 (er σ iM) 0).1 with
    | inl v => exact a1.kp K.w
    | inr c => exact a1.chw (wf_mix K.w)
  · rw [if_neg h]; exact K.er _
/-- all but the land, the text and the reasons -/
theorem AI.mk9 (h : AI V σ) {σ' : Sg} (S : σ'.2.2.1 = σ.2.2.1 ∧ σ'.2.2.2.2.1 = σ.2.2.2.2.1) (h0 : σ'.2.2.2.1.1 = 0) (hl : LR V' 1 σ'.1) (hR : RI V' σ'.2.1) (hf : ∀ q, 19 ≤ q → q < 28 → V' q = V q) (hf2 : V' 108 = V 108) (h105 : V' 105 1 = nI 0) (e : ∀ j, j = 7 ∨ j = 8 → V' 0 j = V 0 j) (e9 : V' 0 9 = σ'.2.2.2.2.2.1) (e10 : V' 0 10 = σ'.2.2.2.2.2.2.1) (e11 : V' 0 11 = σ'.2.2.2.2.2.2.2) : AI V' σ' := by
  obtain ⟨h1, -, h6, ⟨h7, h8⟩, ⟨h9, h10⟩, h11, h12, h13⟩ := h
  obtain ⟨s2, s3⟩ := S
  refine ⟨hl, hR, ?_, ⟨by rw [h0]; exact h105, fun i hi => by rw [h0] at hi; omega⟩, ⟨by rw [e 7 (by omega), s3]; exact h9, fun i hi => by rw [hf2, s3]; exact h10 i (by rw [← s3]; exact hi)⟩, e9, e10, e11⟩
  show SI V' σ'.2.2.1
  rw [s2]
  unfold SI at h6 ⊢
  cases hs : σ.2.2.1 with
  | none => rw [hs] at h6; show V' 0 8 = _; rw [e 8 (by omega)]; exact h6
  | some r => rw [hs] at h6; exact ⟨by rw [e 8 (by omega)]; exact h6.1, lr_frame (fun q _ _ => hf q (by omega) (by omega)) h6.2⟩
theorem RI.fr {ls : List Row} (h : RI V ls) (hf : ∀ q, 28 ≤ q → q < 102 → V' q = V q) : RI V' ls := by
  obtain ⟨o, h2, h3, h4, h5⟩ := h
  exact ⟨o, h2, by rw [hf 28 (by omega) (by omega)]; exact h3, by rw [hf 28 (by omega) (by omega)]; exact h4, fun k r q => lr_frame (fun q _ _ => hf q (by omega) (by omega)) (h5 k r q)⟩
end
theorem pT_cnt {t : Nat → Int32} {n : Nat} : ∀ m i, (pT t n m i).2.2.length ≤ m := by
  intro m
  induction m with
  | zero => intro i; exact Nat.le_refl 0
  | succ m ih =>
    intro i
    cases c : (pOrd t n i).1 with
    | false => rw [pT_no c]; exact Nat.zero_le _
    | true =>
      by_cases c2 : (pOrd t n i).2.1 < n
      · by_cases c3 : t (pOrd t n i).2.1 = nI 59
        · rw [pT_go c c2 c3]
          exact Nat.succ_le_succ (ih _)
        · rw [pT_bad c c2 c3]; exact Nat.zero_le _
      · rw [pT_end c c2]; exact Nat.succ_le_succ (Nat.zero_le _)
theorem pT_le {t : Nat → Int32} {n : Nat} : ∀ m i, i ≤ n → (pT t n m i).2.1 ≤ n := by
  intro m
  induction m with
  | zero => intro i h; exact h
  | succ m ih =>
    intro i h
    obtain ⟨l1, l2, l3⟩ := pOrd_le (t := t) h
    cases c : (pOrd t n i).1 with
    | false => rw [pT_no c]; exact l2
    | true =>
      by_cases c2 : (pOrd t n i).2.1 < n
      · by_cases c3 : t (pOrd t n i).2.1 = nI 59
        · rw [pT_go c c2 c3]
          exact ih _ c2
        · rw [pT_bad c c2 c3]; exact l2
      · rw [pT_end c c2]; exact l2
theorem m2_ne {a : Nat} (h : a < 2 ^ 31) : ¬ nI a = (-2 : Int32) := by
  intro q
  have := congrArg Int32.toInt q
  rw [nI_toInt h, show (-2 : Int32).toInt = -2 by decide +kernel] at this
  omega
