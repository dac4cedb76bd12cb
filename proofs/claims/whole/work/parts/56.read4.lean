/-! PURE ROWS: the reference's read, whole -/
section
variable {V V' : VT} {σ : Sg}
theorem M_read (h : AJ V σ) (K : OKs σ) : DM (d_X5_read V) V (spRead σ) := by
  have n60 := K.2.2.2.1.1
  have hTM := h.2.2.2.1
  unfold d_X5_read spRead
  obtain ⟨V2, q1, ⟨f1, f2, f3⟩, f4⟩ := m_isText (V := V) ⟨n60, hTM.1, hTM.2⟩
  rw [q1, bw_some]
  have hle : (pT σ.2.2.2.1.2 σ.2.2.2.1.1 31 0).2.1 ≤ σ.2.2.2.1.1 := pT_le 31 0 (Nat.zero_le _)
  -- the state behind the position
  have st : ∀ x, AJ (up2 (up2 V2 109 12 x) 109 11 (0 : Int32)) (er σ x) ∧ FrM V (up2 (up2 V2 109 12 x) 109 11 (0 : Int32)) := by
    intro x
    obtain ⟨h1, ⟨h2, h3⟩, h4, ⟨h5, h6⟩, ⟨h7, h8⟩, h9, h10, h11, h12⟩ := h
    have e : ∀ i, i ≠ 11 → i ≠ 12 → i ≠ 16 → i ≠ 18 → up2 (up2 V2 109 12 x) 109 11 (0 : Int32) 109 i = V 109 i := fun i a b c d => by rw [up2_at, upd_ne a, up2_at, upd_ne b]; exact f2 i c d
    have f : ∀ q, q ≠ 109 → q ≠ 117 → up2 (up2 V2 109 12 x) 109 11 (0 : Int32) q = V q := fun q a b => by rw [up2_ne a, up2_ne a]; exact f1 q a b
    refine ⟨⟨by rw [f 110 (by omega) (by omega)]; exact h1, ⟨by rw [e 5 (by omega) (by omega) (by omega) (by omega)]; exact h2, fun k r q i hi => by rw [f 111 (by omega) (by omega)]; exact h3 k r q i hi⟩, ?_, ⟨by rw [up2_at, upd_eq]; rfl, fun i hi => absurd hi (Nat.not_lt_zero i)⟩, ⟨by rw [e 14 (by omega) (by omega) (by omega) (by omega)]; exact h7, fun i hi => by rw [f 115 (by omega) (by omega)]; exact h8 i hi⟩, by rw [up2_at, upd_ne (by omega), up2_at, upd_eq]; rfl, by rw [e 8 (by omega) (by omega) (by omega) (by omega)]; exact h10, by rw [e 9 (by omega) (by omega) (by omega) (by omega)]; exact h11, by rw [e 6 (by omega) (by omega) (by omega) (by omega)]; exact h12⟩, fun q hq => f q (by omega) (by omega)⟩
    show SM _ σ.2.2.1
    unfold SM at h4 ⊢
    cases hs : σ.2.2.1 with
    | none => rw [hs] at h4; show up2 (up2 V2 109 12 x) 109 11 (0 : Int32) 109 4 = _; rw [e 4 (by omega) (by omega) (by omega) (by omega)]; exact h4
    | some r => rw [hs] at h4; exact ⟨by rw [e 4 (by omega) (by omega) (by omega) (by omega)]; exact h4.1, fun i hi => by rw [f 112 (by omega) (by omega)]; exact h4.2 i hi⟩
  by_cases hT : (pT σ.2.2.2.1.2 σ.2.2.2.1.1 31 0).1 = true
  · rw [hT, if_neg (show ¬ b2 true = (0 : Int32) by decide +kernel), if_pos rfl]
    obtain ⟨g18, gT⟩ := f4 hT
    unfold d_X5_read_18
    rw [if_neg (show ¬ b2 true = (0 : Int32) by decide +kernel), jM_def]
    obtain ⟨s3, r3⟩ := st iM
    have g18' : up2 (up2 V2 109 12 iM) 109 11 (0 : Int32) 109 18 = nI (pT σ.2.2.2.1.2 σ.2.2.2.1.1 31 0).2.2.length := by rw [up2_at, upd_ne (by omega), up2_at, upd_ne (by omega)]; exact g18
    have gT' : TD (up2 (up2 V2 109 12 iM) 109 11 (0 : Int32)) (pT σ.2.2.2.1.2 σ.2.2.2.1.1 31 0).2.2 := fun k o q => by rw [up2_ne (by omega), up2_ne (by omega)]; exact gT k o q
    generalize up2 (up2 V2 109 12 iM) 109 11 (0 : Int32) = V3 at s3 r3 g18' gT' ⊢
    unfold d_X5_read_36
    rw [j_0, m_fail0, bw_some, if_pos rfl]
    have hcp := m_copies (V := up2 V3 109 7 (nI 0)) (a := 110) (b := 113) (x1 := 0) (x3 := 0) (by omega) (by rw [show alen 110 = 56 from rfl]; omega) (by rw [show alen 113 = 56 from rfl]; omega) (by decide) (by decide)
    rw [hcp, bd_some]
    have u : ∀ q, q ≠ 109 → q ≠ 113 → up2 (setc (up2 V3 109 7 (nI 0)) 113 (cpy (up2 V3 109 7 (nI 0) 110) (up2 V3 109 7 (nI 0) 113) 0 0 56)) 109 6 (1 : Int32) q = V3 q := fun q a b => by rw [up2_ne a, setc_ne b, up2_ne a]
    have u9 : ∀ j, j ≠ 6 → j ≠ 7 → up2 (setc (up2 V3 109 7 (nI 0)) 113 (cpy (up2 V3 109 7 (nI 0) 110) (up2 V3 109 7 (nI 0) 113) 0 0 56)) 109 6 (1 : Int32) 109 j = V3 109 j := fun j a b => by rw [up2_at, upd_ne a, setc_ne (by omega), up2_at, upd_ne b]
    have u6 : up2 (setc (up2 V3 109 7 (nI 0)) 113 (cpy (up2 V3 109 7 (nI 0) 110) (up2 V3 109 7 (nI 0) 113) 0 0 56)) 109 6 (1 : Int32) 109 6 = nI 1 := by rw [up2_at, upd_eq]; rfl
    have u7 : up2 (setc (up2 V3 109 7 (nI 0)) 113 (cpy (up2 V3 109 7 (nI 0) 110) (up2 V3 109 7 (nI 0) 113) 0 0 56)) 109 6 (1 : Int32) 109 7 = nI 0 := by rw [up2_at, upd_ne (by omega), setc_ne (by omega), up2_at, upd_eq]
    have u113 : ∀ i, i < 56 → up2 (setc (up2 V3 109 7 (nI 0)) 113 (cpy (up2 V3 109 7 (nI 0) 110) (up2 V3 109 7 (nI 0) 113) 0 0 56)) 109 6 (1 : Int32) 113 i = σ.1 i := fun i hi => by
      rw [up2_ne (by omega), setc_at]
      have e5 := cpy_in (f := up2 V3 109 7 (nI 0) 110) (r := up2 V3 109 7 (nI 0) 113) (sp := 0) (dp := 0) hi
      rw [Nat.zero_add] at e5
      rw [e5, up2_ne (by omega), s3.1]
      rfl
    generalize up2 (setc (up2 V3 109 7 (nI 0)) 113 (cpy (up2 V3 109 7 (nI 0) 110) (up2 V3 109 7 (nI 0) 113) 0 0 56)) 109 6 (1 : Int32) = V4 at u u9 u6 u7 u113 ⊢
    have A4 : AJw V4 (er σ iM) := by
      obtain ⟨h1, ⟨h2, h3⟩, h4, ⟨h5, h6⟩, ⟨h7, h8⟩, h9, h10, h11, h12⟩ := s3
      refine ⟨by rw [u 110 (by omega) (by omega)]; exact h1, ⟨by rw [u9 5 (by omega) (by omega)]; exact h2, fun k r q i hi => by rw [u 111 (by omega) (by omega)]; exact h3 k r q i hi⟩, ?_, ⟨by rw [u9 11 (by omega) (by omega)]; exact h5, fun i hi => absurd hi (Nat.not_lt_zero i)⟩, ⟨by rw [u9 14 (by omega) (by omega)]; exact h7, fun i hi => by rw [u 115 (by omega) (by omega)]; exact h8 i hi⟩, by rw [u9 12 (by omega) (by omega)]; exact h9, by rw [u9 8 (by omega) (by omega)]; exact h10, by rw [u9 9 (by omega) (by omega)]; exact h11, u6⟩
      unfold SM at h4 ⊢
      cases hs : (er σ iM).2.2.1 with
      | none => rw [hs] at h4; show V4 109 4 = _; rw [u9 4 (by omega) (by omega)]; exact h4
      | some r => rw [hs] at h4; exact ⟨by rw [u9 4 (by omega) (by omega)]; exact h4.1, fun i hi => by rw [u 112 (by omega) (by omega)]; exact h4.2 i hi⟩
    have h18 : V4 109 18 = nI (pT σ.2.2.2.1.2 σ.2.2.2.1.1 31 0).2.2.length := by rw [u9 18 (by omega) (by omega)]; exact g18'
    have hTD : TD V4 (pT σ.2.2.2.1.2 σ.2.2.2.1.1 31 0).2.2 := fun k o q => by rw [u 117 (by omega) (by omega)]; exact gT' k o q
    have hlen := pT_cnt (t := σ.2.2.2.1.2) (n := σ.2.2.2.1.1) 31 0
    have hvo := pT_vo (n := σ.2.2.2.1.1) (t := σ.2.2.2.1.2) 31 0
    have r4 : FrM V V4 := fun q hq => (u q (by omega) (by omega)).trans (r3 q hq)
    generalize (pT σ.2.2.2.1.2 σ.2.2.2.1.1 31 0).2.2 = os at h18 hTD hlen hvo ⊢
    have hL := m_loop (by omega) hTD h18 os [] (er σ iM) V4 (nI 0) FU rfl A4 (K.er iM) (FrW.rf V4) u7 hvo (show os.length + 1 < 1000 by omega)
    obtain ⟨k1, ⟨s1, s2, s3', s4, s5⟩, k3, k4⟩ := rn_all os (er σ iM) 0 hvo (K.er iM)
    unfold d_X5_read_66
    have hL : RD (lo2W d_X5_read_66b FU (nI 0) (nI 0) V4) V4 os (rn os (er σ iM) 0) := hL
    generalize rn os (er σ iM) 0 = res at hL k1 s1 s2 s3' s4 s5 k3 k4 ⊢
    obtain ⟨rr, σ7⟩ := res
    cases rr with
    | inl v =>
      obtain ⟨b, V7, w1, w2, w3, w4⟩ := hL
      have hv := k3 v rfl
      rw [w1]
      unfold d_X5_read_95
      rw [w4, j_0, if_pos (Int32.le_refl _)]
      obtain ⟨h1, h2, h4, ⟨h5, h6⟩, ⟨h7, h8⟩, h9, h10, h11, h12⟩ := w2
      have e : ∀ j, j ≠ 6 → up2 V7 109 6 (nI 0) 109 j = V7 109 j := fun j a => by rw [up2_at, upd_ne a]
      have f : ∀ q, q ≠ 109 → up2 V7 109 6 (nI 0) q = V7 q := fun q a => up2_ne a
      have e6 : up2 V7 109 6 (nI 0) 109 6 = nI 0 := by rw [up2_at, upd_eq]
      generalize up2 V7 109 6 (nI 0) = V8 at e f e6 ⊢
      have R8 : RM V8 σ7.2.1 := ⟨by rw [e 5 (by omega)]; exact h2.1, fun k r q i hi => by rw [f 111 (by omega)]; exact h2.2 k r q i hi⟩
      obtain ⟨V9, a1, a2, a3, a4⟩ := m_keeps (a := 113) (Or.inr rfl) e6 k1.l8 R8
      rw [a1, bd_some]
      have a2' : RM V9 (push σ7.2.1 σ.1) := a2.con (fun i hi => by rw [f 113 (by omega), w3.1 113 (by omega) (by omega)]; exact u113 i hi)
      refine DM.of rfl ⟨by rw [a3 110 (by omega) (by omega), f 110 (by omega)]; exact h1, a2', ?_, ⟨?_, fun i hi => ?_⟩, ⟨by rw [a4 14 (by omega), e 14 (by omega)]; exact h7, fun i hi => by rw [a3 115 (by omega) (by omega), f 115 (by omega)]; exact h8 i hi⟩, by rw [a4 12 (by omega), e 12 (by omega)]; exact h9, by rw [a4 8 (by omega), e 8 (by omega)]; exact h10, by rw [a4 9 (by omega), e 9 (by omega)]; exact h11, by rw [a4 6 (by omega)]; exact e6⟩ (fun q hq => ?_) (by rw [a4 7 (by omega), e 7 (by omega)]; exact w4) (fun w hw => ?_)
      · show SM V9 σ7.2.2.1
        unfold SM at h4 ⊢
        cases hs : σ7.2.2.1 with
        | none => rw [hs] at h4; show V9 109 4 = _; rw [a4 4 (by omega), e 4 (by omega)]; exact h4
        | some r => rw [hs] at h4; exact ⟨by rw [a4 4 (by omega), e 4 (by omega)]; exact h4.1, fun i hi => by rw [a3 112 (by omega) (by omega), f 112 (by omega)]; exact h4.2 i hi⟩
      · show V9 109 11 = nI σ7.2.2.2.1.1
        rw [s3', a4 11 (by omega), e 11 (by omega)]; exact h5
      · have hi : i < σ7.2.2.2.1.1 := hi
        rw [s3'] at hi
        exact absurd hi (Nat.not_lt_zero i)
      · rw [a3 q (by omega) (by omega), f q (by omega), w3.1 q (by omega) (by omega)]
        exact r4 q hq
      · cases hw
        rw [hv, a4 18 (by omega), e 18 (by omega), w3.2 18 (by omega) (by omega) (by omega), h18, Nat.zero_add]
    | inr c =>
      obtain ⟨b, V7, j, o, c', x1, x2, w2, w3, w4, x3, x4⟩ := hL
      rw [x2]
      have hj := (List.getElem?_eq_some_iff.mp x1).1
      unfold d_X5_read_95
      rw [w4, j_0, j_1, j_2, j_4, if_neg (by rw [nI_leI (by omega) (by omega)]; omega)]
      obtain ⟨h1, h2, h4, ⟨h5, h6⟩, ⟨h7, h8⟩, h9, h10, h11, h12⟩ := w2
      have hcp2 := m_copies (V := up2 V7 109 6 (nI 0)) (a := 113) (b := 110) (x1 := 0) (x3 := 0) (by omega) (by rw [show alen 113 = 56 from rfl]; omega) (by rw [show alen 110 = 56 from rfl]; omega) (by decide) (by decide)
      rw [hcp2, bd_some]
      have e110 : cpy (up2 V7 109 6 (nI 0) 113) (up2 V7 109 6 (nI 0) 110) 0 0 56 = mix σ.1 σ7.1 := by
        rw [up2_ne (show 113 ≠ 109 by omega), up2_ne (show 110 ≠ 109 by omega), h1]
        funext i
        rcases Nat.lt_or_ge i 56 with q | q
        · rw [mix_in _ _ q]
          have e5 := cpy_in (f := V7 113) (r := σ7.1) (sp := 0) (dp := 0) q
          rw [Nat.zero_add] at e5
          rw [e5, w3.1 113 (by omega) (by omega)]
          exact u113 i q
        · rw [mix_out _ _ q, cpy_out (by omega)]
      rw [e110]
      have e : ∀ j, j ≠ 6 → setc (up2 V7 109 6 (nI 0)) 110 (mix σ.1 σ7.1) 109 j = V7 109 j := fun j a => by rw [setc_ne (by omega), up2_at, upd_ne a]
      have f : ∀ q, q ≠ 109 → q ≠ 110 → setc (up2 V7 109 6 (nI 0)) 110 (mix σ.1 σ7.1) q = V7 q := fun q a a2 => by rw [setc_ne a2, up2_ne a]
      have e6 : setc (up2 V7 109 6 (nI 0)) 110 (mix σ.1 σ7.1) 109 6 = nI 0 := by rw [setc_ne (by omega), up2_at, upd_eq]
      have f110 : setc (up2 V7 109 6 (nI 0)) 110 (mix σ.1 σ7.1) 110 = mix σ.1 σ7.1 := setc_at _ _ _
      generalize setc (up2 V7 109 6 (nI 0)) 110 (mix σ.1 σ7.1) = V9 at e f e6 f110 ⊢
      have A9 : AJ V9 (chw σ7 (mix σ.1 σ7.1)) := by
        refine ⟨f110, ⟨by rw [e 5 (by omega)]; exact h2.1, fun k r q i hi => by rw [f 111 (by omega) (by omega)]; exact h2.2 k r q i hi⟩, ?_, ⟨?_, fun i hi => ?_⟩, ⟨by rw [e 14 (by omega)]; exact h7, fun i hi => by rw [f 115 (by omega) (by omega)]; exact h8 i hi⟩, by rw [e 12 (by omega)]; exact h9, by rw [e 8 (by omega)]; exact h10, by rw [e 9 (by omega)]; exact h11, e6⟩
        · show SM V9 σ7.2.2.1
          unfold SM at h4 ⊢
          cases hs : σ7.2.2.1 with
          | none => rw [hs] at h4; show V9 109 4 = _; rw [e 4 (by omega)]; exact h4
          | some r => rw [hs] at h4; exact ⟨by rw [e 4 (by omega)]; exact h4.1, fun i hi => by rw [f 112 (by omega) (by omega)]; exact h4.2 i hi⟩
        · show V9 109 11 = nI σ7.2.2.2.1.1
          rw [s3', e 11 (by omega)]; exact h5
        · have hi : i < σ7.2.2.2.1.1 := hi
          rw [s3'] at hi
          exact absurd hi (Nat.not_lt_zero i)
      have r9 : FrM V V9 := fun q hq => by rw [f q (by omega) (by omega), w3.1 q (by omega) (by omega)]; exact r4 q hq
      have e4j : nI 4 * nI (j + 1) - nI 4 = nI (4 * j) := by
        rw [pk_mul, show nI (4 * (j + 1)) - nI 4 = nI (4 * (j + 1) - 4) from pk_sub (by omega)]
        congr 1
      obtain ⟨t1, t2, t3⟩ := hTD j o x1
      have t2' : V9 117 (4 * j) = o.1 := by rw [f 117 (by omega) (by omega), w3.1 117 (by omega) (by omega)]; exact t2
      have h79 : V9 109 7 = nI c' := by rw [e 7 (by omega)]; exact w4
      rw [e4j, asr_inb (by omega) (by omega), nI_clamp (by omega), t2', m_isRf h79 x3, bd_some]
      have fin : ∀ k, DM (d_X5_read_143 b (nI k) V9) V (.inr k, chw σ7 (mix σ.1 σ7.1)) := by
        intro k
        unfold d_X5_read_143
        by_cases hb : (0 : Int32) ≤ b
        · rw [if_pos hb]
          exact DM.re r9 (DM.err A9 _)
        · rw [if_neg hb]
          exact DM.re r9 (DM.err A9 _)
      subst x4
      cases hrf : isRf o.1 c' with
      | false =>
        rw [if_pos (show b2 false = nI 0 from rfl), if_neg (by decide)]
        exact fin 1
      | true =>
        rw [if_neg (show ¬ b2 true = nI 0 by decide +kernel), if_pos rfl]
        exact fin 2
  · have hF : (pT σ.2.2.2.1.2 σ.2.2.2.1.1 31 0).1 = false := by
      cases hh : (pT σ.2.2.2.1.2 σ.2.2.2.1.1 31 0).1 with
      | false => rfl
      | true => exact absurd hh hT
    rw [hF, if_pos (show b2 false = (0 : Int32) from rfl), if_neg (by decide)]
    unfold d_X5_read_18
    rw [if_pos (show b2 false = (0 : Int32) from rfl), f3]
    obtain ⟨s3, r3⟩ := st (nI (pT σ.2.2.2.1.2 σ.2.2.2.1.1 31 0).2.1)
    unfold d_X5_read_36
    rw [j_1, m_fail1, bw_some, if_neg (show ¬ nI 1 = (0 : Int32) by decide +kernel)]
    exact DM.re r3 (DM.err s3 _)
end
