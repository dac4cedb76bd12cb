/-! PURE ROWS: the landed read, whole -/
section
variable {V V' : VT} {σ : Sg}
theorem I_read (h : AI V σ) (K : OKs σ) : DI eIA eUO (d_X4_read V) V (spRead σ) := by
  have n60 := K.2.2.2.1.1
  have hTI := h.2.2.2.1
  have s7 := wf_s7 K.w
  unfold d_X4_read spRead
  obtain ⟨V2, q1, ⟨f1, f2, f3⟩⟩ := i_findError n60 hTI.1 hTI.2
  rw [q1, bw_some]
  have e0 : V2 0 = V 0 := f1 0 (by omega) (by omega)
  have eV : ∀ x, up2 V2 0 9 x 105 = V2 105 := fun x => up2_ne (by omega)
  by_cases hT : (pT σ.2.2.2.1.2 σ.2.2.2.1.1 31 0).1 = true
  · rw [if_pos hT, if_pos hT, if_pos (show iM = (-1 : Int32) from rfl)]
    have g3 : ∀ q, q ≠ 0 → q ≠ 105 → q ≠ 107 → up2 V2 0 9 iM q = V q := fun q a b c => (up2_ne a).trans (f1 q b c)
    have l3 : LR (up2 V2 0 9 iM) 1 σ.1 := lr_frame (fun q _ _ => g3 q (by omega) (by omega) (by omega)) h.1
    have z3 : ∀ j, j ≠ 9 → up2 V2 0 9 iM 0 j = V 0 j := fun j hj => by rw [up2_at, upd_ne hj, e0]
    have z9 : up2 V2 0 9 iM 0 9 = iM := by rw [up2_at, upd_eq]
    have f2' : up2 V2 0 9 iM 105 1 = nI σ.2.2.2.1.1 := by rw [eV]; exact f2
    generalize up2 V2 0 9 iM = V3 at g3 l3 z3 z9 f2' ⊢
    unfold d_X4_carryOutAll
    obtain ⟨V4, c1, c2, c3⟩ := i_copy (V := V3) (a := 10) (b := 1) (g := σ.1) (by omega) s7 l3
    rw [c1, bd_some, j_0]
    have g5 : ∀ q, q ≠ 0 → q < 10 ∨ 19 ≤ q → q ≠ 105 → q ≠ 107 → up2 V4 105 2 (nI 0) q = V q := fun q a b c d => by rw [up2_ne c, c3 q (by omega)]; exact g3 q a c d
    have z5 : up2 V4 105 2 (nI 0) 0 = V3 0 := by rw [up2_ne (by omega), c3 0 (by omega)]
    have l5 : LR (up2 V4 105 2 (nI 0)) 10 σ.1 := lr_frame (fun q _ _ => up2_ne (by omega)) c2
    have h5 : CW (up2 V4 105 2 (nI 0)) σ.2.2.2.1.1 (er σ iM) (up2 V4 105 2 (nI 0)) 0 := by
      refine ⟨lr_frame (fun q _ _ => (g5 q (by omega) (by omega) (by omega) (by omega))) h.1, ?_, ?_, fun _ _ _ => rfl, fun _ _ _ _ => rfl, ?_, by rw [up2_at, upd_eq]⟩
      · rw [z5, z3 10 (by omega)]; exact h.2.2.2.2.2.2.1
      · rw [z5, z3 11 (by omega)]; exact h.2.2.2.2.2.2.2
      · rw [up2_at, upd_ne (by omega), c3 105 (by omega)]; exact f2'
    generalize up2 V4 105 2 (nI 0) = V5 at g5 z5 l5 h5 ⊢
    have hR := i_carry n60 (fun j hj => by rw [g5 106 (by omega) (by omega) (by omega) (by omega)]; exact hTI.2 j hj) 31 0 (er σ iM) 0 V5 FU h5 (K.er iM) hT (Nat.zero_le _) (by omega) (show 31 + 1 < 1000 by omega)
    obtain ⟨k1, ⟨s1, s2, s3, s4, s5⟩, k3, k4⟩ := rn_all (pT σ.2.2.2.1.2 σ.2.2.2.1.1 31 0).2.2 (er σ iM) 0 (pT_vo 31 0) (K.er iM)
    have hlen := pT_cnt (t := σ.2.2.2.1.2) (n := σ.2.2.2.1.1) 31 0
    unfold d_X4_carryOutAll_21
    generalize rn (pT σ.2.2.2.1.2 σ.2.2.2.1.1 31 0).2.2 (er σ iM) 0 = res at hR k1 s1 s2 s3 s4 s5 k3 k4 ⊢
    obtain ⟨r1, σ6⟩ := res
    cases r1 with
    | inl v =>
      obtain ⟨V6, i6, w1, w2⟩ := hR
      have hv := k3 v rfl
      rw [w1]
      obtain ⟨a1, a2, a3, a4, a5, a6, a7⟩ := w2
      have l6 : LR V6 10 σ.1 := lr_frame (fun q _ _ => a5 q (by omega) (by omega) (by omega)) l5
      have r6 : RI V6 σ.2.1 := h.2.1.fr (fun q _ _ => by rw [a5 q (by omega) (by omega) (by omega)]; exact g5 q (by omega) (by omega) (by omega) (by omega))
      obtain ⟨V7, b1, b2, b3⟩ := i_keep (b := 10) (Or.inr rfl) s7 l6 K.l8 r6
      unfold d_X4_carryOutAll_125
      rw [b1, bd_some, bw_some]
      unfold d_X4_read_28
      rw [hv, if_neg (m2_ne (by omega)), if_neg (show ¬ nI (0 + (pT σ.2.2.2.1.2 σ.2.2.2.1.1 31 0).2.2.length) = (-1 : Int32) from fun q => (iM_ne (by omega)).mp q)]
      have u : ∀ q, q ≠ 105 → up2 V7 105 1 (0 : Int32) q = V7 q := fun q a => up2_ne a
      refine ⟨_, rfl, h.mk9 (σ' := kp σ6 σ.1) ⟨s2, s4⟩ ?_ (lr_frame (fun q _ _ => (u q (by omega)).trans (b3 q (by omega) (by omega))) a1) ?_ (fun q x1 x2 => ?_) ?_ (by rw [up2_at, upd_eq]; rfl) (fun j hj => ?_) ?_ ?_ ?_, fun q hq => ?_⟩
      · show σ6.2.2.2.1.1 = 0
        rw [s3]; rfl
      · show RI _ (push σ6.2.1 σ.1)
        rw [s1]
        exact b2.fr (fun q _ _ => u q (by omega))
      · rw [u q (by omega), b3 q (by omega) (by omega), a5 q (by omega) (by omega) (by omega)]
        exact g5 q (by omega) (by omega) (by omega) (by omega)
      · rw [u 108 (by omega), b3 108 (by omega) (by omega), a5 108 (by omega) (by omega) (by omega)]
        exact g5 108 (by omega) (by omega) (by omega) (by omega)
      · rw [u 0 (by omega), b3 0 (by omega) (by omega), a4 j (by omega) (by omega), z5]
        exact z3 j (by omega)
      · rw [u 0 (by omega), b3 0 (by omega) (by omega), a4 9 (by omega) (by omega), z5, z9]
        exact s5.symm
      · rw [u 0 (by omega), b3 0 (by omega) (by omega)]; exact a2
      · rw [u 0 (by omega), b3 0 (by omega) (by omega)]; exact a3
      · rw [u q (by omega), b3 q (by omega) (by omega), a5 q (by omega) (by omega) (by omega)]
        exact g5 q (by omega) (by omega) (by omega) (by omega)
    | inr c =>
      obtain ⟨V6, i6, w1, w2⟩ := hR
      have hc := k4 c rfl
      rw [w1]
      obtain ⟨a1, a2, a3, a4, a5, a6, a7⟩ := w2
      have l6 : LR V6 10 σ.1 := lr_frame (fun q _ _ => a5 q (by omega) (by omega) (by omega)) l5
      obtain ⟨V7, b1, b2, b3⟩ := i_copy (V := V6) (a := 1) (b := 10) (g := σ.1) (by omega) s7 l6
      rw [b1, bd_some, bw_some]
      have u : ∀ q, q ≠ 105 → up2 V7 105 1 (0 : Int32) q = V7 q := fun q a => up2_ne a
      have fin : AI (up2 V7 105 1 (0 : Int32)) (chw σ6 (mix σ.1 σ6.1)) ∧ FrI V (up2 V7 105 1 (0 : Int32)) := by
        refine ⟨h.mk9 (σ' := chw σ6 (mix σ.1 σ6.1)) ⟨s2, s4⟩ ?_ (lr_mix K.w (lr_frame (fun q _ _ => u q (by omega)) b2)) ?_ (fun q x1 x2 => ?_) ?_ (by rw [up2_at, upd_eq]; rfl) (fun j hj => ?_) ?_ ?_ ?_, fun q hq => ?_⟩
        · show σ6.2.2.2.1.1 = 0
          rw [s3]; rfl
        · show RI _ σ6.2.1
          rw [s1]
          exact h.2.1.fr (fun q _ _ => by rw [u q (by omega), b3 q (by omega), a5 q (by omega) (by omega) (by omega)]; exact g5 q (by omega) (by omega) (by omega) (by omega))
        · rw [u q (by omega), b3 q (by omega), a5 q (by omega) (by omega) (by omega)]
          exact g5 q (by omega) (by omega) (by omega) (by omega)
        · rw [u 108 (by omega), b3 108 (by omega), a5 108 (by omega) (by omega) (by omega)]
          exact g5 108 (by omega) (by omega) (by omega) (by omega)
        · rw [u 0 (by omega), b3 0 (by omega), a4 j (by omega) (by omega), z5]
          exact z3 j (by omega)
        · rw [u 0 (by omega), b3 0 (by omega), a4 9 (by omega) (by omega), z5, z9]
          exact s5.symm
        · rw [u 0 (by omega), b3 0 (by omega)]; exact a2
        · rw [u 0 (by omega), b3 0 (by omega)]; exact a3
        · rw [u q (by omega), b3 q (by omega), a5 q (by omega) (by omega) (by omega)]
          exact g5 q (by omega) (by omega) (by omega) (by omega)
      rcases hc with rfl | rfl
      · exact ⟨_, rfl, fin.1, fin.2⟩
      · exact ⟨_, rfl, fin.1, fin.2⟩
  · rw [if_neg hT, if_neg hT]
    obtain ⟨l1, l2⟩ : (pT σ.2.2.2.1.2 σ.2.2.2.1.1 31 0).2.1 < 100 ∧ True := by
      refine ⟨?_, trivial⟩
      exact Nat.lt_of_le_of_lt (pT_le 31 0 (Nat.zero_le _)) (by omega)
    rw [if_neg (show ¬ nI (pT σ.2.2.2.1.2 σ.2.2.2.1.1 31 0).2.1 = (-1 : Int32) from fun q => (iM_ne (by omega)).mp q)]
    refine ⟨_, rfl, h.mk9 (σ' := er σ (nI (pT σ.2.2.2.1.2 σ.2.2.2.1.1 31 0).2.1)) ⟨rfl, rfl⟩ rfl (lr_frame (fun q _ _ => ?_) h.1) (h.2.1.fr (fun q _ _ => ?_)) (fun q x1 x2 => ?_) ?_ (by rw [up2_at, upd_eq]; rfl) (fun j hj => ?_) ?_ ?_ ?_, fun q hq => ?_⟩
    · rw [up2_ne (by omega), up2_ne (by omega)]; exact f1 q (by omega) (by omega)
    · rw [up2_ne (by omega), up2_ne (by omega)]; exact f1 q (by omega) (by omega)
    · rw [up2_ne (by omega), up2_ne (by omega)]; exact f1 q (by omega) (by omega)
    · rw [up2_ne (by omega), up2_ne (by omega)]; exact f1 108 (by omega) (by omega)
    · rw [up2_ne (by omega), up2_at, upd_ne (by omega), e0]
    · rw [up2_ne (by omega), up2_at, upd_eq]; rfl
    · rw [up2_ne (by omega), up2_at, upd_ne (by omega), e0]; exact h.2.2.2.2.2.2.1
    · rw [up2_ne (by omega), up2_at, upd_ne (by omega), e0]; exact h.2.2.2.2.2.2.2
    · rw [up2_ne (by omega), up2_ne (by omega)]; exact f1 q (by omega) (by omega)
end
