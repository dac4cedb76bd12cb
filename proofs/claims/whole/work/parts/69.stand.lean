/-! THE START: what stands still -/
def FLW : List Cond := flatC (Jvm.Cond.and given_1 narrow_1)
def tmS (i : Nat) : Term := Term.string RX2 ((strS.getD i (0, "")).1)
set_option maxRecDepth 100000 in
theorem fw_exM : ∀ q ∈ strM, Cond.exactly (Term.string q.1 q.2.1) "java/lang/String" ∈ FLW := by decide +kernel
theorem fw_srM : ∀ q ∈ strM, Cond.stringRef q.1 q.2.1 q.2.2 ∈ lw_tbl := by decide +kernel
theorem fw_srS : ∀ i, i < 6 → Cond.stringRef RX2 (strS.getD i (0, "")).1 (strS.getD i (0, "")).2 ∈ lw_tbl := by decide +kernel
set_option maxRecDepth 100000 in
theorem fw_exS : ∀ i, i < 6 → Cond.exactly (tmS i) "java/lang/String" ∈ FLW := by decide +kernel
set_option maxRecDepth 100000 in
theorem fw_coS : ∀ i, i < 6 → Cond.eq (.field (tmS i) "java/lang/String" "coder" "B") (.int 0) ∈ FLW := by decide +kernel
set_option maxRecDepth 100000 in
theorem fw_arS : ∀ i, i < 6 → Cond.arrayOf (.field (tmS i) "java/lang/String" "value" "[B") .byte ∈ FLW := by decide +kernel
set_option maxRecDepth 100000 in
theorem fw_leS : ∀ i, i < 6 → Cond.eq (.length (.field (tmS i) "java/lang/String" "value" "[B")) (.int (Int32.ofNat (strLen.getD i 0))) ∈ FLW := by decide +kernel
set_option maxRecDepth 100000 in
theorem fw_elS : ∀ i, i < 6 → ∀ j, j < strLen.getD i 0 → Cond.eq (.elem (.field (tmS i) "java/lang/String" "value" "[B") (.int (Int32.ofNat j))) (.int ((strByt.getD i []).getD j 0)) ∈ FLW := by decide +kernel
set_option maxRecDepth 100000 in
theorem fw_nc : ∀ q ∈ ncP, Cond.not (.castable q.1 q.2) ∈ FLW := by decide +kernel
theorem fw_dif : ∀ i, i < 6 → ∀ j, j < 6 → i ≠ j → Int32.ofNat (strLen.getD i 0) ≠ Int32.ofNat (strLen.getD j 0) ∨ (1 < strLen.getD i 0 ∧ 1 < strLen.getD j 0 ∧ (strByt.getD i []).getD 1 0 ≠ (strByt.getD j []).getD 1 0) := by decide +kernel
theorem fw_l31 : ∀ i, i < 6 → strLen.getD i 0 < 2 ^ 31 := by decide +kernel
theorem ev_len {t t' : Term} {args : Array Value} {s : State} {o n d : String} (h : t.eval args s none [] s = t'.eval args s none [] s) : (Term.length (.field t o n d)).eval args s none [] s = (Term.length (.field t' o n d)).eval args s none [] s := by simp only [Term.eval, h]
theorem ev_elem {t t' k : Term} {args : Array Value} {s : State} {o n d : String} (h : t.eval args s none [] s = t'.eval args s none [] s) : (Term.elem (.field t o n d) k).eval args s none [] s = (Term.elem (.field t' o n d) k).eval args s none [] s := by simp only [Term.eval, h]
theorem start_K {args : Array Value} {s : State} (hts : ∀ w ∈ lw_tbl, w.before args s = true) : ∃ (D : va_G) (cs : Nat → ClassId), va_K D vwC (tysOf cs) s ∧ NB s := by
  have hU : ∀ w ∈ UW, w.before args s = true := fun w hw => hts w (uw_tbl hw)
  obtain ⟨c0, i0, k0⟩ := u_known (C := RX0) (T := TX0) (N := 2) (n := 2) hU uws_X0 (hU _ (uw_in 177 (by decide +kernel) rfl))
  obtain ⟨c1, i1, k1⟩ := u_known (C := RX1) (T := TX1) (N := 12) (n := 12) hU uws_X1 (hU _ (uw_in 97 (by decide +kernel) rfl))
  obtain ⟨c2, i2, k2⟩ := u_known (C := RX2) (T := TX2) (N := 6) (n := 6) hU uws_X2 (hU _ (uw_in 190 (by decide +kernel) rfl))
  obtain ⟨c3, i3, k3⟩ := u_known (C := RX3) (T := TX3) (N := 3) (n := 3) hU uws_X3 (hU _ (uw_in 157 (by decide +kernel) rfl))
  obtain ⟨c4, i4, k4⟩ := u_known (C := RX4) (T := TX4) (N := 12) (n := 12) hU uws_X4 (hU _ (uw_in 89 (by decide +kernel) rfl))
  obtain ⟨c5, i5, k5⟩ := u_known (C := RX5) (T := TX5) (N := 19) (n := 19) hU uws_X5 (hU _ (uw_in 1090 (by decide +kernel) rfl))
  obtain ⟨aI, kI, pI, fI, gI, hI⟩ := Cond.arrayClass_spec (hU (.arrayClass .int) (uw_in 155 (by decide +kernel) rfl))
  obtain ⟨aC, kC, pC, fC, gC, hC⟩ := Cond.arrayClass_spec (hU (.arrayClass .char) (uw_in 218 (by decide +kernel) rfl))
  obtain ⟨aL, kL, pL, fL, gL, hL⟩ := Cond.arrayClass_spec (hU (.arrayClass .long) (uw_in 1476 (by decide +kernel) rfl))
  obtain ⟨aD, kD, pD, fD, gD, hD⟩ := Cond.arrayClass_spec (hU (.arrayClass .double) (uw_in 1477 (by decide +kernel) rfl))
  have hao : (Cond.arrayOver (.object RX1)).before args s = true := hts _ (List.mem_of_getElem? (i := 163) (by decide +kernel))
  obtain ⟨pO, aO, kO, fO, -, gO, hO, nO⟩ := Cond.arrayOver_spec hao
  refine ⟨(fun c => [c0, c1, c2, c3, c4, c5].getD c c0, fun c => [i0, i1, i2, i3, i4, i5].getD c i0), fun c => [aI, aC, aL, aD, aO].getD c aI, ⟨fun c q hq => ?_, fun c q hq => ?_⟩, va_AO.of hao, va_Nw.of rfl (hts _ (List.mem_of_getElem? (i := 178) (by decide +kernel))), va_Nw.of rfl (hts _ (List.mem_of_getElem? (i := 191) (by decide +kernel)))⟩
  · match c, hq with
    | 0, hq => cases hq; exact k0
    | 1, hq => cases hq; exact k1
    | 2, hq => cases hq; exact k2
    | 3, hq => cases hq; exact k3
    | 4, hq => cases hq; exact k4
    | 5, hq => cases hq; exact k5
    | n + 6, hq => cases hq
  · match c, hq with
    | 0, hq => cases hq; exact ⟨fun n z => ⟨fun k h => (by cases h), kI, gI, pI, hI⟩, fI⟩
    | 1, hq => cases hq; exact ⟨fun n z => ⟨fun k h => (by cases h), kC, gC, pC, hC⟩, fC⟩
    | 2, hq => cases hq; exact ⟨fun n z => ⟨fun k h => (by cases h), kL, gL, pL, hL⟩, fL⟩
    | 3, hq => cases hq; exact ⟨fun n z => ⟨fun k h => (by cases h), kD, gD, pD, hD⟩, fD⟩
    | 4, hq => cases hq; exact ⟨fun n z => ⟨fun k h => (by cases h), kO, gO, pO, hO⟩, kO, pO, gO, hO, fO, nO⟩
    | n + 5, hq => cases hq
theorem start_ST {args : Array Value} {s : State} {D : va_G} {cs : Nat → ClassId} (hts : ∀ w ∈ lw_tbl, w.before args s = true) (hgv : (Jvm.Cond.and given_1 narrow_1).before args s = true) (hK : va_K D vwC (tysOf cs) s) : ∃ sa sb : Nat → Nat, ∀ ad : Nat → Nat, (∀ i, i < 6 → ad (200 + i) = sa i) → (∀ i, i < 6 → ad (210 + i) = sb i) → ST D cs ad s.heap.size s s.heap := by
  have hF : ∀ w ∈ FLW, w.before args s = true := flat_of_before _ hgv
  have hA : ∀ a : Nat, a < s.heap.size → ¬ (fun q => s.heap.size ≤ q) a := fun a h => Nat.not_le.mpr h
  have h0 : ∀ i : Nat, ∃ q : Nat × Nat, i < 6 → (tmS i).eval args s none [] s = some (.ref q.1) ∧ va_O "java/lang/String" q.1 (fun q => s.heap.size ≤ q) s s.heap ∧ va_OF "java/lang/String" "coder" "B" (.int 0) q.1 (fun q => s.heap.size ≤ q) s s.heap ∧ va_OF "java/lang/String" "value" "[B" (.ref q.2) q.1 (fun q => s.heap.size ≤ q) s s.heap ∧ va_T .byte q.2 (strLen.getD i 0) (fun j => .int ((strByt.getD i []).getD j 0)) (fun q => s.heap.size ≤ q) s s.heap := by
    intro i
    by_cases hi : i < 6
    · obtain ⟨a, c, cA, kA, q1, q2, q3, q4, q5, q6, -⟩ := Cond.exactly_spec (args := args) (first := s) (o := none) (s := s) (idx := []) (t := tmS i) (cls := "java/lang/String") (hF _ (fw_exS i hi))
      obtain ⟨t, ht, hT⟩ := va_Tof (f := fun j => .int ((strByt.getD i []).getD j 0)) (A := fun q => s.heap.size ≤ q) (fw_l31 i hi) (hF _ (fw_arS i hi)) (va_eqt (hF _ (fw_leS i hi))) (fun j hj => va_eqt (hF _ (fw_elS i hi j hj))) hA
      exact ⟨(a, t), fun _ => ⟨q1, ⟨cA, q3, q5, by rw [q6]; exact q2, hA a (Array.getElem?_eq_some_iff.mp q3).1⟩, vk_OFof q1 (va_eqt (hF _ (fw_coS i hi))) hA, vk_OFof q1 ht hA, hT⟩⟩
    · exact ⟨(0, 0), fun h => absurd h hi⟩
  obtain ⟨sd, had⟩ := Classical.axiomOfChoice h0
  have inj : ∀ i j : Nat, i < 6 → j < 6 → (sd i).1 = (sd j).1 → i = j := by
    intro i j hi hj e
    apply Classical.byContradiction
    intro hij
    have ev : (tmS i).eval args s none [] s = (tmS j).eval args s none [] s := by rw [(had i hi).1, (had j hj).1, e]
    rcases fw_dif i hi j hj hij with h | ⟨h1, h2, h3⟩
    · have a1 := va_eqt (hF _ (fw_leS i hi))
      have a2 := va_eqt (hF _ (fw_leS j hj))
      rw [ev_len ev, a2] at a1
      have := Option.some.inj a1
      injection this with this
      exact h this.symm
    · have a1 := va_eqt (hF _ (fw_elS i hi 1 h1))
      have a2 := va_eqt (hF _ (fw_elS j hj 1 h2))
      rw [ev_elem ev, a2] at a1
      have := Option.some.inj a1
      injection this with this
      exact h3 this.symm
  refine ⟨fun i => (sd i).1, fun i => (sd i).2, fun ad hK1 hK2 => ⟨hK, fun w hw => ?_, fun q hq => ?_, fun i q hq => ?_, ⟨fun i hi => ?_, fun i j hi hj e => ?_⟩, ?_, ?_, ?_, ?_, fun q hq => ?_⟩⟩
  · exact va_tabs (isBW_tab (List.mem_filter.mp hw).2) rfl (hts w (List.mem_filter.mp hw).1)
  · obtain ⟨a, c, cA, kA, q1, -⟩ := Cond.exactly_spec (args := args) (first := s) (o := none) (s := s) (idx := []) (hF _ (fw_exM q hq))
    exact ⟨a, vk_R.of (hts _ (fw_srM q hq)) q1⟩
  · have hi : i < 6 := (List.getElem?_eq_some_iff.mp hq).1
    have e : strS.getD i (0, "") = q := by rw [List.getD_eq_getElem?_getD, hq]; rfl
    rw [hK1 i hi, ← e]
    exact vk_R.of (hts _ (fw_srS i hi)) (had i hi).1
  · show va_O _ (ad (200 + i)) _ s s.heap ∧ va_OF _ _ _ _ (ad (200 + i)) _ s s.heap ∧ va_OF _ _ _ (.ref (ad (210 + i))) (ad (200 + i)) _ s s.heap ∧ va_T _ (ad (210 + i)) _ _ _ s s.heap
    rw [hK1 i hi, hK2 i hi]
    exact (had i hi).2
  · have e : ad (200 + i) = ad (200 + j) := e
    rw [hK1 i hi, hK1 j hj] at e
    exact inj i j hi hj e
  · exact vx_Zqof (hts _ (List.mem_of_getElem? (i := 442) (by decide +kernel))) (hts (.initialized "java/lang/Throwable") (by decide +kernel)) (hF _ (by decide +kernel)) hA
  · exact vx_Zqof (hts _ (List.mem_of_getElem? (i := 444) (by decide +kernel))) (hts (.initialized "java/lang/Throwable") (by decide +kernel)) (hF _ (by decide +kernel)) hA
  · exact va_Zof (hts _ (List.mem_of_getElem? (i := 928) (by decide +kernel))) (hts (.initialized "java/lang/String") (by decide +kernel)) (va_eqt (hF _ (by decide +kernel))) hA
  · exact va_Zqof (hts _ (List.mem_of_getElem? (i := 944) (by decide +kernel))) (hts (.initialized "jdk/internal/util/Preconditions") (by decide +kernel)) (hF _ (by decide +kernel)) hA
  · exact va_Nc.of (hF _ (fw_nc q hq))
