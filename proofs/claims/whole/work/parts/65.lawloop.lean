/-! THE LAW'S LOOP -/
theorem lt_gt {L i : Nat} (hL : L ≤ 2048) (hi : i ≤ 5000) : (nI L - (4 : Int32) < nI i) ↔ L < i + 4 := by
  rw [Int32.lt_iff_toInt_lt, nI_toInt (n := i) (by omega)]
  rcases Nat.lt_or_ge L 4 with h | h
  · have e : (nI L - (4 : Int32)).toInt = (L : Int) - 4 := by
      have hh : L = 0 ∨ L = 1 ∨ L = 2 ∨ L = 3 := by omega
      rcases hh with rfl | rfl | rfl | rfl <;> decide +kernel
    rw [e]; omega
  · rw [j_4, show nI L - nI 4 = nI (L - 4) from pk_sub (by omega), nI_toInt (by omega)]
    omega
section RLOOP
variable {p : Program} {l : Launch} {e : Env} {s : State} {m : MethodId} {below : List Frame} {meth : Method} {c : Code} {D : va_G} {cs : Nat → ClassId} {ad : Nat → Nat} {b0 : Nat} {b L : Nat} {xs : Nat → Int32}
theorem law_exit {k : Nat} {V : VT} {lv : List (Nat × Value)} (C : Ctx p l s m #[Value.ref b] meth c D cs ad b0 RL cL_law 9 ret) (hb : b0 = s.heap.size) (hk : k ≤ 600000) : AW p l e room_1 s m #[Value.ref b] below meth c D cs ad b0 (lw_Z below #[Value.ref b] s) 9 k V lv [] 1962 := by
  refine a_iconst (v := (1 : Int32)) C dL_law_1962 rfl ?_
  intro H locs ls hP hS hl
  refine va_forget (fun q hq => by rw [← hb]; exact hS.2.2 q hq) ?_
  refine W.widen (k := 603072) (n := 7223402) (by omega) (by omega) ?_
  refine W.base ?_
  exact lw_ret (Drawn.sameBut.refl s.drawn lw_cs) C.1 C.2.1 C.2.2.2.2.2.2.2.1 C.2.2.2.2.2.2.1 dL_law_1963
theorem law_loop (C : Ctx p l s m #[Value.ref b] meth c D cs ad b0 RL cL_law 9 ret) (hX : va_X b L xs s s.heap) (hbl : b < b0) (hb : b0 = s.heap.size) (hL : L ≤ 2048) : ∀ (n i k : Nat) (V : VT), Inv V → L < i + 4 * n + 4 → i ≤ 5000 → k + 8 * n ≤ 500000 → AW p l e room_1 s m #[Value.ref b] below meth c D cs ad b0 (lw_Z below #[Value.ref b] s) 9 k V [(0, .ref b), (1, .ref (ad 0)), (2, .ref (ad 109)), (3, .ref (ad 118)), (4, .ref (ad 119)), (5, .int (nI i))] [] 28 := by
  intro n
  induction n with
  | zero =>
    intro i k V _ h1 hi hk
    refine a_iload (q := 5) C dL_law_28 rfl ?_
    refine a_aload_n (q := 0) C dL_law_30 rfl rfl ?_
    refine a_slen C hX hbl dL_law_31 ?_
    refine a_iconst (v := (4 : Int32)) C dL_law_32 rfl ?_
    refine a_isub C dL_law_33 ?_
    refine a_icmp_gt (tgt := 1962) C dL_law_34 (by decide) (fun _ => ?_) (fun q => absurd ((lt_gt hL hi).mpr (by omega)) q)
    exact law_exit C hb (by omega)
  | succ n ih =>
    intro i k V hV h1 hi hk
    refine a_iload (q := 5) C dL_law_28 rfl ?_
    refine a_aload_n (q := 0) C dL_law_30 rfl rfl ?_
    refine a_slen C hX hbl dL_law_31 ?_
    refine a_iconst (v := (4 : Int32)) C dL_law_32 rfl ?_
    refine a_isub C dL_law_33 ?_
    refine a_icmp_gt (tgt := 1962) C dL_law_34 (by decide) (fun _ => ?_) (fun q => ?_)
    · exact law_exit C hb (by omega)
    · have hi4 : i + 4 ≤ L := Nat.not_lt.mp (fun z => q ((lt_gt hL hi).mpr z))
      obtain ⟨V', w1, w2⟩ := body_ok V (xs i) (xs (i + 1)) (xs (i + 2)) (xs (i + 3)) hV
      refine w_law_body C hX hbl (by omega) hi4 (by omega) w1 ?_
      refine a_iinc (q := 5) (v := nI i + (4 : Int32)) (lv' := [(5, .int (nI i + (4 : Int32))), (0, .ref b), (1, .ref (ad 0)), (2, .ref (ad 109)), (3, .ref (ad 118)), (4, .ref (ad 119))]) C dL_law_1956 rfl rfl (by decide) rfl ?_
      refine a_goto (tgt := 28) C dL_law_1959 (by decide) ?_
      refine a_sub (lv' := [(0, .ref b), (1, .ref (ad 0)), (2, .ref (ad 109)), (3, .ref (ad 118)), (4, .ref (ad 119)), (5, .int (nI (i + 4)))]) [1, 2, 3, 4, 5, 0] (by rw [show nI i + (4 : Int32) = nI (i + 4) from nI_add i 4]; rfl) ?_
      exact ih (i + 4) (k + 8) V' w2 (by omega) (by omega) (by omega)
end RLOOP
