/-! walks, by program out of the bytecode (wip/whole/gen) -/
set_option maxRecDepth 20000 in
set_option maxHeartbeats 4000000 in
theorem w_X1_reasonAgainstCountry   (V : VT) (r9 : Int32) (h : d_X1_reasonAgainstCountry  V = some r9) : AM 2 0 yX1_reasonAgainstCountry (.code yX1_reasonAgainstCountry cX1_reasonAgainstCountry 1 (some .int)) (fun ad => [.ref (ad 1)]) V V (rI r9) := by
  unfold d_X1_reasonAgainstCountry at h
  refine AM.of (by decide +kernel) (fun ad => Nat.le_of_ble_eq_true rfl) (fun {p l e s m args below meth c D cs ad b0} C hT => ?_)
  have C : Ctx p l s m args meth c D cs ad b0 RX1 cX1_reasonAgainstCountry 1 (some .int) := C
  refine a_sub (lv' := [(0, .ref (ad 1))]) [0] rfl ?_
  refine a_aload_n (q := 0) C dX1_reasonAgainstCountry_0 rfl rfl ?_
  refine a_geti (a := 1) (x := (V 1 8)) C dX1_reasonAgainstCountry_1 fl_RX1_36 rfl rfl rfl ?_
  refine a_bipush (v := (7 : Int32)) C dX1_reasonAgainstCountry_4 rfl ?_
  refine a_icmp_lt (tgt := 13) C dX1_reasonAgainstCountry_6 (by decide) (fun c1 => ?_) (fun c1 => ?_)
  · have h := it_t c1 h
    refine a_iconst (v := (0 : Int32)) C dX1_reasonAgainstCountry_13 rfl ?_
    obtain rfl := ret1 h
    exact a_iret C dX1_reasonAgainstCountry_14 rfl (by decide) rfl rfl
  · have h := it_f c1 h
    refine a_iconst (v := (1 : Int32)) C dX1_reasonAgainstCountry_9 rfl ?_
    refine a_goto (tgt := 14) C dX1_reasonAgainstCountry_10 (by decide) ?_
    obtain rfl := ret1 h
    exact a_iret C dX1_reasonAgainstCountry_14 rfl (by decide) rfl rfl
set_option maxRecDepth 20000 in
set_option maxHeartbeats 4000000 in
theorem w_X1_areNeighbours (x1 : Int32) (x2 : Int32)  (V : VT) (r9 : Int32) (h : d_X1_areNeighbours x1 x2 V = some r9) : AM 2 0 yX1_areNeighbours (.code yX1_areNeighbours cX1_areNeighbours 3 (some .boolean)) (fun ad => [.ref (ad 1), .int x1, .int x2]) V V (rI r9) := by
  unfold d_X1_areNeighbours at h
  refine AM.of (by decide +kernel) (fun ad => Nat.le_of_ble_eq_true rfl) (fun {p l e s m args below meth c D cs ad b0} C hT => ?_)
  have C : Ctx p l s m args meth c D cs ad b0 RX1 cX1_areNeighbours 3 (some .boolean) := C
  refine a_sub (lv' := [(0, .ref (ad 1)), (1, .int x1), (2, .int x2)]) [0, 1, 2] rfl ?_
  refine a_aload_n (q := 0) C dX1_areNeighbours_0 rfl rfl ?_
  refine a_getr (a := 1) (t := 6) C dX1_areNeighbours_1 fl_RX1_24 rfl rfl ?_
  refine a_iload_n (q := 1) C dX1_areNeighbours_4 rfl rfl ?_
  obtain ⟨z1, h⟩ := asr_spec h
  refine a_iald (a := 6) (x := (V 6 x1.toNatClampNeg)) C dX1_areNeighbours_5 rfl (inb_in z1) rfl ?_
  refine a_iload_n (q := 2) C dX1_areNeighbours_6 rfl rfl ?_
  refine a_ishr C dX1_areNeighbours_7 ?_
  refine a_iconst (v := (1 : Int32)) C dX1_areNeighbours_8 rfl ?_
  refine a_iand C dX1_areNeighbours_9 ?_
  refine a_if_eq (tgt := 17) C dX1_areNeighbours_10 (by decide) (fun c2 => ?_) (fun c2 => ?_)
  · have h := it_t c2 h
    refine a_iconst (v := (0 : Int32)) C dX1_areNeighbours_17 rfl ?_
    obtain rfl := ret1 h
    exact a_zret C dX1_areNeighbours_18 rfl rfl (by decide) rfl rfl
  · have h := it_f c2 h
    refine a_iconst (v := (1 : Int32)) C dX1_areNeighbours_13 rfl ?_
    refine a_goto (tgt := 18) C dX1_areNeighbours_14 (by decide) ?_
    obtain rfl := ret1 h
    exact a_zret C dX1_areNeighbours_18 rfl rfl (by decide) rfl rfl
set_option maxRecDepth 20000 in
set_option maxHeartbeats 4000000 in
theorem w_X1_lowestNeighbourIn_2 {p : Program} {l : Launch} {e : Env} {s : State} {m : MethodId} {args : Array Value} {below : List Frame} {meth : Method} {c : Code} {D : va_G} {cs : Nat → ClassId} {ad : Nat → Nat} {b0 : Nat} (C : Ctx p l s m args meth c D cs ad b0 RX1 cX1_lowestNeighbourIn 4 (some .int)) (hT : ∀ x ∈ c.exceptionTable.toList, False)   {V : VT} {r9 : Int32}     :
    ∀ (x1 x2 x3 : Int32) , d_X1_lowestNeighbourIn_2 V x1 x2 x3 = some r9 → AW p l e (rmOf 3 0) s m args below meth c D cs ad b0 (QF below D cs ad b0 V ((rI r9) ad) args s 0) 4 0 V [(0, .ref (ad 1)), (1, .int x1), (2, .int x2), (3, .int x3)] [] 2 := by
  refine lo3_ind (P := fun x1 x2 x3 => AW p l e (rmOf 3 0) s m args below meth c D cs ad b0 (QF below D cs ad b0 V ((rI r9) ad) args s 0) 4 0 V [(0, .ref (ad 1)), (1, .int x1), (2, .int x2), (3, .int x3)] [] 2) ?_ FU
  intro k2 hk2 x1 x2 x3 h
  unfold d_X1_lowestNeighbourIn_2b at h
  refine a_iload_n (q := 3) C dX1_lowestNeighbourIn_2 rfl rfl ?_
  refine a_aload_n (q := 0) C dX1_lowestNeighbourIn_3 rfl rfl ?_
  refine a_geti (a := 1) (x := (V 1 8)) C dX1_lowestNeighbourIn_4 fl_RX1_36 rfl rfl rfl ?_
  refine a_icmp_ge (tgt := 37) C dX1_lowestNeighbourIn_7 (by decide) (fun c1 => ?_) (fun c1 => ?_)
  · have h := it_t c1 h
    refine a_iconst (v := (-1 : Int32)) C dX1_lowestNeighbourIn_37 rfl ?_
    obtain rfl := ret1 h
    exact a_iret C dX1_lowestNeighbourIn_38 rfl (by decide) rfl rfl
  · have h := it_f c1 h
    refine a_aload_n (q := 0) C dX1_lowestNeighbourIn_10 rfl rfl ?_
    refine a_iload_n (q := 1) C dX1_lowestNeighbourIn_11 rfl rfl ?_
    refine a_iload_n (q := 3) C dX1_lowestNeighbourIn_12 rfl rfl ?_
    obtain ⟨r3, g2, h⟩ := bd_spec h
    refine a_cVi (a := 1) (st := []) C dX1_lowestNeighbourIn_13 cv_RX1_55 (w_X1_areNeighbours x1 x3  V r3 g2) rfl rfl rfl rfl rfl ⟨Nat.le_of_ble_eq_true rfl, Nat.le_of_ble_eq_true rfl, Nat.le_of_ble_eq_true rfl, Nat.le_of_ble_eq_true rfl⟩ (Nat.le_of_ble_eq_true rfl) ?_
    refine a_if_eq (tgt := 31) C dX1_lowestNeighbourIn_16 (by decide) (fun c4 => ?_) (fun c4 => ?_)
    · have h := it_t c4 h
      refine a_iinc (q := 3) (v := (x3 + (1 : Int32))) (lv' := [(3, .int (x3 + (1 : Int32))), (0, .ref (ad 1)), (1, .int x1), (2, .int x2)]) C dX1_lowestNeighbourIn_31 rfl rfl (by decide) rfl ?_
      refine a_goto (tgt := 2) C dX1_lowestNeighbourIn_34 (by decide) ?_
      refine a_sub (lv' := [(0, .ref (ad 1)), (1, .int x1), (2, .int x2), (3, .int (x3 + (1 : Int32)))]) [1, 2, 3, 0] rfl ?_
      exact hk2 x1 x2 (x3 + (1 : Int32)) h
    · have h := it_f c4 h
      refine a_aload_n (q := 0) C dX1_lowestNeighbourIn_19 rfl rfl ?_
      refine a_getr (a := 1) (t := 3) C dX1_lowestNeighbourIn_20 fl_RX1_15 rfl rfl ?_
      refine a_iload_n (q := 3) C dX1_lowestNeighbourIn_23 rfl rfl ?_
      obtain ⟨z5, h⟩ := asr_spec h
      refine a_iald (a := 3) (x := (V 3 x3.toNatClampNeg)) C dX1_lowestNeighbourIn_24 rfl (inb_in z5) rfl ?_
      refine a_iload_n (q := 2) C dX1_lowestNeighbourIn_25 rfl rfl ?_
      refine a_icmp_ne (tgt := 31) C dX1_lowestNeighbourIn_26 (by decide) (fun c6 => ?_) (fun c6 => ?_)
      · have h := it_f c6 h
        refine a_iinc (q := 3) (v := (x3 + (1 : Int32))) (lv' := [(3, .int (x3 + (1 : Int32))), (0, .ref (ad 1)), (1, .int x1), (2, .int x2)]) C dX1_lowestNeighbourIn_31 rfl rfl (by decide) rfl ?_
        refine a_goto (tgt := 2) C dX1_lowestNeighbourIn_34 (by decide) ?_
        refine a_sub (lv' := [(0, .ref (ad 1)), (1, .int x1), (2, .int x2), (3, .int (x3 + (1 : Int32)))]) [1, 2, 3, 0] rfl ?_
        exact hk2 x1 x2 (x3 + (1 : Int32)) h
      · have h := it_t c6 h
        refine a_iload_n (q := 3) C dX1_lowestNeighbourIn_29 rfl rfl ?_
        obtain rfl := ret1 h
        exact a_iret C dX1_lowestNeighbourIn_30 rfl (by decide) rfl rfl
set_option maxRecDepth 20000 in
set_option maxHeartbeats 4000000 in
theorem w_X1_lowestNeighbourIn (x1 : Int32) (x2 : Int32)  (V : VT) (r9 : Int32) (h : d_X1_lowestNeighbourIn x1 x2 V = some r9) : AM 3 0 yX1_lowestNeighbourIn (.code yX1_lowestNeighbourIn cX1_lowestNeighbourIn 4 (some .int)) (fun ad => [.ref (ad 1), .int x1, .int x2]) V V (rI r9) := by
  unfold d_X1_lowestNeighbourIn at h
  refine AM.of (by decide +kernel) (fun ad => Nat.le_of_ble_eq_true rfl) (fun {p l e s m args below meth c D cs ad b0} C hT => ?_)
  have C : Ctx p l s m args meth c D cs ad b0 RX1 cX1_lowestNeighbourIn 4 (some .int) := C
  refine a_sub (lv' := [(0, .ref (ad 1)), (1, .int x1), (2, .int x2)]) [0, 1, 2] rfl ?_
  refine a_iconst (v := (0 : Int32)) C dX1_lowestNeighbourIn_0 rfl ?_
  refine a_istore_n (lv' := [(3, .int (0 : Int32)), (0, .ref (ad 1)), (1, .int x1), (2, .int x2)]) C dX1_lowestNeighbourIn_1 rfl (by decide) rfl ?_
  refine a_sub (lv' := [(0, .ref (ad 1)), (1, .int x1), (2, .int x2), (3, .int (0 : Int32))]) [1, 2, 3, 0] rfl ?_
  exact w_X1_lowestNeighbourIn_2 C hT x1 x2 (0 : Int32) h
set_option maxRecDepth 20000 in
set_option maxHeartbeats 4000000 in
theorem w_X1_lowestPaintedBeyond_2 {p : Program} {l : Launch} {e : Env} {s : State} {m : MethodId} {args : Array Value} {below : List Frame} {meth : Method} {c : Code} {D : va_G} {cs : Nat → ClassId} {ad : Nat → Nat} {b0 : Nat} (C : Ctx p l s m args meth c D cs ad b0 RX1 cX1_lowestPaintedBeyond 3 (some .int)) (hT : ∀ x ∈ c.exceptionTable.toList, False)   {V : VT} {r9 : Int32}     :
    ∀ (x1 x2 : Int32) , d_X1_lowestPaintedBeyond_2 V x1 x2 = some r9 → AW p l e (rmOf 2 0) s m args below meth c D cs ad b0 (QF below D cs ad b0 V ((rI r9) ad) args s 0) 3 0 V [(0, .ref (ad 1)), (1, .int x1), (2, .int x2)] [] 2 := by
  refine lo2_ind (P := fun x1 x2 => AW p l e (rmOf 2 0) s m args below meth c D cs ad b0 (QF below D cs ad b0 V ((rI r9) ad) args s 0) 3 0 V [(0, .ref (ad 1)), (1, .int x1), (2, .int x2)] [] 2) ?_ FU
  intro k2 hk2 x1 x2 h
  unfold d_X1_lowestPaintedBeyond_2b at h
  refine a_iload_n (q := 2) C dX1_lowestPaintedBeyond_2 rfl rfl ?_
  refine a_aload_n (q := 0) C dX1_lowestPaintedBeyond_3 rfl rfl ?_
  refine a_geti (a := 1) (x := (V 1 8)) C dX1_lowestPaintedBeyond_4 fl_RX1_36 rfl rfl rfl ?_
  refine a_icmp_ge (tgt := 28) C dX1_lowestPaintedBeyond_7 (by decide) (fun c1 => ?_) (fun c1 => ?_)
  · have h := it_t c1 h
    refine a_iconst (v := (-1 : Int32)) C dX1_lowestPaintedBeyond_28 rfl ?_
    obtain rfl := ret1 h
    exact a_iret C dX1_lowestPaintedBeyond_29 rfl (by decide) rfl rfl
  · have h := it_f c1 h
    refine a_aload_n (q := 0) C dX1_lowestPaintedBeyond_10 rfl rfl ?_
    refine a_getr (a := 1) (t := 3) C dX1_lowestPaintedBeyond_11 fl_RX1_15 rfl rfl ?_
    refine a_iload_n (q := 2) C dX1_lowestPaintedBeyond_14 rfl rfl ?_
    obtain ⟨z2, h⟩ := asr_spec h
    refine a_iald (a := 3) (x := (V 3 x2.toNatClampNeg)) C dX1_lowestPaintedBeyond_15 rfl (inb_in z2) rfl ?_
    refine a_iload_n (q := 1) C dX1_lowestPaintedBeyond_16 rfl rfl ?_
    refine a_icmp_lt (tgt := 22) C dX1_lowestPaintedBeyond_17 (by decide) (fun c3 => ?_) (fun c3 => ?_)
    · have h := it_t c3 h
      refine a_iinc (q := 2) (v := (x2 + (1 : Int32))) (lv' := [(2, .int (x2 + (1 : Int32))), (0, .ref (ad 1)), (1, .int x1)]) C dX1_lowestPaintedBeyond_22 rfl rfl (by decide) rfl ?_
      refine a_goto (tgt := 2) C dX1_lowestPaintedBeyond_25 (by decide) ?_
      refine a_sub (lv' := [(0, .ref (ad 1)), (1, .int x1), (2, .int (x2 + (1 : Int32)))]) [1, 2, 0] rfl ?_
      exact hk2 x1 (x2 + (1 : Int32)) h
    · have h := it_f c3 h
      refine a_iload_n (q := 2) C dX1_lowestPaintedBeyond_20 rfl rfl ?_
      obtain rfl := ret1 h
      exact a_iret C dX1_lowestPaintedBeyond_21 rfl (by decide) rfl rfl
set_option maxRecDepth 20000 in
set_option maxHeartbeats 4000000 in
theorem w_X1_lowestPaintedBeyond (x1 : Int32)  (V : VT) (r9 : Int32) (h : d_X1_lowestPaintedBeyond x1 V = some r9) : AM 2 0 yX1_lowestPaintedBeyond (.code yX1_lowestPaintedBeyond cX1_lowestPaintedBeyond 3 (some .int)) (fun ad => [.ref (ad 1), .int x1]) V V (rI r9) := by
  unfold d_X1_lowestPaintedBeyond at h
  refine AM.of (by decide +kernel) (fun ad => Nat.le_of_ble_eq_true rfl) (fun {p l e s m args below meth c D cs ad b0} C hT => ?_)
  have C : Ctx p l s m args meth c D cs ad b0 RX1 cX1_lowestPaintedBeyond 3 (some .int) := C
  refine a_sub (lv' := [(0, .ref (ad 1)), (1, .int x1)]) [0, 1] rfl ?_
  refine a_iconst (v := (0 : Int32)) C dX1_lowestPaintedBeyond_0 rfl ?_
  refine a_istore_n (lv' := [(2, .int (0 : Int32)), (0, .ref (ad 1)), (1, .int x1)]) C dX1_lowestPaintedBeyond_1 rfl (by decide) rfl ?_
  refine a_sub (lv' := [(0, .ref (ad 1)), (1, .int x1), (2, .int (0 : Int32))]) [1, 2, 0] rfl ?_
  exact w_X1_lowestPaintedBeyond_2 C hT x1 (0 : Int32) h
set_option maxRecDepth 20000 in
set_option maxHeartbeats 4000000 in
theorem w_X1_detailOf (x1 : Int32) (x2 : Int32) (x3 : Int32)  (V : VT) (r9 : Int32) (h : d_X1_detailOf x1 x2 x3 V = some r9) : AM 4 0 yX1_detailOf (.code yX1_detailOf cX1_detailOf 4 (some .int)) (fun ad => [.ref (ad 1), .int x1, .int x2, .int x3]) V V (rI r9) := by
  unfold d_X1_detailOf at h
  refine AM.of (by decide +kernel) (fun ad => Nat.le_of_ble_eq_true rfl) (fun {p l e s m args below meth c D cs ad b0} C hT => ?_)
  have C : Ctx p l s m args meth c D cs ad b0 RX1 cX1_detailOf 4 (some .int) := C
  refine a_sub (lv' := [(0, .ref (ad 1)), (1, .int x1), (2, .int x2), (3, .int x3)]) [0, 1, 2, 3] rfl ?_
  refine a_iload_n (q := 1) C dX1_detailOf_0 rfl rfl ?_
  by_cases c1 : x1 = (1 : Int32)
  · have h := it_t c1 h
    refine a_tswIn (tgt := 56) (v := (1 : Int32)) C dX1_detailOf_1 c1 (by decide) (by decide) rfl (by decide) ?_
    refine a_bipush (v := (7 : Int32)) C dX1_detailOf_56 rfl ?_
    obtain rfl := ret1 h
    exact a_iret C dX1_detailOf_58 rfl (by decide) rfl rfl
  · have h := it_f c1 h
    by_cases c2 : x1 = (2 : Int32)
    · have h := it_t c2 h
      refine a_tswIn (tgt := 59) (v := (2 : Int32)) C dX1_detailOf_1 c2 (by decide) (by decide) rfl (by decide) ?_
      refine a_aload_n (q := 0) C dX1_detailOf_59 rfl rfl ?_
      refine a_getr (a := 1) (t := 3) C dX1_detailOf_60 fl_RX1_15 rfl rfl ?_
      refine a_iload_n (q := 2) C dX1_detailOf_63 rfl rfl ?_
      obtain ⟨z3, h⟩ := asr_spec h
      refine a_iald (a := 3) (x := (V 3 x2.toNatClampNeg)) C dX1_detailOf_64 rfl (inb_in z3) rfl ?_
      obtain rfl := ret1 h
      exact a_iret C dX1_detailOf_65 rfl (by decide) rfl rfl
    · have h := it_f c2 h
      by_cases c4 : x1 = (3 : Int32)
      · have h := it_t c4 h
        refine a_tswIn (tgt := 66) (v := (3 : Int32)) C dX1_detailOf_1 c4 (by decide) (by decide) rfl (by decide) ?_
        refine a_aload_n (q := 0) C dX1_detailOf_66 rfl rfl ?_
        refine a_iload_n (q := 2) C dX1_detailOf_67 rfl rfl ?_
        refine a_iload_n (q := 3) C dX1_detailOf_68 rfl rfl ?_
        obtain ⟨r6, g5, h⟩ := bd_spec h
        refine a_cVi (a := 1) (st := []) C dX1_detailOf_69 cv_RX1_67 (w_X1_lowestNeighbourIn x2 x3  V r6 g5) rfl rfl rfl rfl rfl ⟨Nat.le_of_ble_eq_true rfl, Nat.le_of_ble_eq_true rfl, Nat.le_of_ble_eq_true rfl, Nat.le_of_ble_eq_true rfl⟩ (Nat.le_of_ble_eq_true rfl) ?_
        obtain rfl := ret1 h
        exact a_iret C dX1_detailOf_72 rfl (by decide) rfl rfl
      · have h := it_f c4 h
        by_cases c7 : x1 = (4 : Int32)
        · have h := it_t c7 h
          refine a_tswIn (tgt := 73) (v := (4 : Int32)) C dX1_detailOf_1 c7 (by decide) (by decide) rfl (by decide) ?_
          refine a_aload_n (q := 0) C dX1_detailOf_73 rfl rfl ?_
          refine a_getr (a := 1) (t := 2) C dX1_detailOf_74 fl_RX1_9 rfl rfl ?_
          refine a_iload_n (q := 2) C dX1_detailOf_77 rfl rfl ?_
          obtain ⟨z8, h⟩ := asr_spec h
          refine a_iald (a := 2) (x := (V 2 x2.toNatClampNeg)) C dX1_detailOf_78 rfl (inb_in z8) rfl ?_
          refine a_aload_n (q := 0) C dX1_detailOf_79 rfl rfl ?_
          refine a_getr (a := 1) (t := 8) C dX1_detailOf_80 fl_RX1_30 rfl rfl ?_
          refine a_iload_n (q := 3) C dX1_detailOf_83 rfl rfl ?_
          obtain ⟨z9, h⟩ := asr_spec h
          refine a_iald (a := 8) (x := (V 8 x3.toNatClampNeg)) C dX1_detailOf_84 rfl (inb_in z9) rfl ?_
          refine a_isub C dX1_detailOf_85 ?_
          obtain rfl := ret1 h
          exact a_iret C dX1_detailOf_86 rfl (by decide) rfl rfl
        · have h := it_f c7 h
          by_cases c10 : x1 = (5 : Int32)
          · have h := it_t c10 h
            refine a_tswIn (tgt := 87) (v := (5 : Int32)) C dX1_detailOf_1 c10 (by decide) (by decide) rfl (by decide) ?_
            refine a_iload_n (q := 2) C dX1_detailOf_87 rfl rfl ?_
            obtain rfl := ret1 h
            exact a_iret C dX1_detailOf_88 rfl (by decide) rfl rfl
          · have h := it_f c10 h
            by_cases c11 : x1 = (6 : Int32)
            · have h := it_t c11 h
              refine a_tswIn (tgt := 89) (v := (6 : Int32)) C dX1_detailOf_1 c11 (by decide) (by decide) rfl (by decide) ?_
              refine a_iload_n (q := 3) C dX1_detailOf_89 rfl rfl ?_
              obtain rfl := ret1 h
              exact a_iret C dX1_detailOf_90 rfl (by decide) rfl rfl
            · have h := it_f c11 h
              by_cases c12 : x1 = (7 : Int32)
              · have h := it_t c12 h
                refine a_tswIn (tgt := 91) (v := (7 : Int32)) C dX1_detailOf_1 c12 (by decide) (by decide) rfl (by decide) ?_
                refine a_aload_n (q := 0) C dX1_detailOf_91 rfl rfl ?_
                refine a_getr (a := 1) (t := 3) C dX1_detailOf_92 fl_RX1_15 rfl rfl ?_
                refine a_iload_n (q := 2) C dX1_detailOf_95 rfl rfl ?_
                obtain ⟨z13, h⟩ := asr_spec h
                refine a_iald (a := 3) (x := (V 3 x2.toNatClampNeg)) C dX1_detailOf_96 rfl (inb_in z13) rfl ?_
                obtain rfl := ret1 h
                exact a_iret C dX1_detailOf_97 rfl (by decide) rfl rfl
              · have h := it_f c12 h
                by_cases c14 : x1 = (8 : Int32)
                · have h := it_t c14 h
                  refine a_tswIn (tgt := 106) (v := (8 : Int32)) C dX1_detailOf_1 c14 (by decide) (by decide) rfl (by decide) ?_
                  refine a_iconst (v := (0 : Int32)) C dX1_detailOf_106 rfl ?_
                  obtain rfl := ret1 h
                  exact a_iret C dX1_detailOf_107 rfl (by decide) rfl rfl
                · have h := it_f c14 h
                  by_cases c15 : x1 = (9 : Int32)
                  · have h := it_t c15 h
                    refine a_tswIn (tgt := 98) (v := (9 : Int32)) C dX1_detailOf_1 c15 (by decide) (by decide) rfl (by decide) ?_
                    refine a_aload_n (q := 0) C dX1_detailOf_98 rfl rfl ?_
                    refine a_iload_n (q := 2) C dX1_detailOf_99 rfl rfl ?_
                    obtain ⟨r17, g16, h⟩ := bd_spec h
                    refine a_cVi (a := 1) (st := []) C dX1_detailOf_100 cv_RX1_63 (w_X1_lowestPaintedBeyond x2  V r17 g16) rfl rfl rfl rfl rfl ⟨Nat.le_of_ble_eq_true rfl, Nat.le_of_ble_eq_true rfl, Nat.le_of_ble_eq_true rfl, Nat.le_of_ble_eq_true rfl⟩ (Nat.le_of_ble_eq_true rfl) ?_
                    obtain rfl := ret1 h
                    exact a_iret C dX1_detailOf_103 rfl (by decide) rfl rfl
                  · have h := it_f c15 h
                    by_cases c18 : x1 = (10 : Int32)
                    · have h := it_t c18 h
                      refine a_tswIn (tgt := 104) (v := (10 : Int32)) C dX1_detailOf_1 c18 (by decide) (by decide) rfl (by decide) ?_
                      refine a_iload_n (q := 3) C dX1_detailOf_104 rfl rfl ?_
                      obtain rfl := ret1 h
                      exact a_iret C dX1_detailOf_105 rfl (by decide) rfl rfl
                    · have h := it_f c18 h
                      refine a_tswOut (tgt := 106) C dX1_detailOf_1 (by have q0 := lv_neT (a := 1) c1 rfl; have q1 := lv_neT (a := 2) c2 rfl; have q2 := lv_neT (a := 3) c4 rfl; have q3 := lv_neT (a := 4) c7 rfl; have q4 := lv_neT (a := 5) c10 rfl; have q5 := lv_neT (a := 6) c11 rfl; have q6 := lv_neT (a := 7) c12 rfl; have q7 := lv_neT (a := 8) c14 rfl; have q8 := lv_neT (a := 9) c15 rfl; have q9 := lv_neT (a := 10) c18 rfl; omega) (by decide) ?_
                      refine a_iconst (v := (0 : Int32)) C dX1_detailOf_106 rfl ?_
                      obtain rfl := ret1 h
                      exact a_iret C dX1_detailOf_107 rfl (by decide) rfl rfl
set_option maxRecDepth 20000 in
set_option maxHeartbeats 4000000 in
theorem w_X4_keepReason (x1 : Int32) (x2 : Int32) (x3 : Int32)  (V : VT) (W9 : VT) (h : d_X4_keepReason x1 x2 x3 V = some W9) : AM 5 0 yX4_keepReason (.code yX4_keepReason cX4_keepReason 4 (none)) (fun ad => [.ref (ad 0), .int x1, .int x2, .int x3]) V W9 (rV) := by
  unfold d_X4_keepReason at h
  refine AM.of (by decide +kernel) (fun ad => Nat.le_of_ble_eq_true rfl) (fun {p l e s m args below meth c D cs ad b0} C hT => ?_)
  have C : Ctx p l s m args meth c D cs ad b0 RX4 cX4_keepReason 4 (none) := C
  refine a_sub (lv' := [(0, .ref (ad 0)), (1, .int x1), (2, .int x2), (3, .int x3)]) [0, 1, 2, 3] rfl ?_
  refine a_aload_n (q := 0) C dX4_keepReason_0 rfl rfl ?_
  refine a_iload_n (q := 1) C dX4_keepReason_1 rfl rfl ?_
  refine a_puti (a := 0) C dX4_keepReason_2 fp_RX4_58 rfl rfl rfl rfl ?_
  refine a_aload_n (q := 0) C dX4_keepReason_5 rfl rfl ?_
  refine a_aload_n (q := 0) C dX4_keepReason_6 rfl rfl ?_
  refine a_getr (a := 0) (t := 1) C dX4_keepReason_7 fl_RX4_10 rfl rfl ?_
  refine a_iload_n (q := 1) C dX4_keepReason_10 rfl rfl ?_
  refine a_iload_n (q := 2) C dX4_keepReason_11 rfl rfl ?_
  refine a_iload_n (q := 3) C dX4_keepReason_12 rfl rfl ?_
  obtain ⟨r2, g1, h⟩ := bd_spec h
  refine a_cVi (a := 1) (st := [.ref (ad 0)]) C dX4_keepReason_13 cv_RX4_372 (w_X1_detailOf x1 x2 x3  (up2 V 0 10 x1) r2 g1) rfl rfl rfl rfl rfl ⟨Nat.le_of_ble_eq_true rfl, Nat.le_of_ble_eq_true rfl, Nat.le_of_ble_eq_true rfl, Nat.le_of_ble_eq_true rfl⟩ (Nat.le_of_ble_eq_true rfl) ?_
  refine a_puti (a := 0) C dX4_keepReason_16 fp_RX4_61 rfl rfl rfl rfl ?_
  obtain rfl := ret1 h
  exact a_vret C dX4_keepReason_19 rfl (by decide) rfl rfl
set_option maxRecDepth 20000 in
set_option maxHeartbeats 4000000 in
theorem w_X4_stopIfRefused (x1 : Int32) (x2 : Int32) (x3 : Int32)  (V : VT) (o9 : Int32 ⊕ String) (W9 : VT) (h : d_X4_stopIfRefused x1 x2 x3 V = some (o9, W9)) : AM 6 1 yX4_stopIfRefused (.code yX4_stopIfRefused cX4_stopIfRefused 4 (none)) (fun ad => [.ref (ad 0), .int x1, .int x2, .int x3]) V W9 (rXV o9) := by
  unfold d_X4_stopIfRefused at h
  refine AM.of (by decide +kernel) (fun ad => Nat.le_of_ble_eq_true rfl) (fun {p l e s m args below meth c D cs ad b0} C hT => ?_)
  have C : Ctx p l s m args meth c D cs ad b0 RX4 cX4_stopIfRefused 4 (none) := C
  refine a_sub (lv' := [(0, .ref (ad 0)), (1, .int x1), (2, .int x2), (3, .int x3)]) [0, 1, 2, 3] rfl ?_
  refine a_iload_n (q := 1) C dX4_stopIfRefused_0 rfl rfl ?_
  refine a_if_eq (tgt := 22) C dX4_stopIfRefused_1 (by decide) (fun c1 => ?_) (fun c1 => ?_)
  · have h := it_t c1 h
    obtain ⟨rfl, rfl⟩ := ret2 h
    exact a_vret C dX4_stopIfRefused_22 rfl (by decide) rfl rfl
  · have h := it_f c1 h
    refine a_aload_n (q := 0) C dX4_stopIfRefused_4 rfl rfl ?_
    refine a_iload_n (q := 1) C dX4_stopIfRefused_5 rfl rfl ?_
    refine a_iload_n (q := 2) C dX4_stopIfRefused_6 rfl rfl ?_
    refine a_iload_n (q := 3) C dX4_stopIfRefused_7 rfl rfl ?_
    obtain ⟨V3, g2, h⟩ := bd_spec h
    refine a_cVv (a := 0) (st := []) C dX4_stopIfRefused_8 cv_RX4_367 (w_X4_keepReason x1 x2 x3  V V3 g2) rfl rfl rfl rfl rfl ⟨Nat.le_of_ble_eq_true rfl, Nat.le_of_ble_eq_true rfl, Nat.le_of_ble_eq_true rfl, Nat.le_of_ble_eq_true rfl⟩ (Nat.le_of_ble_eq_true rfl) ?_
    obtain ⟨rfl, rfl⟩ := ret2 h
    exact a_throwW (text := "refused") C hT th_RX4_296_300 (by decide +kernel) dX4_stopIfRefused_11 dX4_stopIfRefused_14 dX4_stopIfRefused_15 dX4_stopIfRefused_18 dX4_stopIfRefused_21 ⟨by decide, by decide, by decide, by decide⟩ (by decide) rfl rfl
set_option maxRecDepth 20000 in
set_option maxHeartbeats 4000000 in
theorem w_J9_floorMod_7cf53 (x0 : Int32) (x1 : Int32)  (V : VT) (r9 : Int32) (h : d_J9_floorMod_7cf53 x0 x1 V = some r9) : AM 2 0 yJ9_floorMod_7cf53 (.code yJ9_floorMod_7cf53 cJ9_floorMod_7cf53 3 (some .int)) (fun ad => [.int x0, .int x1]) V V (rI r9) := by
  unfold d_J9_floorMod_7cf53 at h
  refine AM.ofF (by decide +kernel) (fun ad => Nat.le_of_ble_eq_true rfl) (fun {p l e s m args below meth c D cs ad b0} C hT => ?_)
  have C : Ctx p l s m args meth c D cs ad b0 RJ9 cJ9_floorMod_7cf53 3 (some .int) := C
  refine a_sub (lv' := [(0, .int x0), (1, .int x1)]) [0, 1] rfl ?_
  refine a_iload_n (q := 0) C dJ9_floorMod_7cf53_0 rfl rfl ?_
  refine a_iload_n (q := 1) C dJ9_floorMod_7cf53_1 rfl rfl ?_
  obtain ⟨z1, h⟩ := asr_spec h
  refine a_irem C dJ9_floorMod_7cf53_2 (nz_ne z1) ?_
  refine a_istore_n (lv' := [(2, .int (x0 - x0 / x1 * x1)), (0, .int x0), (1, .int x1)]) C dJ9_floorMod_7cf53_3 rfl (by decide) rfl ?_
  refine a_iload_n (q := 1) C dJ9_floorMod_7cf53_4 rfl rfl ?_
  refine a_iload_n (q := 2) C dJ9_floorMod_7cf53_5 rfl rfl ?_
  refine a_ixor C dJ9_floorMod_7cf53_6 ?_
  refine a_if_ge (tgt := 18) C dJ9_floorMod_7cf53_7 (by decide) (fun c2 => ?_) (fun c2 => ?_)
  · have h := it_t c2 h
    refine a_iload_n (q := 0) C dJ9_floorMod_7cf53_18 rfl rfl ?_
    obtain rfl := ret1 h
    exact a_iret C dJ9_floorMod_7cf53_19 rfl (by decide) rfl rfl
  · have h := it_f c2 h
    refine a_iload_n (q := 0) C dJ9_floorMod_7cf53_10 rfl rfl ?_
    refine a_if_eq (tgt := 18) C dJ9_floorMod_7cf53_11 (by decide) (fun c3 => ?_) (fun c3 => ?_)
    · have h := it_t c3 h
      refine a_iload_n (q := 0) C dJ9_floorMod_7cf53_18 rfl rfl ?_
      obtain rfl := ret1 h
      exact a_iret C dJ9_floorMod_7cf53_19 rfl (by decide) rfl rfl
    · have h := it_f c3 h
      refine a_iload_n (q := 0) C dJ9_floorMod_7cf53_14 rfl rfl ?_
      refine a_iload_n (q := 2) C dJ9_floorMod_7cf53_15 rfl rfl ?_
      refine a_iadd C dJ9_floorMod_7cf53_16 ?_
      obtain rfl := ret1 h
      exact a_iret C dJ9_floorMod_7cf53_17 rfl (by decide) rfl rfl
set_option maxRecDepth 20000 in
set_option maxHeartbeats 4000000 in
theorem w_X3_placeAfter (x1 : Int32)  (V : VT) (r9 : Int32) (h : d_X3_placeAfter x1 V = some r9) : AM 3 0 yX3_placeAfter (.code yX3_placeAfter cX3_placeAfter 2 (some .int)) (fun ad => [.ref (ad 28), .int x1]) V V (rI r9) := by
  unfold d_X3_placeAfter at h
  refine AM.of (by decide +kernel) (fun ad => Nat.le_of_ble_eq_true rfl) (fun {p l e s m args below meth c D cs ad b0} C hT => ?_)
  have C : Ctx p l s m args meth c D cs ad b0 RX3 cX3_placeAfter 2 (some .int) := C
  refine a_sub (lv' := [(0, .ref (ad 28)), (1, .int x1)]) [0, 1] rfl ?_
  refine a_aload_n (q := 0) C dX3_placeAfter_0 rfl rfl ?_
  refine a_geti (a := 28) (x := (V 28 1)) C dX3_placeAfter_1 fl_RX3_17 rfl rfl rfl ?_
  refine a_iload_n (q := 1) C dX3_placeAfter_4 rfl rfl ?_
  refine a_iadd C dX3_placeAfter_5 ?_
  refine a_bipush (v := (8 : Int32)) C dX3_placeAfter_6 rfl ?_
  obtain ⟨r2, g1, h⟩ := bd_spec h
  refine a_cSi (st := []) C dX3_placeAfter_8 cv_RX3_33 (w_J9_floorMod_7cf53 ((V 28 1) + x1) (8 : Int32)  V r2 g1) rfl rfl rfl ⟨Nat.le_of_ble_eq_true rfl, Nat.le_of_ble_eq_true rfl, Nat.le_of_ble_eq_true rfl, Nat.le_of_ble_eq_true rfl⟩ (Nat.le_of_ble_eq_true rfl) ?_
  obtain rfl := ret1 h
  exact a_iret C dX3_placeAfter_11 rfl (by decide) rfl rfl
set_option maxRecDepth 20000 in
set_option maxHeartbeats 4000000 in
theorem w_X1_copyFrom (a : Nat) (b : Nat) (ha : isLand a = true) (hb : isLand b = true) (V : VT) (W9 : VT) (h : d_X1_copyFrom a b V = some W9) : AM 2 0 yX1_copyFrom (.code yX1_copyFrom cX1_copyFrom 2 (none)) (fun ad => [.ref (ad a), .ref (ad b)]) V W9 (rV) := by
  unfold d_X1_copyFrom at h
  refine AM.of (by decide +kernel) (fun ad => Nat.le_of_ble_eq_true rfl) (fun {p l e s m args below meth c D cs ad b0} C hT => ?_)
  have C : Ctx p l s m args meth c D cs ad b0 RX1 cX1_copyFrom 2 (none) := C
  refine a_sub (lv' := [(0, .ref (ad a)), (1, .ref (ad b))]) [0, 1] rfl ?_
  refine a_aload_n (q := 1) C dX1_copyFrom_0 rfl rfl ?_
  refine a_getr (a := b) (t := (b + 1)) C dX1_copyFrom_1 fl_RX1_9 (land0 hb) rfl ?_
  refine a_iconst (v := (0 : Int32)) C dX1_copyFrom_4 rfl ?_
  refine a_aload_n (q := 0) C dX1_copyFrom_5 rfl rfl ?_
  refine a_getr (a := a) (t := (a + 1)) C dX1_copyFrom_6 fl_RX1_9 (land0 ha) rfl ?_
  refine a_iconst (v := (0 : Int32)) C dX1_copyFrom_9 rfl ?_
  refine a_bipush (v := (7 : Int32)) C dX1_copyFrom_10 rfl ?_
  refine a_acopy (a0 := (b + 1)) (a := (a + 1)) C dX1_copyFrom_12 ac_RX1_49 acN acS acI (land1 hb) (land1 ha) (by decide) (by decide) (by decide) (by decide) (by decide) ⟨by decide, by decide⟩ ?_
  refine a_aload_n (q := 1) C dX1_copyFrom_15 rfl rfl ?_
  refine a_getr (a := b) (t := (b + 2)) C dX1_copyFrom_16 fl_RX1_15 (land0 hb) rfl ?_
  refine a_iconst (v := (0 : Int32)) C dX1_copyFrom_19 rfl ?_
  refine a_aload_n (q := 0) C dX1_copyFrom_20 rfl rfl ?_
  refine a_getr (a := a) (t := (a + 2)) C dX1_copyFrom_21 fl_RX1_15 (land0 ha) rfl ?_
  refine a_iconst (v := (0 : Int32)) C dX1_copyFrom_24 rfl ?_
  refine a_bipush (v := (7 : Int32)) C dX1_copyFrom_25 rfl ?_
  refine a_acopy (a0 := (b + 2)) (a := (a + 2)) C dX1_copyFrom_27 ac_RX1_49 acN acS acI (land2 hb) (land2 ha) (by decide) (by decide) (by decide) (by decide) (by decide) ⟨by decide, by decide⟩ ?_
  refine a_aload_n (q := 1) C dX1_copyFrom_30 rfl rfl ?_
  refine a_getr (a := b) (t := (b + 3)) C dX1_copyFrom_31 fl_RX1_18 (land0 hb) rfl ?_
  refine a_iconst (v := (0 : Int32)) C dX1_copyFrom_34 rfl ?_
  refine a_aload_n (q := 0) C dX1_copyFrom_35 rfl rfl ?_
  refine a_getr (a := a) (t := (a + 3)) C dX1_copyFrom_36 fl_RX1_18 (land0 ha) rfl ?_
  refine a_iconst (v := (0 : Int32)) C dX1_copyFrom_39 rfl ?_
  refine a_bipush (v := (7 : Int32)) C dX1_copyFrom_40 rfl ?_
  refine a_acopy (a0 := (b + 3)) (a := (a + 3)) C dX1_copyFrom_42 ac_RX1_49 acN acS acI (land3 hb) (land3 ha) (by decide) (by decide) (by decide) (by decide) (by decide) ⟨by decide, by decide⟩ ?_
  refine a_aload_n (q := 1) C dX1_copyFrom_45 rfl rfl ?_
  refine a_getr (a := b) (t := (b + 4)) C dX1_copyFrom_46 fl_RX1_21 (land0 hb) rfl ?_
  refine a_iconst (v := (0 : Int32)) C dX1_copyFrom_49 rfl ?_
  refine a_aload_n (q := 0) C dX1_copyFrom_50 rfl rfl ?_
  refine a_getr (a := a) (t := (a + 4)) C dX1_copyFrom_51 fl_RX1_21 (land0 ha) rfl ?_
  refine a_iconst (v := (0 : Int32)) C dX1_copyFrom_54 rfl ?_
  refine a_bipush (v := (7 : Int32)) C dX1_copyFrom_55 rfl ?_
  refine a_acopy (a0 := (b + 4)) (a := (a + 4)) C dX1_copyFrom_57 ac_RX1_49 acN acS acI (land4 hb) (land4 ha) (by decide) (by decide) (by decide) (by decide) (by decide) ⟨by decide, by decide⟩ ?_
  refine a_aload_n (q := 1) C dX1_copyFrom_60 rfl rfl ?_
  refine a_getr (a := b) (t := (b + 5)) C dX1_copyFrom_61 fl_RX1_24 (land0 hb) rfl ?_
  refine a_iconst (v := (0 : Int32)) C dX1_copyFrom_64 rfl ?_
  refine a_aload_n (q := 0) C dX1_copyFrom_65 rfl rfl ?_
  refine a_getr (a := a) (t := (a + 5)) C dX1_copyFrom_66 fl_RX1_24 (land0 ha) rfl ?_
  refine a_iconst (v := (0 : Int32)) C dX1_copyFrom_69 rfl ?_
  refine a_bipush (v := (7 : Int32)) C dX1_copyFrom_70 rfl ?_
  refine a_acopy (a0 := (b + 5)) (a := (a + 5)) C dX1_copyFrom_72 ac_RX1_49 acN acS acI (land5 hb) (land5 ha) (by decide) (by decide) (by decide) (by decide) (by decide) ⟨by decide, by decide⟩ ?_
  refine a_aload_n (q := 1) C dX1_copyFrom_75 rfl rfl ?_
  refine a_getr (a := b) (t := (b + 6)) C dX1_copyFrom_76 fl_RX1_27 (land0 hb) rfl ?_
  refine a_iconst (v := (0 : Int32)) C dX1_copyFrom_79 rfl ?_
  refine a_aload_n (q := 0) C dX1_copyFrom_80 rfl rfl ?_
  refine a_getr (a := a) (t := (a + 6)) C dX1_copyFrom_81 fl_RX1_27 (land0 ha) rfl ?_
  refine a_iconst (v := (0 : Int32)) C dX1_copyFrom_84 rfl ?_
  refine a_bipush (v := (7 : Int32)) C dX1_copyFrom_85 rfl ?_
  refine a_acopy (a0 := (b + 6)) (a := (a + 6)) C dX1_copyFrom_87 ac_RX1_49 acN acS acI (land6 hb) (land6 ha) (by decide) (by decide) (by decide) (by decide) (by decide) ⟨by decide, by decide⟩ ?_
  refine a_aload_n (q := 1) C dX1_copyFrom_90 rfl rfl ?_
  refine a_getr (a := b) (t := (b + 7)) C dX1_copyFrom_91 fl_RX1_30 (land0 hb) rfl ?_
  refine a_iconst (v := (0 : Int32)) C dX1_copyFrom_94 rfl ?_
  refine a_aload_n (q := 0) C dX1_copyFrom_95 rfl rfl ?_
  refine a_getr (a := a) (t := (a + 7)) C dX1_copyFrom_96 fl_RX1_30 (land0 ha) rfl ?_
  refine a_iconst (v := (0 : Int32)) C dX1_copyFrom_99 rfl ?_
  refine a_iconst (v := (5 : Int32)) C dX1_copyFrom_100 rfl ?_
  refine a_acopy (a0 := (b + 7)) (a := (a + 7)) C dX1_copyFrom_101 ac_RX1_49 acN acS acI (land7 hb) (land7 ha) (by decide) (by decide) (by decide) (by decide) (by decide) ⟨by decide, by decide⟩ ?_
  refine a_aload_n (q := 1) C dX1_copyFrom_104 rfl rfl ?_
  refine a_getr (a := b) (t := (b + 8)) C dX1_copyFrom_105 fl_RX1_33 (land0 hb) rfl ?_
  refine a_iconst (v := (0 : Int32)) C dX1_copyFrom_108 rfl ?_
  refine a_aload_n (q := 0) C dX1_copyFrom_109 rfl rfl ?_
  refine a_getr (a := a) (t := (a + 8)) C dX1_copyFrom_110 fl_RX1_33 (land0 ha) rfl ?_
  refine a_iconst (v := (0 : Int32)) C dX1_copyFrom_113 rfl ?_
  refine a_iconst (v := (5 : Int32)) C dX1_copyFrom_114 rfl ?_
  refine a_acopy (a0 := (b + 8)) (a := (a + 8)) C dX1_copyFrom_115 ac_RX1_49 acN acS acI (land8 hb) (land8 ha) (by decide) (by decide) (by decide) (by decide) (by decide) ⟨by decide, by decide⟩ ?_
  refine a_aload_n (q := 0) C dX1_copyFrom_118 rfl rfl ?_
  refine a_aload_n (q := 1) C dX1_copyFrom_119 rfl rfl ?_
  refine a_geti (a := b) (x := ((cp2 (cp2 (cp2 (cp2 (cp2 (cp2 (cp2 (cp2 V (b + 1) (a + 1) 0 0 7) (b + 2) (a + 2) 0 0 7) (b + 3) (a + 3) 0 0 7) (b + 4) (a + 4) 0 0 7) (b + 5) (a + 5) 0 0 7) (b + 6) (a + 6) 0 0 7) (b + 7) (a + 7) 0 0 5) (b + 8) (a + 8) 0 0 5) b 8)) C dX1_copyFrom_120 fl_RX1_36 (land0 hb) rfl rfl ?_
  refine a_puti (a := a) C dX1_copyFrom_123 fp_RX1_36 (land0 ha) rfl rfl rfl ?_
  refine a_aload_n (q := 0) C dX1_copyFrom_126 rfl rfl ?_
  refine a_aload_n (q := 1) C dX1_copyFrom_127 rfl rfl ?_
  refine a_geti (a := b) (x := ((up2 (cp2 (cp2 (cp2 (cp2 (cp2 (cp2 (cp2 (cp2 V (b + 1) (a + 1) 0 0 7) (b + 2) (a + 2) 0 0 7) (b + 3) (a + 3) 0 0 7) (b + 4) (a + 4) 0 0 7) (b + 5) (a + 5) 0 0 7) (b + 6) (a + 6) 0 0 7) (b + 7) (a + 7) 0 0 5) (b + 8) (a + 8) 0 0 5) a 8 ((cp2 (cp2 (cp2 (cp2 (cp2 (cp2 (cp2 (cp2 V (b + 1) (a + 1) 0 0 7) (b + 2) (a + 2) 0 0 7) (b + 3) (a + 3) 0 0 7) (b + 4) (a + 4) 0 0 7) (b + 5) (a + 5) 0 0 7) (b + 6) (a + 6) 0 0 7) (b + 7) (a + 7) 0 0 5) (b + 8) (a + 8) 0 0 5) b 8)) b 9)) C dX1_copyFrom_128 fl_RX1_40 (land0 hb) rfl rfl ?_
  refine a_puti (a := a) C dX1_copyFrom_131 fp_RX1_40 (land0 ha) rfl rfl rfl ?_
  refine a_aload_n (q := 0) C dX1_copyFrom_134 rfl rfl ?_
  refine a_aload_n (q := 1) C dX1_copyFrom_135 rfl rfl ?_
  refine a_geti (a := b) (x := ((up2 (up2 (cp2 (cp2 (cp2 (cp2 (cp2 (cp2 (cp2 (cp2 V (b + 1) (a + 1) 0 0 7) (b + 2) (a + 2) 0 0 7) (b + 3) (a + 3) 0 0 7) (b + 4) (a + 4) 0 0 7) (b + 5) (a + 5) 0 0 7) (b + 6) (a + 6) 0 0 7) (b + 7) (a + 7) 0 0 5) (b + 8) (a + 8) 0 0 5) a 8 ((cp2 (cp2 (cp2 (cp2 (cp2 (cp2 (cp2 (cp2 V (b + 1) (a + 1) 0 0 7) (b + 2) (a + 2) 0 0 7) (b + 3) (a + 3) 0 0 7) (b + 4) (a + 4) 0 0 7) (b + 5) (a + 5) 0 0 7) (b + 6) (a + 6) 0 0 7) (b + 7) (a + 7) 0 0 5) (b + 8) (a + 8) 0 0 5) b 8)) a 9 ((up2 (cp2 (cp2 (cp2 (cp2 (cp2 (cp2 (cp2 (cp2 V (b + 1) (a + 1) 0 0 7) (b + 2) (a + 2) 0 0 7) (b + 3) (a + 3) 0 0 7) (b + 4) (a + 4) 0 0 7) (b + 5) (a + 5) 0 0 7) (b + 6) (a + 6) 0 0 7) (b + 7) (a + 7) 0 0 5) (b + 8) (a + 8) 0 0 5) a 8 ((cp2 (cp2 (cp2 (cp2 (cp2 (cp2 (cp2 (cp2 V (b + 1) (a + 1) 0 0 7) (b + 2) (a + 2) 0 0 7) (b + 3) (a + 3) 0 0 7) (b + 4) (a + 4) 0 0 7) (b + 5) (a + 5) 0 0 7) (b + 6) (a + 6) 0 0 7) (b + 7) (a + 7) 0 0 5) (b + 8) (a + 8) 0 0 5) b 8)) b 9)) b 10)) C dX1_copyFrom_136 fl_RX1_43 (land0 hb) rfl rfl ?_
  refine a_puti (a := a) C dX1_copyFrom_139 fp_RX1_43 (land0 ha) rfl rfl rfl ?_
  refine a_aload_n (q := 0) C dX1_copyFrom_142 rfl rfl ?_
  refine a_aload_n (q := 1) C dX1_copyFrom_143 rfl rfl ?_
  refine a_geti (a := b) (x := ((up2 (up2 (up2 (cp2 (cp2 (cp2 (cp2 (cp2 (cp2 (cp2 (cp2 V (b + 1) (a + 1) 0 0 7) (b + 2) (a + 2) 0 0 7) (b + 3) (a + 3) 0 0 7) (b + 4) (a + 4) 0 0 7) (b + 5) (a + 5) 0 0 7) (b + 6) (a + 6) 0 0 7) (b + 7) (a + 7) 0 0 5) (b + 8) (a + 8) 0 0 5) a 8 ((cp2 (cp2 (cp2 (cp2 (cp2 (cp2 (cp2 (cp2 V (b + 1) (a + 1) 0 0 7) (b + 2) (a + 2) 0 0 7) (b + 3) (a + 3) 0 0 7) (b + 4) (a + 4) 0 0 7) (b + 5) (a + 5) 0 0 7) (b + 6) (a + 6) 0 0 7) (b + 7) (a + 7) 0 0 5) (b + 8) (a + 8) 0 0 5) b 8)) a 9 ((up2 (cp2 (cp2 (cp2 (cp2 (cp2 (cp2 (cp2 (cp2 V (b + 1) (a + 1) 0 0 7) (b + 2) (a + 2) 0 0 7) (b + 3) (a + 3) 0 0 7) (b + 4) (a + 4) 0 0 7) (b + 5) (a + 5) 0 0 7) (b + 6) (a + 6) 0 0 7) (b + 7) (a + 7) 0 0 5) (b + 8) (a + 8) 0 0 5) a 8 ((cp2 (cp2 (cp2 (cp2 (cp2 (cp2 (cp2 (cp2 V (b + 1) (a + 1) 0 0 7) (b + 2) (a + 2) 0 0 7) (b + 3) (a + 3) 0 0 7) (b + 4) (a + 4) 0 0 7) (b + 5) (a + 5) 0 0 7) (b + 6) (a + 6) 0 0 7) (b + 7) (a + 7) 0 0 5) (b + 8) (a + 8) 0 0 5) b 8)) b 9)) a 10 ((up2 (up2 (cp2 (cp2 (cp2 (cp2 (cp2 (cp2 (cp2 (cp2 V (b + 1) (a + 1) 0 0 7) (b + 2) (a + 2) 0 0 7) (b + 3) (a + 3) 0 0 7) (b + 4) (a + 4) 0 0 7) (b + 5) (a + 5) 0 0 7) (b + 6) (a + 6) 0 0 7) (b + 7) (a + 7) 0 0 5) (b + 8) (a + 8) 0 0 5) a 8 ((cp2 (cp2 (cp2 (cp2 (cp2 (cp2 (cp2 (cp2 V (b + 1) (a + 1) 0 0 7) (b + 2) (a + 2) 0 0 7) (b + 3) (a + 3) 0 0 7) (b + 4) (a + 4) 0 0 7) (b + 5) (a + 5) 0 0 7) (b + 6) (a + 6) 0 0 7) (b + 7) (a + 7) 0 0 5) (b + 8) (a + 8) 0 0 5) b 8)) a 9 ((up2 (cp2 (cp2 (cp2 (cp2 (cp2 (cp2 (cp2 (cp2 V (b + 1) (a + 1) 0 0 7) (b + 2) (a + 2) 0 0 7) (b + 3) (a + 3) 0 0 7) (b + 4) (a + 4) 0 0 7) (b + 5) (a + 5) 0 0 7) (b + 6) (a + 6) 0 0 7) (b + 7) (a + 7) 0 0 5) (b + 8) (a + 8) 0 0 5) a 8 ((cp2 (cp2 (cp2 (cp2 (cp2 (cp2 (cp2 (cp2 V (b + 1) (a + 1) 0 0 7) (b + 2) (a + 2) 0 0 7) (b + 3) (a + 3) 0 0 7) (b + 4) (a + 4) 0 0 7) (b + 5) (a + 5) 0 0 7) (b + 6) (a + 6) 0 0 7) (b + 7) (a + 7) 0 0 5) (b + 8) (a + 8) 0 0 5) b 8)) b 9)) b 10)) b 11)) C dX1_copyFrom_144 fl_RX1_46 (land0 hb) rfl rfl ?_
  refine a_puti (a := a) C dX1_copyFrom_147 fp_RX1_46 (land0 ha) rfl rfl rfl ?_
  obtain rfl := ret1 h
  exact a_vret C dX1_copyFrom_150 rfl (by decide) rfl rfl
set_option maxRecDepth 20000 in
set_option maxHeartbeats 4000000 in
theorem w_X3_keep (b : Nat) (hb : isLand b = true) (V : VT) (W9 : VT) (h : d_X3_keep b V = some W9) : AM 4 0 yX3_keep (.code yX3_keep cX3_keep 2 (none)) (fun ad => [.ref (ad 28), .ref (ad b)]) V W9 (rV) := by
  unfold d_X3_keep at h
  refine AM.of (by decide +kernel) (fun ad => Nat.le_of_ble_eq_true rfl) (fun {p l e s m args below meth c D cs ad b0} C hT => ?_)
  have C : Ctx p l s m args meth c D cs ad b0 RX3 cX3_keep 2 (none) := C
  refine a_sub (lv' := [(0, .ref (ad 28)), (1, .ref (ad b))]) [0, 1] rfl ?_
  refine a_aload_n (q := 0) C dX3_keep_0 rfl rfl ?_
  refine a_getr (a := 28) (t := 29) C dX3_keep_1 fl_RX3_11 rfl rfl ?_
  refine a_aload_n (q := 0) C dX3_keep_4 rfl rfl ?_
  refine a_aload_n (q := 0) C dX3_keep_5 rfl rfl ?_
  refine a_geti (a := 28) (x := (V 28 2)) C dX3_keep_6 fl_RX3_21 rfl rfl rfl ?_
  obtain ⟨r2, g1, h⟩ := bd_spec h
  refine a_cVi (a := 28) (st := [.ref (ad 29)]) C dX3_keep_9 cv_RX3_25 (w_X3_placeAfter (V 28 2)  V r2 g1) rfl rfl rfl rfl rfl ⟨Nat.le_of_ble_eq_true rfl, Nat.le_of_ble_eq_true rfl, Nat.le_of_ble_eq_true rfl, Nat.le_of_ble_eq_true rfl⟩ (Nat.le_of_ble_eq_true rfl) ?_
  obtain ⟨z3, h⟩ := asr_spec h
  refine a_aald (a := 29) (t := (30 + 9 * r2.toNatClampNeg)) C dX3_keep_12 rfl (inb_in z3) (kept_at (inb_in z3)) ?_
  refine a_aload_n (q := 1) C dX3_keep_13 rfl rfl ?_
  obtain ⟨V5, g4, h⟩ := bd_spec h
  refine a_cVv (a := (30 + 9 * r2.toNatClampNeg)) (st := []) C dX3_keep_14 cv_RX3_29 (w_X1_copyFrom (30 + 9 * r2.toNatClampNeg) b (kept_land (inb_in z3)) hb V V5 g4) (land0 (kept_land (inb_in z3))) rfl rfl rfl rfl ⟨Nat.le_of_ble_eq_true rfl, Nat.le_of_ble_eq_true rfl, Nat.le_of_ble_eq_true rfl, Nat.le_of_ble_eq_true rfl⟩ (Nat.le_of_ble_eq_true rfl) ?_
  refine a_aload_n (q := 0) C dX3_keep_17 rfl rfl ?_
  refine a_geti (a := 28) (x := (V5 28 2)) C dX3_keep_18 fl_RX3_21 rfl rfl rfl ?_
  refine a_bipush (v := (8 : Int32)) C dX3_keep_21 rfl ?_
  refine a_icmp_ge (tgt := 39) C dX3_keep_23 (by decide) (fun c6 => ?_) (fun c6 => ?_)
  · have h := it_t c6 h
    refine a_aload_n (q := 0) C dX3_keep_39 rfl rfl ?_
    refine a_aload_n (q := 0) C dX3_keep_40 rfl rfl ?_
    refine a_iconst (v := (1 : Int32)) C dX3_keep_41 rfl ?_
    obtain ⟨r8, g7, h⟩ := bd_spec h
    refine a_cVi (a := 28) (st := [.ref (ad 28)]) C dX3_keep_42 cv_RX3_25 (w_X3_placeAfter (1 : Int32)  V5 r8 g7) rfl rfl rfl rfl rfl ⟨Nat.le_of_ble_eq_true rfl, Nat.le_of_ble_eq_true rfl, Nat.le_of_ble_eq_true rfl, Nat.le_of_ble_eq_true rfl⟩ (Nat.le_of_ble_eq_true rfl) ?_
    refine a_puti (a := 28) C dX3_keep_45 fp_RX3_17 rfl rfl rfl rfl ?_
    obtain rfl := ret1 h
    exact a_vret C dX3_keep_48 rfl (by decide) rfl rfl
  · have h := it_f c6 h
    refine a_aload_n (q := 0) C dX3_keep_26 rfl rfl ?_
    refine a_dup C dX3_keep_27 rfl ?_
    refine a_geti (a := 28) (x := (V5 28 2)) C dX3_keep_28 fl_RX3_21 rfl rfl rfl ?_
    refine a_iconst (v := (1 : Int32)) C dX3_keep_31 rfl ?_
    refine a_iadd C dX3_keep_32 ?_
    refine a_puti (a := 28) C dX3_keep_33 fp_RX3_21 rfl rfl rfl rfl ?_
    refine a_goto (tgt := 48) C dX3_keep_36 (by decide) ?_
    obtain rfl := ret1 h
    exact a_vret C dX3_keep_48 rfl (by decide) rfl rfl
set_option maxRecDepth 20000 in
set_option maxHeartbeats 4000000 in
theorem w_X1_addCountry (x1 : Int32)  (V : VT) (r9 : Int32) (W9 : VT) (h : d_X1_addCountry x1 V = some (r9, W9)) : AM 2 0 yX1_addCountry (.code yX1_addCountry cX1_addCountry 3 (some .int)) (fun ad => [.ref (ad 1), .int x1]) V W9 (rI r9) := by
  unfold d_X1_addCountry at h
  refine AM.of (by decide +kernel) (fun ad => Nat.le_of_ble_eq_true rfl) (fun {p l e s m args below meth c D cs ad b0} C hT => ?_)
  have C : Ctx p l s m args meth c D cs ad b0 RX1 cX1_addCountry 3 (some .int) := C
  refine a_sub (lv' := [(0, .ref (ad 1)), (1, .int x1)]) [0, 1] rfl ?_
  refine a_aload_n (q := 0) C dX1_addCountry_0 rfl rfl ?_
  refine a_geti (a := 1) (x := (V 1 8)) C dX1_addCountry_1 fl_RX1_36 rfl rfl rfl ?_
  refine a_istore_n (lv' := [(2, .int (V 1 8)), (0, .ref (ad 1)), (1, .int x1)]) C dX1_addCountry_4 rfl (by decide) rfl ?_
  refine a_iload_n (q := 0) C dX1_addCountry_5 rfl rfl ?_
  refine a_bipush (v := (7 : Int32)) C dX1_addCountry_6 rfl ?_
  refine a_icmp_ge (tgt := 56) C dX1_addCountry_8 (by decide) (fun c1 => ?_) (fun c1 => ?_)
  · have h := it_t c1 h
    refine a_iload_n (q := 0) C dX1_addCountry_56 rfl rfl ?_
    obtain ⟨rfl, rfl⟩ := ret2 h
    exact a_iret C dX1_addCountry_57 rfl (by decide) rfl rfl
  · have h := it_f c1 h
    refine a_aload_n (q := 1) C dX1_addCountry_11 rfl rfl ?_
    refine a_getr (a := 1) (t := 2) C dX1_addCountry_12 fl_RX1_9 rfl rfl ?_
    refine a_iload_n (q := 0) C dX1_addCountry_15 rfl rfl ?_
    refine a_iload_n (q := 2) C dX1_addCountry_16 rfl rfl ?_
    obtain ⟨z2, h⟩ := asr_spec h
    refine a_iast (a := 2) C dX1_addCountry_17 rfl (inb_in z2) ?_
    refine a_aload_n (q := 1) C dX1_addCountry_18 rfl rfl ?_
    refine a_getr (a := 1) (t := 3) C dX1_addCountry_19 fl_RX1_15 rfl rfl ?_
    refine a_iload_n (q := 0) C dX1_addCountry_22 rfl rfl ?_
    refine a_iconst (v := (-1 : Int32)) C dX1_addCountry_23 rfl ?_
    obtain ⟨z3, h⟩ := asr_spec h
    refine a_iast (a := 3) C dX1_addCountry_24 rfl (inb_in z3) ?_
    refine a_aload_n (q := 1) C dX1_addCountry_25 rfl rfl ?_
    refine a_getr (a := 1) (t := 4) C dX1_addCountry_26 fl_RX1_18 rfl rfl ?_
    refine a_iload_n (q := 0) C dX1_addCountry_29 rfl rfl ?_
    refine a_iconst (v := (-1 : Int32)) C dX1_addCountry_30 rfl ?_
    obtain ⟨z4, h⟩ := asr_spec h
    refine a_iast (a := 4) C dX1_addCountry_31 rfl (inb_in z4) ?_
    refine a_aload_n (q := 1) C dX1_addCountry_32 rfl rfl ?_
    refine a_getr (a := 1) (t := 5) C dX1_addCountry_33 fl_RX1_21 rfl rfl ?_
    refine a_iload_n (q := 0) C dX1_addCountry_36 rfl rfl ?_
    refine a_iconst (v := (0 : Int32)) C dX1_addCountry_37 rfl ?_
    obtain ⟨z5, h⟩ := asr_spec h
    refine a_iast (a := 5) C dX1_addCountry_38 rfl (inb_in z5) ?_
    refine a_aload_n (q := 1) C dX1_addCountry_39 rfl rfl ?_
    refine a_getr (a := 1) (t := 6) C dX1_addCountry_40 fl_RX1_24 rfl rfl ?_
    refine a_iload_n (q := 0) C dX1_addCountry_43 rfl rfl ?_
    refine a_iconst (v := (0 : Int32)) C dX1_addCountry_44 rfl ?_
    obtain ⟨z6, h⟩ := asr_spec h
    refine a_iast (a := 6) C dX1_addCountry_45 rfl (inb_in z6) ?_
    refine a_aload_n (q := 1) C dX1_addCountry_46 rfl rfl ?_
    refine a_dup C dX1_addCountry_47 rfl ?_
    refine a_geti (a := 1) (x := (V 1 8)) C dX1_addCountry_48 fl_RX1_36 rfl rfl rfl ?_
    refine a_iconst (v := (1 : Int32)) C dX1_addCountry_51 rfl ?_
    refine a_iadd C dX1_addCountry_52 ?_
    refine a_puti (a := 1) C dX1_addCountry_53 fp_RX1_36 rfl rfl rfl rfl ?_
    refine a_iload_n (q := 0) C dX1_addCountry_56 rfl rfl ?_
    obtain ⟨rfl, rfl⟩ := ret2 h
    exact a_iret C dX1_addCountry_57 rfl (by decide) rfl rfl
set_option maxRecDepth 20000 in
set_option maxHeartbeats 4000000 in
theorem w_X4_country_11 {p : Program} {l : Launch} {e : Env} {s : State} {m : MethodId} {args : Array Value} {below : List Frame} {meth : Method} {c : Code} {D : va_G} {cs : Nat → ClassId} {ad : Nat → Nat} {b0 : Nat} (C : Ctx p l s m args meth c D cs ad b0 RX4 cX4_country 2 (some .int)) (hT : ∀ x ∈ c.exceptionTable.toList, False)    {o9 : Int32 ⊕ String} {W9 : VT}     :
    ∀ (V : VT), d_X4_country_11 V = some (o9, W9) → AW p l e (rmOf 7 2) s m args below meth c D cs ad b0 (QF below D cs ad b0 W9 ((rX o9) ad) args s 2) 2 0 V [] [] 11 := by
  intro V h
  unfold d_X4_country_11 at h
  obtain ⟨rfl, rfl⟩ := ret2 h
  exact a_throw (text := "a size is from 1 to 9") C hT th_RX4_64_68 (by decide +kernel) dX4_country_11 dX4_country_14 dX4_country_15 dX4_country_17 dX4_country_20 ⟨by decide, by decide, by decide, by decide⟩ (by decide) rfl rfl
set_option maxRecDepth 20000 in
set_option maxHeartbeats 4000000 in
theorem w_X4_country (x1 : Int32)  (V : VT) (o9 : Int32 ⊕ String) (W9 : VT) (h : d_X4_country x1 V = some (o9, W9)) : AM 7 2 yX4_country (.code yX4_country cX4_country 2 (some .int)) (fun ad => [.ref (ad 0), .int x1]) V W9 (rX o9) := by
  unfold d_X4_country at h
  refine AM.of (by decide +kernel) (fun ad => Nat.le_of_ble_eq_true rfl) (fun {p l e s m args below meth c D cs ad b0} C hT => ?_)
  have C : Ctx p l s m args meth c D cs ad b0 RX4 cX4_country 2 (some .int) := C
  refine a_sub (lv' := [(0, .ref (ad 0)), (1, .int x1)]) [0, 1] rfl ?_
  refine a_iload_n (q := 1) C dX4_country_0 rfl rfl ?_
  refine a_iconst (v := (1 : Int32)) C dX4_country_1 rfl ?_
  refine a_icmp_lt (tgt := 11) C dX4_country_2 (by decide) (fun c1 => ?_) (fun c1 => ?_)
  · have h := it_t c1 h
    refine a_sub (lv' := []) [] rfl ?_
    exact w_X4_country_11 C hT V h
  · have h := it_f c1 h
    refine a_iload_n (q := 1) C dX4_country_5 rfl rfl ?_
    refine a_bipush (v := (9 : Int32)) C dX4_country_6 rfl ?_
    refine a_icmp_le (tgt := 21) C dX4_country_8 (by decide) (fun c2 => ?_) (fun c2 => ?_)
    · have h := it_t c2 h
      refine a_aload_n (q := 0) C dX4_country_21 rfl rfl ?_
      refine a_aload_n (q := 0) C dX4_country_22 rfl rfl ?_
      refine a_getr (a := 0) (t := 1) C dX4_country_23 fl_RX4_10 rfl rfl ?_
      obtain ⟨r4, g3, h⟩ := bd_spec h
      refine a_cVi (a := 1) (st := [.ref (ad 0)]) C dX4_country_26 cv_RX4_71 (w_X1_reasonAgainstCountry   V r4 g3) rfl rfl rfl rfl rfl ⟨Nat.le_of_ble_eq_true rfl, Nat.le_of_ble_eq_true rfl, Nat.le_of_ble_eq_true rfl, Nat.le_of_ble_eq_true rfl⟩ (Nat.le_of_ble_eq_true rfl) ?_
      refine a_iconst (v := (0 : Int32)) C dX4_country_29 rfl ?_
      refine a_iconst (v := (0 : Int32)) C dX4_country_30 rfl ?_
      obtain ⟨o6, V7, g5, n8, t9⟩ := bx_spec h
      refine a_cVxv (a := 0) (st := []) (k' := 1) C dX4_country_31 cv_RX4_75 (w_X4_stopIfRefused r4 (0 : Int32) (0 : Int32)  V o6 V7 g5) rfl rfl rfl rfl rfl ⟨Nat.le_of_ble_eq_true rfl, Nat.le_of_ble_eq_true rfl, Nat.le_of_ble_eq_true rfl, Nat.le_of_ble_eq_true rfl⟩ (Nat.le_of_ble_eq_true rfl) (fun r10 e9 => ?_) (fun E9 e9 => ?_)
      · have h := n8 r10 e9
        refine a_aload_n (q := 0) C dX4_country_34 rfl rfl ?_
        refine a_getr (a := 0) (t := 28) C dX4_country_35 fl_RX4_25 rfl rfl ?_
        refine a_aload_n (q := 0) C dX4_country_38 rfl rfl ?_
        refine a_getr (a := 0) (t := 1) C dX4_country_39 fl_RX4_10 rfl rfl ?_
        obtain ⟨V12, g11, h⟩ := bd_spec h
        refine a_cVv (a := 28) (st := []) C dX4_country_42 cv_RX4_79 (w_X3_keep 1 rfl V7 V12 g11) rfl rfl rfl rfl rfl ⟨Nat.le_of_ble_eq_true rfl, Nat.le_of_ble_eq_true rfl, Nat.le_of_ble_eq_true rfl, Nat.le_of_ble_eq_true rfl⟩ (Nat.le_of_ble_eq_true rfl) ?_
        refine a_aload_n (q := 0) C dX4_country_45 rfl rfl ?_
        refine a_getr (a := 0) (t := 1) C dX4_country_46 fl_RX4_10 rfl rfl ?_
        refine a_iload_n (q := 1) C dX4_country_49 rfl rfl ?_
        obtain ⟨r15, V14, g13, h⟩ := bw_spec h
        refine a_cVi (a := 1) (st := []) C dX4_country_50 cv_RX4_83 (w_X1_addCountry x1  V12 r15 V14 g13) rfl rfl rfl rfl rfl ⟨Nat.le_of_ble_eq_true rfl, Nat.le_of_ble_eq_true rfl, Nat.le_of_ble_eq_true rfl, Nat.le_of_ble_eq_true rfl⟩ (Nat.le_of_ble_eq_true rfl) ?_
        obtain ⟨rfl, rfl⟩ := ret2 h
        exact a_iret C dX4_country_53 rfl (by decide) rfl rfl
      · obtain ⟨rfl, rfl⟩ := Prod.mk.inj (t9 E9 e9)
        exact a_xout C hT (by decide) rfl rfl
    · have h := it_f c2 h
      refine a_sub (lv' := []) [] rfl ?_
      exact w_X4_country_11 C hT V h
set_option maxRecDepth 20000 in
set_option maxHeartbeats 4000000 in
theorem w_X1_isCountry (x1 : Int32)  (V : VT) (r9 : Int32) (h : d_X1_isCountry x1 V = some r9) : AM 2 0 yX1_isCountry (.code yX1_isCountry cX1_isCountry 2 (some .boolean)) (fun ad => [.ref (ad 1), .int x1]) V V (rI r9) := by
  unfold d_X1_isCountry at h
  refine AM.of (by decide +kernel) (fun ad => Nat.le_of_ble_eq_true rfl) (fun {p l e s m args below meth c D cs ad b0} C hT => ?_)
  have C : Ctx p l s m args meth c D cs ad b0 RX1 cX1_isCountry 2 (some .boolean) := C
  refine a_sub (lv' := [(0, .ref (ad 1)), (1, .int x1)]) [0, 1] rfl ?_
  refine a_iload_n (q := 1) C dX1_isCountry_0 rfl rfl ?_
  refine a_if_lt (tgt := 16) C dX1_isCountry_1 (by decide) (fun c1 => ?_) (fun c1 => ?_)
  · have h := it_t c1 h
    refine a_iconst (v := (0 : Int32)) C dX1_isCountry_16 rfl ?_
    obtain rfl := ret1 h
    exact a_zret C dX1_isCountry_17 rfl rfl (by decide) rfl rfl
  · have h := it_f c1 h
    refine a_iload_n (q := 1) C dX1_isCountry_4 rfl rfl ?_
    refine a_aload_n (q := 0) C dX1_isCountry_5 rfl rfl ?_
    refine a_geti (a := 1) (x := (V 1 8)) C dX1_isCountry_6 fl_RX1_36 rfl rfl rfl ?_
    refine a_icmp_ge (tgt := 16) C dX1_isCountry_9 (by decide) (fun c2 => ?_) (fun c2 => ?_)
    · have h := it_t c2 h
      refine a_iconst (v := (0 : Int32)) C dX1_isCountry_16 rfl ?_
      obtain rfl := ret1 h
      exact a_zret C dX1_isCountry_17 rfl rfl (by decide) rfl rfl
    · have h := it_f c2 h
      refine a_iconst (v := (1 : Int32)) C dX1_isCountry_12 rfl ?_
      refine a_goto (tgt := 17) C dX1_isCountry_13 (by decide) ?_
      obtain rfl := ret1 h
      exact a_zret C dX1_isCountry_17 rfl rfl (by decide) rfl rfl
set_option maxRecDepth 20000 in
set_option maxHeartbeats 4000000 in
theorem w_X4_stopIfNoCountry (x1 : Int32)  (V : VT) (o9 : Int32 ⊕ String) (W9 : VT) (h : d_X4_stopIfNoCountry x1 V = some (o9, W9)) : AM 6 1 yX4_stopIfNoCountry (.code yX4_stopIfNoCountry cX4_stopIfNoCountry 2 (none)) (fun ad => [.ref (ad 0), .int x1]) V W9 (rXV o9) := by
  unfold d_X4_stopIfNoCountry at h
  refine AM.of (by decide +kernel) (fun ad => Nat.le_of_ble_eq_true rfl) (fun {p l e s m args below meth c D cs ad b0} C hT => ?_)
  have C : Ctx p l s m args meth c D cs ad b0 RX4 cX4_stopIfNoCountry 2 (none) := C
  refine a_sub (lv' := [(0, .ref (ad 0)), (1, .int x1)]) [0, 1] rfl ?_
  refine a_aload_n (q := 0) C dX4_stopIfNoCountry_0 rfl rfl ?_
  refine a_getr (a := 0) (t := 1) C dX4_stopIfNoCountry_1 fl_RX4_10 rfl rfl ?_
  refine a_iload_n (q := 1) C dX4_stopIfNoCountry_4 rfl rfl ?_
  obtain ⟨r2, g1, h⟩ := bd_spec h
  refine a_cVi (a := 1) (st := []) C dX4_stopIfNoCountry_5 cv_RX4_357 (w_X1_isCountry x1  V r2 g1) rfl rfl rfl rfl rfl ⟨Nat.le_of_ble_eq_true rfl, Nat.le_of_ble_eq_true rfl, Nat.le_of_ble_eq_true rfl, Nat.le_of_ble_eq_true rfl⟩ (Nat.le_of_ble_eq_true rfl) ?_
  refine a_if_ne (tgt := 22) C dX4_stopIfNoCountry_8 (by decide) (fun c3 => ?_) (fun c3 => ?_)
  · have h := it_f c3 h
    obtain ⟨rfl, rfl⟩ := ret2 h
    exact a_vret C dX4_stopIfNoCountry_22 rfl (by decide) rfl rfl
  · have h := it_t c3 h
    obtain ⟨rfl, rfl⟩ := ret2 h
    exact a_throwW (text := "there is no such country") C hT th_RX4_272_276 (by decide +kernel) dX4_stopIfNoCountry_11 dX4_stopIfNoCountry_14 dX4_stopIfNoCountry_15 dX4_stopIfNoCountry_18 dX4_stopIfNoCountry_21 ⟨by decide, by decide, by decide, by decide⟩ (by decide) rfl rfl
set_option maxRecDepth 20000 in
set_option maxHeartbeats 4000000 in
theorem w_X1_isPainted (x1 : Int32)  (V : VT) (r9 : Int32) (h : d_X1_isPainted x1 V = some r9) : AM 2 0 yX1_isPainted (.code yX1_isPainted cX1_isPainted 2 (some .boolean)) (fun ad => [.ref (ad 1), .int x1]) V V (rI r9) := by
  unfold d_X1_isPainted at h
  refine AM.of (by decide +kernel) (fun ad => Nat.le_of_ble_eq_true rfl) (fun {p l e s m args below meth c D cs ad b0} C hT => ?_)
  have C : Ctx p l s m args meth c D cs ad b0 RX1 cX1_isPainted 2 (some .boolean) := C
  refine a_sub (lv' := [(0, .ref (ad 1)), (1, .int x1)]) [0, 1] rfl ?_
  refine a_aload_n (q := 0) C dX1_isPainted_0 rfl rfl ?_
  refine a_getr (a := 1) (t := 3) C dX1_isPainted_1 fl_RX1_15 rfl rfl ?_
  refine a_iload_n (q := 1) C dX1_isPainted_4 rfl rfl ?_
  obtain ⟨z1, h⟩ := asr_spec h
  refine a_iald (a := 3) (x := (V 3 x1.toNatClampNeg)) C dX1_isPainted_5 rfl (inb_in z1) rfl ?_
  refine a_iconst (v := (-1 : Int32)) C dX1_isPainted_6 rfl ?_
  refine a_icmp_eq (tgt := 14) C dX1_isPainted_7 (by decide) (fun c2 => ?_) (fun c2 => ?_)
  · have h := it_t c2 h
    refine a_iconst (v := (0 : Int32)) C dX1_isPainted_14 rfl ?_
    obtain rfl := ret1 h
    exact a_zret C dX1_isPainted_15 rfl rfl (by decide) rfl rfl
  · have h := it_f c2 h
    refine a_iconst (v := (1 : Int32)) C dX1_isPainted_10 rfl ?_
    refine a_goto (tgt := 15) C dX1_isPainted_11 (by decide) ?_
    obtain rfl := ret1 h
    exact a_zret C dX1_isPainted_15 rfl rfl (by decide) rfl rfl
set_option maxRecDepth 20000 in
set_option maxHeartbeats 4000000 in
theorem w_X1_reasonAgainstBorder (x1 : Int32) (x2 : Int32)  (V : VT) (r9 : Int32) (h : d_X1_reasonAgainstBorder x1 x2 V = some r9) : AM 3 0 yX1_reasonAgainstBorder (.code yX1_reasonAgainstBorder cX1_reasonAgainstBorder 3 (some .int)) (fun ad => [.ref (ad 1), .int x1, .int x2]) V V (rI r9) := by
  unfold d_X1_reasonAgainstBorder at h
  refine AM.of (by decide +kernel) (fun ad => Nat.le_of_ble_eq_true rfl) (fun {p l e s m args below meth c D cs ad b0} C hT => ?_)
  have C : Ctx p l s m args meth c D cs ad b0 RX1 cX1_reasonAgainstBorder 3 (some .int) := C
  refine a_sub (lv' := [(0, .ref (ad 1)), (1, .int x1), (2, .int x2)]) [0, 1, 2] rfl ?_
  refine a_iload_n (q := 1) C dX1_reasonAgainstBorder_0 rfl rfl ?_
  refine a_iload_n (q := 2) C dX1_reasonAgainstBorder_1 rfl rfl ?_
  refine a_icmp_ne (tgt := 7) C dX1_reasonAgainstBorder_2 (by decide) (fun c1 => ?_) (fun c1 => ?_)
  · have h := it_f c1 h
    refine a_aload_n (q := 0) C dX1_reasonAgainstBorder_7 rfl rfl ?_
    refine a_iload_n (q := 1) C dX1_reasonAgainstBorder_8 rfl rfl ?_
    refine a_iload_n (q := 2) C dX1_reasonAgainstBorder_9 rfl rfl ?_
    obtain ⟨r3, g2, h⟩ := bd_spec h
    refine a_cVi (a := 1) (st := []) C dX1_reasonAgainstBorder_10 cv_RX1_55 (w_X1_areNeighbours x1 x2  V r3 g2) rfl rfl rfl rfl rfl ⟨Nat.le_of_ble_eq_true rfl, Nat.le_of_ble_eq_true rfl, Nat.le_of_ble_eq_true rfl, Nat.le_of_ble_eq_true rfl⟩ (Nat.le_of_ble_eq_true rfl) ?_
    refine a_if_eq (tgt := 19) C dX1_reasonAgainstBorder_13 (by decide) (fun c4 => ?_) (fun c4 => ?_)
    · have h := it_t c4 h
      refine a_aload_n (q := 0) C dX1_reasonAgainstBorder_19 rfl rfl ?_
      refine a_iload_n (q := 1) C dX1_reasonAgainstBorder_20 rfl rfl ?_
      obtain ⟨r6, g5, h⟩ := bd_spec h
      refine a_cVi (a := 1) (st := []) C dX1_reasonAgainstBorder_21 cv_RX1_59 (w_X1_isPainted x1  V r6 g5) rfl rfl rfl rfl rfl ⟨Nat.le_of_ble_eq_true rfl, Nat.le_of_ble_eq_true rfl, Nat.le_of_ble_eq_true rfl, Nat.le_of_ble_eq_true rfl⟩ (Nat.le_of_ble_eq_true rfl) ?_
      refine a_if_eq (tgt := 45) C dX1_reasonAgainstBorder_24 (by decide) (fun c7 => ?_) (fun c7 => ?_)
      · have h := it_t c7 h
        refine a_iconst (v := (0 : Int32)) C dX1_reasonAgainstBorder_45 rfl ?_
        obtain rfl := ret1 h
        exact a_iret C dX1_reasonAgainstBorder_46 rfl (by decide) rfl rfl
      · have h := it_f c7 h
        refine a_aload_n (q := 0) C dX1_reasonAgainstBorder_27 rfl rfl ?_
        refine a_getr (a := 1) (t := 3) C dX1_reasonAgainstBorder_28 fl_RX1_15 rfl rfl ?_
        refine a_iload_n (q := 1) C dX1_reasonAgainstBorder_31 rfl rfl ?_
        obtain ⟨z8, h⟩ := asr_spec h
        refine a_iald (a := 3) (x := (V 3 x1.toNatClampNeg)) C dX1_reasonAgainstBorder_32 rfl (inb_in z8) rfl ?_
        refine a_aload_n (q := 0) C dX1_reasonAgainstBorder_33 rfl rfl ?_
        refine a_getr (a := 1) (t := 3) C dX1_reasonAgainstBorder_34 fl_RX1_15 rfl rfl ?_
        refine a_iload_n (q := 2) C dX1_reasonAgainstBorder_37 rfl rfl ?_
        obtain ⟨z9, h⟩ := asr_spec h
        refine a_iald (a := 3) (x := (V 3 x2.toNatClampNeg)) C dX1_reasonAgainstBorder_38 rfl (inb_in z9) rfl ?_
        refine a_icmp_ne (tgt := 45) C dX1_reasonAgainstBorder_39 (by decide) (fun c10 => ?_) (fun c10 => ?_)
        · have h := it_f c10 h
          refine a_iconst (v := (0 : Int32)) C dX1_reasonAgainstBorder_45 rfl ?_
          obtain rfl := ret1 h
          exact a_iret C dX1_reasonAgainstBorder_46 rfl (by decide) rfl rfl
        · have h := it_t c10 h
          refine a_bipush (v := (7 : Int32)) C dX1_reasonAgainstBorder_42 rfl ?_
          obtain rfl := ret1 h
          exact a_iret C dX1_reasonAgainstBorder_44 rfl (by decide) rfl rfl
    · have h := it_f c4 h
      refine a_bipush (v := (6 : Int32)) C dX1_reasonAgainstBorder_16 rfl ?_
      obtain rfl := ret1 h
      exact a_iret C dX1_reasonAgainstBorder_18 rfl (by decide) rfl rfl
  · have h := it_t c1 h
    refine a_iconst (v := (5 : Int32)) C dX1_reasonAgainstBorder_5 rfl ?_
    obtain rfl := ret1 h
    exact a_iret C dX1_reasonAgainstBorder_6 rfl (by decide) rfl rfl
set_option maxRecDepth 20000 in
set_option maxHeartbeats 4000000 in
theorem w_X1_join (x1 : Int32) (x2 : Int32)  (V : VT) (W9 : VT) (h : d_X1_join x1 x2 V = some W9) : AM 2 0 yX1_join (.code yX1_join cX1_join 3 (none)) (fun ad => [.ref (ad 1), .int x1, .int x2]) V W9 (rV) := by
  unfold d_X1_join at h
  refine AM.of (by decide +kernel) (fun ad => Nat.le_of_ble_eq_true rfl) (fun {p l e s m args below meth c D cs ad b0} C hT => ?_)
  have C : Ctx p l s m args meth c D cs ad b0 RX1 cX1_join 3 (none) := C
  refine a_sub (lv' := [(0, .ref (ad 1)), (1, .int x1), (2, .int x2)]) [0, 1, 2] rfl ?_
  refine a_aload_n (q := 0) C dX1_join_0 rfl rfl ?_
  refine a_getr (a := 1) (t := 6) C dX1_join_1 fl_RX1_24 rfl rfl ?_
  refine a_iload_n (q := 1) C dX1_join_4 rfl rfl ?_
  refine a_dup2 C dX1_join_5 rfl rfl ?_
  obtain ⟨z1, h⟩ := asr_spec h
  refine a_iald (a := 6) (x := (V 6 x1.toNatClampNeg)) C dX1_join_6 rfl (inb_in z1) rfl ?_
  refine a_iconst (v := (1 : Int32)) C dX1_join_7 rfl ?_
  refine a_iload_n (q := 2) C dX1_join_8 rfl rfl ?_
  refine a_ishl C dX1_join_9 ?_
  refine a_ior C dX1_join_10 ?_
  obtain ⟨z2, h⟩ := asr_spec h
  refine a_iast (a := 6) C dX1_join_11 rfl (inb_in z2) ?_
  refine a_aload_n (q := 0) C dX1_join_12 rfl rfl ?_
  refine a_getr (a := 1) (t := 6) C dX1_join_13 fl_RX1_24 rfl rfl ?_
  refine a_iload_n (q := 2) C dX1_join_16 rfl rfl ?_
  refine a_dup2 C dX1_join_17 rfl rfl ?_
  obtain ⟨z3, h⟩ := asr_spec h
  refine a_iald (a := 6) (x := ((up2 V 6 x1.toNatClampNeg ((V 6 x1.toNatClampNeg) ||| ((1 : Int32) <<< (x2 &&& 31)))) 6 x2.toNatClampNeg)) C dX1_join_18 rfl (inb_in z3) rfl ?_
  refine a_iconst (v := (1 : Int32)) C dX1_join_19 rfl ?_
  refine a_iload_n (q := 1) C dX1_join_20 rfl rfl ?_
  refine a_ishl C dX1_join_21 ?_
  refine a_ior C dX1_join_22 ?_
  obtain ⟨z4, h⟩ := asr_spec h
  refine a_iast (a := 6) C dX1_join_23 rfl (inb_in z4) ?_
  obtain rfl := ret1 h
  exact a_vret C dX1_join_24 rfl (by decide) rfl rfl
set_option maxRecDepth 20000 in
set_option maxHeartbeats 4000000 in
theorem w_J6_bitCount_0f7a4 (x0 : Int32)  (V : VT) (r9 : Int32) (h : d_J6_bitCount_0f7a4 x0 V = some r9) : AM 2 0 yJ6_bitCount_0f7a4 (.code yJ6_bitCount_0f7a4 cJ6_bitCount_0f7a4 1 (some .int)) (fun ad => [.int x0]) V V (rI r9) := by
  unfold d_J6_bitCount_0f7a4 at h
  refine AM.of (by decide +kernel) (fun ad => Nat.le_of_ble_eq_true rfl) (fun {p l e s m args below meth c D cs ad b0} C hT => ?_)
  have C : Ctx p l s m args meth c D cs ad b0 RJ6 cJ6_bitCount_0f7a4 1 (some .int) := C
  refine a_sub (lv' := [(0, .int x0)]) [0] rfl ?_
  refine a_iload_n (q := 0) C dJ6_bitCount_0f7a4_0 rfl rfl ?_
  refine a_iload_n (q := 0) C dJ6_bitCount_0f7a4_1 rfl rfl ?_
  refine a_iconst (v := (1 : Int32)) C dJ6_bitCount_0f7a4_2 rfl ?_
  refine a_iushr (v := (x0.toUInt32 >>> ((1 : Int32).toUInt32 &&& Int32.toUInt32 31)).toInt32) C dJ6_bitCount_0f7a4_3 rfl ?_
  refine a_ldcw (v := (1431655765 : Int32)) C dJ6_bitCount_0f7a4_4 ck_RJ6_265 ?_
  refine a_iand C dJ6_bitCount_0f7a4_7 ?_
  refine a_isub C dJ6_bitCount_0f7a4_8 ?_
  refine a_istore_n (lv' := [(0, .int (x0 - ((x0.toUInt32 >>> ((1 : Int32).toUInt32 &&& Int32.toUInt32 31)).toInt32 &&& (1431655765 : Int32))))]) C dJ6_bitCount_0f7a4_9 rfl (by decide) rfl ?_
  refine a_iload_n (q := 0) C dJ6_bitCount_0f7a4_10 rfl rfl ?_
  refine a_ldcw (v := (858993459 : Int32)) C dJ6_bitCount_0f7a4_11 ck_RJ6_266 ?_
  refine a_iand C dJ6_bitCount_0f7a4_14 ?_
  refine a_iload_n (q := 0) C dJ6_bitCount_0f7a4_15 rfl rfl ?_
  refine a_iconst (v := (2 : Int32)) C dJ6_bitCount_0f7a4_16 rfl ?_
  refine a_iushr (v := ((x0 - ((x0.toUInt32 >>> ((1 : Int32).toUInt32 &&& Int32.toUInt32 31)).toInt32 &&& (1431655765 : Int32))).toUInt32 >>> ((2 : Int32).toUInt32 &&& Int32.toUInt32 31)).toInt32) C dJ6_bitCount_0f7a4_17 rfl ?_
  refine a_ldcw (v := (858993459 : Int32)) C dJ6_bitCount_0f7a4_18 ck_RJ6_266 ?_
  refine a_iand C dJ6_bitCount_0f7a4_21 ?_
  refine a_iadd C dJ6_bitCount_0f7a4_22 ?_
  refine a_istore_n (lv' := [(0, .int (((x0 - ((x0.toUInt32 >>> ((1 : Int32).toUInt32 &&& Int32.toUInt32 31)).toInt32 &&& (1431655765 : Int32))) &&& (858993459 : Int32)) + (((x0 - ((x0.toUInt32 >>> ((1 : Int32).toUInt32 &&& Int32.toUInt32 31)).toInt32 &&& (1431655765 : Int32))).toUInt32 >>> ((2 : Int32).toUInt32 &&& Int32.toUInt32 31)).toInt32 &&& (858993459 : Int32))))]) C dJ6_bitCount_0f7a4_23 rfl (by decide) rfl ?_
  refine a_iload_n (q := 0) C dJ6_bitCount_0f7a4_24 rfl rfl ?_
  refine a_iload_n (q := 0) C dJ6_bitCount_0f7a4_25 rfl rfl ?_
  refine a_iconst (v := (4 : Int32)) C dJ6_bitCount_0f7a4_26 rfl ?_
  refine a_iushr (v := ((((x0 - ((x0.toUInt32 >>> ((1 : Int32).toUInt32 &&& Int32.toUInt32 31)).toInt32 &&& (1431655765 : Int32))) &&& (858993459 : Int32)) + (((x0 - ((x0.toUInt32 >>> ((1 : Int32).toUInt32 &&& Int32.toUInt32 31)).toInt32 &&& (1431655765 : Int32))).toUInt32 >>> ((2 : Int32).toUInt32 &&& Int32.toUInt32 31)).toInt32 &&& (858993459 : Int32))).toUInt32 >>> ((4 : Int32).toUInt32 &&& Int32.toUInt32 31)).toInt32) C dJ6_bitCount_0f7a4_27 rfl ?_
  refine a_iadd C dJ6_bitCount_0f7a4_28 ?_
  refine a_ldcw (v := (252645135 : Int32)) C dJ6_bitCount_0f7a4_29 ck_RJ6_267 ?_
  refine a_iand C dJ6_bitCount_0f7a4_32 ?_
  refine a_istore_n (lv' := [(0, .int (((((x0 - ((x0.toUInt32 >>> ((1 : Int32).toUInt32 &&& Int32.toUInt32 31)).toInt32 &&& (1431655765 : Int32))) &&& (858993459 : Int32)) + (((x0 - ((x0.toUInt32 >>> ((1 : Int32).toUInt32 &&& Int32.toUInt32 31)).toInt32 &&& (1431655765 : Int32))).toUInt32 >>> ((2 : Int32).toUInt32 &&& Int32.toUInt32 31)).toInt32 &&& (858993459 : Int32))) + ((((x0 - ((x0.toUInt32 >>> ((1 : Int32).toUInt32 &&& Int32.toUInt32 31)).toInt32 &&& (1431655765 : Int32))) &&& (858993459 : Int32)) + (((x0 - ((x0.toUInt32 >>> ((1 : Int32).toUInt32 &&& Int32.toUInt32 31)).toInt32 &&& (1431655765 : Int32))).toUInt32 >>> ((2 : Int32).toUInt32 &&& Int32.toUInt32 31)).toInt32 &&& (858993459 : Int32))).toUInt32 >>> ((4 : Int32).toUInt32 &&& Int32.toUInt32 31)).toInt32) &&& (252645135 : Int32)))]) C dJ6_bitCount_0f7a4_33 rfl (by decide) rfl ?_
  refine a_iload_n (q := 0) C dJ6_bitCount_0f7a4_34 rfl rfl ?_
  refine a_iload_n (q := 0) C dJ6_bitCount_0f7a4_35 rfl rfl ?_
  refine a_bipush (v := (8 : Int32)) C dJ6_bitCount_0f7a4_36 rfl ?_
  refine a_iushr (v := ((((((x0 - ((x0.toUInt32 >>> ((1 : Int32).toUInt32 &&& Int32.toUInt32 31)).toInt32 &&& (1431655765 : Int32))) &&& (858993459 : Int32)) + (((x0 - ((x0.toUInt32 >>> ((1 : Int32).toUInt32 &&& Int32.toUInt32 31)).toInt32 &&& (1431655765 : Int32))).toUInt32 >>> ((2 : Int32).toUInt32 &&& Int32.toUInt32 31)).toInt32 &&& (858993459 : Int32))) + ((((x0 - ((x0.toUInt32 >>> ((1 : Int32).toUInt32 &&& Int32.toUInt32 31)).toInt32 &&& (1431655765 : Int32))) &&& (858993459 : Int32)) + (((x0 - ((x0.toUInt32 >>> ((1 : Int32).toUInt32 &&& Int32.toUInt32 31)).toInt32 &&& (1431655765 : Int32))).toUInt32 >>> ((2 : Int32).toUInt32 &&& Int32.toUInt32 31)).toInt32 &&& (858993459 : Int32))).toUInt32 >>> ((4 : Int32).toUInt32 &&& Int32.toUInt32 31)).toInt32) &&& (252645135 : Int32)).toUInt32 >>> ((8 : Int32).toUInt32 &&& Int32.toUInt32 31)).toInt32) C dJ6_bitCount_0f7a4_38 rfl ?_
  refine a_iadd C dJ6_bitCount_0f7a4_39 ?_
  refine a_istore_n (lv' := [(0, .int ((((((x0 - ((x0.toUInt32 >>> ((1 : Int32).toUInt32 &&& Int32.toUInt32 31)).toInt32 &&& (1431655765 : Int32))) &&& (858993459 : Int32)) + (((x0 - ((x0.toUInt32 >>> ((1 : Int32).toUInt32 &&& Int32.toUInt32 31)).toInt32 &&& (1431655765 : Int32))).toUInt32 >>> ((2 : Int32).toUInt32 &&& Int32.toUInt32 31)).toInt32 &&& (858993459 : Int32))) + ((((x0 - ((x0.toUInt32 >>> ((1 : Int32).toUInt32 &&& Int32.toUInt32 31)).toInt32 &&& (1431655765 : Int32))) &&& (858993459 : Int32)) + (((x0 - ((x0.toUInt32 >>> ((1 : Int32).toUInt32 &&& Int32.toUInt32 31)).toInt32 &&& (1431655765 : Int32))).toUInt32 >>> ((2 : Int32).toUInt32 &&& Int32.toUInt32 31)).toInt32 &&& (858993459 : Int32))).toUInt32 >>> ((4 : Int32).toUInt32 &&& Int32.toUInt32 31)).toInt32) &&& (252645135 : Int32)) + ((((((x0 - ((x0.toUInt32 >>> ((1 : Int32).toUInt32 &&& Int32.toUInt32 31)).toInt32 &&& (1431655765 : Int32))) &&& (858993459 : Int32)) + (((x0 - ((x0.toUInt32 >>> ((1 : Int32).toUInt32 &&& Int32.toUInt32 31)).toInt32 &&& (1431655765 : Int32))).toUInt32 >>> ((2 : Int32).toUInt32 &&& Int32.toUInt32 31)).toInt32 &&& (858993459 : Int32))) + ((((x0 - ((x0.toUInt32 >>> ((1 : Int32).toUInt32 &&& Int32.toUInt32 31)).toInt32 &&& (1431655765 : Int32))) &&& (858993459 : Int32)) + (((x0 - ((x0.toUInt32 >>> ((1 : Int32).toUInt32 &&& Int32.toUInt32 31)).toInt32 &&& (1431655765 : Int32))).toUInt32 >>> ((2 : Int32).toUInt32 &&& Int32.toUInt32 31)).toInt32 &&& (858993459 : Int32))).toUInt32 >>> ((4 : Int32).toUInt32 &&& Int32.toUInt32 31)).toInt32) &&& (252645135 : Int32)).toUInt32 >>> ((8 : Int32).toUInt32 &&& Int32.toUInt32 31)).toInt32))]) C dJ6_bitCount_0f7a4_40 rfl (by decide) rfl ?_
  refine a_iload_n (q := 0) C dJ6_bitCount_0f7a4_41 rfl rfl ?_
  refine a_iload_n (q := 0) C dJ6_bitCount_0f7a4_42 rfl rfl ?_
  refine a_bipush (v := (16 : Int32)) C dJ6_bitCount_0f7a4_43 rfl ?_
  refine a_iushr (v := (((((((x0 - ((x0.toUInt32 >>> ((1 : Int32).toUInt32 &&& Int32.toUInt32 31)).toInt32 &&& (1431655765 : Int32))) &&& (858993459 : Int32)) + (((x0 - ((x0.toUInt32 >>> ((1 : Int32).toUInt32 &&& Int32.toUInt32 31)).toInt32 &&& (1431655765 : Int32))).toUInt32 >>> ((2 : Int32).toUInt32 &&& Int32.toUInt32 31)).toInt32 &&& (858993459 : Int32))) + ((((x0 - ((x0.toUInt32 >>> ((1 : Int32).toUInt32 &&& Int32.toUInt32 31)).toInt32 &&& (1431655765 : Int32))) &&& (858993459 : Int32)) + (((x0 - ((x0.toUInt32 >>> ((1 : Int32).toUInt32 &&& Int32.toUInt32 31)).toInt32 &&& (1431655765 : Int32))).toUInt32 >>> ((2 : Int32).toUInt32 &&& Int32.toUInt32 31)).toInt32 &&& (858993459 : Int32))).toUInt32 >>> ((4 : Int32).toUInt32 &&& Int32.toUInt32 31)).toInt32) &&& (252645135 : Int32)) + ((((((x0 - ((x0.toUInt32 >>> ((1 : Int32).toUInt32 &&& Int32.toUInt32 31)).toInt32 &&& (1431655765 : Int32))) &&& (858993459 : Int32)) + (((x0 - ((x0.toUInt32 >>> ((1 : Int32).toUInt32 &&& Int32.toUInt32 31)).toInt32 &&& (1431655765 : Int32))).toUInt32 >>> ((2 : Int32).toUInt32 &&& Int32.toUInt32 31)).toInt32 &&& (858993459 : Int32))) + ((((x0 - ((x0.toUInt32 >>> ((1 : Int32).toUInt32 &&& Int32.toUInt32 31)).toInt32 &&& (1431655765 : Int32))) &&& (858993459 : Int32)) + (((x0 - ((x0.toUInt32 >>> ((1 : Int32).toUInt32 &&& Int32.toUInt32 31)).toInt32 &&& (1431655765 : Int32))).toUInt32 >>> ((2 : Int32).toUInt32 &&& Int32.toUInt32 31)).toInt32 &&& (858993459 : Int32))).toUInt32 >>> ((4 : Int32).toUInt32 &&& Int32.toUInt32 31)).toInt32) &&& (252645135 : Int32)).toUInt32 >>> ((8 : Int32).toUInt32 &&& Int32.toUInt32 31)).toInt32).toUInt32 >>> ((16 : Int32).toUInt32 &&& Int32.toUInt32 31)).toInt32) C dJ6_bitCount_0f7a4_45 rfl ?_
  refine a_iadd C dJ6_bitCount_0f7a4_46 ?_
  refine a_istore_n (lv' := [(0, .int (((((((x0 - ((x0.toUInt32 >>> ((1 : Int32).toUInt32 &&& Int32.toUInt32 31)).toInt32 &&& (1431655765 : Int32))) &&& (858993459 : Int32)) + (((x0 - ((x0.toUInt32 >>> ((1 : Int32).toUInt32 &&& Int32.toUInt32 31)).toInt32 &&& (1431655765 : Int32))).toUInt32 >>> ((2 : Int32).toUInt32 &&& Int32.toUInt32 31)).toInt32 &&& (858993459 : Int32))) + ((((x0 - ((x0.toUInt32 >>> ((1 : Int32).toUInt32 &&& Int32.toUInt32 31)).toInt32 &&& (1431655765 : Int32))) &&& (858993459 : Int32)) + (((x0 - ((x0.toUInt32 >>> ((1 : Int32).toUInt32 &&& Int32.toUInt32 31)).toInt32 &&& (1431655765 : Int32))).toUInt32 >>> ((2 : Int32).toUInt32 &&& Int32.toUInt32 31)).toInt32 &&& (858993459 : Int32))).toUInt32 >>> ((4 : Int32).toUInt32 &&& Int32.toUInt32 31)).toInt32) &&& (252645135 : Int32)) + ((((((x0 - ((x0.toUInt32 >>> ((1 : Int32).toUInt32 &&& Int32.toUInt32 31)).toInt32 &&& (1431655765 : Int32))) &&& (858993459 : Int32)) + (((x0 - ((x0.toUInt32 >>> ((1 : Int32).toUInt32 &&& Int32.toUInt32 31)).toInt32 &&& (1431655765 : Int32))).toUInt32 >>> ((2 : Int32).toUInt32 &&& Int32.toUInt32 31)).toInt32 &&& (858993459 : Int32))) + ((((x0 - ((x0.toUInt32 >>> ((1 : Int32).toUInt32 &&& Int32.toUInt32 31)).toInt32 &&& (1431655765 : Int32))) &&& (858993459 : Int32)) + (((x0 - ((x0.toUInt32 >>> ((1 : Int32).toUInt32 &&& Int32.toUInt32 31)).toInt32 &&& (1431655765 : Int32))).toUInt32 >>> ((2 : Int32).toUInt32 &&& Int32.toUInt32 31)).toInt32 &&& (858993459 : Int32))).toUInt32 >>> ((4 : Int32).toUInt32 &&& Int32.toUInt32 31)).toInt32) &&& (252645135 : Int32)).toUInt32 >>> ((8 : Int32).toUInt32 &&& Int32.toUInt32 31)).toInt32) + (((((((x0 - ((x0.toUInt32 >>> ((1 : Int32).toUInt32 &&& Int32.toUInt32 31)).toInt32 &&& (1431655765 : Int32))) &&& (858993459 : Int32)) + (((x0 - ((x0.toUInt32 >>> ((1 : Int32).toUInt32 &&& Int32.toUInt32 31)).toInt32 &&& (1431655765 : Int32))).toUInt32 >>> ((2 : Int32).toUInt32 &&& Int32.toUInt32 31)).toInt32 &&& (858993459 : Int32))) + ((((x0 - ((x0.toUInt32 >>> ((1 : Int32).toUInt32 &&& Int32.toUInt32 31)).toInt32 &&& (1431655765 : Int32))) &&& (858993459 : Int32)) + (((x0 - ((x0.toUInt32 >>> ((1 : Int32).toUInt32 &&& Int32.toUInt32 31)).toInt32 &&& (1431655765 : Int32))).toUInt32 >>> ((2 : Int32).toUInt32 &&& Int32.toUInt32 31)).toInt32 &&& (858993459 : Int32))).toUInt32 >>> ((4 : Int32).toUInt32 &&& Int32.toUInt32 31)).toInt32) &&& (252645135 : Int32)) + ((((((x0 - ((x0.toUInt32 >>> ((1 : Int32).toUInt32 &&& Int32.toUInt32 31)).toInt32 &&& (1431655765 : Int32))) &&& (858993459 : Int32)) + (((x0 - ((x0.toUInt32 >>> ((1 : Int32).toUInt32 &&& Int32.toUInt32 31)).toInt32 &&& (1431655765 : Int32))).toUInt32 >>> ((2 : Int32).toUInt32 &&& Int32.toUInt32 31)).toInt32 &&& (858993459 : Int32))) + ((((x0 - ((x0.toUInt32 >>> ((1 : Int32).toUInt32 &&& Int32.toUInt32 31)).toInt32 &&& (1431655765 : Int32))) &&& (858993459 : Int32)) + (((x0 - ((x0.toUInt32 >>> ((1 : Int32).toUInt32 &&& Int32.toUInt32 31)).toInt32 &&& (1431655765 : Int32))).toUInt32 >>> ((2 : Int32).toUInt32 &&& Int32.toUInt32 31)).toInt32 &&& (858993459 : Int32))).toUInt32 >>> ((4 : Int32).toUInt32 &&& Int32.toUInt32 31)).toInt32) &&& (252645135 : Int32)).toUInt32 >>> ((8 : Int32).toUInt32 &&& Int32.toUInt32 31)).toInt32).toUInt32 >>> ((16 : Int32).toUInt32 &&& Int32.toUInt32 31)).toInt32))]) C dJ6_bitCount_0f7a4_47 rfl (by decide) rfl ?_
  refine a_iload_n (q := 0) C dJ6_bitCount_0f7a4_48 rfl rfl ?_
  refine a_bipush (v := (63 : Int32)) C dJ6_bitCount_0f7a4_49 rfl ?_
  refine a_iand C dJ6_bitCount_0f7a4_51 ?_
  obtain rfl := ret1 h
  exact a_iret C dJ6_bitCount_0f7a4_52 rfl (by decide) rfl rfl
set_option maxRecDepth 20000 in
set_option maxHeartbeats 4000000 in
theorem w_X1_countNeighbours (x1 : Int32)  (V : VT) (r9 : Int32) (h : d_X1_countNeighbours x1 V = some r9) : AM 3 0 yX1_countNeighbours (.code yX1_countNeighbours cX1_countNeighbours 2 (some .int)) (fun ad => [.ref (ad 1), .int x1]) V V (rI r9) := by
  unfold d_X1_countNeighbours at h
  refine AM.of (by decide +kernel) (fun ad => Nat.le_of_ble_eq_true rfl) (fun {p l e s m args below meth c D cs ad b0} C hT => ?_)
  have C : Ctx p l s m args meth c D cs ad b0 RX1 cX1_countNeighbours 2 (some .int) := C
  refine a_sub (lv' := [(0, .ref (ad 1)), (1, .int x1)]) [0, 1] rfl ?_
  refine a_aload_n (q := 0) C dX1_countNeighbours_0 rfl rfl ?_
  refine a_getr (a := 1) (t := 6) C dX1_countNeighbours_1 fl_RX1_24 rfl rfl ?_
  refine a_iload_n (q := 1) C dX1_countNeighbours_4 rfl rfl ?_
  obtain ⟨z1, h⟩ := asr_spec h
  refine a_iald (a := 6) (x := (V 6 x1.toNatClampNeg)) C dX1_countNeighbours_5 rfl (inb_in z1) rfl ?_
  obtain ⟨r3, g2, h⟩ := bd_spec h
  refine a_cSi (st := []) C dX1_countNeighbours_6 cv_RX1_96 (w_J6_bitCount_0f7a4 (V 6 x1.toNatClampNeg)  V r3 g2) rfl rfl rfl ⟨Nat.le_of_ble_eq_true rfl, Nat.le_of_ble_eq_true rfl, Nat.le_of_ble_eq_true rfl, Nat.le_of_ble_eq_true rfl⟩ (Nat.le_of_ble_eq_true rfl) ?_
  obtain rfl := ret1 h
  exact a_iret C dX1_countNeighbours_9 rfl (by decide) rfl rfl
set_option maxRecDepth 20000 in
set_option maxHeartbeats 4000000 in
theorem w_X1_countBorders_4 {p : Program} {l : Launch} {e : Env} {s : State} {m : MethodId} {args : Array Value} {below : List Frame} {meth : Method} {c : Code} {D : va_G} {cs : Nat → ClassId} {ad : Nat → Nat} {b0 : Nat} (C : Ctx p l s m args meth c D cs ad b0 RX1 cX1_countBorders 3 (some .int)) (hT : ∀ x ∈ c.exceptionTable.toList, False)   {V : VT} {r9 : Int32}     :
    ∀ (x1 x2 : Int32) , d_X1_countBorders_4 V x1 x2 = some r9 → AW p l e (rmOf 4 0) s m args below meth c D cs ad b0 (QF below D cs ad b0 V ((rI r9) ad) args s 0) 3 0 V [(0, .ref (ad 1)), (1, .int x1), (2, .int x2)] [] 4 := by
  refine lo2_ind (P := fun x1 x2 => AW p l e (rmOf 4 0) s m args below meth c D cs ad b0 (QF below D cs ad b0 V ((rI r9) ad) args s 0) 3 0 V [(0, .ref (ad 1)), (1, .int x1), (2, .int x2)] [] 4) ?_ FU
  intro k4 hk4 x1 x2 h
  unfold d_X1_countBorders_4b at h
  refine a_iload_n (q := 2) C dX1_countBorders_4 rfl rfl ?_
  refine a_aload_n (q := 0) C dX1_countBorders_5 rfl rfl ?_
  refine a_geti (a := 1) (x := (V 1 8)) C dX1_countBorders_6 fl_RX1_36 rfl rfl rfl ?_
  refine a_icmp_ge (tgt := 26) C dX1_countBorders_9 (by decide) (fun c1 => ?_) (fun c1 => ?_)
  · have h := it_t c1 h
    refine a_iload_n (q := 1) C dX1_countBorders_26 rfl rfl ?_
    refine a_iconst (v := (2 : Int32)) C dX1_countBorders_27 rfl ?_
    refine a_idiv C dX1_countBorders_28 (by decide) ?_
    obtain rfl := ret1 h
    exact a_iret C dX1_countBorders_29 rfl (by decide) rfl rfl
  · have h := it_f c1 h
    refine a_iload_n (q := 1) C dX1_countBorders_12 rfl rfl ?_
    refine a_aload_n (q := 0) C dX1_countBorders_13 rfl rfl ?_
    refine a_iload_n (q := 2) C dX1_countBorders_14 rfl rfl ?_
    obtain ⟨r3, g2, h⟩ := bd_spec h
    refine a_cVi (a := 1) (st := [.int x1]) C dX1_countBorders_15 cv_RX1_113 (w_X1_countNeighbours x2  V r3 g2) rfl rfl rfl rfl rfl ⟨Nat.le_of_ble_eq_true rfl, Nat.le_of_ble_eq_true rfl, Nat.le_of_ble_eq_true rfl, Nat.le_of_ble_eq_true rfl⟩ (Nat.le_of_ble_eq_true rfl) ?_
    refine a_iadd C dX1_countBorders_18 ?_
    refine a_istore_n (lv' := [(1, .int (x1 + r3)), (0, .ref (ad 1)), (2, .int x2)]) C dX1_countBorders_19 rfl (by decide) rfl ?_
    refine a_iinc (q := 2) (v := (x2 + (1 : Int32))) (lv' := [(2, .int (x2 + (1 : Int32))), (1, .int (x1 + r3)), (0, .ref (ad 1))]) C dX1_countBorders_20 rfl rfl (by decide) rfl ?_
    refine a_goto (tgt := 4) C dX1_countBorders_23 (by decide) ?_
    refine a_sub (lv' := [(0, .ref (ad 1)), (1, .int (x1 + r3)), (2, .int (x2 + (1 : Int32)))]) [2, 1, 0] rfl ?_
    exact hk4 (x1 + r3) (x2 + (1 : Int32)) h
set_option maxRecDepth 20000 in
set_option maxHeartbeats 4000000 in
theorem w_X1_countBorders   (V : VT) (r9 : Int32) (h : d_X1_countBorders  V = some r9) : AM 4 0 yX1_countBorders (.code yX1_countBorders cX1_countBorders 3 (some .int)) (fun ad => [.ref (ad 1)]) V V (rI r9) := by
  unfold d_X1_countBorders at h
  refine AM.of (by decide +kernel) (fun ad => Nat.le_of_ble_eq_true rfl) (fun {p l e s m args below meth c D cs ad b0} C hT => ?_)
  have C : Ctx p l s m args meth c D cs ad b0 RX1 cX1_countBorders 3 (some .int) := C
  refine a_sub (lv' := [(0, .ref (ad 1))]) [0] rfl ?_
  refine a_iconst (v := (0 : Int32)) C dX1_countBorders_0 rfl ?_
  refine a_istore_n (lv' := [(1, .int (0 : Int32)), (0, .ref (ad 1))]) C dX1_countBorders_1 rfl (by decide) rfl ?_
  refine a_iconst (v := (0 : Int32)) C dX1_countBorders_2 rfl ?_
  refine a_istore_n (lv' := [(2, .int (0 : Int32)), (1, .int (0 : Int32)), (0, .ref (ad 1))]) C dX1_countBorders_3 rfl (by decide) rfl ?_
  refine a_sub (lv' := [(0, .ref (ad 1)), (1, .int (0 : Int32)), (2, .int (0 : Int32))]) [2, 1, 0] rfl ?_
  exact w_X1_countBorders_4 C hT (0 : Int32) (0 : Int32) h
set_option maxRecDepth 20000 in
set_option maxHeartbeats 4000000 in
theorem w_X4_border (x1 : Int32) (x2 : Int32)  (V : VT) (o9 : Int32 ⊕ String) (W9 : VT) (h : d_X4_border x1 x2 V = some (o9, W9)) : AM 7 3 yX4_border (.code yX4_border cX4_border 3 (some .int)) (fun ad => [.ref (ad 0), .int x1, .int x2]) V W9 (rX o9) := by
  unfold d_X4_border at h
  refine AM.of (by decide +kernel) (fun ad => Nat.le_of_ble_eq_true rfl) (fun {p l e s m args below meth c D cs ad b0} C hT => ?_)
  have C : Ctx p l s m args meth c D cs ad b0 RX4 cX4_border 3 (some .int) := C
  refine a_sub (lv' := [(0, .ref (ad 0)), (1, .int x1), (2, .int x2)]) [0, 1, 2] rfl ?_
  refine a_aload_n (q := 0) C dX4_border_0 rfl rfl ?_
  refine a_iload_n (q := 1) C dX4_border_1 rfl rfl ?_
  obtain ⟨o2, V3, g1, n4, t5⟩ := bx_spec h
  refine a_cVxv (a := 0) (st := []) (k' := 1) C dX4_border_2 cv_RX4_87 (w_X4_stopIfNoCountry x1  V o2 V3 g1) rfl rfl rfl rfl rfl ⟨Nat.le_of_ble_eq_true rfl, Nat.le_of_ble_eq_true rfl, Nat.le_of_ble_eq_true rfl, Nat.le_of_ble_eq_true rfl⟩ (Nat.le_of_ble_eq_true rfl) (fun r6 e9 => ?_) (fun E9 e9 => ?_)
  · have h := n4 r6 e9
    refine a_aload_n (q := 0) C dX4_border_5 rfl rfl ?_
    refine a_iload_n (q := 2) C dX4_border_6 rfl rfl ?_
    obtain ⟨o8, V9, g7, n10, t11⟩ := bx_spec h
    refine a_cVxv (a := 0) (st := []) (k' := 1) C dX4_border_7 cv_RX4_87 (w_X4_stopIfNoCountry x2  V3 o8 V9 g7) rfl rfl rfl rfl rfl ⟨Nat.le_of_ble_eq_true rfl, Nat.le_of_ble_eq_true rfl, Nat.le_of_ble_eq_true rfl, Nat.le_of_ble_eq_true rfl⟩ (Nat.le_of_ble_eq_true rfl) (fun r12 e9 => ?_) (fun E9 e9 => ?_)
    · have h := n10 r12 e9
      refine a_aload_n (q := 0) C dX4_border_10 rfl rfl ?_
      refine a_aload_n (q := 0) C dX4_border_11 rfl rfl ?_
      refine a_getr (a := 0) (t := 1) C dX4_border_12 fl_RX4_10 rfl rfl ?_
      refine a_iload_n (q := 1) C dX4_border_15 rfl rfl ?_
      refine a_iload_n (q := 2) C dX4_border_16 rfl rfl ?_
      obtain ⟨r14, g13, h⟩ := bd_spec h
      refine a_cVi (a := 1) (st := [.ref (ad 0)]) C dX4_border_17 cv_RX4_91 (w_X1_reasonAgainstBorder x1 x2  V9 r14 g13) rfl rfl rfl rfl rfl ⟨Nat.le_of_ble_eq_true rfl, Nat.le_of_ble_eq_true rfl, Nat.le_of_ble_eq_true rfl, Nat.le_of_ble_eq_true rfl⟩ (Nat.le_of_ble_eq_true rfl) ?_
      refine a_iload_n (q := 1) C dX4_border_20 rfl rfl ?_
      refine a_iload_n (q := 2) C dX4_border_21 rfl rfl ?_
      obtain ⟨o16, V17, g15, n18, t19⟩ := bx_spec h
      refine a_cVxv (a := 0) (st := []) (k' := 1) C dX4_border_22 cv_RX4_75 (w_X4_stopIfRefused r14 x1 x2  V9 o16 V17 g15) rfl rfl rfl rfl rfl ⟨Nat.le_of_ble_eq_true rfl, Nat.le_of_ble_eq_true rfl, Nat.le_of_ble_eq_true rfl, Nat.le_of_ble_eq_true rfl⟩ (Nat.le_of_ble_eq_true rfl) (fun r20 e9 => ?_) (fun E9 e9 => ?_)
      · have h := n18 r20 e9
        refine a_aload_n (q := 0) C dX4_border_25 rfl rfl ?_
        refine a_getr (a := 0) (t := 28) C dX4_border_26 fl_RX4_25 rfl rfl ?_
        refine a_aload_n (q := 0) C dX4_border_29 rfl rfl ?_
        refine a_getr (a := 0) (t := 1) C dX4_border_30 fl_RX4_10 rfl rfl ?_
        obtain ⟨V22, g21, h⟩ := bd_spec h
        refine a_cVv (a := 28) (st := []) C dX4_border_33 cv_RX4_79 (w_X3_keep 1 rfl V17 V22 g21) rfl rfl rfl rfl rfl ⟨Nat.le_of_ble_eq_true rfl, Nat.le_of_ble_eq_true rfl, Nat.le_of_ble_eq_true rfl, Nat.le_of_ble_eq_true rfl⟩ (Nat.le_of_ble_eq_true rfl) ?_
        refine a_aload_n (q := 0) C dX4_border_36 rfl rfl ?_
        refine a_getr (a := 0) (t := 1) C dX4_border_37 fl_RX4_10 rfl rfl ?_
        refine a_iload_n (q := 1) C dX4_border_40 rfl rfl ?_
        refine a_iload_n (q := 2) C dX4_border_41 rfl rfl ?_
        obtain ⟨V24, g23, h⟩ := bd_spec h
        refine a_cVv (a := 1) (st := []) C dX4_border_42 cv_RX4_95 (w_X1_join x1 x2  V22 V24 g23) rfl rfl rfl rfl rfl ⟨Nat.le_of_ble_eq_true rfl, Nat.le_of_ble_eq_true rfl, Nat.le_of_ble_eq_true rfl, Nat.le_of_ble_eq_true rfl⟩ (Nat.le_of_ble_eq_true rfl) ?_
        refine a_aload_n (q := 0) C dX4_border_45 rfl rfl ?_
        refine a_getr (a := 0) (t := 1) C dX4_border_46 fl_RX4_10 rfl rfl ?_
        obtain ⟨r26, g25, h⟩ := bd_spec h
        refine a_cVi (a := 1) (st := []) C dX4_border_49 cv_RX4_99 (w_X1_countBorders   V24 r26 g25) rfl rfl rfl rfl rfl ⟨Nat.le_of_ble_eq_true rfl, Nat.le_of_ble_eq_true rfl, Nat.le_of_ble_eq_true rfl, Nat.le_of_ble_eq_true rfl⟩ (Nat.le_of_ble_eq_true rfl) ?_
        obtain ⟨rfl, rfl⟩ := ret2 h
        exact a_iret C dX4_border_52 rfl (by decide) rfl rfl
      · obtain ⟨rfl, rfl⟩ := Prod.mk.inj (t19 E9 e9)
        exact a_xout C hT (by decide) rfl rfl
    · obtain ⟨rfl, rfl⟩ := Prod.mk.inj (t11 E9 e9)
      exact a_xout C hT (by decide) rfl rfl
  · obtain ⟨rfl, rfl⟩ := Prod.mk.inj (t5 E9 e9)
    exact a_xout C hT (by decide) rfl rfl
set_option maxRecDepth 20000 in
set_option maxHeartbeats 4000000 in
theorem w_X1_reasonAgainstErasing (x1 : Int32) (x2 : Int32)  (V : VT) (r9 : Int32) (h : d_X1_reasonAgainstErasing x1 x2 V = some r9) : AM 3 0 yX1_reasonAgainstErasing (.code yX1_reasonAgainstErasing cX1_reasonAgainstErasing 3 (some .int)) (fun ad => [.ref (ad 1), .int x1, .int x2]) V V (rI r9) := by
  unfold d_X1_reasonAgainstErasing at h
  refine AM.of (by decide +kernel) (fun ad => Nat.le_of_ble_eq_true rfl) (fun {p l e s m args below meth c D cs ad b0} C hT => ?_)
  have C : Ctx p l s m args meth c D cs ad b0 RX1 cX1_reasonAgainstErasing 3 (some .int) := C
  refine a_sub (lv' := [(0, .ref (ad 1)), (1, .int x1), (2, .int x2)]) [0, 1, 2] rfl ?_
  refine a_iload_n (q := 1) C dX1_reasonAgainstErasing_0 rfl rfl ?_
  refine a_iload_n (q := 2) C dX1_reasonAgainstErasing_1 rfl rfl ?_
  refine a_icmp_ne (tgt := 7) C dX1_reasonAgainstErasing_2 (by decide) (fun c1 => ?_) (fun c1 => ?_)
  · have h := it_f c1 h
    refine a_aload_n (q := 0) C dX1_reasonAgainstErasing_7 rfl rfl ?_
    refine a_iload_n (q := 1) C dX1_reasonAgainstErasing_8 rfl rfl ?_
    refine a_iload_n (q := 2) C dX1_reasonAgainstErasing_9 rfl rfl ?_
    obtain ⟨r3, g2, h⟩ := bd_spec h
    refine a_cVi (a := 1) (st := []) C dX1_reasonAgainstErasing_10 cv_RX1_55 (w_X1_areNeighbours x1 x2  V r3 g2) rfl rfl rfl rfl rfl ⟨Nat.le_of_ble_eq_true rfl, Nat.le_of_ble_eq_true rfl, Nat.le_of_ble_eq_true rfl, Nat.le_of_ble_eq_true rfl⟩ (Nat.le_of_ble_eq_true rfl) ?_
    refine a_if_eq (tgt := 20) C dX1_reasonAgainstErasing_13 (by decide) (fun c4 => ?_) (fun c4 => ?_)
    · have h := it_t c4 h
      refine a_bipush (v := (6 : Int32)) C dX1_reasonAgainstErasing_20 rfl ?_
      obtain rfl := ret1 h
      exact a_iret C dX1_reasonAgainstErasing_22 rfl (by decide) rfl rfl
    · have h := it_f c4 h
      refine a_iconst (v := (0 : Int32)) C dX1_reasonAgainstErasing_16 rfl ?_
      refine a_goto (tgt := 22) C dX1_reasonAgainstErasing_17 (by decide) ?_
      obtain rfl := ret1 h
      exact a_iret C dX1_reasonAgainstErasing_22 rfl (by decide) rfl rfl
  · have h := it_t c1 h
    refine a_iconst (v := (5 : Int32)) C dX1_reasonAgainstErasing_5 rfl ?_
    obtain rfl := ret1 h
    exact a_iret C dX1_reasonAgainstErasing_6 rfl (by decide) rfl rfl
set_option maxRecDepth 20000 in
set_option maxHeartbeats 4000000 in
theorem w_X1_part (x1 : Int32) (x2 : Int32)  (V : VT) (W9 : VT) (h : d_X1_part x1 x2 V = some W9) : AM 2 0 yX1_part (.code yX1_part cX1_part 3 (none)) (fun ad => [.ref (ad 1), .int x1, .int x2]) V W9 (rV) := by
  unfold d_X1_part at h
  refine AM.of (by decide +kernel) (fun ad => Nat.le_of_ble_eq_true rfl) (fun {p l e s m args below meth c D cs ad b0} C hT => ?_)
  have C : Ctx p l s m args meth c D cs ad b0 RX1 cX1_part 3 (none) := C
  refine a_sub (lv' := [(0, .ref (ad 1)), (1, .int x1), (2, .int x2)]) [0, 1, 2] rfl ?_
  refine a_aload_n (q := 0) C dX1_part_0 rfl rfl ?_
  refine a_getr (a := 1) (t := 6) C dX1_part_1 fl_RX1_24 rfl rfl ?_
  refine a_iload_n (q := 1) C dX1_part_4 rfl rfl ?_
  refine a_dup2 C dX1_part_5 rfl rfl ?_
  obtain ⟨z1, h⟩ := asr_spec h
  refine a_iald (a := 6) (x := (V 6 x1.toNatClampNeg)) C dX1_part_6 rfl (inb_in z1) rfl ?_
  refine a_iconst (v := (1 : Int32)) C dX1_part_7 rfl ?_
  refine a_iload_n (q := 2) C dX1_part_8 rfl rfl ?_
  refine a_ishl C dX1_part_9 ?_
  refine a_iconst (v := (-1 : Int32)) C dX1_part_10 rfl ?_
  refine a_ixor C dX1_part_11 ?_
  refine a_iand C dX1_part_12 ?_
  obtain ⟨z2, h⟩ := asr_spec h
  refine a_iast (a := 6) C dX1_part_13 rfl (inb_in z2) ?_
  refine a_aload_n (q := 0) C dX1_part_14 rfl rfl ?_
  refine a_getr (a := 1) (t := 6) C dX1_part_15 fl_RX1_24 rfl rfl ?_
  refine a_iload_n (q := 2) C dX1_part_18 rfl rfl ?_
  refine a_dup2 C dX1_part_19 rfl rfl ?_
  obtain ⟨z3, h⟩ := asr_spec h
  refine a_iald (a := 6) (x := ((up2 V 6 x1.toNatClampNeg ((V 6 x1.toNatClampNeg) &&& (((1 : Int32) <<< (x2 &&& 31)) ^^^ (-1 : Int32)))) 6 x2.toNatClampNeg)) C dX1_part_20 rfl (inb_in z3) rfl ?_
  refine a_iconst (v := (1 : Int32)) C dX1_part_21 rfl ?_
  refine a_iload_n (q := 1) C dX1_part_22 rfl rfl ?_
  refine a_ishl C dX1_part_23 ?_
  refine a_iconst (v := (-1 : Int32)) C dX1_part_24 rfl ?_
  refine a_ixor C dX1_part_25 ?_
  refine a_iand C dX1_part_26 ?_
  obtain ⟨z4, h⟩ := asr_spec h
  refine a_iast (a := 6) C dX1_part_27 rfl (inb_in z4) ?_
  obtain rfl := ret1 h
  exact a_vret C dX1_part_28 rfl (by decide) rfl rfl
set_option maxRecDepth 20000 in
set_option maxHeartbeats 4000000 in
theorem w_X4_erase (x1 : Int32) (x2 : Int32)  (V : VT) (o9 : Int32 ⊕ String) (W9 : VT) (h : d_X4_erase x1 x2 V = some (o9, W9)) : AM 7 3 yX4_erase (.code yX4_erase cX4_erase 3 (some .int)) (fun ad => [.ref (ad 0), .int x1, .int x2]) V W9 (rX o9) := by
  unfold d_X4_erase at h
  refine AM.of (by decide +kernel) (fun ad => Nat.le_of_ble_eq_true rfl) (fun {p l e s m args below meth c D cs ad b0} C hT => ?_)
  have C : Ctx p l s m args meth c D cs ad b0 RX4 cX4_erase 3 (some .int) := C
  refine a_sub (lv' := [(0, .ref (ad 0)), (1, .int x1), (2, .int x2)]) [0, 1, 2] rfl ?_
  refine a_aload_n (q := 0) C dX4_erase_0 rfl rfl ?_
  refine a_iload_n (q := 1) C dX4_erase_1 rfl rfl ?_
  obtain ⟨o2, V3, g1, n4, t5⟩ := bx_spec h
  refine a_cVxv (a := 0) (st := []) (k' := 1) C dX4_erase_2 cv_RX4_87 (w_X4_stopIfNoCountry x1  V o2 V3 g1) rfl rfl rfl rfl rfl ⟨Nat.le_of_ble_eq_true rfl, Nat.le_of_ble_eq_true rfl, Nat.le_of_ble_eq_true rfl, Nat.le_of_ble_eq_true rfl⟩ (Nat.le_of_ble_eq_true rfl) (fun r6 e9 => ?_) (fun E9 e9 => ?_)
  · have h := n4 r6 e9
    refine a_aload_n (q := 0) C dX4_erase_5 rfl rfl ?_
    refine a_iload_n (q := 2) C dX4_erase_6 rfl rfl ?_
    obtain ⟨o8, V9, g7, n10, t11⟩ := bx_spec h
    refine a_cVxv (a := 0) (st := []) (k' := 1) C dX4_erase_7 cv_RX4_87 (w_X4_stopIfNoCountry x2  V3 o8 V9 g7) rfl rfl rfl rfl rfl ⟨Nat.le_of_ble_eq_true rfl, Nat.le_of_ble_eq_true rfl, Nat.le_of_ble_eq_true rfl, Nat.le_of_ble_eq_true rfl⟩ (Nat.le_of_ble_eq_true rfl) (fun r12 e9 => ?_) (fun E9 e9 => ?_)
    · have h := n10 r12 e9
      refine a_aload_n (q := 0) C dX4_erase_10 rfl rfl ?_
      refine a_aload_n (q := 0) C dX4_erase_11 rfl rfl ?_
      refine a_getr (a := 0) (t := 1) C dX4_erase_12 fl_RX4_10 rfl rfl ?_
      refine a_iload_n (q := 1) C dX4_erase_15 rfl rfl ?_
      refine a_iload_n (q := 2) C dX4_erase_16 rfl rfl ?_
      obtain ⟨r14, g13, h⟩ := bd_spec h
      refine a_cVi (a := 1) (st := [.ref (ad 0)]) C dX4_erase_17 cv_RX4_102 (w_X1_reasonAgainstErasing x1 x2  V9 r14 g13) rfl rfl rfl rfl rfl ⟨Nat.le_of_ble_eq_true rfl, Nat.le_of_ble_eq_true rfl, Nat.le_of_ble_eq_true rfl, Nat.le_of_ble_eq_true rfl⟩ (Nat.le_of_ble_eq_true rfl) ?_
      refine a_iload_n (q := 1) C dX4_erase_20 rfl rfl ?_
      refine a_iload_n (q := 2) C dX4_erase_21 rfl rfl ?_
      obtain ⟨o16, V17, g15, n18, t19⟩ := bx_spec h
      refine a_cVxv (a := 0) (st := []) (k' := 1) C dX4_erase_22 cv_RX4_75 (w_X4_stopIfRefused r14 x1 x2  V9 o16 V17 g15) rfl rfl rfl rfl rfl ⟨Nat.le_of_ble_eq_true rfl, Nat.le_of_ble_eq_true rfl, Nat.le_of_ble_eq_true rfl, Nat.le_of_ble_eq_true rfl⟩ (Nat.le_of_ble_eq_true rfl) (fun r20 e9 => ?_) (fun E9 e9 => ?_)
      · have h := n18 r20 e9
        refine a_aload_n (q := 0) C dX4_erase_25 rfl rfl ?_
        refine a_getr (a := 0) (t := 28) C dX4_erase_26 fl_RX4_25 rfl rfl ?_
        refine a_aload_n (q := 0) C dX4_erase_29 rfl rfl ?_
        refine a_getr (a := 0) (t := 1) C dX4_erase_30 fl_RX4_10 rfl rfl ?_
        obtain ⟨V22, g21, h⟩ := bd_spec h
        refine a_cVv (a := 28) (st := []) C dX4_erase_33 cv_RX4_79 (w_X3_keep 1 rfl V17 V22 g21) rfl rfl rfl rfl rfl ⟨Nat.le_of_ble_eq_true rfl, Nat.le_of_ble_eq_true rfl, Nat.le_of_ble_eq_true rfl, Nat.le_of_ble_eq_true rfl⟩ (Nat.le_of_ble_eq_true rfl) ?_
        refine a_aload_n (q := 0) C dX4_erase_36 rfl rfl ?_
        refine a_getr (a := 0) (t := 1) C dX4_erase_37 fl_RX4_10 rfl rfl ?_
        refine a_iload_n (q := 1) C dX4_erase_40 rfl rfl ?_
        refine a_iload_n (q := 2) C dX4_erase_41 rfl rfl ?_
        obtain ⟨V24, g23, h⟩ := bd_spec h
        refine a_cVv (a := 1) (st := []) C dX4_erase_42 cv_RX4_105 (w_X1_part x1 x2  V22 V24 g23) rfl rfl rfl rfl rfl ⟨Nat.le_of_ble_eq_true rfl, Nat.le_of_ble_eq_true rfl, Nat.le_of_ble_eq_true rfl, Nat.le_of_ble_eq_true rfl⟩ (Nat.le_of_ble_eq_true rfl) ?_
        refine a_aload_n (q := 0) C dX4_erase_45 rfl rfl ?_
        refine a_getr (a := 0) (t := 1) C dX4_erase_46 fl_RX4_10 rfl rfl ?_
        obtain ⟨r26, g25, h⟩ := bd_spec h
        refine a_cVi (a := 1) (st := []) C dX4_erase_49 cv_RX4_99 (w_X1_countBorders   V24 r26 g25) rfl rfl rfl rfl rfl ⟨Nat.le_of_ble_eq_true rfl, Nat.le_of_ble_eq_true rfl, Nat.le_of_ble_eq_true rfl, Nat.le_of_ble_eq_true rfl⟩ (Nat.le_of_ble_eq_true rfl) ?_
        obtain ⟨rfl, rfl⟩ := ret2 h
        exact a_iret C dX4_erase_52 rfl (by decide) rfl rfl
      · obtain ⟨rfl, rfl⟩ := Prod.mk.inj (t19 E9 e9)
        exact a_xout C hT (by decide) rfl rfl
    · obtain ⟨rfl, rfl⟩ := Prod.mk.inj (t11 E9 e9)
      exact a_xout C hT (by decide) rfl rfl
  · obtain ⟨rfl, rfl⟩ := Prod.mk.inj (t5 E9 e9)
    exact a_xout C hT (by decide) rfl rfl
set_option maxRecDepth 20000 in
set_option maxHeartbeats 4000000 in
theorem w_X4_hasBorder (x1 : Int32) (x2 : Int32)  (V : VT) (o9 : Int32 ⊕ String) (W9 : VT) (h : d_X4_hasBorder x1 x2 V = some (o9, W9)) : AM 7 2 yX4_hasBorder (.code yX4_hasBorder cX4_hasBorder 3 (some .boolean)) (fun ad => [.ref (ad 0), .int x1, .int x2]) V W9 (rX o9) := by
  unfold d_X4_hasBorder at h
  refine AM.of (by decide +kernel) (fun ad => Nat.le_of_ble_eq_true rfl) (fun {p l e s m args below meth c D cs ad b0} C hT => ?_)
  have C : Ctx p l s m args meth c D cs ad b0 RX4 cX4_hasBorder 3 (some .boolean) := C
  refine a_sub (lv' := [(0, .ref (ad 0)), (1, .int x1), (2, .int x2)]) [0, 1, 2] rfl ?_
  refine a_aload_n (q := 0) C dX4_hasBorder_0 rfl rfl ?_
  refine a_iload_n (q := 1) C dX4_hasBorder_1 rfl rfl ?_
  obtain ⟨o2, V3, g1, n4, t5⟩ := bx_spec h
  refine a_cVxv (a := 0) (st := []) (k' := 1) C dX4_hasBorder_2 cv_RX4_87 (w_X4_stopIfNoCountry x1  V o2 V3 g1) rfl rfl rfl rfl rfl ⟨Nat.le_of_ble_eq_true rfl, Nat.le_of_ble_eq_true rfl, Nat.le_of_ble_eq_true rfl, Nat.le_of_ble_eq_true rfl⟩ (Nat.le_of_ble_eq_true rfl) (fun r6 e9 => ?_) (fun E9 e9 => ?_)
  · have h := n4 r6 e9
    refine a_aload_n (q := 0) C dX4_hasBorder_5 rfl rfl ?_
    refine a_iload_n (q := 2) C dX4_hasBorder_6 rfl rfl ?_
    obtain ⟨o8, V9, g7, n10, t11⟩ := bx_spec h
    refine a_cVxv (a := 0) (st := []) (k' := 1) C dX4_hasBorder_7 cv_RX4_87 (w_X4_stopIfNoCountry x2  V3 o8 V9 g7) rfl rfl rfl rfl rfl ⟨Nat.le_of_ble_eq_true rfl, Nat.le_of_ble_eq_true rfl, Nat.le_of_ble_eq_true rfl, Nat.le_of_ble_eq_true rfl⟩ (Nat.le_of_ble_eq_true rfl) (fun r12 e9 => ?_) (fun E9 e9 => ?_)
    · have h := n10 r12 e9
      refine a_aload_n (q := 0) C dX4_hasBorder_10 rfl rfl ?_
      refine a_getr (a := 0) (t := 1) C dX4_hasBorder_11 fl_RX4_10 rfl rfl ?_
      refine a_iload_n (q := 1) C dX4_hasBorder_14 rfl rfl ?_
      refine a_iload_n (q := 2) C dX4_hasBorder_15 rfl rfl ?_
      obtain ⟨r14, g13, h⟩ := bd_spec h
      refine a_cVi (a := 1) (st := []) C dX4_hasBorder_16 cv_RX4_108 (w_X1_areNeighbours x1 x2  V9 r14 g13) rfl rfl rfl rfl rfl ⟨Nat.le_of_ble_eq_true rfl, Nat.le_of_ble_eq_true rfl, Nat.le_of_ble_eq_true rfl, Nat.le_of_ble_eq_true rfl⟩ (Nat.le_of_ble_eq_true rfl) ?_
      obtain ⟨z15, h⟩ := asr_spec h
      obtain ⟨rfl, rfl⟩ := ret2 h
      exact a_zret C dX4_hasBorder_19 rfl (zok_n z15) (by decide) rfl rfl
    · obtain ⟨rfl, rfl⟩ := Prod.mk.inj (t11 E9 e9)
      exact a_xout C hT (by decide) rfl rfl
  · obtain ⟨rfl, rfl⟩ := Prod.mk.inj (t5 E9 e9)
    exact a_xout C hT (by decide) rfl rfl
set_option maxRecDepth 20000 in
set_option maxHeartbeats 4000000 in
theorem w_X1_huesAround_4 {p : Program} {l : Launch} {e : Env} {s : State} {m : MethodId} {args : Array Value} {below : List Frame} {meth : Method} {c : Code} {D : va_G} {cs : Nat → ClassId} {ad : Nat → Nat} {b0 : Nat} (C : Ctx p l s m args meth c D cs ad b0 RX1 cX1_huesAround 4 (some .int)) (hT : ∀ x ∈ c.exceptionTable.toList, False)   {V : VT} {r9 : Int32}     :
    ∀ (x1 x2 x3 : Int32) , d_X1_huesAround_4 V x1 x2 x3 = some r9 → AW p l e (rmOf 2 0) s m args below meth c D cs ad b0 (QF below D cs ad b0 V ((rI r9) ad) args s 0) 4 0 V [(0, .ref (ad 1)), (1, .int x1), (2, .int x2), (3, .int x3)] [] 4 := by
  refine lo3_ind (P := fun x1 x2 x3 => AW p l e (rmOf 2 0) s m args below meth c D cs ad b0 (QF below D cs ad b0 V ((rI r9) ad) args s 0) 4 0 V [(0, .ref (ad 1)), (1, .int x1), (2, .int x2), (3, .int x3)] [] 4) ?_ FU
  intro k4 hk4 x1 x2 x3 h
  unfold d_X1_huesAround_4b at h
  refine a_iload_n (q := 3) C dX1_huesAround_4 rfl rfl ?_
  refine a_aload_n (q := 0) C dX1_huesAround_5 rfl rfl ?_
  refine a_geti (a := 1) (x := (V 1 8)) C dX1_huesAround_6 fl_RX1_36 rfl rfl rfl ?_
  refine a_icmp_ge (tgt := 52) C dX1_huesAround_9 (by decide) (fun c1 => ?_) (fun c1 => ?_)
  · have h := it_t c1 h
    refine a_iload_n (q := 2) C dX1_huesAround_52 rfl rfl ?_
    obtain rfl := ret1 h
    exact a_iret C dX1_huesAround_53 rfl (by decide) rfl rfl
  · have h := it_f c1 h
    refine a_aload_n (q := 0) C dX1_huesAround_12 rfl rfl ?_
    refine a_getr (a := 1) (t := 6) C dX1_huesAround_13 fl_RX1_24 rfl rfl ?_
    refine a_iload_n (q := 1) C dX1_huesAround_16 rfl rfl ?_
    obtain ⟨z2, h⟩ := asr_spec h
    refine a_iald (a := 6) (x := (V 6 x1.toNatClampNeg)) C dX1_huesAround_17 rfl (inb_in z2) rfl ?_
    refine a_iload_n (q := 3) C dX1_huesAround_18 rfl rfl ?_
    refine a_ishr C dX1_huesAround_19 ?_
    refine a_iconst (v := (1 : Int32)) C dX1_huesAround_20 rfl ?_
    refine a_iand C dX1_huesAround_21 ?_
    refine a_if_eq (tgt := 46) C dX1_huesAround_22 (by decide) (fun c3 => ?_) (fun c3 => ?_)
    · have h := it_t c3 h
      refine a_iinc (q := 3) (v := (x3 + (1 : Int32))) (lv' := [(3, .int (x3 + (1 : Int32))), (0, .ref (ad 1)), (1, .int x1), (2, .int x2)]) C dX1_huesAround_46 rfl rfl (by decide) rfl ?_
      refine a_goto (tgt := 4) C dX1_huesAround_49 (by decide) ?_
      refine a_sub (lv' := [(0, .ref (ad 1)), (1, .int x1), (2, .int x2), (3, .int (x3 + (1 : Int32)))]) [1, 2, 3, 0] rfl ?_
      exact hk4 x1 x2 (x3 + (1 : Int32)) h
    · have h := it_f c3 h
      refine a_aload_n (q := 0) C dX1_huesAround_25 rfl rfl ?_
      refine a_getr (a := 1) (t := 3) C dX1_huesAround_26 fl_RX1_15 rfl rfl ?_
      refine a_iload_n (q := 3) C dX1_huesAround_29 rfl rfl ?_
      obtain ⟨z4, h⟩ := asr_spec h
      refine a_iald (a := 3) (x := (V 3 x3.toNatClampNeg)) C dX1_huesAround_30 rfl (inb_in z4) rfl ?_
      refine a_iconst (v := (-1 : Int32)) C dX1_huesAround_31 rfl ?_
      refine a_icmp_eq (tgt := 46) C dX1_huesAround_32 (by decide) (fun c5 => ?_) (fun c5 => ?_)
      · have h := it_t c5 h
        refine a_iinc (q := 3) (v := (x3 + (1 : Int32))) (lv' := [(3, .int (x3 + (1 : Int32))), (0, .ref (ad 1)), (1, .int x1), (2, .int x2)]) C dX1_huesAround_46 rfl rfl (by decide) rfl ?_
        refine a_goto (tgt := 4) C dX1_huesAround_49 (by decide) ?_
        refine a_sub (lv' := [(0, .ref (ad 1)), (1, .int x1), (2, .int x2), (3, .int (x3 + (1 : Int32)))]) [1, 2, 3, 0] rfl ?_
        exact hk4 x1 x2 (x3 + (1 : Int32)) h
      · have h := it_f c5 h
        refine a_iload_n (q := 2) C dX1_huesAround_35 rfl rfl ?_
        refine a_iconst (v := (1 : Int32)) C dX1_huesAround_36 rfl ?_
        refine a_aload_n (q := 0) C dX1_huesAround_37 rfl rfl ?_
        refine a_getr (a := 1) (t := 3) C dX1_huesAround_38 fl_RX1_15 rfl rfl ?_
        refine a_iload_n (q := 3) C dX1_huesAround_41 rfl rfl ?_
        obtain ⟨z6, h⟩ := asr_spec h
        refine a_iald (a := 3) (x := (V 3 x3.toNatClampNeg)) C dX1_huesAround_42 rfl (inb_in z6) rfl ?_
        refine a_ishl C dX1_huesAround_43 ?_
        refine a_ior C dX1_huesAround_44 ?_
        refine a_istore_n (lv' := [(2, .int (x2 ||| ((1 : Int32) <<< ((V 3 x3.toNatClampNeg) &&& 31)))), (0, .ref (ad 1)), (1, .int x1), (3, .int x3)]) C dX1_huesAround_45 rfl (by decide) rfl ?_
        refine a_iinc (q := 3) (v := (x3 + (1 : Int32))) (lv' := [(3, .int (x3 + (1 : Int32))), (2, .int (x2 ||| ((1 : Int32) <<< ((V 3 x3.toNatClampNeg) &&& 31)))), (0, .ref (ad 1)), (1, .int x1)]) C dX1_huesAround_46 rfl rfl (by decide) rfl ?_
        refine a_goto (tgt := 4) C dX1_huesAround_49 (by decide) ?_
        refine a_sub (lv' := [(0, .ref (ad 1)), (1, .int x1), (2, .int (x2 ||| ((1 : Int32) <<< ((V 3 x3.toNatClampNeg) &&& 31)))), (3, .int (x3 + (1 : Int32)))]) [2, 3, 1, 0] rfl ?_
        exact hk4 x1 (x2 ||| ((1 : Int32) <<< ((V 3 x3.toNatClampNeg) &&& 31))) (x3 + (1 : Int32)) h
set_option maxRecDepth 20000 in
set_option maxHeartbeats 4000000 in
theorem w_X1_huesAround (x1 : Int32)  (V : VT) (r9 : Int32) (h : d_X1_huesAround x1 V = some r9) : AM 2 0 yX1_huesAround (.code yX1_huesAround cX1_huesAround 4 (some .int)) (fun ad => [.ref (ad 1), .int x1]) V V (rI r9) := by
  unfold d_X1_huesAround at h
  refine AM.of (by decide +kernel) (fun ad => Nat.le_of_ble_eq_true rfl) (fun {p l e s m args below meth c D cs ad b0} C hT => ?_)
  have C : Ctx p l s m args meth c D cs ad b0 RX1 cX1_huesAround 4 (some .int) := C
  refine a_sub (lv' := [(0, .ref (ad 1)), (1, .int x1)]) [0, 1] rfl ?_
  refine a_iconst (v := (0 : Int32)) C dX1_huesAround_0 rfl ?_
  refine a_istore_n (lv' := [(2, .int (0 : Int32)), (0, .ref (ad 1)), (1, .int x1)]) C dX1_huesAround_1 rfl (by decide) rfl ?_
  refine a_iconst (v := (0 : Int32)) C dX1_huesAround_2 rfl ?_
  refine a_istore_n (lv' := [(3, .int (0 : Int32)), (2, .int (0 : Int32)), (0, .ref (ad 1)), (1, .int x1)]) C dX1_huesAround_3 rfl (by decide) rfl ?_
  refine a_sub (lv' := [(0, .ref (ad 1)), (1, .int x1), (2, .int (0 : Int32)), (3, .int (0 : Int32))]) [2, 3, 1, 0] rfl ?_
  exact w_X1_huesAround_4 C hT x1 (0 : Int32) (0 : Int32) h
set_option maxRecDepth 20000 in
set_option maxHeartbeats 4000000 in
theorem w_X1_freeHues_23 {p : Program} {l : Launch} {e : Env} {s : State} {m : MethodId} {args : Array Value} {below : List Frame} {meth : Method} {c : Code} {D : va_G} {cs : Nat → ClassId} {ad : Nat → Nat} {b0 : Nat} (C : Ctx p l s m args meth c D cs ad b0 RX1 cX1_freeHues 5 (some .int)) (hT : ∀ x ∈ c.exceptionTable.toList, False)   {V : VT} {r9 : Int32}     :
    ∀ (x1 x2 x3 x4 : Int32) , d_X1_freeHues_23 V x1 x2 x3 x4 = some r9 → AW p l e (rmOf 3 0) s m args below meth c D cs ad b0 (QF below D cs ad b0 V ((rI r9) ad) args s 0) 5 0 V [(0, .ref (ad 1)), (1, .int x1), (2, .int x2), (3, .int x3), (4, .int x4)] [] 23 := by
  refine lo4_ind (P := fun x1 x2 x3 x4 => AW p l e (rmOf 3 0) s m args below meth c D cs ad b0 (QF below D cs ad b0 V ((rI r9) ad) args s 0) 5 0 V [(0, .ref (ad 1)), (1, .int x1), (2, .int x2), (3, .int x3), (4, .int x4)] [] 23) ?_ FU
  intro k23 hk23 x1 x2 x3 x4 h
  unfold d_X1_freeHues_23b at h
  refine a_iload (q := 4) C dX1_freeHues_23 rfl ?_
  refine a_aload_n (q := 0) C dX1_freeHues_25 rfl rfl ?_
  refine a_geti (a := 1) (x := (V 1 9)) C dX1_freeHues_26 fl_RX1_40 rfl rfl rfl ?_
  refine a_icmp_ge (tgt := 70) C dX1_freeHues_29 (by decide) (fun c1 => ?_) (fun c1 => ?_)
  · have h := it_t c1 h
    refine a_iload_n (q := 3) C dX1_freeHues_70 rfl rfl ?_
    obtain rfl := ret1 h
    exact a_iret C dX1_freeHues_71 rfl (by decide) rfl rfl
  · have h := it_f c1 h
    refine a_iload_n (q := 2) C dX1_freeHues_32 rfl rfl ?_
    refine a_iload (q := 4) C dX1_freeHues_33 rfl ?_
    refine a_ishr C dX1_freeHues_35 ?_
    refine a_iconst (v := (1 : Int32)) C dX1_freeHues_36 rfl ?_
    refine a_iand C dX1_freeHues_37 ?_
    refine a_if_ne (tgt := 64) C dX1_freeHues_38 (by decide) (fun c2 => ?_) (fun c2 => ?_)
    · have h := it_f c2 h
      refine a_iinc (q := 4) (v := (x4 + (1 : Int32))) (lv' := [(4, .int (x4 + (1 : Int32))), (0, .ref (ad 1)), (1, .int x1), (2, .int x2), (3, .int x3)]) C dX1_freeHues_64 rfl rfl (by decide) rfl ?_
      refine a_goto (tgt := 23) C dX1_freeHues_67 (by decide) ?_
      refine a_sub (lv' := [(0, .ref (ad 1)), (1, .int x1), (2, .int x2), (3, .int x3), (4, .int (x4 + (1 : Int32)))]) [1, 2, 3, 4, 0] rfl ?_
      exact hk23 x1 x2 x3 (x4 + (1 : Int32)) h
    · have h := it_t c2 h
      refine a_aload_n (q := 0) C dX1_freeHues_41 rfl rfl ?_
      refine a_getr (a := 1) (t := 8) C dX1_freeHues_42 fl_RX1_30 rfl rfl ?_
      refine a_iload (q := 4) C dX1_freeHues_45 rfl ?_
      obtain ⟨z3, h⟩ := asr_spec h
      refine a_iald (a := 8) (x := (V 8 x4.toNatClampNeg)) C dX1_freeHues_47 rfl (inb_in z3) rfl ?_
      refine a_aload_n (q := 0) C dX1_freeHues_48 rfl rfl ?_
      refine a_getr (a := 1) (t := 2) C dX1_freeHues_49 fl_RX1_9 rfl rfl ?_
      refine a_iload_n (q := 1) C dX1_freeHues_52 rfl rfl ?_
      obtain ⟨z4, h⟩ := asr_spec h
      refine a_iald (a := 2) (x := (V 2 x1.toNatClampNeg)) C dX1_freeHues_53 rfl (inb_in z4) rfl ?_
      refine a_icmp_lt (tgt := 64) C dX1_freeHues_54 (by decide) (fun c5 => ?_) (fun c5 => ?_)
      · have h := it_t c5 h
        refine a_iinc (q := 4) (v := (x4 + (1 : Int32))) (lv' := [(4, .int (x4 + (1 : Int32))), (0, .ref (ad 1)), (1, .int x1), (2, .int x2), (3, .int x3)]) C dX1_freeHues_64 rfl rfl (by decide) rfl ?_
        refine a_goto (tgt := 23) C dX1_freeHues_67 (by decide) ?_
        refine a_sub (lv' := [(0, .ref (ad 1)), (1, .int x1), (2, .int x2), (3, .int x3), (4, .int (x4 + (1 : Int32)))]) [1, 2, 3, 4, 0] rfl ?_
        exact hk23 x1 x2 x3 (x4 + (1 : Int32)) h
      · have h := it_f c5 h
        refine a_iload_n (q := 3) C dX1_freeHues_57 rfl rfl ?_
        refine a_iconst (v := (1 : Int32)) C dX1_freeHues_58 rfl ?_
        refine a_iload (q := 4) C dX1_freeHues_59 rfl ?_
        refine a_ishl C dX1_freeHues_61 ?_
        refine a_ior C dX1_freeHues_62 ?_
        refine a_istore_n (lv' := [(3, .int (x3 ||| ((1 : Int32) <<< (x4 &&& 31)))), (0, .ref (ad 1)), (1, .int x1), (2, .int x2), (4, .int x4)]) C dX1_freeHues_63 rfl (by decide) rfl ?_
        refine a_iinc (q := 4) (v := (x4 + (1 : Int32))) (lv' := [(4, .int (x4 + (1 : Int32))), (3, .int (x3 ||| ((1 : Int32) <<< (x4 &&& 31)))), (0, .ref (ad 1)), (1, .int x1), (2, .int x2)]) C dX1_freeHues_64 rfl rfl (by decide) rfl ?_
        refine a_goto (tgt := 23) C dX1_freeHues_67 (by decide) ?_
        refine a_sub (lv' := [(0, .ref (ad 1)), (1, .int x1), (2, .int x2), (3, .int (x3 ||| ((1 : Int32) <<< (x4 &&& 31)))), (4, .int (x4 + (1 : Int32)))]) [2, 3, 4, 1, 0] rfl ?_
        exact hk23 x1 x2 (x3 ||| ((1 : Int32) <<< (x4 &&& 31))) (x4 + (1 : Int32)) h
set_option maxRecDepth 20000 in
set_option maxHeartbeats 4000000 in
theorem w_X1_freeHues (x1 : Int32)  (V : VT) (r9 : Int32) (h : d_X1_freeHues x1 V = some r9) : AM 3 0 yX1_freeHues (.code yX1_freeHues cX1_freeHues 5 (some .int)) (fun ad => [.ref (ad 1), .int x1]) V V (rI r9) := by
  unfold d_X1_freeHues at h
  refine AM.of (by decide +kernel) (fun ad => Nat.le_of_ble_eq_true rfl) (fun {p l e s m args below meth c D cs ad b0} C hT => ?_)
  have C : Ctx p l s m args meth c D cs ad b0 RX1 cX1_freeHues 5 (some .int) := C
  refine a_sub (lv' := [(0, .ref (ad 1)), (1, .int x1)]) [0, 1] rfl ?_
  refine a_aload_n (q := 0) C dX1_freeHues_0 rfl rfl ?_
  refine a_getr (a := 1) (t := 3) C dX1_freeHues_1 fl_RX1_15 rfl rfl ?_
  refine a_iload_n (q := 1) C dX1_freeHues_4 rfl rfl ?_
  obtain ⟨z1, h⟩ := asr_spec h
  refine a_iald (a := 3) (x := (V 3 x1.toNatClampNeg)) C dX1_freeHues_5 rfl (inb_in z1) rfl ?_
  refine a_iconst (v := (-1 : Int32)) C dX1_freeHues_6 rfl ?_
  refine a_icmp_eq (tgt := 12) C dX1_freeHues_7 (by decide) (fun c2 => ?_) (fun c2 => ?_)
  · have h := it_t c2 h
    refine a_aload_n (q := 0) C dX1_freeHues_12 rfl rfl ?_
    refine a_iload_n (q := 1) C dX1_freeHues_13 rfl rfl ?_
    obtain ⟨r4, g3, h⟩ := bd_spec h
    refine a_cVi (a := 1) (st := []) C dX1_freeHues_14 cv_RX1_93 (w_X1_huesAround x1  V r4 g3) rfl rfl rfl rfl rfl ⟨Nat.le_of_ble_eq_true rfl, Nat.le_of_ble_eq_true rfl, Nat.le_of_ble_eq_true rfl, Nat.le_of_ble_eq_true rfl⟩ (Nat.le_of_ble_eq_true rfl) ?_
    refine a_istore_n (lv' := [(2, .int r4), (0, .ref (ad 1)), (1, .int x1)]) C dX1_freeHues_17 rfl (by decide) rfl ?_
    refine a_iconst (v := (0 : Int32)) C dX1_freeHues_18 rfl ?_
    refine a_istore_n (lv' := [(3, .int (0 : Int32)), (2, .int r4), (0, .ref (ad 1)), (1, .int x1)]) C dX1_freeHues_19 rfl (by decide) rfl ?_
    refine a_iconst (v := (0 : Int32)) C dX1_freeHues_20 rfl ?_
    refine a_istore (lv' := [(4, .int (0 : Int32)), (3, .int (0 : Int32)), (2, .int r4), (0, .ref (ad 1)), (1, .int x1)]) C dX1_freeHues_21 (by decide) rfl ?_
    refine a_sub (lv' := [(0, .ref (ad 1)), (1, .int x1), (2, .int r4), (3, .int (0 : Int32)), (4, .int (0 : Int32))]) [3, 4, 2, 1, 0] rfl ?_
    exact w_X1_freeHues_23 C hT x1 r4 (0 : Int32) (0 : Int32) h
  · have h := it_f c2 h
    refine a_iconst (v := (0 : Int32)) C dX1_freeHues_10 rfl ?_
    obtain rfl := ret1 h
    exact a_iret C dX1_freeHues_11 rfl (by decide) rfl rfl
set_option maxRecDepth 20000 in
set_option maxHeartbeats 4000000 in
theorem w_X1_placeOf_2 {p : Program} {l : Launch} {e : Env} {s : State} {m : MethodId} {args : Array Value} {below : List Frame} {meth : Method} {c : Code} {D : va_G} {cs : Nat → ClassId} {ad : Nat → Nat} {b0 : Nat} (C : Ctx p l s m args meth c D cs ad b0 RX1 cX1_placeOf 3 (some .int)) (hT : ∀ x ∈ c.exceptionTable.toList, False)   {V : VT} {r9 : Int32}     :
    ∀ (x1 x2 : Int32) , d_X1_placeOf_2 V x1 x2 = some r9 → AW p l e (rmOf 2 0) s m args below meth c D cs ad b0 (QF below D cs ad b0 V ((rI r9) ad) args s 0) 3 0 V [(0, .ref (ad 1)), (1, .int x1), (2, .int x2)] [] 2 := by
  refine lo2_ind (P := fun x1 x2 => AW p l e (rmOf 2 0) s m args below meth c D cs ad b0 (QF below D cs ad b0 V ((rI r9) ad) args s 0) 3 0 V [(0, .ref (ad 1)), (1, .int x1), (2, .int x2)] [] 2) ?_ FU
  intro k2 hk2 x1 x2 h
  unfold d_X1_placeOf_2b at h
  refine a_iload_n (q := 2) C dX1_placeOf_2 rfl rfl ?_
  refine a_aload_n (q := 0) C dX1_placeOf_3 rfl rfl ?_
  refine a_geti (a := 1) (x := (V 1 10)) C dX1_placeOf_4 fl_RX1_43 rfl rfl rfl ?_
  refine a_icmp_ge (tgt := 28) C dX1_placeOf_7 (by decide) (fun c1 => ?_) (fun c1 => ?_)
  · have h := it_t c1 h
    refine a_iconst (v := (-1 : Int32)) C dX1_placeOf_28 rfl ?_
    obtain rfl := ret1 h
    exact a_iret C dX1_placeOf_29 rfl (by decide) rfl rfl
  · have h := it_f c1 h
    refine a_aload_n (q := 0) C dX1_placeOf_10 rfl rfl ?_
    refine a_getr (a := 1) (t := 7) C dX1_placeOf_11 fl_RX1_27 rfl rfl ?_
    refine a_iload_n (q := 2) C dX1_placeOf_14 rfl rfl ?_
    obtain ⟨z2, h⟩ := asr_spec h
    refine a_iald (a := 7) (x := (V 7 x2.toNatClampNeg)) C dX1_placeOf_15 rfl (inb_in z2) rfl ?_
    refine a_iload_n (q := 1) C dX1_placeOf_16 rfl rfl ?_
    refine a_icmp_ne (tgt := 22) C dX1_placeOf_17 (by decide) (fun c3 => ?_) (fun c3 => ?_)
    · have h := it_f c3 h
      refine a_iinc (q := 2) (v := (x2 + (1 : Int32))) (lv' := [(2, .int (x2 + (1 : Int32))), (0, .ref (ad 1)), (1, .int x1)]) C dX1_placeOf_22 rfl rfl (by decide) rfl ?_
      refine a_goto (tgt := 2) C dX1_placeOf_25 (by decide) ?_
      refine a_sub (lv' := [(0, .ref (ad 1)), (1, .int x1), (2, .int (x2 + (1 : Int32)))]) [1, 2, 0] rfl ?_
      exact hk2 x1 (x2 + (1 : Int32)) h
    · have h := it_t c3 h
      refine a_iload_n (q := 2) C dX1_placeOf_20 rfl rfl ?_
      obtain rfl := ret1 h
      exact a_iret C dX1_placeOf_21 rfl (by decide) rfl rfl
set_option maxRecDepth 20000 in
set_option maxHeartbeats 4000000 in
theorem w_X1_placeOf (x1 : Int32)  (V : VT) (r9 : Int32) (h : d_X1_placeOf x1 V = some r9) : AM 2 0 yX1_placeOf (.code yX1_placeOf cX1_placeOf 3 (some .int)) (fun ad => [.ref (ad 1), .int x1]) V V (rI r9) := by
  unfold d_X1_placeOf at h
  refine AM.of (by decide +kernel) (fun ad => Nat.le_of_ble_eq_true rfl) (fun {p l e s m args below meth c D cs ad b0} C hT => ?_)
  have C : Ctx p l s m args meth c D cs ad b0 RX1 cX1_placeOf 3 (some .int) := C
  refine a_sub (lv' := [(0, .ref (ad 1)), (1, .int x1)]) [0, 1] rfl ?_
  refine a_iconst (v := (0 : Int32)) C dX1_placeOf_0 rfl ?_
  refine a_istore_n (lv' := [(2, .int (0 : Int32)), (0, .ref (ad 1)), (1, .int x1)]) C dX1_placeOf_1 rfl (by decide) rfl ?_
  refine a_sub (lv' := [(0, .ref (ad 1)), (1, .int x1), (2, .int (0 : Int32))]) [1, 2, 0] rfl ?_
  exact w_X1_placeOf_2 C hT x1 (0 : Int32) h
set_option maxRecDepth 20000 in
set_option maxHeartbeats 4000000 in
theorem w_X4_countryOf (x1 : Int32) (x2 : Int32)  (V : VT) (o9 : Int32 ⊕ String) (W9 : VT) (h : d_X4_countryOf x1 x2 V = some (o9, W9)) : AM 7 2 yX4_countryOf (.code yX4_countryOf cX4_countryOf 3 (some .int)) (fun ad => [.ref (ad 0), .int x1, .int x2]) V W9 (rX o9) := by
  unfold d_X4_countryOf at h
  refine AM.of (by decide +kernel) (fun ad => Nat.le_of_ble_eq_true rfl) (fun {p l e s m args below meth c D cs ad b0} C hT => ?_)
  have C : Ctx p l s m args meth c D cs ad b0 RX4 cX4_countryOf 3 (some .int) := C
  refine a_sub (lv' := [(0, .ref (ad 0)), (1, .int x1), (2, .int x2)]) [0, 1, 2] rfl ?_
  refine a_aload_n (q := 0) C dX4_countryOf_0 rfl rfl ?_
  refine a_iload_n (q := 1) C dX4_countryOf_1 rfl rfl ?_
  obtain ⟨o2, V3, g1, n4, t5⟩ := bx_spec h
  refine a_cVxv (a := 0) (st := []) (k' := 1) C dX4_countryOf_2 cv_RX4_87 (w_X4_stopIfNoCountry x1  V o2 V3 g1) rfl rfl rfl rfl rfl ⟨Nat.le_of_ble_eq_true rfl, Nat.le_of_ble_eq_true rfl, Nat.le_of_ble_eq_true rfl, Nat.le_of_ble_eq_true rfl⟩ (Nat.le_of_ble_eq_true rfl) (fun r6 e9 => ?_) (fun E9 e9 => ?_)
  · have h := n4 r6 e9
    refine a_iload_n (q := 2) C dX4_countryOf_5 rfl rfl ?_
    by_cases c7 : x2 = (0 : Int32)
    · have h := it_t c7 h
      refine a_tswIn (tgt := 48) (v := (0 : Int32)) C dX4_countryOf_6 c7 (by decide) (by decide) rfl (by decide) ?_
      refine a_aload_n (q := 0) C dX4_countryOf_48 rfl rfl ?_
      refine a_getr (a := 0) (t := 1) C dX4_countryOf_49 fl_RX4_10 rfl rfl ?_
      refine a_getr (a := 1) (t := 2) C dX4_countryOf_52 fl_RX4_112 rfl rfl ?_
      refine a_iload_n (q := 1) C dX4_countryOf_55 rfl rfl ?_
      obtain ⟨z8, h⟩ := asr_spec h
      refine a_iald (a := 2) (x := (V3 2 x1.toNatClampNeg)) C dX4_countryOf_56 rfl (inb_in z8) rfl ?_
      obtain ⟨rfl, rfl⟩ := ret2 h
      exact a_iret C dX4_countryOf_57 rfl (by decide) rfl rfl
    · have h := it_f c7 h
      by_cases c9 : x2 = (1 : Int32)
      · have h := it_t c9 h
        refine a_tswIn (tgt := 58) (v := (1 : Int32)) C dX4_countryOf_6 c9 (by decide) (by decide) rfl (by decide) ?_
        refine a_aload_n (q := 0) C dX4_countryOf_58 rfl rfl ?_
        refine a_getr (a := 0) (t := 1) C dX4_countryOf_59 fl_RX4_10 rfl rfl ?_
        refine a_getr (a := 1) (t := 3) C dX4_countryOf_62 fl_RX4_116 rfl rfl ?_
        refine a_iload_n (q := 1) C dX4_countryOf_65 rfl rfl ?_
        obtain ⟨z10, h⟩ := asr_spec h
        refine a_iald (a := 3) (x := (V3 3 x1.toNatClampNeg)) C dX4_countryOf_66 rfl (inb_in z10) rfl ?_
        obtain ⟨rfl, rfl⟩ := ret2 h
        exact a_iret C dX4_countryOf_67 rfl (by decide) rfl rfl
      · have h := it_f c9 h
        by_cases c11 : x2 = (2 : Int32)
        · have h := it_t c11 h
          refine a_tswIn (tgt := 68) (v := (2 : Int32)) C dX4_countryOf_6 c11 (by decide) (by decide) rfl (by decide) ?_
          refine a_aload_n (q := 0) C dX4_countryOf_68 rfl rfl ?_
          refine a_getr (a := 0) (t := 1) C dX4_countryOf_69 fl_RX4_10 rfl rfl ?_
          refine a_iload_n (q := 1) C dX4_countryOf_72 rfl rfl ?_
          obtain ⟨r13, g12, h⟩ := bd_spec h
          refine a_cVi (a := 1) (st := []) C dX4_countryOf_73 cv_RX4_119 (w_X1_countNeighbours x1  V3 r13 g12) rfl rfl rfl rfl rfl ⟨Nat.le_of_ble_eq_true rfl, Nat.le_of_ble_eq_true rfl, Nat.le_of_ble_eq_true rfl, Nat.le_of_ble_eq_true rfl⟩ (Nat.le_of_ble_eq_true rfl) ?_
          obtain ⟨rfl, rfl⟩ := ret2 h
          exact a_iret C dX4_countryOf_76 rfl (by decide) rfl rfl
        · have h := it_f c11 h
          by_cases c14 : x2 = (3 : Int32)
          · have h := it_t c14 h
            refine a_tswIn (tgt := 77) (v := (3 : Int32)) C dX4_countryOf_6 c14 (by decide) (by decide) rfl (by decide) ?_
            refine a_aload_n (q := 0) C dX4_countryOf_77 rfl rfl ?_
            refine a_getr (a := 0) (t := 1) C dX4_countryOf_78 fl_RX4_10 rfl rfl ?_
            refine a_iload_n (q := 1) C dX4_countryOf_81 rfl rfl ?_
            obtain ⟨r16, g15, h⟩ := bd_spec h
            refine a_cVi (a := 1) (st := []) C dX4_countryOf_82 cv_RX4_122 (w_X1_freeHues x1  V3 r16 g15) rfl rfl rfl rfl rfl ⟨Nat.le_of_ble_eq_true rfl, Nat.le_of_ble_eq_true rfl, Nat.le_of_ble_eq_true rfl, Nat.le_of_ble_eq_true rfl⟩ (Nat.le_of_ble_eq_true rfl) ?_
            obtain ⟨r18, g17, h⟩ := bd_spec h
            refine a_cSi (st := []) C dX4_countryOf_85 cv_RX4_125 (w_J6_bitCount_0f7a4 r16  V3 r18 g17) rfl rfl rfl ⟨Nat.le_of_ble_eq_true rfl, Nat.le_of_ble_eq_true rfl, Nat.le_of_ble_eq_true rfl, Nat.le_of_ble_eq_true rfl⟩ (Nat.le_of_ble_eq_true rfl) ?_
            obtain ⟨rfl, rfl⟩ := ret2 h
            exact a_iret C dX4_countryOf_88 rfl (by decide) rfl rfl
          · have h := it_f c14 h
            by_cases c19 : x2 = (4 : Int32)
            · have h := it_t c19 h
              refine a_tswIn (tgt := 89) (v := (4 : Int32)) C dX4_countryOf_6 c19 (by decide) (by decide) rfl (by decide) ?_
              refine a_aload_n (q := 0) C dX4_countryOf_89 rfl rfl ?_
              refine a_getr (a := 0) (t := 1) C dX4_countryOf_90 fl_RX4_10 rfl rfl ?_
              refine a_getr (a := 1) (t := 4) C dX4_countryOf_93 fl_RX4_130 rfl rfl ?_
              refine a_iload_n (q := 1) C dX4_countryOf_96 rfl rfl ?_
              obtain ⟨z20, h⟩ := asr_spec h
              refine a_iald (a := 4) (x := (V3 4 x1.toNatClampNeg)) C dX4_countryOf_97 rfl (inb_in z20) rfl ?_
              obtain ⟨rfl, rfl⟩ := ret2 h
              exact a_iret C dX4_countryOf_98 rfl (by decide) rfl rfl
            · have h := it_f c19 h
              by_cases c21 : x2 = (5 : Int32)
              · have h := it_t c21 h
                refine a_tswIn (tgt := 99) (v := (5 : Int32)) C dX4_countryOf_6 c21 (by decide) (by decide) rfl (by decide) ?_
                refine a_aload_n (q := 0) C dX4_countryOf_99 rfl rfl ?_
                refine a_getr (a := 0) (t := 1) C dX4_countryOf_100 fl_RX4_10 rfl rfl ?_
                refine a_getr (a := 1) (t := 5) C dX4_countryOf_103 fl_RX4_133 rfl rfl ?_
                refine a_iload_n (q := 1) C dX4_countryOf_106 rfl rfl ?_
                obtain ⟨z22, h⟩ := asr_spec h
                refine a_iald (a := 5) (x := (V3 5 x1.toNatClampNeg)) C dX4_countryOf_107 rfl (inb_in z22) rfl ?_
                obtain ⟨rfl, rfl⟩ := ret2 h
                exact a_iret C dX4_countryOf_108 rfl (by decide) rfl rfl
              · have h := it_f c21 h
                by_cases c23 : x2 = (6 : Int32)
                · have h := it_t c23 h
                  refine a_tswIn (tgt := 109) (v := (6 : Int32)) C dX4_countryOf_6 c23 (by decide) (by decide) rfl (by decide) ?_
                  refine a_aload_n (q := 0) C dX4_countryOf_109 rfl rfl ?_
                  refine a_getr (a := 0) (t := 1) C dX4_countryOf_110 fl_RX4_10 rfl rfl ?_
                  refine a_iload_n (q := 1) C dX4_countryOf_113 rfl rfl ?_
                  obtain ⟨r25, g24, h⟩ := bd_spec h
                  refine a_cVi (a := 1) (st := []) C dX4_countryOf_114 cv_RX4_136 (w_X1_placeOf x1  V3 r25 g24) rfl rfl rfl rfl rfl ⟨Nat.le_of_ble_eq_true rfl, Nat.le_of_ble_eq_true rfl, Nat.le_of_ble_eq_true rfl, Nat.le_of_ble_eq_true rfl⟩ (Nat.le_of_ble_eq_true rfl) ?_
                  obtain ⟨rfl, rfl⟩ := ret2 h
                  exact a_iret C dX4_countryOf_117 rfl (by decide) rfl rfl
                · have h := it_f c23 h
                  refine a_tswOut (tgt := 118) C dX4_countryOf_6 (by have q0 := lv_neT (a := 0) c7 rfl; have q1 := lv_neT (a := 1) c9 rfl; have q2 := lv_neT (a := 2) c11 rfl; have q3 := lv_neT (a := 3) c14 rfl; have q4 := lv_neT (a := 4) c19 rfl; have q5 := lv_neT (a := 5) c21 rfl; have q6 := lv_neT (a := 6) c23 rfl; omega) (by decide) ?_
                  obtain ⟨rfl, rfl⟩ := ret2 h
                  exact a_throw (text := "what is from 0 to 6") C hT th_RX4_64_68 (by decide +kernel) dX4_countryOf_118 dX4_countryOf_121 dX4_countryOf_122 dX4_countryOf_124 dX4_countryOf_127 ⟨by decide, by decide, by decide, by decide⟩ (by decide) rfl rfl
  · obtain ⟨rfl, rfl⟩ := Prod.mk.inj (t5 E9 e9)
    exact a_xout C hT (by decide) rfl rfl
set_option maxRecDepth 20000 in
set_option maxHeartbeats 4000000 in
theorem w_X4_isManyHues (x0 : Int32)  (V : VT) (r9 : Int32) (h : d_X4_isManyHues x0 V = some r9) : AM 2 0 yX4_isManyHues (.code yX4_isManyHues cX4_isManyHues 1 (some .boolean)) (fun ad => [.int x0]) V V (rI r9) := by
  unfold d_X4_isManyHues at h
  refine AM.of (by decide +kernel) (fun ad => Nat.le_of_ble_eq_true rfl) (fun {p l e s m args below meth c D cs ad b0} C hT => ?_)
  have C : Ctx p l s m args meth c D cs ad b0 RX4 cX4_isManyHues 1 (some .boolean) := C
  refine a_sub (lv' := [(0, .int x0)]) [0] rfl ?_
  refine a_iload_n (q := 0) C dX4_isManyHues_0 rfl rfl ?_
  refine a_iconst (v := (1 : Int32)) C dX4_isManyHues_1 rfl ?_
  refine a_icmp_lt (tgt := 14) C dX4_isManyHues_2 (by decide) (fun c1 => ?_) (fun c1 => ?_)
  · have h := it_t c1 h
    refine a_iconst (v := (0 : Int32)) C dX4_isManyHues_14 rfl ?_
    obtain rfl := ret1 h
    exact a_zret C dX4_isManyHues_15 rfl rfl (by decide) rfl rfl
  · have h := it_f c1 h
    refine a_iload_n (q := 0) C dX4_isManyHues_5 rfl rfl ?_
    refine a_iconst (v := (5 : Int32)) C dX4_isManyHues_6 rfl ?_
    refine a_icmp_gt (tgt := 14) C dX4_isManyHues_7 (by decide) (fun c2 => ?_) (fun c2 => ?_)
    · have h := it_t c2 h
      refine a_iconst (v := (0 : Int32)) C dX4_isManyHues_14 rfl ?_
      obtain rfl := ret1 h
      exact a_zret C dX4_isManyHues_15 rfl rfl (by decide) rfl rfl
    · have h := it_f c2 h
      refine a_iconst (v := (1 : Int32)) C dX4_isManyHues_10 rfl ?_
      refine a_goto (tgt := 15) C dX4_isManyHues_11 (by decide) ?_
      obtain rfl := ret1 h
      exact a_zret C dX4_isManyHues_15 rfl rfl (by decide) rfl rfl
set_option maxRecDepth 20000 in
set_option maxHeartbeats 4000000 in
theorem w_X1_reasonAgainstHues (x1 : Int32)  (V : VT) (r9 : Int32) (h : d_X1_reasonAgainstHues x1 V = some r9) : AM 3 0 yX1_reasonAgainstHues (.code yX1_reasonAgainstHues cX1_reasonAgainstHues 2 (some .int)) (fun ad => [.ref (ad 1), .int x1]) V V (rI r9) := by
  unfold d_X1_reasonAgainstHues at h
  refine AM.of (by decide +kernel) (fun ad => Nat.le_of_ble_eq_true rfl) (fun {p l e s m args below meth c D cs ad b0} C hT => ?_)
  have C : Ctx p l s m args meth c D cs ad b0 RX1 cX1_reasonAgainstHues 2 (some .int) := C
  refine a_sub (lv' := [(0, .ref (ad 1)), (1, .int x1)]) [0, 1] rfl ?_
  refine a_aload_n (q := 0) C dX1_reasonAgainstHues_0 rfl rfl ?_
  refine a_iload_n (q := 1) C dX1_reasonAgainstHues_1 rfl rfl ?_
  obtain ⟨r2, g1, h⟩ := bd_spec h
  refine a_cVi (a := 1) (st := []) C dX1_reasonAgainstHues_2 cv_RX1_63 (w_X1_lowestPaintedBeyond x1  V r2 g1) rfl rfl rfl rfl rfl ⟨Nat.le_of_ble_eq_true rfl, Nat.le_of_ble_eq_true rfl, Nat.le_of_ble_eq_true rfl, Nat.le_of_ble_eq_true rfl⟩ (Nat.le_of_ble_eq_true rfl) ?_
  refine a_iconst (v := (-1 : Int32)) C dX1_reasonAgainstHues_5 rfl ?_
  refine a_icmp_ne (tgt := 13) C dX1_reasonAgainstHues_6 (by decide) (fun c3 => ?_) (fun c3 => ?_)
  · have h := it_f c3 h
    refine a_bipush (v := (9 : Int32)) C dX1_reasonAgainstHues_13 rfl ?_
    obtain rfl := ret1 h
    exact a_iret C dX1_reasonAgainstHues_15 rfl (by decide) rfl rfl
  · have h := it_t c3 h
    refine a_iconst (v := (0 : Int32)) C dX1_reasonAgainstHues_9 rfl ?_
    refine a_goto (tgt := 15) C dX1_reasonAgainstHues_10 (by decide) ?_
    obtain rfl := ret1 h
    exact a_iret C dX1_reasonAgainstHues_15 rfl (by decide) rfl rfl
set_option maxRecDepth 20000 in
set_option maxHeartbeats 4000000 in
theorem w_X4_hues (x1 : Int32)  (V : VT) (o9 : Int32 ⊕ String) (W9 : VT) (h : d_X4_hues x1 V = some (o9, W9)) : AM 7 2 yX4_hues (.code yX4_hues cX4_hues 3 (some .int)) (fun ad => [.ref (ad 0), .int x1]) V W9 (rX o9) := by
  unfold d_X4_hues at h
  refine AM.of (by decide +kernel) (fun ad => Nat.le_of_ble_eq_true rfl) (fun {p l e s m args below meth c D cs ad b0} C hT => ?_)
  have C : Ctx p l s m args meth c D cs ad b0 RX4 cX4_hues 3 (some .int) := C
  refine a_sub (lv' := [(0, .ref (ad 0)), (1, .int x1)]) [0, 1] rfl ?_
  refine a_iload_n (q := 1) C dX4_hues_0 rfl rfl ?_
  obtain ⟨r2, g1, h⟩ := bd_spec h
  refine a_cSi (st := []) C dX4_hues_1 cv_RX4_141 (w_X4_isManyHues x1  V r2 g1) rfl rfl rfl ⟨Nat.le_of_ble_eq_true rfl, Nat.le_of_ble_eq_true rfl, Nat.le_of_ble_eq_true rfl, Nat.le_of_ble_eq_true rfl⟩ (Nat.le_of_ble_eq_true rfl) ?_
  refine a_if_ne (tgt := 17) C dX4_hues_4 (by decide) (fun c3 => ?_) (fun c3 => ?_)
  · have h := it_f c3 h
    refine a_aload_n (q := 0) C dX4_hues_17 rfl rfl ?_
    refine a_aload_n (q := 0) C dX4_hues_18 rfl rfl ?_
    refine a_getr (a := 0) (t := 1) C dX4_hues_19 fl_RX4_10 rfl rfl ?_
    refine a_iload_n (q := 1) C dX4_hues_22 rfl rfl ?_
    obtain ⟨r5, g4, h⟩ := bd_spec h
    refine a_cVi (a := 1) (st := [.ref (ad 0)]) C dX4_hues_23 cv_RX4_147 (w_X1_reasonAgainstHues x1  V r5 g4) rfl rfl rfl rfl rfl ⟨Nat.le_of_ble_eq_true rfl, Nat.le_of_ble_eq_true rfl, Nat.le_of_ble_eq_true rfl, Nat.le_of_ble_eq_true rfl⟩ (Nat.le_of_ble_eq_true rfl) ?_
    refine a_iload_n (q := 1) C dX4_hues_26 rfl rfl ?_
    refine a_iconst (v := (0 : Int32)) C dX4_hues_27 rfl ?_
    obtain ⟨o7, V8, g6, n9, t10⟩ := bx_spec h
    refine a_cVxv (a := 0) (st := []) (k' := 1) C dX4_hues_28 cv_RX4_75 (w_X4_stopIfRefused r5 x1 (0 : Int32)  V o7 V8 g6) rfl rfl rfl rfl rfl ⟨Nat.le_of_ble_eq_true rfl, Nat.le_of_ble_eq_true rfl, Nat.le_of_ble_eq_true rfl, Nat.le_of_ble_eq_true rfl⟩ (Nat.le_of_ble_eq_true rfl) (fun r11 e9 => ?_) (fun E9 e9 => ?_)
    · have h := n9 r11 e9
      refine a_aload_n (q := 0) C dX4_hues_31 rfl rfl ?_
      refine a_getr (a := 0) (t := 28) C dX4_hues_32 fl_RX4_25 rfl rfl ?_
      refine a_aload_n (q := 0) C dX4_hues_35 rfl rfl ?_
      refine a_getr (a := 0) (t := 1) C dX4_hues_36 fl_RX4_10 rfl rfl ?_
      obtain ⟨V13, g12, h⟩ := bd_spec h
      refine a_cVv (a := 28) (st := []) C dX4_hues_39 cv_RX4_79 (w_X3_keep 1 rfl V8 V13 g12) rfl rfl rfl rfl rfl ⟨Nat.le_of_ble_eq_true rfl, Nat.le_of_ble_eq_true rfl, Nat.le_of_ble_eq_true rfl, Nat.le_of_ble_eq_true rfl⟩ (Nat.le_of_ble_eq_true rfl) ?_
      refine a_aload_n (q := 0) C dX4_hues_42 rfl rfl ?_
      refine a_getr (a := 0) (t := 1) C dX4_hues_43 fl_RX4_10 rfl rfl ?_
      refine a_geti (a := 1) (x := (V13 1 9)) C dX4_hues_46 fl_RX4_150 rfl rfl rfl ?_
      refine a_istore_n (lv' := [(2, .int (V13 1 9)), (0, .ref (ad 0)), (1, .int x1)]) C dX4_hues_49 rfl (by decide) rfl ?_
      refine a_aload_n (q := 1) C dX4_hues_50 rfl rfl ?_
      refine a_getr (a := 0) (t := 1) C dX4_hues_51 fl_RX4_10 rfl rfl ?_
      refine a_iload_n (q := 2) C dX4_hues_54 rfl rfl ?_
      refine a_puti (a := 1) C dX4_hues_55 fp_RX4_150 rfl rfl rfl rfl ?_
      refine a_iload_n (q := 0) C dX4_hues_58 rfl rfl ?_
      obtain ⟨rfl, rfl⟩ := ret2 h
      exact a_iret C dX4_hues_59 rfl (by decide) rfl rfl
    · obtain ⟨rfl, rfl⟩ := Prod.mk.inj (t10 E9 e9)
      exact a_xout C hT (by decide) rfl rfl
  · have h := it_t c3 h
    obtain ⟨rfl, rfl⟩ := ret2 h
    exact a_throw (text := "from 1 to 5 hues can be used") C hT th_RX4_64_68 (by decide +kernel) dX4_hues_7 dX4_hues_10 dX4_hues_11 dX4_hues_13 dX4_hues_16 ⟨by decide, by decide, by decide, by decide⟩ (by decide) rfl rfl
set_option maxRecDepth 20000 in
set_option maxHeartbeats 4000000 in
theorem w_X4_isHue (x0 : Int32)  (V : VT) (r9 : Int32) (h : d_X4_isHue x0 V = some r9) : AM 2 0 yX4_isHue (.code yX4_isHue cX4_isHue 1 (some .boolean)) (fun ad => [.int x0]) V V (rI r9) := by
  unfold d_X4_isHue at h
  refine AM.of (by decide +kernel) (fun ad => Nat.le_of_ble_eq_true rfl) (fun {p l e s m args below meth c D cs ad b0} C hT => ?_)
  have C : Ctx p l s m args meth c D cs ad b0 RX4 cX4_isHue 1 (some .boolean) := C
  refine a_sub (lv' := [(0, .int x0)]) [0] rfl ?_
  refine a_iload_n (q := 0) C dX4_isHue_0 rfl rfl ?_
  refine a_if_lt (tgt := 13) C dX4_isHue_1 (by decide) (fun c1 => ?_) (fun c1 => ?_)
  · have h := it_t c1 h
    refine a_iconst (v := (0 : Int32)) C dX4_isHue_13 rfl ?_
    obtain rfl := ret1 h
    exact a_zret C dX4_isHue_14 rfl rfl (by decide) rfl rfl
  · have h := it_f c1 h
    refine a_iload_n (q := 0) C dX4_isHue_4 rfl rfl ?_
    refine a_iconst (v := (5 : Int32)) C dX4_isHue_5 rfl ?_
    refine a_icmp_ge (tgt := 13) C dX4_isHue_6 (by decide) (fun c2 => ?_) (fun c2 => ?_)
    · have h := it_t c2 h
      refine a_iconst (v := (0 : Int32)) C dX4_isHue_13 rfl ?_
      obtain rfl := ret1 h
      exact a_zret C dX4_isHue_14 rfl rfl (by decide) rfl rfl
    · have h := it_f c2 h
      refine a_iconst (v := (1 : Int32)) C dX4_isHue_9 rfl ?_
      refine a_goto (tgt := 14) C dX4_isHue_10 (by decide) ?_
      obtain rfl := ret1 h
      exact a_zret C dX4_isHue_14 rfl rfl (by decide) rfl rfl
set_option maxRecDepth 20000 in
set_option maxHeartbeats 4000000 in
theorem w_X4_stopIfNoHue (x1 : Int32)  (V : VT) (o9 : Int32 ⊕ String) (W9 : VT) (h : d_X4_stopIfNoHue x1 V = some (o9, W9)) : AM 6 1 yX4_stopIfNoHue (.code yX4_stopIfNoHue cX4_stopIfNoHue 2 (none)) (fun ad => [.ref (ad 0), .int x1]) V W9 (rXV o9) := by
  unfold d_X4_stopIfNoHue at h
  refine AM.of (by decide +kernel) (fun ad => Nat.le_of_ble_eq_true rfl) (fun {p l e s m args below meth c D cs ad b0} C hT => ?_)
  have C : Ctx p l s m args meth c D cs ad b0 RX4 cX4_stopIfNoHue 2 (none) := C
  refine a_sub (lv' := [(0, .ref (ad 0)), (1, .int x1)]) [0, 1] rfl ?_
  refine a_iload_n (q := 1) C dX4_stopIfNoHue_0 rfl rfl ?_
  obtain ⟨r2, g1, h⟩ := bd_spec h
  refine a_cSi (st := []) C dX4_stopIfNoHue_1 cv_RX4_362 (w_X4_isHue x1  V r2 g1) rfl rfl rfl ⟨Nat.le_of_ble_eq_true rfl, Nat.le_of_ble_eq_true rfl, Nat.le_of_ble_eq_true rfl, Nat.le_of_ble_eq_true rfl⟩ (Nat.le_of_ble_eq_true rfl) ?_
  refine a_if_ne (tgt := 18) C dX4_stopIfNoHue_4 (by decide) (fun c3 => ?_) (fun c3 => ?_)
  · have h := it_f c3 h
    obtain ⟨rfl, rfl⟩ := ret2 h
    exact a_vret C dX4_stopIfNoHue_18 rfl (by decide) rfl rfl
  · have h := it_t c3 h
    obtain ⟨rfl, rfl⟩ := ret2 h
    exact a_throwW (text := "there is no such hue") C hT th_RX4_272_276 (by decide +kernel) dX4_stopIfNoHue_7 dX4_stopIfNoHue_10 dX4_stopIfNoHue_11 dX4_stopIfNoHue_14 dX4_stopIfNoHue_17 ⟨by decide, by decide, by decide, by decide⟩ (by decide) rfl rfl
set_option maxRecDepth 20000 in
set_option maxHeartbeats 4000000 in
theorem w_X4_isManyPots (x0 : Int32)  (V : VT) (r9 : Int32) (h : d_X4_isManyPots x0 V = some r9) : AM 2 0 yX4_isManyPots (.code yX4_isManyPots cX4_isManyPots 1 (some .boolean)) (fun ad => [.int x0]) V V (rI r9) := by
  unfold d_X4_isManyPots at h
  refine AM.of (by decide +kernel) (fun ad => Nat.le_of_ble_eq_true rfl) (fun {p l e s m args below meth c D cs ad b0} C hT => ?_)
  have C : Ctx p l s m args meth c D cs ad b0 RX4 cX4_isManyPots 1 (some .boolean) := C
  refine a_sub (lv' := [(0, .int x0)]) [0] rfl ?_
  refine a_iload_n (q := 0) C dX4_isManyPots_0 rfl rfl ?_
  refine a_iconst (v := (1 : Int32)) C dX4_isManyPots_1 rfl ?_
  refine a_icmp_lt (tgt := 15) C dX4_isManyPots_2 (by decide) (fun c1 => ?_) (fun c1 => ?_)
  · have h := it_t c1 h
    refine a_iconst (v := (0 : Int32)) C dX4_isManyPots_15 rfl ?_
    obtain rfl := ret1 h
    exact a_zret C dX4_isManyPots_16 rfl rfl (by decide) rfl rfl
  · have h := it_f c1 h
    refine a_iload_n (q := 0) C dX4_isManyPots_5 rfl rfl ?_
    refine a_bipush (v := (50 : Int32)) C dX4_isManyPots_6 rfl ?_
    refine a_icmp_gt (tgt := 15) C dX4_isManyPots_8 (by decide) (fun c2 => ?_) (fun c2 => ?_)
    · have h := it_t c2 h
      refine a_iconst (v := (0 : Int32)) C dX4_isManyPots_15 rfl ?_
      obtain rfl := ret1 h
      exact a_zret C dX4_isManyPots_16 rfl rfl (by decide) rfl rfl
    · have h := it_f c2 h
      refine a_iconst (v := (1 : Int32)) C dX4_isManyPots_11 rfl ?_
      refine a_goto (tgt := 16) C dX4_isManyPots_12 (by decide) ?_
      obtain rfl := ret1 h
      exact a_zret C dX4_isManyPots_16 rfl rfl (by decide) rfl rfl
set_option maxRecDepth 20000 in
set_option maxHeartbeats 4000000 in
theorem w_J9_min_7cf53 (x0 : Int32) (x1 : Int32)  (V : VT) (r9 : Int32) (h : d_J9_min_7cf53 x0 x1 V = some r9) : AM 2 0 yJ9_min_7cf53 (.code yJ9_min_7cf53 cJ9_min_7cf53 2 (some .int)) (fun ad => [.int x0, .int x1]) V V (rI r9) := by
  unfold d_J9_min_7cf53 at h
  refine AM.ofF (by decide +kernel) (fun ad => Nat.le_of_ble_eq_true rfl) (fun {p l e s m args below meth c D cs ad b0} C hT => ?_)
  have C : Ctx p l s m args meth c D cs ad b0 RJ9 cJ9_min_7cf53 2 (some .int) := C
  refine a_sub (lv' := [(0, .int x0), (1, .int x1)]) [0, 1] rfl ?_
  refine a_iload_n (q := 0) C dJ9_min_7cf53_0 rfl rfl ?_
  refine a_iload_n (q := 1) C dJ9_min_7cf53_1 rfl rfl ?_
  refine a_icmp_gt (tgt := 9) C dJ9_min_7cf53_2 (by decide) (fun c1 => ?_) (fun c1 => ?_)
  · have h := it_t c1 h
    refine a_iload_n (q := 1) C dJ9_min_7cf53_9 rfl rfl ?_
    obtain rfl := ret1 h
    exact a_iret C dJ9_min_7cf53_10 rfl (by decide) rfl rfl
  · have h := it_f c1 h
    refine a_iload_n (q := 0) C dJ9_min_7cf53_5 rfl rfl ?_
    refine a_goto (tgt := 10) C dJ9_min_7cf53_6 (by decide) ?_
    obtain rfl := ret1 h
    exact a_iret C dJ9_min_7cf53_10 rfl (by decide) rfl rfl
set_option maxRecDepth 20000 in
set_option maxHeartbeats 4000000 in
theorem w_X1_bring (x1 : Int32) (x2 : Int32)  (V : VT) (W9 : VT) (h : d_X1_bring x1 x2 V = some W9) : AM 3 0 yX1_bring (.code yX1_bring cX1_bring 3 (none)) (fun ad => [.ref (ad 1), .int x1, .int x2]) V W9 (rV) := by
  unfold d_X1_bring at h
  refine AM.of (by decide +kernel) (fun ad => Nat.le_of_ble_eq_true rfl) (fun {p l e s m args below meth c D cs ad b0} C hT => ?_)
  have C : Ctx p l s m args meth c D cs ad b0 RX1 cX1_bring 3 (none) := C
  refine a_sub (lv' := [(0, .ref (ad 1)), (1, .int x1), (2, .int x2)]) [0, 1, 2] rfl ?_
  refine a_aload_n (q := 0) C dX1_bring_0 rfl rfl ?_
  refine a_getr (a := 1) (t := 8) C dX1_bring_1 fl_RX1_30 rfl rfl ?_
  refine a_iload_n (q := 1) C dX1_bring_4 rfl rfl ?_
  refine a_bipush (v := (99 : Int32)) C dX1_bring_5 rfl ?_
  refine a_aload_n (q := 0) C dX1_bring_7 rfl rfl ?_
  refine a_getr (a := 1) (t := 8) C dX1_bring_8 fl_RX1_30 rfl rfl ?_
  refine a_iload_n (q := 1) C dX1_bring_11 rfl rfl ?_
  obtain ⟨z1, h⟩ := asr_spec h
  refine a_iald (a := 8) (x := (V 8 x1.toNatClampNeg)) C dX1_bring_12 rfl (inb_in z1) rfl ?_
  refine a_iload_n (q := 2) C dX1_bring_13 rfl rfl ?_
  refine a_iadd C dX1_bring_14 ?_
  obtain ⟨r3, g2, h⟩ := bd_spec h
  refine a_cSi (st := [.int x1, .ref (ad 8)]) C dX1_bring_15 cv_RX1_71 (w_J9_min_7cf53 (99 : Int32) ((V 8 x1.toNatClampNeg) + x2)  V r3 g2) rfl rfl rfl ⟨Nat.le_of_ble_eq_true rfl, Nat.le_of_ble_eq_true rfl, Nat.le_of_ble_eq_true rfl, Nat.le_of_ble_eq_true rfl⟩ (Nat.le_of_ble_eq_true rfl) ?_
  obtain ⟨z4, h⟩ := asr_spec h
  refine a_iast (a := 8) C dX1_bring_18 rfl (inb_in z4) ?_
  obtain rfl := ret1 h
  exact a_vret C dX1_bring_19 rfl (by decide) rfl rfl
set_option maxRecDepth 20000 in
set_option maxHeartbeats 4000000 in
theorem w_X4_pots (x1 : Int32) (x2 : Int32)  (V : VT) (o9 : Int32 ⊕ String) (W9 : VT) (h : d_X4_pots x1 x2 V = some (o9, W9)) : AM 7 2 yX4_pots (.code yX4_pots cX4_pots 3 (some .int)) (fun ad => [.ref (ad 0), .int x1, .int x2]) V W9 (rX o9) := by
  unfold d_X4_pots at h
  refine AM.of (by decide +kernel) (fun ad => Nat.le_of_ble_eq_true rfl) (fun {p l e s m args below meth c D cs ad b0} C hT => ?_)
  have C : Ctx p l s m args meth c D cs ad b0 RX4 cX4_pots 3 (some .int) := C
  refine a_sub (lv' := [(0, .ref (ad 0)), (1, .int x1), (2, .int x2)]) [0, 1, 2] rfl ?_
  refine a_aload_n (q := 0) C dX4_pots_0 rfl rfl ?_
  refine a_iload_n (q := 1) C dX4_pots_1 rfl rfl ?_
  obtain ⟨o2, V3, g1, n4, t5⟩ := bx_spec h
  refine a_cVxv (a := 0) (st := []) (k' := 1) C dX4_pots_2 cv_RX4_153 (w_X4_stopIfNoHue x1  V o2 V3 g1) rfl rfl rfl rfl rfl ⟨Nat.le_of_ble_eq_true rfl, Nat.le_of_ble_eq_true rfl, Nat.le_of_ble_eq_true rfl, Nat.le_of_ble_eq_true rfl⟩ (Nat.le_of_ble_eq_true rfl) (fun r6 e9 => ?_) (fun E9 e9 => ?_)
  · have h := n4 r6 e9
    refine a_iload_n (q := 2) C dX4_pots_5 rfl rfl ?_
    obtain ⟨r8, g7, h⟩ := bd_spec h
    refine a_cSi (st := []) C dX4_pots_6 cv_RX4_156 (w_X4_isManyPots x2  V3 r8 g7) rfl rfl rfl ⟨Nat.le_of_ble_eq_true rfl, Nat.le_of_ble_eq_true rfl, Nat.le_of_ble_eq_true rfl, Nat.le_of_ble_eq_true rfl⟩ (Nat.le_of_ble_eq_true rfl) ?_
    refine a_if_ne (tgt := 22) C dX4_pots_9 (by decide) (fun c9 => ?_) (fun c9 => ?_)
    · have h := it_f c9 h
      refine a_aload_n (q := 0) C dX4_pots_22 rfl rfl ?_
      refine a_getr (a := 0) (t := 28) C dX4_pots_23 fl_RX4_25 rfl rfl ?_
      refine a_aload_n (q := 0) C dX4_pots_26 rfl rfl ?_
      refine a_getr (a := 0) (t := 1) C dX4_pots_27 fl_RX4_10 rfl rfl ?_
      obtain ⟨V11, g10, h⟩ := bd_spec h
      refine a_cVv (a := 28) (st := []) C dX4_pots_30 cv_RX4_79 (w_X3_keep 1 rfl V3 V11 g10) rfl rfl rfl rfl rfl ⟨Nat.le_of_ble_eq_true rfl, Nat.le_of_ble_eq_true rfl, Nat.le_of_ble_eq_true rfl, Nat.le_of_ble_eq_true rfl⟩ (Nat.le_of_ble_eq_true rfl) ?_
      refine a_aload_n (q := 0) C dX4_pots_33 rfl rfl ?_
      refine a_getr (a := 0) (t := 1) C dX4_pots_34 fl_RX4_10 rfl rfl ?_
      refine a_iload_n (q := 1) C dX4_pots_37 rfl rfl ?_
      refine a_iload_n (q := 2) C dX4_pots_38 rfl rfl ?_
      obtain ⟨V13, g12, h⟩ := bd_spec h
      refine a_cVv (a := 1) (st := []) C dX4_pots_39 cv_RX4_161 (w_X1_bring x1 x2  V11 V13 g12) rfl rfl rfl rfl rfl ⟨Nat.le_of_ble_eq_true rfl, Nat.le_of_ble_eq_true rfl, Nat.le_of_ble_eq_true rfl, Nat.le_of_ble_eq_true rfl⟩ (Nat.le_of_ble_eq_true rfl) ?_
      refine a_aload_n (q := 0) C dX4_pots_42 rfl rfl ?_
      refine a_getr (a := 0) (t := 1) C dX4_pots_43 fl_RX4_10 rfl rfl ?_
      refine a_getr (a := 1) (t := 8) C dX4_pots_46 fl_RX4_164 rfl rfl ?_
      refine a_iload_n (q := 1) C dX4_pots_49 rfl rfl ?_
      obtain ⟨z14, h⟩ := asr_spec h
      refine a_iald (a := 8) (x := (V13 8 x1.toNatClampNeg)) C dX4_pots_50 rfl (inb_in z14) rfl ?_
      obtain ⟨rfl, rfl⟩ := ret2 h
      exact a_iret C dX4_pots_51 rfl (by decide) rfl rfl
    · have h := it_t c9 h
      obtain ⟨rfl, rfl⟩ := ret2 h
      exact a_throw (text := "from 1 to 50 pots are brought") C hT th_RX4_64_68 (by decide +kernel) dX4_pots_12 dX4_pots_15 dX4_pots_16 dX4_pots_18 dX4_pots_21 ⟨by decide, by decide, by decide, by decide⟩ (by decide) rfl rfl
  · obtain ⟨rfl, rfl⟩ := Prod.mk.inj (t5 E9 e9)
    exact a_xout C hT (by decide) rfl rfl
set_option maxRecDepth 20000 in
set_option maxHeartbeats 4000000 in
theorem w_X1_countPaintedIn_4 {p : Program} {l : Launch} {e : Env} {s : State} {m : MethodId} {args : Array Value} {below : List Frame} {meth : Method} {c : Code} {D : va_G} {cs : Nat → ClassId} {ad : Nat → Nat} {b0 : Nat} (C : Ctx p l s m args meth c D cs ad b0 RX1 cX1_countPaintedIn 4 (some .int)) (hT : ∀ x ∈ c.exceptionTable.toList, False)   {V : VT} {r9 : Int32}     :
    ∀ (x1 x2 x3 : Int32) , d_X1_countPaintedIn_4 V x1 x2 x3 = some r9 → AW p l e (rmOf 2 0) s m args below meth c D cs ad b0 (QF below D cs ad b0 V ((rI r9) ad) args s 0) 4 0 V [(0, .ref (ad 1)), (1, .int x1), (2, .int x2), (3, .int x3)] [] 4 := by
  refine lo3_ind (P := fun x1 x2 x3 => AW p l e (rmOf 2 0) s m args below meth c D cs ad b0 (QF below D cs ad b0 V ((rI r9) ad) args s 0) 4 0 V [(0, .ref (ad 1)), (1, .int x1), (2, .int x2), (3, .int x3)] [] 4) ?_ FU
  intro k4 hk4 x1 x2 x3 h
  unfold d_X1_countPaintedIn_4b at h
  refine a_iload_n (q := 3) C dX1_countPaintedIn_4 rfl rfl ?_
  refine a_aload_n (q := 0) C dX1_countPaintedIn_5 rfl rfl ?_
  refine a_geti (a := 1) (x := (V 1 8)) C dX1_countPaintedIn_6 fl_RX1_36 rfl rfl rfl ?_
  refine a_icmp_ge (tgt := 31) C dX1_countPaintedIn_9 (by decide) (fun c1 => ?_) (fun c1 => ?_)
  · have h := it_t c1 h
    refine a_iload_n (q := 2) C dX1_countPaintedIn_31 rfl rfl ?_
    obtain rfl := ret1 h
    exact a_iret C dX1_countPaintedIn_32 rfl (by decide) rfl rfl
  · have h := it_f c1 h
    refine a_aload_n (q := 0) C dX1_countPaintedIn_12 rfl rfl ?_
    refine a_getr (a := 1) (t := 3) C dX1_countPaintedIn_13 fl_RX1_15 rfl rfl ?_
    refine a_iload_n (q := 3) C dX1_countPaintedIn_16 rfl rfl ?_
    obtain ⟨z2, h⟩ := asr_spec h
    refine a_iald (a := 3) (x := (V 3 x3.toNatClampNeg)) C dX1_countPaintedIn_17 rfl (inb_in z2) rfl ?_
    refine a_iload_n (q := 1) C dX1_countPaintedIn_18 rfl rfl ?_
    refine a_icmp_ne (tgt := 25) C dX1_countPaintedIn_19 (by decide) (fun c3 => ?_) (fun c3 => ?_)
    · have h := it_f c3 h
      refine a_iinc (q := 3) (v := (x3 + (1 : Int32))) (lv' := [(3, .int (x3 + (1 : Int32))), (0, .ref (ad 1)), (1, .int x1), (2, .int x2)]) C dX1_countPaintedIn_25 rfl rfl (by decide) rfl ?_
      refine a_goto (tgt := 4) C dX1_countPaintedIn_28 (by decide) ?_
      refine a_sub (lv' := [(0, .ref (ad 1)), (1, .int x1), (2, .int x2), (3, .int (x3 + (1 : Int32)))]) [1, 2, 3, 0] rfl ?_
      exact hk4 x1 x2 (x3 + (1 : Int32)) h
    · have h := it_t c3 h
      refine a_iinc (q := 2) (v := (x2 + (1 : Int32))) (lv' := [(2, .int (x2 + (1 : Int32))), (0, .ref (ad 1)), (1, .int x1), (3, .int x3)]) C dX1_countPaintedIn_22 rfl rfl (by decide) rfl ?_
      refine a_iinc (q := 3) (v := (x3 + (1 : Int32))) (lv' := [(3, .int (x3 + (1 : Int32))), (2, .int (x2 + (1 : Int32))), (0, .ref (ad 1)), (1, .int x1)]) C dX1_countPaintedIn_25 rfl rfl (by decide) rfl ?_
      refine a_goto (tgt := 4) C dX1_countPaintedIn_28 (by decide) ?_
      refine a_sub (lv' := [(0, .ref (ad 1)), (1, .int x1), (2, .int (x2 + (1 : Int32))), (3, .int (x3 + (1 : Int32)))]) [2, 3, 1, 0] rfl ?_
      exact hk4 x1 (x2 + (1 : Int32)) (x3 + (1 : Int32)) h
set_option maxRecDepth 20000 in
set_option maxHeartbeats 4000000 in
theorem w_X1_countPaintedIn (x1 : Int32)  (V : VT) (r9 : Int32) (h : d_X1_countPaintedIn x1 V = some r9) : AM 2 0 yX1_countPaintedIn (.code yX1_countPaintedIn cX1_countPaintedIn 4 (some .int)) (fun ad => [.ref (ad 1), .int x1]) V V (rI r9) := by
  unfold d_X1_countPaintedIn at h
  refine AM.of (by decide +kernel) (fun ad => Nat.le_of_ble_eq_true rfl) (fun {p l e s m args below meth c D cs ad b0} C hT => ?_)
  have C : Ctx p l s m args meth c D cs ad b0 RX1 cX1_countPaintedIn 4 (some .int) := C
  refine a_sub (lv' := [(0, .ref (ad 1)), (1, .int x1)]) [0, 1] rfl ?_
  refine a_iconst (v := (0 : Int32)) C dX1_countPaintedIn_0 rfl ?_
  refine a_istore_n (lv' := [(2, .int (0 : Int32)), (0, .ref (ad 1)), (1, .int x1)]) C dX1_countPaintedIn_1 rfl (by decide) rfl ?_
  refine a_iconst (v := (0 : Int32)) C dX1_countPaintedIn_2 rfl ?_
  refine a_istore_n (lv' := [(3, .int (0 : Int32)), (2, .int (0 : Int32)), (0, .ref (ad 1)), (1, .int x1)]) C dX1_countPaintedIn_3 rfl (by decide) rfl ?_
  refine a_sub (lv' := [(0, .ref (ad 1)), (1, .int x1), (2, .int (0 : Int32)), (3, .int (0 : Int32))]) [2, 3, 1, 0] rfl ?_
  exact w_X1_countPaintedIn_4 C hT x1 (0 : Int32) (0 : Int32) h
set_option maxRecDepth 20000 in
set_option maxHeartbeats 4000000 in
theorem w_X4_hueOf (x1 : Int32) (x2 : Int32)  (V : VT) (o9 : Int32 ⊕ String) (W9 : VT) (h : d_X4_hueOf x1 x2 V = some (o9, W9)) : AM 7 2 yX4_hueOf (.code yX4_hueOf cX4_hueOf 3 (some .int)) (fun ad => [.ref (ad 0), .int x1, .int x2]) V W9 (rX o9) := by
  unfold d_X4_hueOf at h
  refine AM.of (by decide +kernel) (fun ad => Nat.le_of_ble_eq_true rfl) (fun {p l e s m args below meth c D cs ad b0} C hT => ?_)
  have C : Ctx p l s m args meth c D cs ad b0 RX4 cX4_hueOf 3 (some .int) := C
  refine a_sub (lv' := [(0, .ref (ad 0)), (1, .int x1), (2, .int x2)]) [0, 1, 2] rfl ?_
  refine a_aload_n (q := 0) C dX4_hueOf_0 rfl rfl ?_
  refine a_iload_n (q := 1) C dX4_hueOf_1 rfl rfl ?_
  obtain ⟨o2, V3, g1, n4, t5⟩ := bx_spec h
  refine a_cVxv (a := 0) (st := []) (k' := 1) C dX4_hueOf_2 cv_RX4_153 (w_X4_stopIfNoHue x1  V o2 V3 g1) rfl rfl rfl rfl rfl ⟨Nat.le_of_ble_eq_true rfl, Nat.le_of_ble_eq_true rfl, Nat.le_of_ble_eq_true rfl, Nat.le_of_ble_eq_true rfl⟩ (Nat.le_of_ble_eq_true rfl) (fun r6 e9 => ?_) (fun E9 e9 => ?_)
  · have h := n4 r6 e9
    refine a_iload_n (q := 2) C dX4_hueOf_5 rfl rfl ?_
    by_cases c7 : x2 = (0 : Int32)
    · have h := it_t c7 h
      refine a_tswIn (tgt := 36) (v := (0 : Int32)) C dX4_hueOf_6 c7 (by decide) (by decide) rfl (by decide) ?_
      refine a_aload_n (q := 0) C dX4_hueOf_36 rfl rfl ?_
      refine a_getr (a := 0) (t := 1) C dX4_hueOf_37 fl_RX4_10 rfl rfl ?_
      refine a_getr (a := 1) (t := 8) C dX4_hueOf_40 fl_RX4_164 rfl rfl ?_
      refine a_iload_n (q := 1) C dX4_hueOf_43 rfl rfl ?_
      obtain ⟨z8, h⟩ := asr_spec h
      refine a_iald (a := 8) (x := (V3 8 x1.toNatClampNeg)) C dX4_hueOf_44 rfl (inb_in z8) rfl ?_
      obtain ⟨rfl, rfl⟩ := ret2 h
      exact a_iret C dX4_hueOf_45 rfl (by decide) rfl rfl
    · have h := it_f c7 h
      by_cases c9 : x2 = (1 : Int32)
      · have h := it_t c9 h
        refine a_tswIn (tgt := 46) (v := (1 : Int32)) C dX4_hueOf_6 c9 (by decide) (by decide) rfl (by decide) ?_
        refine a_iload_n (q := 1) C dX4_hueOf_46 rfl rfl ?_
        refine a_aload_n (q := 0) C dX4_hueOf_47 rfl rfl ?_
        refine a_getr (a := 0) (t := 1) C dX4_hueOf_48 fl_RX4_10 rfl rfl ?_
        refine a_geti (a := 1) (x := (V3 1 9)) C dX4_hueOf_51 fl_RX4_150 rfl rfl rfl ?_
        refine a_icmp_ge (tgt := 61) C dX4_hueOf_54 (by decide) (fun c10 => ?_) (fun c10 => ?_)
        · have h := it_t c10 h
          refine a_iconst (v := (0 : Int32)) C dX4_hueOf_61 rfl ?_
          obtain ⟨rfl, rfl⟩ := ret2 h
          exact a_iret C dX4_hueOf_62 rfl (by decide) rfl rfl
        · have h := it_f c10 h
          refine a_iconst (v := (1 : Int32)) C dX4_hueOf_57 rfl ?_
          refine a_goto (tgt := 62) C dX4_hueOf_58 (by decide) ?_
          obtain ⟨rfl, rfl⟩ := ret2 h
          exact a_iret C dX4_hueOf_62 rfl (by decide) rfl rfl
      · have h := it_f c9 h
        by_cases c11 : x2 = (2 : Int32)
        · have h := it_t c11 h
          refine a_tswIn (tgt := 63) (v := (2 : Int32)) C dX4_hueOf_6 c11 (by decide) (by decide) rfl (by decide) ?_
          refine a_aload_n (q := 0) C dX4_hueOf_63 rfl rfl ?_
          refine a_getr (a := 0) (t := 1) C dX4_hueOf_64 fl_RX4_10 rfl rfl ?_
          refine a_iload_n (q := 1) C dX4_hueOf_67 rfl rfl ?_
          obtain ⟨r13, g12, h⟩ := bd_spec h
          refine a_cVi (a := 1) (st := []) C dX4_hueOf_68 cv_RX4_167 (w_X1_countPaintedIn x1  V3 r13 g12) rfl rfl rfl rfl rfl ⟨Nat.le_of_ble_eq_true rfl, Nat.le_of_ble_eq_true rfl, Nat.le_of_ble_eq_true rfl, Nat.le_of_ble_eq_true rfl⟩ (Nat.le_of_ble_eq_true rfl) ?_
          obtain ⟨rfl, rfl⟩ := ret2 h
          exact a_iret C dX4_hueOf_71 rfl (by decide) rfl rfl
        · have h := it_f c11 h
          by_cases c14 : x2 = (3 : Int32)
          · have h := it_t c14 h
            refine a_tswIn (tgt := 72) (v := (3 : Int32)) C dX4_hueOf_6 c14 (by decide) (by decide) rfl (by decide) ?_
            refine a_aload_n (q := 0) C dX4_hueOf_72 rfl rfl ?_
            refine a_getr (a := 0) (t := 1) C dX4_hueOf_73 fl_RX4_10 rfl rfl ?_
            refine a_getr (a := 1) (t := 9) C dX4_hueOf_76 fl_RX4_170 rfl rfl ?_
            refine a_iload_n (q := 1) C dX4_hueOf_79 rfl rfl ?_
            obtain ⟨z15, h⟩ := asr_spec h
            refine a_iald (a := 9) (x := (V3 9 x1.toNatClampNeg)) C dX4_hueOf_80 rfl (inb_in z15) rfl ?_
            obtain ⟨rfl, rfl⟩ := ret2 h
            exact a_iret C dX4_hueOf_81 rfl (by decide) rfl rfl
          · have h := it_f c14 h
            refine a_tswOut (tgt := 82) C dX4_hueOf_6 (by have q0 := lv_neT (a := 0) c7 rfl; have q1 := lv_neT (a := 1) c9 rfl; have q2 := lv_neT (a := 2) c11 rfl; have q3 := lv_neT (a := 3) c14 rfl; omega) (by decide) ?_
            obtain ⟨rfl, rfl⟩ := ret2 h
            exact a_throw (text := "what is from 0 to 3") C hT th_RX4_64_68 (by decide +kernel) dX4_hueOf_82 dX4_hueOf_85 dX4_hueOf_86 dX4_hueOf_88 dX4_hueOf_91 ⟨by decide, by decide, by decide, by decide⟩ (by decide) rfl rfl
  · obtain ⟨rfl, rfl⟩ := Prod.mk.inj (t5 E9 e9)
    exact a_xout C hT (by decide) rfl rfl
set_option maxRecDepth 20000 in
set_option maxHeartbeats 4000000 in
theorem w_X1_reasonAgainstPaint (x1 : Int32) (x2 : Int32)  (V : VT) (r9 : Int32) (h : d_X1_reasonAgainstPaint x1 x2 V = some r9) : AM 4 0 yX1_reasonAgainstPaint (.code yX1_reasonAgainstPaint cX1_reasonAgainstPaint 3 (some .int)) (fun ad => [.ref (ad 1), .int x1, .int x2]) V V (rI r9) := by
  unfold d_X1_reasonAgainstPaint at h
  refine AM.of (by decide +kernel) (fun ad => Nat.le_of_ble_eq_true rfl) (fun {p l e s m args below meth c D cs ad b0} C hT => ?_)
  have C : Ctx p l s m args meth c D cs ad b0 RX1 cX1_reasonAgainstPaint 3 (some .int) := C
  refine a_sub (lv' := [(0, .ref (ad 1)), (1, .int x1), (2, .int x2)]) [0, 1, 2] rfl ?_
  refine a_aload_n (q := 0) C dX1_reasonAgainstPaint_0 rfl rfl ?_
  refine a_iload_n (q := 1) C dX1_reasonAgainstPaint_1 rfl rfl ?_
  obtain ⟨r2, g1, h⟩ := bd_spec h
  refine a_cVi (a := 1) (st := []) C dX1_reasonAgainstPaint_2 cv_RX1_59 (w_X1_isPainted x1  V r2 g1) rfl rfl rfl rfl rfl ⟨Nat.le_of_ble_eq_true rfl, Nat.le_of_ble_eq_true rfl, Nat.le_of_ble_eq_true rfl, Nat.le_of_ble_eq_true rfl⟩ (Nat.le_of_ble_eq_true rfl) ?_
  refine a_if_eq (tgt := 10) C dX1_reasonAgainstPaint_5 (by decide) (fun c3 => ?_) (fun c3 => ?_)
  · have h := it_t c3 h
    refine a_iload_n (q := 2) C dX1_reasonAgainstPaint_10 rfl rfl ?_
    refine a_aload_n (q := 0) C dX1_reasonAgainstPaint_11 rfl rfl ?_
    refine a_geti (a := 1) (x := (V 1 9)) C dX1_reasonAgainstPaint_12 fl_RX1_40 rfl rfl rfl ?_
    refine a_icmp_lt (tgt := 21) C dX1_reasonAgainstPaint_15 (by decide) (fun c4 => ?_) (fun c4 => ?_)
    · have h := it_t c4 h
      refine a_aload_n (q := 0) C dX1_reasonAgainstPaint_21 rfl rfl ?_
      refine a_iload_n (q := 1) C dX1_reasonAgainstPaint_22 rfl rfl ?_
      refine a_iload_n (q := 2) C dX1_reasonAgainstPaint_23 rfl rfl ?_
      obtain ⟨r6, g5, h⟩ := bd_spec h
      refine a_cVi (a := 1) (st := []) C dX1_reasonAgainstPaint_24 cv_RX1_67 (w_X1_lowestNeighbourIn x1 x2  V r6 g5) rfl rfl rfl rfl rfl ⟨Nat.le_of_ble_eq_true rfl, Nat.le_of_ble_eq_true rfl, Nat.le_of_ble_eq_true rfl, Nat.le_of_ble_eq_true rfl⟩ (Nat.le_of_ble_eq_true rfl) ?_
      refine a_iconst (v := (-1 : Int32)) C dX1_reasonAgainstPaint_27 rfl ?_
      refine a_icmp_eq (tgt := 33) C dX1_reasonAgainstPaint_28 (by decide) (fun c7 => ?_) (fun c7 => ?_)
      · have h := it_t c7 h
        refine a_aload_n (q := 0) C dX1_reasonAgainstPaint_33 rfl rfl ?_
        refine a_getr (a := 1) (t := 8) C dX1_reasonAgainstPaint_34 fl_RX1_30 rfl rfl ?_
        refine a_iload_n (q := 2) C dX1_reasonAgainstPaint_37 rfl rfl ?_
        obtain ⟨z8, h⟩ := asr_spec h
        refine a_iald (a := 8) (x := (V 8 x2.toNatClampNeg)) C dX1_reasonAgainstPaint_38 rfl (inb_in z8) rfl ?_
        refine a_aload_n (q := 0) C dX1_reasonAgainstPaint_39 rfl rfl ?_
        refine a_getr (a := 1) (t := 2) C dX1_reasonAgainstPaint_40 fl_RX1_9 rfl rfl ?_
        refine a_iload_n (q := 1) C dX1_reasonAgainstPaint_43 rfl rfl ?_
        obtain ⟨z9, h⟩ := asr_spec h
        refine a_iald (a := 2) (x := (V 2 x1.toNatClampNeg)) C dX1_reasonAgainstPaint_44 rfl (inb_in z9) rfl ?_
        refine a_icmp_ge (tgt := 52) C dX1_reasonAgainstPaint_45 (by decide) (fun c10 => ?_) (fun c10 => ?_)
        · have h := it_t c10 h
          refine a_iconst (v := (0 : Int32)) C dX1_reasonAgainstPaint_52 rfl ?_
          obtain rfl := ret1 h
          exact a_iret C dX1_reasonAgainstPaint_53 rfl (by decide) rfl rfl
        · have h := it_f c10 h
          refine a_iconst (v := (4 : Int32)) C dX1_reasonAgainstPaint_48 rfl ?_
          refine a_goto (tgt := 53) C dX1_reasonAgainstPaint_49 (by decide) ?_
          obtain rfl := ret1 h
          exact a_iret C dX1_reasonAgainstPaint_53 rfl (by decide) rfl rfl
      · have h := it_f c7 h
        refine a_iconst (v := (3 : Int32)) C dX1_reasonAgainstPaint_31 rfl ?_
        obtain rfl := ret1 h
        exact a_iret C dX1_reasonAgainstPaint_32 rfl (by decide) rfl rfl
    · have h := it_f c4 h
      refine a_bipush (v := (10 : Int32)) C dX1_reasonAgainstPaint_18 rfl ?_
      obtain rfl := ret1 h
      exact a_iret C dX1_reasonAgainstPaint_20 rfl (by decide) rfl rfl
  · have h := it_f c3 h
    refine a_iconst (v := (2 : Int32)) C dX1_reasonAgainstPaint_8 rfl ?_
    obtain rfl := ret1 h
    exact a_iret C dX1_reasonAgainstPaint_9 rfl (by decide) rfl rfl
set_option maxRecDepth 20000 in
set_option maxHeartbeats 4000000 in
theorem w_X1_cover (x1 : Int32) (x2 : Int32)  (V : VT) (W9 : VT) (h : d_X1_cover x1 x2 V = some W9) : AM 2 0 yX1_cover (.code yX1_cover cX1_cover 3 (none)) (fun ad => [.ref (ad 1), .int x1, .int x2]) V W9 (rV) := by
  unfold d_X1_cover at h
  refine AM.of (by decide +kernel) (fun ad => Nat.le_of_ble_eq_true rfl) (fun {p l e s m args below meth c D cs ad b0} C hT => ?_)
  have C : Ctx p l s m args meth c D cs ad b0 RX1 cX1_cover 3 (none) := C
  refine a_sub (lv' := [(0, .ref (ad 1)), (1, .int x1), (2, .int x2)]) [0, 1, 2] rfl ?_
  refine a_aload_n (q := 0) C dX1_cover_0 rfl rfl ?_
  refine a_geti (a := 1) (x := (V 1 10)) C dX1_cover_1 fl_RX1_43 rfl rfl rfl ?_
  refine a_bipush (v := (7 : Int32)) C dX1_cover_4 rfl ?_
  refine a_icmp_ge (tgt := 66) C dX1_cover_6 (by decide) (fun c1 => ?_) (fun c1 => ?_)
  · have h := it_t c1 h
    obtain rfl := ret1 h
    exact a_vret C dX1_cover_66 rfl (by decide) rfl rfl
  · have h := it_f c1 h
    refine a_aload_n (q := 0) C dX1_cover_9 rfl rfl ?_
    refine a_getr (a := 1) (t := 3) C dX1_cover_10 fl_RX1_15 rfl rfl ?_
    refine a_iload_n (q := 1) C dX1_cover_13 rfl rfl ?_
    refine a_iload_n (q := 2) C dX1_cover_14 rfl rfl ?_
    obtain ⟨z2, h⟩ := asr_spec h
    refine a_iast (a := 3) C dX1_cover_15 rfl (inb_in z2) ?_
    refine a_aload_n (q := 0) C dX1_cover_16 rfl rfl ?_
    refine a_getr (a := 1) (t := 8) C dX1_cover_17 fl_RX1_30 rfl rfl ?_
    refine a_iload_n (q := 2) C dX1_cover_20 rfl rfl ?_
    refine a_dup2 C dX1_cover_21 rfl rfl ?_
    obtain ⟨z3, h⟩ := asr_spec h
    refine a_iald (a := 8) (x := (V 8 x2.toNatClampNeg)) C dX1_cover_22 rfl (inb_in z3) rfl ?_
    refine a_aload_n (q := 0) C dX1_cover_23 rfl rfl ?_
    refine a_getr (a := 1) (t := 2) C dX1_cover_24 fl_RX1_9 rfl rfl ?_
    refine a_iload_n (q := 1) C dX1_cover_27 rfl rfl ?_
    obtain ⟨z4, h⟩ := asr_spec h
    refine a_iald (a := 2) (x := (V 2 x1.toNatClampNeg)) C dX1_cover_28 rfl (inb_in z4) rfl ?_
    refine a_isub C dX1_cover_29 ?_
    obtain ⟨z5, h⟩ := asr_spec h
    refine a_iast (a := 8) C dX1_cover_30 rfl (inb_in z5) ?_
    refine a_aload_n (q := 0) C dX1_cover_31 rfl rfl ?_
    refine a_getr (a := 1) (t := 9) C dX1_cover_32 fl_RX1_33 rfl rfl ?_
    refine a_iload_n (q := 2) C dX1_cover_35 rfl rfl ?_
    refine a_dup2 C dX1_cover_36 rfl rfl ?_
    obtain ⟨z6, h⟩ := asr_spec h
    refine a_iald (a := 9) (x := (V 9 x2.toNatClampNeg)) C dX1_cover_37 rfl (inb_in z6) rfl ?_
    refine a_aload_n (q := 0) C dX1_cover_38 rfl rfl ?_
    refine a_getr (a := 1) (t := 2) C dX1_cover_39 fl_RX1_9 rfl rfl ?_
    refine a_iload_n (q := 1) C dX1_cover_42 rfl rfl ?_
    obtain ⟨z7, h⟩ := asr_spec h
    refine a_iald (a := 2) (x := (V 2 x1.toNatClampNeg)) C dX1_cover_43 rfl (inb_in z7) rfl ?_
    refine a_iadd C dX1_cover_44 ?_
    obtain ⟨z8, h⟩ := asr_spec h
    refine a_iast (a := 9) C dX1_cover_45 rfl (inb_in z8) ?_
    refine a_aload_n (q := 0) C dX1_cover_46 rfl rfl ?_
    refine a_getr (a := 1) (t := 7) C dX1_cover_47 fl_RX1_27 rfl rfl ?_
    refine a_aload_n (q := 0) C dX1_cover_50 rfl rfl ?_
    refine a_geti (a := 1) (x := (V 1 10)) C dX1_cover_51 fl_RX1_43 rfl rfl rfl ?_
    refine a_iload_n (q := 1) C dX1_cover_54 rfl rfl ?_
    obtain ⟨z9, h⟩ := asr_spec h
    refine a_iast (a := 7) C dX1_cover_55 rfl (inb_in z9) ?_
    refine a_aload_n (q := 0) C dX1_cover_56 rfl rfl ?_
    refine a_dup C dX1_cover_57 rfl ?_
    refine a_geti (a := 1) (x := (V 1 10)) C dX1_cover_58 fl_RX1_43 rfl rfl rfl ?_
    refine a_iconst (v := (1 : Int32)) C dX1_cover_61 rfl ?_
    refine a_iadd C dX1_cover_62 ?_
    refine a_puti (a := 1) C dX1_cover_63 fp_RX1_43 rfl rfl rfl rfl ?_
    obtain rfl := ret1 h
    exact a_vret C dX1_cover_66 rfl (by decide) rfl rfl
set_option maxRecDepth 20000 in
set_option maxHeartbeats 4000000 in
theorem w_X4_paint (x1 : Int32) (x2 : Int32)  (V : VT) (o9 : Int32 ⊕ String) (W9 : VT) (h : d_X4_paint x1 x2 V = some (o9, W9)) : AM 7 3 yX4_paint (.code yX4_paint cX4_paint 3 (some .int)) (fun ad => [.ref (ad 0), .int x1, .int x2]) V W9 (rX o9) := by
  unfold d_X4_paint at h
  refine AM.of (by decide +kernel) (fun ad => Nat.le_of_ble_eq_true rfl) (fun {p l e s m args below meth c D cs ad b0} C hT => ?_)
  have C : Ctx p l s m args meth c D cs ad b0 RX4 cX4_paint 3 (some .int) := C
  refine a_sub (lv' := [(0, .ref (ad 0)), (1, .int x1), (2, .int x2)]) [0, 1, 2] rfl ?_
  refine a_aload_n (q := 0) C dX4_paint_0 rfl rfl ?_
  refine a_iload_n (q := 1) C dX4_paint_1 rfl rfl ?_
  obtain ⟨o2, V3, g1, n4, t5⟩ := bx_spec h
  refine a_cVxv (a := 0) (st := []) (k' := 1) C dX4_paint_2 cv_RX4_87 (w_X4_stopIfNoCountry x1  V o2 V3 g1) rfl rfl rfl rfl rfl ⟨Nat.le_of_ble_eq_true rfl, Nat.le_of_ble_eq_true rfl, Nat.le_of_ble_eq_true rfl, Nat.le_of_ble_eq_true rfl⟩ (Nat.le_of_ble_eq_true rfl) (fun r6 e9 => ?_) (fun E9 e9 => ?_)
  · have h := n4 r6 e9
    refine a_aload_n (q := 0) C dX4_paint_5 rfl rfl ?_
    refine a_iload_n (q := 2) C dX4_paint_6 rfl rfl ?_
    obtain ⟨o8, V9, g7, n10, t11⟩ := bx_spec h
    refine a_cVxv (a := 0) (st := []) (k' := 1) C dX4_paint_7 cv_RX4_153 (w_X4_stopIfNoHue x2  V3 o8 V9 g7) rfl rfl rfl rfl rfl ⟨Nat.le_of_ble_eq_true rfl, Nat.le_of_ble_eq_true rfl, Nat.le_of_ble_eq_true rfl, Nat.le_of_ble_eq_true rfl⟩ (Nat.le_of_ble_eq_true rfl) (fun r12 e9 => ?_) (fun E9 e9 => ?_)
    · have h := n10 r12 e9
      refine a_aload_n (q := 0) C dX4_paint_10 rfl rfl ?_
      refine a_aload_n (q := 0) C dX4_paint_11 rfl rfl ?_
      refine a_getr (a := 0) (t := 1) C dX4_paint_12 fl_RX4_10 rfl rfl ?_
      refine a_iload_n (q := 1) C dX4_paint_15 rfl rfl ?_
      refine a_iload_n (q := 2) C dX4_paint_16 rfl rfl ?_
      obtain ⟨r14, g13, h⟩ := bd_spec h
      refine a_cVi (a := 1) (st := [.ref (ad 0)]) C dX4_paint_17 cv_RX4_175 (w_X1_reasonAgainstPaint x1 x2  V9 r14 g13) rfl rfl rfl rfl rfl ⟨Nat.le_of_ble_eq_true rfl, Nat.le_of_ble_eq_true rfl, Nat.le_of_ble_eq_true rfl, Nat.le_of_ble_eq_true rfl⟩ (Nat.le_of_ble_eq_true rfl) ?_
      refine a_iload_n (q := 1) C dX4_paint_20 rfl rfl ?_
      refine a_iload_n (q := 2) C dX4_paint_21 rfl rfl ?_
      obtain ⟨o16, V17, g15, n18, t19⟩ := bx_spec h
      refine a_cVxv (a := 0) (st := []) (k' := 1) C dX4_paint_22 cv_RX4_75 (w_X4_stopIfRefused r14 x1 x2  V9 o16 V17 g15) rfl rfl rfl rfl rfl ⟨Nat.le_of_ble_eq_true rfl, Nat.le_of_ble_eq_true rfl, Nat.le_of_ble_eq_true rfl, Nat.le_of_ble_eq_true rfl⟩ (Nat.le_of_ble_eq_true rfl) (fun r20 e9 => ?_) (fun E9 e9 => ?_)
      · have h := n18 r20 e9
        refine a_aload_n (q := 0) C dX4_paint_25 rfl rfl ?_
        refine a_getr (a := 0) (t := 28) C dX4_paint_26 fl_RX4_25 rfl rfl ?_
        refine a_aload_n (q := 0) C dX4_paint_29 rfl rfl ?_
        refine a_getr (a := 0) (t := 1) C dX4_paint_30 fl_RX4_10 rfl rfl ?_
        obtain ⟨V22, g21, h⟩ := bd_spec h
        refine a_cVv (a := 28) (st := []) C dX4_paint_33 cv_RX4_79 (w_X3_keep 1 rfl V17 V22 g21) rfl rfl rfl rfl rfl ⟨Nat.le_of_ble_eq_true rfl, Nat.le_of_ble_eq_true rfl, Nat.le_of_ble_eq_true rfl, Nat.le_of_ble_eq_true rfl⟩ (Nat.le_of_ble_eq_true rfl) ?_
        refine a_aload_n (q := 0) C dX4_paint_36 rfl rfl ?_
        refine a_getr (a := 0) (t := 1) C dX4_paint_37 fl_RX4_10 rfl rfl ?_
        refine a_iload_n (q := 1) C dX4_paint_40 rfl rfl ?_
        refine a_iload_n (q := 2) C dX4_paint_41 rfl rfl ?_
        obtain ⟨V24, g23, h⟩ := bd_spec h
        refine a_cVv (a := 1) (st := []) C dX4_paint_42 cv_RX4_178 (w_X1_cover x1 x2  V22 V24 g23) rfl rfl rfl rfl rfl ⟨Nat.le_of_ble_eq_true rfl, Nat.le_of_ble_eq_true rfl, Nat.le_of_ble_eq_true rfl, Nat.le_of_ble_eq_true rfl⟩ (Nat.le_of_ble_eq_true rfl) ?_
        refine a_aload_n (q := 0) C dX4_paint_45 rfl rfl ?_
        refine a_getr (a := 0) (t := 1) C dX4_paint_46 fl_RX4_10 rfl rfl ?_
        refine a_geti (a := 1) (x := (V24 1 10)) C dX4_paint_49 fl_RX4_181 rfl rfl rfl ?_
        obtain ⟨rfl, rfl⟩ := ret2 h
        exact a_iret C dX4_paint_52 rfl (by decide) rfl rfl
      · obtain ⟨rfl, rfl⟩ := Prod.mk.inj (t19 E9 e9)
        exact a_xout C hT (by decide) rfl rfl
    · obtain ⟨rfl, rfl⟩ := Prod.mk.inj (t11 E9 e9)
      exact a_xout C hT (by decide) rfl rfl
  · obtain ⟨rfl, rfl⟩ := Prod.mk.inj (t5 E9 e9)
    exact a_xout C hT (by decide) rfl rfl
set_option maxRecDepth 20000 in
set_option maxHeartbeats 4000000 in
theorem w_X4_bars (x1 : Int32) (x2 : Int32)  (V : VT) (o9 : Int32 ⊕ String) (W9 : VT) (h : d_X4_bars x1 x2 V = some (o9, W9)) : AM 7 2 yX4_bars (.code yX4_bars cX4_bars 3 (some .int)) (fun ad => [.ref (ad 0), .int x1, .int x2]) V W9 (rX o9) := by
  unfold d_X4_bars at h
  refine AM.of (by decide +kernel) (fun ad => Nat.le_of_ble_eq_true rfl) (fun {p l e s m args below meth c D cs ad b0} C hT => ?_)
  have C : Ctx p l s m args meth c D cs ad b0 RX4 cX4_bars 3 (some .int) := C
  refine a_sub (lv' := [(0, .ref (ad 0)), (1, .int x1), (2, .int x2)]) [0, 1, 2] rfl ?_
  refine a_aload_n (q := 0) C dX4_bars_0 rfl rfl ?_
  refine a_iload_n (q := 1) C dX4_bars_1 rfl rfl ?_
  obtain ⟨o2, V3, g1, n4, t5⟩ := bx_spec h
  refine a_cVxv (a := 0) (st := []) (k' := 1) C dX4_bars_2 cv_RX4_87 (w_X4_stopIfNoCountry x1  V o2 V3 g1) rfl rfl rfl rfl rfl ⟨Nat.le_of_ble_eq_true rfl, Nat.le_of_ble_eq_true rfl, Nat.le_of_ble_eq_true rfl, Nat.le_of_ble_eq_true rfl⟩ (Nat.le_of_ble_eq_true rfl) (fun r6 e9 => ?_) (fun E9 e9 => ?_)
  · have h := n4 r6 e9
    refine a_aload_n (q := 0) C dX4_bars_5 rfl rfl ?_
    refine a_iload_n (q := 2) C dX4_bars_6 rfl rfl ?_
    obtain ⟨o8, V9, g7, n10, t11⟩ := bx_spec h
    refine a_cVxv (a := 0) (st := []) (k' := 1) C dX4_bars_7 cv_RX4_153 (w_X4_stopIfNoHue x2  V3 o8 V9 g7) rfl rfl rfl rfl rfl ⟨Nat.le_of_ble_eq_true rfl, Nat.le_of_ble_eq_true rfl, Nat.le_of_ble_eq_true rfl, Nat.le_of_ble_eq_true rfl⟩ (Nat.le_of_ble_eq_true rfl) (fun r12 e9 => ?_) (fun E9 e9 => ?_)
    · have h := n10 r12 e9
      refine a_aload_n (q := 0) C dX4_bars_10 rfl rfl ?_
      refine a_getr (a := 0) (t := 1) C dX4_bars_11 fl_RX4_10 rfl rfl ?_
      refine a_iload_n (q := 1) C dX4_bars_14 rfl rfl ?_
      refine a_iload_n (q := 2) C dX4_bars_15 rfl rfl ?_
      obtain ⟨r14, g13, h⟩ := bd_spec h
      refine a_cVi (a := 1) (st := []) C dX4_bars_16 cv_RX4_175 (w_X1_reasonAgainstPaint x1 x2  V9 r14 g13) rfl rfl rfl rfl rfl ⟨Nat.le_of_ble_eq_true rfl, Nat.le_of_ble_eq_true rfl, Nat.le_of_ble_eq_true rfl, Nat.le_of_ble_eq_true rfl⟩ (Nat.le_of_ble_eq_true rfl) ?_
      obtain ⟨rfl, rfl⟩ := ret2 h
      exact a_iret C dX4_bars_19 rfl (by decide) rfl rfl
    · obtain ⟨rfl, rfl⟩ := Prod.mk.inj (t11 E9 e9)
      exact a_xout C hT (by decide) rfl rfl
  · obtain ⟨rfl, rfl⟩ := Prod.mk.inj (t5 E9 e9)
    exact a_xout C hT (by decide) rfl rfl
set_option maxRecDepth 20000 in
set_option maxHeartbeats 4000000 in
theorem w_X1_reasonAgainstBack   (V : VT) (r9 : Int32) (h : d_X1_reasonAgainstBack  V = some r9) : AM 2 0 yX1_reasonAgainstBack (.code yX1_reasonAgainstBack cX1_reasonAgainstBack 1 (some .int)) (fun ad => [.ref (ad 1)]) V V (rI r9) := by
  unfold d_X1_reasonAgainstBack at h
  refine AM.of (by decide +kernel) (fun ad => Nat.le_of_ble_eq_true rfl) (fun {p l e s m args below meth c D cs ad b0} C hT => ?_)
  have C : Ctx p l s m args meth c D cs ad b0 RX1 cX1_reasonAgainstBack 1 (some .int) := C
  refine a_sub (lv' := [(0, .ref (ad 1))]) [0] rfl ?_
  refine a_aload_n (q := 0) C dX1_reasonAgainstBack_0 rfl rfl ?_
  refine a_geti (a := 1) (x := (V 1 10)) C dX1_reasonAgainstBack_1 fl_RX1_43 rfl rfl rfl ?_
  refine a_if_ne (tgt := 12) C dX1_reasonAgainstBack_4 (by decide) (fun c1 => ?_) (fun c1 => ?_)
  · have h := it_f c1 h
    refine a_iconst (v := (0 : Int32)) C dX1_reasonAgainstBack_12 rfl ?_
    obtain rfl := ret1 h
    exact a_iret C dX1_reasonAgainstBack_13 rfl (by decide) rfl rfl
  · have h := it_t c1 h
    refine a_bipush (v := (8 : Int32)) C dX1_reasonAgainstBack_7 rfl ?_
    refine a_goto (tgt := 13) C dX1_reasonAgainstBack_9 (by decide) ?_
    obtain rfl := ret1 h
    exact a_iret C dX1_reasonAgainstBack_13 rfl (by decide) rfl rfl
set_option maxRecDepth 20000 in
set_option maxHeartbeats 4000000 in
theorem w_X1_stepBack   (V : VT) (r9 : Int32) (W9 : VT) (h : d_X1_stepBack  V = some (r9, W9)) : AM 3 0 yX1_stepBack (.code yX1_stepBack cX1_stepBack 2 (some .int)) (fun ad => [.ref (ad 1)]) V W9 (rI r9) := by
  unfold d_X1_stepBack at h
  refine AM.of (by decide +kernel) (fun ad => Nat.le_of_ble_eq_true rfl) (fun {p l e s m args below meth c D cs ad b0} C hT => ?_)
  have C : Ctx p l s m args meth c D cs ad b0 RX1 cX1_stepBack 2 (some .int) := C
  refine a_sub (lv' := [(0, .ref (ad 1))]) [0] rfl ?_
  refine a_aload_n (q := 0) C dX1_stepBack_0 rfl rfl ?_
  refine a_geti (a := 1) (x := (V 1 10)) C dX1_stepBack_1 fl_RX1_43 rfl rfl rfl ?_
  refine a_if_le (tgt := 16) C dX1_stepBack_4 (by decide) (fun c1 => ?_) (fun c1 => ?_)
  · have h := it_t c1 h
    refine a_iconst (v := (-1 : Int32)) C dX1_stepBack_16 rfl ?_
    obtain ⟨rfl, rfl⟩ := ret2 h
    exact a_iret C dX1_stepBack_17 rfl (by decide) rfl rfl
  · have h := it_f c1 h
    refine a_aload_n (q := 0) C dX1_stepBack_7 rfl rfl ?_
    refine a_geti (a := 1) (x := (V 1 10)) C dX1_stepBack_8 fl_RX1_43 rfl rfl rfl ?_
    refine a_bipush (v := (7 : Int32)) C dX1_stepBack_11 rfl ?_
    refine a_icmp_le (tgt := 18) C dX1_stepBack_13 (by decide) (fun c2 => ?_) (fun c2 => ?_)
    · have h := it_t c2 h
      refine a_aload_n (q := 0) C dX1_stepBack_18 rfl rfl ?_
      refine a_dup C dX1_stepBack_19 rfl ?_
      refine a_geti (a := 1) (x := (V 1 10)) C dX1_stepBack_20 fl_RX1_43 rfl rfl rfl ?_
      refine a_iconst (v := (1 : Int32)) C dX1_stepBack_23 rfl ?_
      refine a_isub C dX1_stepBack_24 ?_
      refine a_puti (a := 1) C dX1_stepBack_25 fp_RX1_43 rfl rfl rfl rfl ?_
      refine a_aload_n (q := 0) C dX1_stepBack_28 rfl rfl ?_
      refine a_getr (a := 1) (t := 7) C dX1_stepBack_29 fl_RX1_27 rfl rfl ?_
      refine a_aload_n (q := 0) C dX1_stepBack_32 rfl rfl ?_
      refine a_geti (a := 1) (x := ((V 1 10) - (1 : Int32))) C dX1_stepBack_33 fl_RX1_43 rfl rfl rfl ?_
      obtain ⟨z3, h⟩ := asr_spec h
      refine a_iald (a := 7) (x := (V 7 ((V 1 10) - (1 : Int32)).toNatClampNeg)) C dX1_stepBack_36 rfl (inb_in z3) rfl ?_
      refine a_istore_n (lv' := [(1, .int (V 7 ((V 1 10) - (1 : Int32)).toNatClampNeg)), (0, .ref (ad 1))]) C dX1_stepBack_37 rfl (by decide) rfl ?_
      refine a_aload_n (q := 1) C dX1_stepBack_38 rfl rfl ?_
      refine a_iload_n (q := 0) C dX1_stepBack_39 rfl rfl ?_
      obtain ⟨r5, g4, h⟩ := bd_spec h
      refine a_cVi (a := 1) (st := []) C dX1_stepBack_40 cv_RX1_76 (w_X1_isCountry (V 7 ((V 1 10) - (1 : Int32)).toNatClampNeg)  (up2 V 1 10 ((V 1 10) - (1 : Int32))) r5 g4) rfl rfl rfl rfl rfl ⟨Nat.le_of_ble_eq_true rfl, Nat.le_of_ble_eq_true rfl, Nat.le_of_ble_eq_true rfl, Nat.le_of_ble_eq_true rfl⟩ (Nat.le_of_ble_eq_true rfl) ?_
      refine a_if_eq (tgt := 63) C dX1_stepBack_43 (by decide) (fun c6 => ?_) (fun c6 => ?_)
      · have h := it_t c6 h
        refine a_iload_n (q := 0) C dX1_stepBack_63 rfl rfl ?_
        obtain ⟨rfl, rfl⟩ := ret2 h
        exact a_iret C dX1_stepBack_64 rfl (by decide) rfl rfl
      · have h := it_f c6 h
        refine a_aload_n (q := 1) C dX1_stepBack_46 rfl rfl ?_
        refine a_getr (a := 1) (t := 3) C dX1_stepBack_47 fl_RX1_15 rfl rfl ?_
        refine a_iload_n (q := 0) C dX1_stepBack_50 rfl rfl ?_
        refine a_iconst (v := (-1 : Int32)) C dX1_stepBack_51 rfl ?_
        obtain ⟨z7, h⟩ := asr_spec h
        refine a_iast (a := 3) C dX1_stepBack_52 rfl (inb_in z7) ?_
        refine a_aload_n (q := 1) C dX1_stepBack_53 rfl rfl ?_
        refine a_dup C dX1_stepBack_54 rfl ?_
        refine a_geti (a := 1) (x := (V 1 11)) C dX1_stepBack_55 fl_RX1_46 rfl rfl rfl ?_
        refine a_iconst (v := (1 : Int32)) C dX1_stepBack_58 rfl ?_
        refine a_iadd C dX1_stepBack_59 ?_
        refine a_puti (a := 1) C dX1_stepBack_60 fp_RX1_46 rfl rfl rfl rfl ?_
        refine a_iload_n (q := 0) C dX1_stepBack_63 rfl rfl ?_
        obtain ⟨rfl, rfl⟩ := ret2 h
        exact a_iret C dX1_stepBack_64 rfl (by decide) rfl rfl
    · have h := it_f c2 h
      refine a_iconst (v := (-1 : Int32)) C dX1_stepBack_16 rfl ?_
      obtain ⟨rfl, rfl⟩ := ret2 h
      exact a_iret C dX1_stepBack_17 rfl (by decide) rfl rfl
set_option maxRecDepth 20000 in
set_option maxHeartbeats 4000000 in
theorem w_X4_back   (V : VT) (o9 : Int32 ⊕ String) (W9 : VT) (h : d_X4_back  V = some (o9, W9)) : AM 7 1 yX4_back (.code yX4_back cX4_back 1 (some .int)) (fun ad => [.ref (ad 0)]) V W9 (rX o9) := by
  unfold d_X4_back at h
  refine AM.of (by decide +kernel) (fun ad => Nat.le_of_ble_eq_true rfl) (fun {p l e s m args below meth c D cs ad b0} C hT => ?_)
  have C : Ctx p l s m args meth c D cs ad b0 RX4 cX4_back 1 (some .int) := C
  refine a_sub (lv' := [(0, .ref (ad 0))]) [0] rfl ?_
  refine a_aload_n (q := 0) C dX4_back_0 rfl rfl ?_
  refine a_aload_n (q := 0) C dX4_back_1 rfl rfl ?_
  refine a_getr (a := 0) (t := 1) C dX4_back_2 fl_RX4_10 rfl rfl ?_
  obtain ⟨r2, g1, h⟩ := bd_spec h
  refine a_cVi (a := 1) (st := [.ref (ad 0)]) C dX4_back_5 cv_RX4_184 (w_X1_reasonAgainstBack   V r2 g1) rfl rfl rfl rfl rfl ⟨Nat.le_of_ble_eq_true rfl, Nat.le_of_ble_eq_true rfl, Nat.le_of_ble_eq_true rfl, Nat.le_of_ble_eq_true rfl⟩ (Nat.le_of_ble_eq_true rfl) ?_
  refine a_iconst (v := (0 : Int32)) C dX4_back_8 rfl ?_
  refine a_iconst (v := (0 : Int32)) C dX4_back_9 rfl ?_
  obtain ⟨o4, V5, g3, n6, t7⟩ := bx_spec h
  refine a_cVxv (a := 0) (st := []) (k' := 1) C dX4_back_10 cv_RX4_75 (w_X4_stopIfRefused r2 (0 : Int32) (0 : Int32)  V o4 V5 g3) rfl rfl rfl rfl rfl ⟨Nat.le_of_ble_eq_true rfl, Nat.le_of_ble_eq_true rfl, Nat.le_of_ble_eq_true rfl, Nat.le_of_ble_eq_true rfl⟩ (Nat.le_of_ble_eq_true rfl) (fun r8 e9 => ?_) (fun E9 e9 => ?_)
  · have h := n6 r8 e9
    refine a_aload_n (q := 0) C dX4_back_13 rfl rfl ?_
    refine a_getr (a := 0) (t := 28) C dX4_back_14 fl_RX4_25 rfl rfl ?_
    refine a_aload_n (q := 0) C dX4_back_17 rfl rfl ?_
    refine a_getr (a := 0) (t := 1) C dX4_back_18 fl_RX4_10 rfl rfl ?_
    obtain ⟨V10, g9, h⟩ := bd_spec h
    refine a_cVv (a := 28) (st := []) C dX4_back_21 cv_RX4_79 (w_X3_keep 1 rfl V5 V10 g9) rfl rfl rfl rfl rfl ⟨Nat.le_of_ble_eq_true rfl, Nat.le_of_ble_eq_true rfl, Nat.le_of_ble_eq_true rfl, Nat.le_of_ble_eq_true rfl⟩ (Nat.le_of_ble_eq_true rfl) ?_
    refine a_aload_n (q := 0) C dX4_back_24 rfl rfl ?_
    refine a_getr (a := 0) (t := 1) C dX4_back_25 fl_RX4_10 rfl rfl ?_
    obtain ⟨r13, V12, g11, h⟩ := bw_spec h
    refine a_cVi (a := 1) (st := []) C dX4_back_28 cv_RX4_187 (w_X1_stepBack   V10 r13 V12 g11) rfl rfl rfl rfl rfl ⟨Nat.le_of_ble_eq_true rfl, Nat.le_of_ble_eq_true rfl, Nat.le_of_ble_eq_true rfl, Nat.le_of_ble_eq_true rfl⟩ (Nat.le_of_ble_eq_true rfl) ?_
    obtain ⟨rfl, rfl⟩ := ret2 h
    exact a_iret C dX4_back_31 rfl (by decide) rfl rfl
  · obtain ⟨rfl, rfl⟩ := Prod.mk.inj (t7 E9 e9)
    exact a_xout C hT (by decide) rfl rfl
set_option maxRecDepth 20000 in
set_option maxHeartbeats 4000000 in
theorem w_X1_firstWithOneFreeHue_2 {p : Program} {l : Launch} {e : Env} {s : State} {m : MethodId} {args : Array Value} {below : List Frame} {meth : Method} {c : Code} {D : va_G} {cs : Nat → ClassId} {ad : Nat → Nat} {b0 : Nat} (C : Ctx p l s m args meth c D cs ad b0 RX1 cX1_firstWithOneFreeHue 2 (some .int)) (hT : ∀ x ∈ c.exceptionTable.toList, False)   {V : VT} {r9 : Int32}     :
    ∀ (x1 : Int32) , d_X1_firstWithOneFreeHue_2 V x1 = some r9 → AW p l e (rmOf 4 0) s m args below meth c D cs ad b0 (QF below D cs ad b0 V ((rI r9) ad) args s 0) 2 0 V [(0, .ref (ad 1)), (1, .int x1)] [] 2 := by
  refine lo1_ind (P := fun x1 => AW p l e (rmOf 4 0) s m args below meth c D cs ad b0 (QF below D cs ad b0 V ((rI r9) ad) args s 0) 2 0 V [(0, .ref (ad 1)), (1, .int x1)] [] 2) ?_ FU
  intro k2 hk2 x1 h
  unfold d_X1_firstWithOneFreeHue_2b at h
  refine a_iload_n (q := 1) C dX1_firstWithOneFreeHue_2 rfl rfl ?_
  refine a_aload_n (q := 0) C dX1_firstWithOneFreeHue_3 rfl rfl ?_
  refine a_geti (a := 1) (x := (V 1 8)) C dX1_firstWithOneFreeHue_4 fl_RX1_36 rfl rfl rfl ?_
  refine a_icmp_ge (tgt := 30) C dX1_firstWithOneFreeHue_7 (by decide) (fun c1 => ?_) (fun c1 => ?_)
  · have h := it_t c1 h
    refine a_iconst (v := (-1 : Int32)) C dX1_firstWithOneFreeHue_30 rfl ?_
    obtain rfl := ret1 h
    exact a_iret C dX1_firstWithOneFreeHue_31 rfl (by decide) rfl rfl
  · have h := it_f c1 h
    refine a_aload_n (q := 0) C dX1_firstWithOneFreeHue_10 rfl rfl ?_
    refine a_iload_n (q := 1) C dX1_firstWithOneFreeHue_11 rfl rfl ?_
    obtain ⟨r3, g2, h⟩ := bd_spec h
    refine a_cVi (a := 1) (st := []) C dX1_firstWithOneFreeHue_12 cv_RX1_83 (w_X1_freeHues x1  V r3 g2) rfl rfl rfl rfl rfl ⟨Nat.le_of_ble_eq_true rfl, Nat.le_of_ble_eq_true rfl, Nat.le_of_ble_eq_true rfl, Nat.le_of_ble_eq_true rfl⟩ (Nat.le_of_ble_eq_true rfl) ?_
    obtain ⟨r5, g4, h⟩ := bd_spec h
    refine a_cSi (st := []) C dX1_firstWithOneFreeHue_15 cv_RX1_96 (w_J6_bitCount_0f7a4 r3  V r5 g4) rfl rfl rfl ⟨Nat.le_of_ble_eq_true rfl, Nat.le_of_ble_eq_true rfl, Nat.le_of_ble_eq_true rfl, Nat.le_of_ble_eq_true rfl⟩ (Nat.le_of_ble_eq_true rfl) ?_
    refine a_iconst (v := (1 : Int32)) C dX1_firstWithOneFreeHue_18 rfl ?_
    refine a_icmp_ne (tgt := 24) C dX1_firstWithOneFreeHue_19 (by decide) (fun c6 => ?_) (fun c6 => ?_)
    · have h := it_f c6 h
      refine a_iinc (q := 1) (v := (x1 + (1 : Int32))) (lv' := [(1, .int (x1 + (1 : Int32))), (0, .ref (ad 1))]) C dX1_firstWithOneFreeHue_24 rfl rfl (by decide) rfl ?_
      refine a_goto (tgt := 2) C dX1_firstWithOneFreeHue_27 (by decide) ?_
      refine a_sub (lv' := [(0, .ref (ad 1)), (1, .int (x1 + (1 : Int32)))]) [1, 0] rfl ?_
      exact hk2 (x1 + (1 : Int32)) h
    · have h := it_t c6 h
      refine a_iload_n (q := 1) C dX1_firstWithOneFreeHue_22 rfl rfl ?_
      obtain rfl := ret1 h
      exact a_iret C dX1_firstWithOneFreeHue_23 rfl (by decide) rfl rfl
set_option maxRecDepth 20000 in
set_option maxHeartbeats 4000000 in
theorem w_X1_firstWithOneFreeHue   (V : VT) (r9 : Int32) (h : d_X1_firstWithOneFreeHue  V = some r9) : AM 4 0 yX1_firstWithOneFreeHue (.code yX1_firstWithOneFreeHue cX1_firstWithOneFreeHue 2 (some .int)) (fun ad => [.ref (ad 1)]) V V (rI r9) := by
  unfold d_X1_firstWithOneFreeHue at h
  refine AM.of (by decide +kernel) (fun ad => Nat.le_of_ble_eq_true rfl) (fun {p l e s m args below meth c D cs ad b0} C hT => ?_)
  have C : Ctx p l s m args meth c D cs ad b0 RX1 cX1_firstWithOneFreeHue 2 (some .int) := C
  refine a_sub (lv' := [(0, .ref (ad 1))]) [0] rfl ?_
  refine a_iconst (v := (0 : Int32)) C dX1_firstWithOneFreeHue_0 rfl ?_
  refine a_istore_n (lv' := [(1, .int (0 : Int32)), (0, .ref (ad 1))]) C dX1_firstWithOneFreeHue_1 rfl (by decide) rfl ?_
  refine a_sub (lv' := [(0, .ref (ad 1)), (1, .int (0 : Int32))]) [1, 0] rfl ?_
  exact w_X1_firstWithOneFreeHue_2 C hT (0 : Int32) h
set_option maxRecDepth 20000 in
set_option maxHeartbeats 4000000 in
theorem w_X1_lowestOf_2 {p : Program} {l : Launch} {e : Env} {s : State} {m : MethodId} {args : Array Value} {below : List Frame} {meth : Method} {c : Code} {D : va_G} {cs : Nat → ClassId} {ad : Nat → Nat} {b0 : Nat} (C : Ctx p l s m args meth c D cs ad b0 RX1 cX1_lowestOf 2 (some .int)) (hT : ∀ x ∈ c.exceptionTable.toList, False)   {V : VT} {r9 : Int32}     :
    ∀ (x0 x1 : Int32) , d_X1_lowestOf_2 V x0 x1 = some r9 → AW p l e (rmOf 2 0) s m args below meth c D cs ad b0 (QF below D cs ad b0 V ((rI r9) ad) args s 0) 2 0 V [(0, .int x0), (1, .int x1)] [] 2 := by
  refine lo2_ind (P := fun x0 x1 => AW p l e (rmOf 2 0) s m args below meth c D cs ad b0 (QF below D cs ad b0 V ((rI r9) ad) args s 0) 2 0 V [(0, .int x0), (1, .int x1)] [] 2) ?_ FU
  intro k2 hk2 x0 x1 h
  unfold d_X1_lowestOf_2b at h
  refine a_iload_n (q := 1) C dX1_lowestOf_2 rfl rfl ?_
  refine a_iconst (v := (4 : Int32)) C dX1_lowestOf_3 rfl ?_
  refine a_icmp_ge (tgt := 21) C dX1_lowestOf_4 (by decide) (fun c1 => ?_) (fun c1 => ?_)
  · have h := it_t c1 h
    refine a_iload_n (q := 1) C dX1_lowestOf_21 rfl rfl ?_
    obtain rfl := ret1 h
    exact a_iret C dX1_lowestOf_22 rfl (by decide) rfl rfl
  · have h := it_f c1 h
    refine a_iload_n (q := 0) C dX1_lowestOf_7 rfl rfl ?_
    refine a_iload_n (q := 1) C dX1_lowestOf_8 rfl rfl ?_
    refine a_ishr C dX1_lowestOf_9 ?_
    refine a_iconst (v := (1 : Int32)) C dX1_lowestOf_10 rfl ?_
    refine a_iand C dX1_lowestOf_11 ?_
    refine a_if_ne (tgt := 21) C dX1_lowestOf_12 (by decide) (fun c2 => ?_) (fun c2 => ?_)
    · have h := it_f c2 h
      refine a_iload_n (q := 1) C dX1_lowestOf_21 rfl rfl ?_
      obtain rfl := ret1 h
      exact a_iret C dX1_lowestOf_22 rfl (by decide) rfl rfl
    · have h := it_t c2 h
      refine a_iinc (q := 1) (v := (x1 + (1 : Int32))) (lv' := [(1, .int (x1 + (1 : Int32))), (0, .int x0)]) C dX1_lowestOf_15 rfl rfl (by decide) rfl ?_
      refine a_goto (tgt := 2) C dX1_lowestOf_18 (by decide) ?_
      refine a_sub (lv' := [(0, .int x0), (1, .int (x1 + (1 : Int32)))]) [1, 0] rfl ?_
      exact hk2 x0 (x1 + (1 : Int32)) h
set_option maxRecDepth 20000 in
set_option maxHeartbeats 4000000 in
theorem w_X1_lowestOf (x0 : Int32)  (V : VT) (r9 : Int32) (h : d_X1_lowestOf x0 V = some r9) : AM 2 0 yX1_lowestOf (.code yX1_lowestOf cX1_lowestOf 2 (some .int)) (fun ad => [.int x0]) V V (rI r9) := by
  unfold d_X1_lowestOf at h
  refine AM.of (by decide +kernel) (fun ad => Nat.le_of_ble_eq_true rfl) (fun {p l e s m args below meth c D cs ad b0} C hT => ?_)
  have C : Ctx p l s m args meth c D cs ad b0 RX1 cX1_lowestOf 2 (some .int) := C
  refine a_sub (lv' := [(0, .int x0)]) [0] rfl ?_
  refine a_iconst (v := (0 : Int32)) C dX1_lowestOf_0 rfl ?_
  refine a_istore_n (lv' := [(1, .int (0 : Int32)), (0, .int x0)]) C dX1_lowestOf_1 rfl (by decide) rfl ?_
  refine a_sub (lv' := [(0, .int x0), (1, .int (0 : Int32))]) [1, 0] rfl ?_
  exact w_X1_lowestOf_2 C hT x0 (0 : Int32) h
set_option maxRecDepth 20000 in
set_option maxHeartbeats 4000000 in
theorem w_X1_fillIn_2 {p : Program} {l : Launch} {e : Env} {s : State} {m : MethodId} {args : Array Value} {below : List Frame} {meth : Method} {c : Code} {D : va_G} {cs : Nat → ClassId} {ad : Nat → Nat} {b0 : Nat} (C : Ctx p l s m args meth c D cs ad b0 RX1 cX1_fillIn 3 (some .int)) (hT : ∀ x ∈ c.exceptionTable.toList, False)    {r9 : Int32} {W9 : VT}     :
    ∀ (x1 : Int32) (V : VT), d_X1_fillIn_2 x1 V = some (r9, W9) → AW p l e (rmOf 5 0) s m args below meth c D cs ad b0 (QF below D cs ad b0 W9 ((rI r9) ad) args s 0) 3 0 V [(0, .ref (ad 1)), (1, .int x1)] [] 2 := by
  refine lo1W_ind (P := fun x1 V => AW p l e (rmOf 5 0) s m args below meth c D cs ad b0 (QF below D cs ad b0 W9 ((rI r9) ad) args s 0) 3 0 V [(0, .ref (ad 1)), (1, .int x1)] [] 2) ?_ FU
  intro k2 hk2 x1 V h
  unfold d_X1_fillIn_2b at h
  refine a_iload_n (q := 1) C dX1_fillIn_2 rfl rfl ?_
  refine a_bipush (v := (7 : Int32)) C dX1_fillIn_3 rfl ?_
  refine a_icmp_ge (tgt := 40) C dX1_fillIn_5 (by decide) (fun c1 => ?_) (fun c1 => ?_)
  · have h := it_t c1 h
    refine a_iload_n (q := 1) C dX1_fillIn_40 rfl rfl ?_
    obtain ⟨rfl, rfl⟩ := ret2 h
    exact a_iret C dX1_fillIn_41 rfl (by decide) rfl rfl
  · have h := it_f c1 h
    refine a_aload_n (q := 0) C dX1_fillIn_8 rfl rfl ?_
    obtain ⟨r3, g2, h⟩ := bd_spec h
    refine a_cVi (a := 1) (st := []) C dX1_fillIn_9 cv_RX1_79 (w_X1_firstWithOneFreeHue   V r3 g2) rfl rfl rfl rfl rfl ⟨Nat.le_of_ble_eq_true rfl, Nat.le_of_ble_eq_true rfl, Nat.le_of_ble_eq_true rfl, Nat.le_of_ble_eq_true rfl⟩ (Nat.le_of_ble_eq_true rfl) ?_
    refine a_istore_n (lv' := [(2, .int r3), (0, .ref (ad 1)), (1, .int x1)]) C dX1_fillIn_12 rfl (by decide) rfl ?_
    refine a_iload_n (q := 0) C dX1_fillIn_13 rfl rfl ?_
    refine a_iconst (v := (-1 : Int32)) C dX1_fillIn_14 rfl ?_
    refine a_icmp_ne (tgt := 21) C dX1_fillIn_15 (by decide) (fun c4 => ?_) (fun c4 => ?_)
    · have h := it_f c4 h
      refine a_aload_n (q := 1) C dX1_fillIn_21 rfl rfl ?_
      refine a_iload_n (q := 0) C dX1_fillIn_22 rfl rfl ?_
      refine a_aload_n (q := 1) C dX1_fillIn_23 rfl rfl ?_
      refine a_iload_n (q := 0) C dX1_fillIn_24 rfl rfl ?_
      obtain ⟨r6, g5, h⟩ := bd_spec h
      refine a_cVi (a := 1) (st := [.int r3, .ref (ad 1)]) C dX1_fillIn_25 cv_RX1_83 (w_X1_freeHues r3  V r6 g5) rfl rfl rfl rfl rfl ⟨Nat.le_of_ble_eq_true rfl, Nat.le_of_ble_eq_true rfl, Nat.le_of_ble_eq_true rfl, Nat.le_of_ble_eq_true rfl⟩ (Nat.le_of_ble_eq_true rfl) ?_
      obtain ⟨r8, g7, h⟩ := bd_spec h
      refine a_cSi (st := [.int r3, .ref (ad 1)]) C dX1_fillIn_28 cv_RX1_86 (w_X1_lowestOf r6  V r8 g7) rfl rfl rfl ⟨Nat.le_of_ble_eq_true rfl, Nat.le_of_ble_eq_true rfl, Nat.le_of_ble_eq_true rfl, Nat.le_of_ble_eq_true rfl⟩ (Nat.le_of_ble_eq_true rfl) ?_
      obtain ⟨V10, g9, h⟩ := bd_spec h
      refine a_cVv (a := 1) (st := []) C dX1_fillIn_31 cv_RX1_89 (w_X1_cover r3 r8  V V10 g9) rfl rfl rfl rfl rfl ⟨Nat.le_of_ble_eq_true rfl, Nat.le_of_ble_eq_true rfl, Nat.le_of_ble_eq_true rfl, Nat.le_of_ble_eq_true rfl⟩ (Nat.le_of_ble_eq_true rfl) ?_
      refine a_iinc (q := 2) (v := (x1 + (1 : Int32))) (lv' := [(1, .int (x1 + (1 : Int32))), (2, .int r3), (0, .ref (ad 1))]) C dX1_fillIn_34 rfl rfl (by decide) rfl ?_
      refine a_goto (tgt := 2) C dX1_fillIn_37 (by decide) ?_
      refine a_sub (lv' := [(0, .ref (ad 1)), (1, .int (x1 + (1 : Int32)))]) [2, 0] rfl ?_
      exact hk2 (x1 + (1 : Int32)) V10 h
    · have h := it_t c4 h
      refine a_goto (tgt := 40) C dX1_fillIn_18 (by decide) ?_
      refine a_iload_n (q := 2) C dX1_fillIn_40 rfl rfl ?_
      obtain ⟨rfl, rfl⟩ := ret2 h
      exact a_iret C dX1_fillIn_41 rfl (by decide) rfl rfl
set_option maxRecDepth 20000 in
set_option maxHeartbeats 4000000 in
theorem w_X1_fillIn   (V : VT) (r9 : Int32) (W9 : VT) (h : d_X1_fillIn  V = some (r9, W9)) : AM 5 0 yX1_fillIn (.code yX1_fillIn cX1_fillIn 3 (some .int)) (fun ad => [.ref (ad 1)]) V W9 (rI r9) := by
  unfold d_X1_fillIn at h
  refine AM.of (by decide +kernel) (fun ad => Nat.le_of_ble_eq_true rfl) (fun {p l e s m args below meth c D cs ad b0} C hT => ?_)
  have C : Ctx p l s m args meth c D cs ad b0 RX1 cX1_fillIn 3 (some .int) := C
  refine a_sub (lv' := [(0, .ref (ad 1))]) [0] rfl ?_
  refine a_iconst (v := (0 : Int32)) C dX1_fillIn_0 rfl ?_
  refine a_istore_n (lv' := [(1, .int (0 : Int32)), (0, .ref (ad 1))]) C dX1_fillIn_1 rfl (by decide) rfl ?_
  refine a_sub (lv' := [(0, .ref (ad 1)), (1, .int (0 : Int32))]) [1, 0] rfl ?_
  exact w_X1_fillIn_2 C hT (0 : Int32) V h
set_option maxRecDepth 20000 in
set_option maxHeartbeats 4000000 in
theorem w_X4_fill   (V : VT) (r9 : Int32) (W9 : VT) (h : d_X4_fill  V = some (r9, W9)) : AM 6 0 yX4_fill (.code yX4_fill cX4_fill 1 (some .int)) (fun ad => [.ref (ad 0)]) V W9 (rI r9) := by
  unfold d_X4_fill at h
  refine AM.of (by decide +kernel) (fun ad => Nat.le_of_ble_eq_true rfl) (fun {p l e s m args below meth c D cs ad b0} C hT => ?_)
  have C : Ctx p l s m args meth c D cs ad b0 RX4 cX4_fill 1 (some .int) := C
  refine a_sub (lv' := [(0, .ref (ad 0))]) [0] rfl ?_
  refine a_aload_n (q := 0) C dX4_fill_0 rfl rfl ?_
  refine a_getr (a := 0) (t := 28) C dX4_fill_1 fl_RX4_25 rfl rfl ?_
  refine a_aload_n (q := 0) C dX4_fill_4 rfl rfl ?_
  refine a_getr (a := 0) (t := 1) C dX4_fill_5 fl_RX4_10 rfl rfl ?_
  obtain ⟨V2, g1, h⟩ := bd_spec h
  refine a_cVv (a := 28) (st := []) C dX4_fill_8 cv_RX4_79 (w_X3_keep 1 rfl V V2 g1) rfl rfl rfl rfl rfl ⟨Nat.le_of_ble_eq_true rfl, Nat.le_of_ble_eq_true rfl, Nat.le_of_ble_eq_true rfl, Nat.le_of_ble_eq_true rfl⟩ (Nat.le_of_ble_eq_true rfl) ?_
  refine a_aload_n (q := 0) C dX4_fill_11 rfl rfl ?_
  refine a_getr (a := 0) (t := 1) C dX4_fill_12 fl_RX4_10 rfl rfl ?_
  obtain ⟨r5, V4, g3, h⟩ := bw_spec h
  refine a_cVi (a := 1) (st := []) C dX4_fill_15 cv_RX4_190 (w_X1_fillIn   V2 r5 V4 g3) rfl rfl rfl rfl rfl ⟨Nat.le_of_ble_eq_true rfl, Nat.le_of_ble_eq_true rfl, Nat.le_of_ble_eq_true rfl, Nat.le_of_ble_eq_true rfl⟩ (Nat.le_of_ble_eq_true rfl) ?_
  obtain ⟨rfl, rfl⟩ := ret2 h
  exact a_iret C dX4_fill_18 rfl (by decide) rfl rfl
set_option maxRecDepth 20000 in
set_option maxHeartbeats 4000000 in
theorem w_X4_step_15 {p : Program} {l : Launch} {e : Env} {s : State} {m : MethodId} {args : Array Value} {below : List Frame} {meth : Method} {c : Code} {D : va_G} {cs : Nat → ClassId} {ad : Nat → Nat} {b0 : Nat} (C : Ctx p l s m args meth c D cs ad b0 RX4 cX4_step 2 (some .int)) (hT : ∀ x ∈ c.exceptionTable.toList, False)    {o9 : Int32 ⊕ String} {W9 : VT}     :
    ∀ (V : VT), d_X4_step_15 V = some (o9, W9) → AW p l e (rmOf 6 1) s m args below meth c D cs ad b0 (QF below D cs ad b0 W9 ((rX o9) ad) args s 1) 2 0 V [] [] 15 := by
  intro V h
  unfold d_X4_step_15 at h
  obtain ⟨rfl, rfl⟩ := ret2 h
  exact a_throwN (text := "there is no such step") C hT tn_RX4_193_197 (by decide +kernel) dX4_step_15 dX4_step_18 dX4_step_19 dX4_step_21 dX4_step_24 ⟨by decide, by decide, by decide, by decide⟩ (by decide) rfl rfl
set_option maxRecDepth 20000 in
set_option maxHeartbeats 4000000 in
theorem w_X4_step (x1 : Int32)  (V : VT) (o9 : Int32 ⊕ String) (W9 : VT) (h : d_X4_step x1 V = some (o9, W9)) : AM 6 1 yX4_step (.code yX4_step cX4_step 2 (some .int)) (fun ad => [.ref (ad 0), .int x1]) V W9 (rX o9) := by
  unfold d_X4_step at h
  refine AM.of (by decide +kernel) (fun ad => Nat.le_of_ble_eq_true rfl) (fun {p l e s m args below meth c D cs ad b0} C hT => ?_)
  have C : Ctx p l s m args meth c D cs ad b0 RX4 cX4_step 2 (some .int) := C
  refine a_sub (lv' := [(0, .ref (ad 0)), (1, .int x1)]) [0, 1] rfl ?_
  refine a_iload_n (q := 1) C dX4_step_0 rfl rfl ?_
  refine a_if_lt (tgt := 15) C dX4_step_1 (by decide) (fun c1 => ?_) (fun c1 => ?_)
  · have h := it_t c1 h
    refine a_sub (lv' := []) [] rfl ?_
    exact w_X4_step_15 C hT V h
  · have h := it_f c1 h
    refine a_iload_n (q := 1) C dX4_step_4 rfl rfl ?_
    refine a_aload_n (q := 0) C dX4_step_5 rfl rfl ?_
    refine a_getr (a := 0) (t := 1) C dX4_step_6 fl_RX4_10 rfl rfl ?_
    refine a_geti (a := 1) (x := (V 1 10)) C dX4_step_9 fl_RX4_181 rfl rfl rfl ?_
    refine a_icmp_lt (tgt := 25) C dX4_step_12 (by decide) (fun c2 => ?_) (fun c2 => ?_)
    · have h := it_t c2 h
      refine a_aload_n (q := 0) C dX4_step_25 rfl rfl ?_
      refine a_getr (a := 0) (t := 1) C dX4_step_26 fl_RX4_10 rfl rfl ?_
      refine a_getr (a := 1) (t := 7) C dX4_step_29 fl_RX4_198 rfl rfl ?_
      refine a_iload_n (q := 1) C dX4_step_32 rfl rfl ?_
      obtain ⟨z3, h⟩ := asr_spec h
      refine a_iald (a := 7) (x := (V 7 x1.toNatClampNeg)) C dX4_step_33 rfl (inb_in z3) rfl ?_
      obtain ⟨rfl, rfl⟩ := ret2 h
      exact a_iret C dX4_step_34 rfl (by decide) rfl rfl
    · have h := it_f c2 h
      refine a_sub (lv' := []) [] rfl ?_
      exact w_X4_step_15 C hT V h
set_option maxRecDepth 20000 in
set_option maxHeartbeats 4000000 in
theorem w_X1_isStuck (x1 : Int32)  (V : VT) (r9 : Int32) (h : d_X1_isStuck x1 V = some r9) : AM 4 0 yX1_isStuck (.code yX1_isStuck cX1_isStuck 2 (some .boolean)) (fun ad => [.ref (ad 1), .int x1]) V V (rI r9) := by
  unfold d_X1_isStuck at h
  refine AM.of (by decide +kernel) (fun ad => Nat.le_of_ble_eq_true rfl) (fun {p l e s m args below meth c D cs ad b0} C hT => ?_)
  have C : Ctx p l s m args meth c D cs ad b0 RX1 cX1_isStuck 2 (some .boolean) := C
  refine a_sub (lv' := [(0, .ref (ad 1)), (1, .int x1)]) [0, 1] rfl ?_
  refine a_aload_n (q := 0) C dX1_isStuck_0 rfl rfl ?_
  refine a_iload_n (q := 1) C dX1_isStuck_1 rfl rfl ?_
  obtain ⟨r2, g1, h⟩ := bd_spec h
  refine a_cVi (a := 1) (st := []) C dX1_isStuck_2 cv_RX1_59 (w_X1_isPainted x1  V r2 g1) rfl rfl rfl rfl rfl ⟨Nat.le_of_ble_eq_true rfl, Nat.le_of_ble_eq_true rfl, Nat.le_of_ble_eq_true rfl, Nat.le_of_ble_eq_true rfl⟩ (Nat.le_of_ble_eq_true rfl) ?_
  refine a_if_ne (tgt := 20) C dX1_isStuck_5 (by decide) (fun c3 => ?_) (fun c3 => ?_)
  · have h := it_f c3 h
    refine a_iconst (v := (0 : Int32)) C dX1_isStuck_20 rfl ?_
    obtain rfl := ret1 h
    exact a_zret C dX1_isStuck_21 rfl rfl (by decide) rfl rfl
  · have h := it_t c3 h
    refine a_aload_n (q := 0) C dX1_isStuck_8 rfl rfl ?_
    refine a_iload_n (q := 1) C dX1_isStuck_9 rfl rfl ?_
    obtain ⟨r5, g4, h⟩ := bd_spec h
    refine a_cVi (a := 1) (st := []) C dX1_isStuck_10 cv_RX1_83 (w_X1_freeHues x1  V r5 g4) rfl rfl rfl rfl rfl ⟨Nat.le_of_ble_eq_true rfl, Nat.le_of_ble_eq_true rfl, Nat.le_of_ble_eq_true rfl, Nat.le_of_ble_eq_true rfl⟩ (Nat.le_of_ble_eq_true rfl) ?_
    refine a_if_ne (tgt := 20) C dX1_isStuck_13 (by decide) (fun c6 => ?_) (fun c6 => ?_)
    · have h := it_f c6 h
      refine a_iconst (v := (0 : Int32)) C dX1_isStuck_20 rfl ?_
      obtain rfl := ret1 h
      exact a_zret C dX1_isStuck_21 rfl rfl (by decide) rfl rfl
    · have h := it_t c6 h
      refine a_iconst (v := (1 : Int32)) C dX1_isStuck_16 rfl ?_
      refine a_goto (tgt := 21) C dX1_isStuck_17 (by decide) ?_
      obtain rfl := ret1 h
      exact a_zret C dX1_isStuck_21 rfl rfl (by decide) rfl rfl
set_option maxRecDepth 20000 in
set_option maxHeartbeats 4000000 in
theorem w_X1_firstStuck_2 {p : Program} {l : Launch} {e : Env} {s : State} {m : MethodId} {args : Array Value} {below : List Frame} {meth : Method} {c : Code} {D : va_G} {cs : Nat → ClassId} {ad : Nat → Nat} {b0 : Nat} (C : Ctx p l s m args meth c D cs ad b0 RX1 cX1_firstStuck 2 (some .int)) (hT : ∀ x ∈ c.exceptionTable.toList, False)   {V : VT} {r9 : Int32}     :
    ∀ (x1 : Int32) , d_X1_firstStuck_2 V x1 = some r9 → AW p l e (rmOf 5 0) s m args below meth c D cs ad b0 (QF below D cs ad b0 V ((rI r9) ad) args s 0) 2 0 V [(0, .ref (ad 1)), (1, .int x1)] [] 2 := by
  refine lo1_ind (P := fun x1 => AW p l e (rmOf 5 0) s m args below meth c D cs ad b0 (QF below D cs ad b0 V ((rI r9) ad) args s 0) 2 0 V [(0, .ref (ad 1)), (1, .int x1)] [] 2) ?_ FU
  intro k2 hk2 x1 h
  unfold d_X1_firstStuck_2b at h
  refine a_iload_n (q := 1) C dX1_firstStuck_2 rfl rfl ?_
  refine a_aload_n (q := 0) C dX1_firstStuck_3 rfl rfl ?_
  refine a_geti (a := 1) (x := (V 1 8)) C dX1_firstStuck_4 fl_RX1_36 rfl rfl rfl ?_
  refine a_icmp_ge (tgt := 26) C dX1_firstStuck_7 (by decide) (fun c1 => ?_) (fun c1 => ?_)
  · have h := it_t c1 h
    refine a_iconst (v := (-1 : Int32)) C dX1_firstStuck_26 rfl ?_
    obtain rfl := ret1 h
    exact a_iret C dX1_firstStuck_27 rfl (by decide) rfl rfl
  · have h := it_f c1 h
    refine a_aload_n (q := 0) C dX1_firstStuck_10 rfl rfl ?_
    refine a_iload_n (q := 1) C dX1_firstStuck_11 rfl rfl ?_
    obtain ⟨r3, g2, h⟩ := bd_spec h
    refine a_cVi (a := 1) (st := []) C dX1_firstStuck_12 cv_RX1_101 (w_X1_isStuck x1  V r3 g2) rfl rfl rfl rfl rfl ⟨Nat.le_of_ble_eq_true rfl, Nat.le_of_ble_eq_true rfl, Nat.le_of_ble_eq_true rfl, Nat.le_of_ble_eq_true rfl⟩ (Nat.le_of_ble_eq_true rfl) ?_
    refine a_if_eq (tgt := 20) C dX1_firstStuck_15 (by decide) (fun c4 => ?_) (fun c4 => ?_)
    · have h := it_t c4 h
      refine a_iinc (q := 1) (v := (x1 + (1 : Int32))) (lv' := [(1, .int (x1 + (1 : Int32))), (0, .ref (ad 1))]) C dX1_firstStuck_20 rfl rfl (by decide) rfl ?_
      refine a_goto (tgt := 2) C dX1_firstStuck_23 (by decide) ?_
      refine a_sub (lv' := [(0, .ref (ad 1)), (1, .int (x1 + (1 : Int32)))]) [1, 0] rfl ?_
      exact hk2 (x1 + (1 : Int32)) h
    · have h := it_f c4 h
      refine a_iload_n (q := 1) C dX1_firstStuck_18 rfl rfl ?_
      obtain rfl := ret1 h
      exact a_iret C dX1_firstStuck_19 rfl (by decide) rfl rfl
set_option maxRecDepth 20000 in
set_option maxHeartbeats 4000000 in
theorem w_X1_firstStuck   (V : VT) (r9 : Int32) (h : d_X1_firstStuck  V = some r9) : AM 5 0 yX1_firstStuck (.code yX1_firstStuck cX1_firstStuck 2 (some .int)) (fun ad => [.ref (ad 1)]) V V (rI r9) := by
  unfold d_X1_firstStuck at h
  refine AM.of (by decide +kernel) (fun ad => Nat.le_of_ble_eq_true rfl) (fun {p l e s m args below meth c D cs ad b0} C hT => ?_)
  have C : Ctx p l s m args meth c D cs ad b0 RX1 cX1_firstStuck 2 (some .int) := C
  refine a_sub (lv' := [(0, .ref (ad 1))]) [0] rfl ?_
  refine a_iconst (v := (0 : Int32)) C dX1_firstStuck_0 rfl ?_
  refine a_istore_n (lv' := [(1, .int (0 : Int32)), (0, .ref (ad 1))]) C dX1_firstStuck_1 rfl (by decide) rfl ?_
  refine a_sub (lv' := [(0, .ref (ad 1)), (1, .int (0 : Int32))]) [1, 0] rfl ?_
  exact w_X1_firstStuck_2 C hT (0 : Int32) h
set_option maxRecDepth 20000 in
set_option maxHeartbeats 4000000 in
theorem w_X4_stuck   (V : VT) (o9 : Int32 ⊕ String) (W9 : VT) (h : d_X4_stuck  V = some (o9, W9)) : AM 6 1 yX4_stuck (.code yX4_stuck cX4_stuck 2 (some .int)) (fun ad => [.ref (ad 0)]) V W9 (rX o9) := by
  unfold d_X4_stuck at h
  refine AM.of (by decide +kernel) (fun ad => Nat.le_of_ble_eq_true rfl) (fun {p l e s m args below meth c D cs ad b0} C hT => ?_)
  have C : Ctx p l s m args meth c D cs ad b0 RX4 cX4_stuck 2 (some .int) := C
  refine a_sub (lv' := [(0, .ref (ad 0))]) [0] rfl ?_
  refine a_aload_n (q := 0) C dX4_stuck_0 rfl rfl ?_
  refine a_getr (a := 0) (t := 1) C dX4_stuck_1 fl_RX4_10 rfl rfl ?_
  obtain ⟨r2, g1, h⟩ := bd_spec h
  refine a_cVi (a := 1) (st := []) C dX4_stuck_4 cv_RX4_201 (w_X1_firstStuck   V r2 g1) rfl rfl rfl rfl rfl ⟨Nat.le_of_ble_eq_true rfl, Nat.le_of_ble_eq_true rfl, Nat.le_of_ble_eq_true rfl, Nat.le_of_ble_eq_true rfl⟩ (Nat.le_of_ble_eq_true rfl) ?_
  refine a_istore_n (lv' := [(1, .int r2), (0, .ref (ad 0))]) C dX4_stuck_7 rfl (by decide) rfl ?_
  refine a_iload_n (q := 0) C dX4_stuck_8 rfl rfl ?_
  refine a_iconst (v := (-1 : Int32)) C dX4_stuck_9 rfl ?_
  refine a_icmp_ne (tgt := 23) C dX4_stuck_10 (by decide) (fun c3 => ?_) (fun c3 => ?_)
  · have h := it_f c3 h
    refine a_iload_n (q := 0) C dX4_stuck_23 rfl rfl ?_
    obtain ⟨rfl, rfl⟩ := ret2 h
    exact a_iret C dX4_stuck_24 rfl (by decide) rfl rfl
  · have h := it_t c3 h
    obtain ⟨rfl, rfl⟩ := ret2 h
    exact a_throwN (text := "no country is stuck") C hT tn_RX4_193_197 (by decide +kernel) dX4_stuck_13 dX4_stuck_16 dX4_stuck_17 dX4_stuck_19 dX4_stuck_22 ⟨by decide, by decide, by decide, by decide⟩ (by decide) rfl rfl
set_option maxRecDepth 20000 in
set_option maxHeartbeats 4000000 in
theorem w_X1_unpainted_4 {p : Program} {l : Launch} {e : Env} {s : State} {m : MethodId} {args : Array Value} {below : List Frame} {meth : Method} {c : Code} {D : va_G} {cs : Nat → ClassId} {ad : Nat → Nat} {b0 : Nat} (C : Ctx p l s m args meth c D cs ad b0 RX1 cX1_unpainted 3 (some .int)) (hT : ∀ x ∈ c.exceptionTable.toList, False)   {V : VT} {r9 : Int32}     :
    ∀ (x1 x2 : Int32) , d_X1_unpainted_4 V x1 x2 = some r9 → AW p l e (rmOf 3 0) s m args below meth c D cs ad b0 (QF below D cs ad b0 V ((rI r9) ad) args s 0) 3 0 V [(0, .ref (ad 1)), (1, .int x1), (2, .int x2)] [] 4 := by
  refine lo2_ind (P := fun x1 x2 => AW p l e (rmOf 3 0) s m args below meth c D cs ad b0 (QF below D cs ad b0 V ((rI r9) ad) args s 0) 3 0 V [(0, .ref (ad 1)), (1, .int x1), (2, .int x2)] [] 4) ?_ FU
  intro k4 hk4 x1 x2 h
  unfold d_X1_unpainted_4b at h
  refine a_iload_n (q := 2) C dX1_unpainted_4 rfl rfl ?_
  refine a_aload_n (q := 0) C dX1_unpainted_5 rfl rfl ?_
  refine a_geti (a := 1) (x := (V 1 8)) C dX1_unpainted_6 fl_RX1_36 rfl rfl rfl ?_
  refine a_icmp_ge (tgt := 32) C dX1_unpainted_9 (by decide) (fun c1 => ?_) (fun c1 => ?_)
  · have h := it_t c1 h
    refine a_iload_n (q := 1) C dX1_unpainted_32 rfl rfl ?_
    obtain rfl := ret1 h
    exact a_iret C dX1_unpainted_33 rfl (by decide) rfl rfl
  · have h := it_f c1 h
    refine a_aload_n (q := 0) C dX1_unpainted_12 rfl rfl ?_
    refine a_iload_n (q := 2) C dX1_unpainted_13 rfl rfl ?_
    obtain ⟨r3, g2, h⟩ := bd_spec h
    refine a_cVi (a := 1) (st := []) C dX1_unpainted_14 cv_RX1_59 (w_X1_isPainted x2  V r3 g2) rfl rfl rfl rfl rfl ⟨Nat.le_of_ble_eq_true rfl, Nat.le_of_ble_eq_true rfl, Nat.le_of_ble_eq_true rfl, Nat.le_of_ble_eq_true rfl⟩ (Nat.le_of_ble_eq_true rfl) ?_
    refine a_if_ne (tgt := 26) C dX1_unpainted_17 (by decide) (fun c4 => ?_) (fun c4 => ?_)
    · have h := it_f c4 h
      refine a_iinc (q := 2) (v := (x2 + (1 : Int32))) (lv' := [(2, .int (x2 + (1 : Int32))), (0, .ref (ad 1)), (1, .int x1)]) C dX1_unpainted_26 rfl rfl (by decide) rfl ?_
      refine a_goto (tgt := 4) C dX1_unpainted_29 (by decide) ?_
      refine a_sub (lv' := [(0, .ref (ad 1)), (1, .int x1), (2, .int (x2 + (1 : Int32)))]) [1, 2, 0] rfl ?_
      exact hk4 x1 (x2 + (1 : Int32)) h
    · have h := it_t c4 h
      refine a_iload_n (q := 1) C dX1_unpainted_20 rfl rfl ?_
      refine a_iconst (v := (1 : Int32)) C dX1_unpainted_21 rfl ?_
      refine a_iload_n (q := 2) C dX1_unpainted_22 rfl rfl ?_
      refine a_ishl C dX1_unpainted_23 ?_
      refine a_ior C dX1_unpainted_24 ?_
      refine a_istore_n (lv' := [(1, .int (x1 ||| ((1 : Int32) <<< (x2 &&& 31)))), (0, .ref (ad 1)), (2, .int x2)]) C dX1_unpainted_25 rfl (by decide) rfl ?_
      refine a_iinc (q := 2) (v := (x2 + (1 : Int32))) (lv' := [(2, .int (x2 + (1 : Int32))), (1, .int (x1 ||| ((1 : Int32) <<< (x2 &&& 31)))), (0, .ref (ad 1))]) C dX1_unpainted_26 rfl rfl (by decide) rfl ?_
      refine a_goto (tgt := 4) C dX1_unpainted_29 (by decide) ?_
      refine a_sub (lv' := [(0, .ref (ad 1)), (1, .int (x1 ||| ((1 : Int32) <<< (x2 &&& 31)))), (2, .int (x2 + (1 : Int32)))]) [2, 1, 0] rfl ?_
      exact hk4 (x1 ||| ((1 : Int32) <<< (x2 &&& 31))) (x2 + (1 : Int32)) h
set_option maxRecDepth 20000 in
set_option maxHeartbeats 4000000 in
theorem w_X1_unpainted   (V : VT) (r9 : Int32) (h : d_X1_unpainted  V = some r9) : AM 3 0 yX1_unpainted (.code yX1_unpainted cX1_unpainted 3 (some .int)) (fun ad => [.ref (ad 1)]) V V (rI r9) := by
  unfold d_X1_unpainted at h
  refine AM.of (by decide +kernel) (fun ad => Nat.le_of_ble_eq_true rfl) (fun {p l e s m args below meth c D cs ad b0} C hT => ?_)
  have C : Ctx p l s m args meth c D cs ad b0 RX1 cX1_unpainted 3 (some .int) := C
  refine a_sub (lv' := [(0, .ref (ad 1))]) [0] rfl ?_
  refine a_iconst (v := (0 : Int32)) C dX1_unpainted_0 rfl ?_
  refine a_istore_n (lv' := [(1, .int (0 : Int32)), (0, .ref (ad 1))]) C dX1_unpainted_1 rfl (by decide) rfl ?_
  refine a_iconst (v := (0 : Int32)) C dX1_unpainted_2 rfl ?_
  refine a_istore_n (lv' := [(2, .int (0 : Int32)), (1, .int (0 : Int32)), (0, .ref (ad 1))]) C dX1_unpainted_3 rfl (by decide) rfl ?_
  refine a_sub (lv' := [(0, .ref (ad 1)), (1, .int (0 : Int32)), (2, .int (0 : Int32))]) [2, 1, 0] rfl ?_
  exact w_X1_unpainted_4 C hT (0 : Int32) (0 : Int32) h
set_option maxRecDepth 20000 in
set_option maxHeartbeats 4000000 in
theorem w_X1_isBetterToPaint (x1 : Int32) (x2 : Int32)  (V : VT) (r9 : Int32) (h : d_X1_isBetterToPaint x1 x2 V = some r9) : AM 4 0 yX1_isBetterToPaint (.code yX1_isBetterToPaint cX1_isBetterToPaint 6 (some .boolean)) (fun ad => [.ref (ad 1), .int x1, .int x2]) V V (rI r9) := by
  unfold d_X1_isBetterToPaint at h
  refine AM.of (by decide +kernel) (fun ad => Nat.le_of_ble_eq_true rfl) (fun {p l e s m args below meth c D cs ad b0} C hT => ?_)
  have C : Ctx p l s m args meth c D cs ad b0 RX1 cX1_isBetterToPaint 6 (some .boolean) := C
  refine a_sub (lv' := [(0, .ref (ad 1)), (1, .int x1), (2, .int x2)]) [0, 1, 2] rfl ?_
  refine a_aload_n (q := 0) C dX1_isBetterToPaint_0 rfl rfl ?_
  refine a_iload_n (q := 1) C dX1_isBetterToPaint_1 rfl rfl ?_
  obtain ⟨r2, g1, h⟩ := bd_spec h
  refine a_cVi (a := 1) (st := []) C dX1_isBetterToPaint_2 cv_RX1_83 (w_X1_freeHues x1  V r2 g1) rfl rfl rfl rfl rfl ⟨Nat.le_of_ble_eq_true rfl, Nat.le_of_ble_eq_true rfl, Nat.le_of_ble_eq_true rfl, Nat.le_of_ble_eq_true rfl⟩ (Nat.le_of_ble_eq_true rfl) ?_
  obtain ⟨r4, g3, h⟩ := bd_spec h
  refine a_cSi (st := []) C dX1_isBetterToPaint_5 cv_RX1_96 (w_J6_bitCount_0f7a4 r2  V r4 g3) rfl rfl rfl ⟨Nat.le_of_ble_eq_true rfl, Nat.le_of_ble_eq_true rfl, Nat.le_of_ble_eq_true rfl, Nat.le_of_ble_eq_true rfl⟩ (Nat.le_of_ble_eq_true rfl) ?_
  refine a_istore_n (lv' := [(3, .int r4), (0, .ref (ad 1)), (1, .int x1), (2, .int x2)]) C dX1_isBetterToPaint_8 rfl (by decide) rfl ?_
  refine a_aload_n (q := 1) C dX1_isBetterToPaint_9 rfl rfl ?_
  refine a_iload_n (q := 3) C dX1_isBetterToPaint_10 rfl rfl ?_
  obtain ⟨r6, g5, h⟩ := bd_spec h
  refine a_cVi (a := 1) (st := []) C dX1_isBetterToPaint_11 cv_RX1_83 (w_X1_freeHues x2  V r6 g5) rfl rfl rfl rfl rfl ⟨Nat.le_of_ble_eq_true rfl, Nat.le_of_ble_eq_true rfl, Nat.le_of_ble_eq_true rfl, Nat.le_of_ble_eq_true rfl⟩ (Nat.le_of_ble_eq_true rfl) ?_
  obtain ⟨r8, g7, h⟩ := bd_spec h
  refine a_cSi (st := []) C dX1_isBetterToPaint_14 cv_RX1_96 (w_J6_bitCount_0f7a4 r6  V r8 g7) rfl rfl rfl ⟨Nat.le_of_ble_eq_true rfl, Nat.le_of_ble_eq_true rfl, Nat.le_of_ble_eq_true rfl, Nat.le_of_ble_eq_true rfl⟩ (Nat.le_of_ble_eq_true rfl) ?_
  refine a_istore (lv' := [(4, .int r8), (3, .int r4), (0, .ref (ad 1)), (1, .int x1), (2, .int x2)]) C dX1_isBetterToPaint_17 (by decide) rfl ?_
  refine a_iload_n (q := 1) C dX1_isBetterToPaint_19 rfl rfl ?_
  refine a_iload (q := 0) C dX1_isBetterToPaint_20 rfl ?_
  refine a_icmp_eq (tgt := 37) C dX1_isBetterToPaint_22 (by decide) (fun c9 => ?_) (fun c9 => ?_)
  · have h := it_t c9 h
    refine a_aload_n (q := 2) C dX1_isBetterToPaint_37 rfl rfl ?_
    obtain ⟨r11, g10, h⟩ := bd_spec h
    refine a_cVi (a := 1) (st := []) C dX1_isBetterToPaint_38 cv_RX1_107 (w_X1_unpainted   V r11 g10) rfl rfl rfl rfl rfl ⟨Nat.le_of_ble_eq_true rfl, Nat.le_of_ble_eq_true rfl, Nat.le_of_ble_eq_true rfl, Nat.le_of_ble_eq_true rfl⟩ (Nat.le_of_ble_eq_true rfl) ?_
    refine a_istore (lv' := [(5, .int r11), (4, .int r8), (3, .int r4), (0, .ref (ad 1)), (1, .int x1), (2, .int x2)]) C dX1_isBetterToPaint_41 (by decide) rfl ?_
    refine a_aload_n (q := 3) C dX1_isBetterToPaint_43 rfl rfl ?_
    refine a_getr (a := 1) (t := 6) C dX1_isBetterToPaint_44 fl_RX1_24 rfl rfl ?_
    refine a_iload_n (q := 4) C dX1_isBetterToPaint_47 rfl rfl ?_
    obtain ⟨z12, h⟩ := asr_spec h
    refine a_iald (a := 6) (x := (V 6 x1.toNatClampNeg)) C dX1_isBetterToPaint_48 rfl (inb_in z12) rfl ?_
    refine a_iload (q := 0) C dX1_isBetterToPaint_49 rfl ?_
    refine a_iand C dX1_isBetterToPaint_51 ?_
    obtain ⟨r14, g13, h⟩ := bd_spec h
    refine a_cSi (st := []) C dX1_isBetterToPaint_52 cv_RX1_96 (w_J6_bitCount_0f7a4 ((V 6 x1.toNatClampNeg) &&& r11)  V r14 g13) rfl rfl rfl ⟨Nat.le_of_ble_eq_true rfl, Nat.le_of_ble_eq_true rfl, Nat.le_of_ble_eq_true rfl, Nat.le_of_ble_eq_true rfl⟩ (Nat.le_of_ble_eq_true rfl) ?_
    refine a_aload_n (q := 3) C dX1_isBetterToPaint_55 rfl rfl ?_
    refine a_getr (a := 1) (t := 6) C dX1_isBetterToPaint_56 fl_RX1_24 rfl rfl ?_
    refine a_iload_n (q := 5) C dX1_isBetterToPaint_59 rfl rfl ?_
    obtain ⟨z15, h⟩ := asr_spec h
    refine a_iald (a := 6) (x := (V 6 x2.toNatClampNeg)) C dX1_isBetterToPaint_60 rfl (inb_in z15) rfl ?_
    refine a_iload (q := 0) C dX1_isBetterToPaint_61 rfl ?_
    refine a_iand C dX1_isBetterToPaint_63 ?_
    obtain ⟨r17, g16, h⟩ := bd_spec h
    refine a_cSi (st := [.int r14]) C dX1_isBetterToPaint_64 cv_RX1_96 (w_J6_bitCount_0f7a4 ((V 6 x2.toNatClampNeg) &&& r11)  V r17 g16) rfl rfl rfl ⟨Nat.le_of_ble_eq_true rfl, Nat.le_of_ble_eq_true rfl, Nat.le_of_ble_eq_true rfl, Nat.le_of_ble_eq_true rfl⟩ (Nat.le_of_ble_eq_true rfl) ?_
    refine a_icmp_le (tgt := 74) C dX1_isBetterToPaint_67 (by decide) (fun c18 => ?_) (fun c18 => ?_)
    · have h := it_t c18 h
      refine a_iconst (v := (0 : Int32)) C dX1_isBetterToPaint_74 rfl ?_
      obtain rfl := ret1 h
      exact a_zret C dX1_isBetterToPaint_75 rfl rfl (by decide) rfl rfl
    · have h := it_f c18 h
      refine a_iconst (v := (1 : Int32)) C dX1_isBetterToPaint_70 rfl ?_
      refine a_goto (tgt := 75) C dX1_isBetterToPaint_71 (by decide) ?_
      obtain rfl := ret1 h
      exact a_zret C dX1_isBetterToPaint_75 rfl rfl (by decide) rfl rfl
  · have h := it_f c9 h
    refine a_iload_n (q := 1) C dX1_isBetterToPaint_25 rfl rfl ?_
    refine a_iload (q := 0) C dX1_isBetterToPaint_26 rfl ?_
    refine a_icmp_ge (tgt := 35) C dX1_isBetterToPaint_28 (by decide) (fun c19 => ?_) (fun c19 => ?_)
    · have h := it_t c19 h
      refine a_iconst (v := (0 : Int32)) C dX1_isBetterToPaint_35 rfl ?_
      obtain rfl := ret1 h
      exact a_zret C dX1_isBetterToPaint_36 rfl rfl (by decide) rfl rfl
    · have h := it_f c19 h
      refine a_iconst (v := (1 : Int32)) C dX1_isBetterToPaint_31 rfl ?_
      refine a_goto (tgt := 36) C dX1_isBetterToPaint_32 (by decide) ?_
      obtain rfl := ret1 h
      exact a_zret C dX1_isBetterToPaint_36 rfl rfl (by decide) rfl rfl
set_option maxRecDepth 20000 in
set_option maxHeartbeats 4000000 in
theorem w_X1_bestToPaint_4 {p : Program} {l : Launch} {e : Env} {s : State} {m : MethodId} {args : Array Value} {below : List Frame} {meth : Method} {c : Code} {D : va_G} {cs : Nat → ClassId} {ad : Nat → Nat} {b0 : Nat} (C : Ctx p l s m args meth c D cs ad b0 RX1 cX1_bestToPaint 3 (some .int)) (hT : ∀ x ∈ c.exceptionTable.toList, False)   {V : VT} {r9 : Int32}     :
    ∀ (x1 x2 : Int32) , d_X1_bestToPaint_4 V x1 x2 = some r9 → AW p l e (rmOf 5 0) s m args below meth c D cs ad b0 (QF below D cs ad b0 V ((rI r9) ad) args s 0) 3 0 V [(0, .ref (ad 1)), (1, .int x1), (2, .int x2)] [] 4 := by
  refine lo2_ind (P := fun x1 x2 => AW p l e (rmOf 5 0) s m args below meth c D cs ad b0 (QF below D cs ad b0 V ((rI r9) ad) args s 0) 3 0 V [(0, .ref (ad 1)), (1, .int x1), (2, .int x2)] [] 4) ?_ FU
  intro k4 hk4 x1 x2 h
  unfold d_X1_bestToPaint_4b at h
  refine a_iload_n (q := 2) C dX1_bestToPaint_4 rfl rfl ?_
  refine a_aload_n (q := 0) C dX1_bestToPaint_5 rfl rfl ?_
  refine a_geti (a := 1) (x := (V 1 8)) C dX1_bestToPaint_6 fl_RX1_36 rfl rfl rfl ?_
  refine a_icmp_ge (tgt := 42) C dX1_bestToPaint_9 (by decide) (fun c1 => ?_) (fun c1 => ?_)
  · have h := it_t c1 h
    refine a_iload_n (q := 1) C dX1_bestToPaint_42 rfl rfl ?_
    obtain rfl := ret1 h
    exact a_iret C dX1_bestToPaint_43 rfl (by decide) rfl rfl
  · have h := it_f c1 h
    refine a_aload_n (q := 0) C dX1_bestToPaint_12 rfl rfl ?_
    refine a_iload_n (q := 2) C dX1_bestToPaint_13 rfl rfl ?_
    obtain ⟨r3, g2, h⟩ := bd_spec h
    refine a_cVi (a := 1) (st := []) C dX1_bestToPaint_14 cv_RX1_59 (w_X1_isPainted x2  V r3 g2) rfl rfl rfl rfl rfl ⟨Nat.le_of_ble_eq_true rfl, Nat.le_of_ble_eq_true rfl, Nat.le_of_ble_eq_true rfl, Nat.le_of_ble_eq_true rfl⟩ (Nat.le_of_ble_eq_true rfl) ?_
    refine a_if_ne (tgt := 36) C dX1_bestToPaint_17 (by decide) (fun c4 => ?_) (fun c4 => ?_)
    · have h := it_f c4 h
      refine a_iinc (q := 2) (v := (x2 + (1 : Int32))) (lv' := [(2, .int (x2 + (1 : Int32))), (0, .ref (ad 1)), (1, .int x1)]) C dX1_bestToPaint_36 rfl rfl (by decide) rfl ?_
      refine a_goto (tgt := 4) C dX1_bestToPaint_39 (by decide) ?_
      refine a_sub (lv' := [(0, .ref (ad 1)), (1, .int x1), (2, .int (x2 + (1 : Int32)))]) [1, 2, 0] rfl ?_
      exact hk4 x1 (x2 + (1 : Int32)) h
    · have h := it_t c4 h
      refine a_iload_n (q := 1) C dX1_bestToPaint_20 rfl rfl ?_
      refine a_iconst (v := (-1 : Int32)) C dX1_bestToPaint_21 rfl ?_
      refine a_icmp_eq (tgt := 34) C dX1_bestToPaint_22 (by decide) (fun c5 => ?_) (fun c5 => ?_)
      · have h := it_t c5 h
        refine a_iload_n (q := 2) C dX1_bestToPaint_34 rfl rfl ?_
        refine a_istore_n (lv' := [(1, .int x2), (0, .ref (ad 1)), (2, .int x2)]) C dX1_bestToPaint_35 rfl (by decide) rfl ?_
        refine a_iinc (q := 2) (v := (x2 + (1 : Int32))) (lv' := [(2, .int (x2 + (1 : Int32))), (1, .int x2), (0, .ref (ad 1))]) C dX1_bestToPaint_36 rfl rfl (by decide) rfl ?_
        refine a_goto (tgt := 4) C dX1_bestToPaint_39 (by decide) ?_
        refine a_sub (lv' := [(0, .ref (ad 1)), (1, .int x2), (2, .int (x2 + (1 : Int32)))]) [2, 1, 0] rfl ?_
        exact hk4 x2 (x2 + (1 : Int32)) h
      · have h := it_f c5 h
        refine a_aload_n (q := 0) C dX1_bestToPaint_25 rfl rfl ?_
        refine a_iload_n (q := 2) C dX1_bestToPaint_26 rfl rfl ?_
        refine a_iload_n (q := 1) C dX1_bestToPaint_27 rfl rfl ?_
        obtain ⟨r7, g6, h⟩ := bd_spec h
        refine a_cVi (a := 1) (st := []) C dX1_bestToPaint_28 cv_RX1_104 (w_X1_isBetterToPaint x2 x1  V r7 g6) rfl rfl rfl rfl rfl ⟨Nat.le_of_ble_eq_true rfl, Nat.le_of_ble_eq_true rfl, Nat.le_of_ble_eq_true rfl, Nat.le_of_ble_eq_true rfl⟩ (Nat.le_of_ble_eq_true rfl) ?_
        refine a_if_eq (tgt := 36) C dX1_bestToPaint_31 (by decide) (fun c8 => ?_) (fun c8 => ?_)
        · have h := it_t c8 h
          refine a_iinc (q := 2) (v := (x2 + (1 : Int32))) (lv' := [(2, .int (x2 + (1 : Int32))), (0, .ref (ad 1)), (1, .int x1)]) C dX1_bestToPaint_36 rfl rfl (by decide) rfl ?_
          refine a_goto (tgt := 4) C dX1_bestToPaint_39 (by decide) ?_
          refine a_sub (lv' := [(0, .ref (ad 1)), (1, .int x1), (2, .int (x2 + (1 : Int32)))]) [1, 2, 0] rfl ?_
          exact hk4 x1 (x2 + (1 : Int32)) h
        · have h := it_f c8 h
          refine a_iload_n (q := 2) C dX1_bestToPaint_34 rfl rfl ?_
          refine a_istore_n (lv' := [(1, .int x2), (0, .ref (ad 1)), (2, .int x2)]) C dX1_bestToPaint_35 rfl (by decide) rfl ?_
          refine a_iinc (q := 2) (v := (x2 + (1 : Int32))) (lv' := [(2, .int (x2 + (1 : Int32))), (1, .int x2), (0, .ref (ad 1))]) C dX1_bestToPaint_36 rfl rfl (by decide) rfl ?_
          refine a_goto (tgt := 4) C dX1_bestToPaint_39 (by decide) ?_
          refine a_sub (lv' := [(0, .ref (ad 1)), (1, .int x2), (2, .int (x2 + (1 : Int32)))]) [2, 1, 0] rfl ?_
          exact hk4 x2 (x2 + (1 : Int32)) h
set_option maxRecDepth 20000 in
set_option maxHeartbeats 4000000 in
theorem w_X1_bestToPaint   (V : VT) (r9 : Int32) (h : d_X1_bestToPaint  V = some r9) : AM 5 0 yX1_bestToPaint (.code yX1_bestToPaint cX1_bestToPaint 3 (some .int)) (fun ad => [.ref (ad 1)]) V V (rI r9) := by
  unfold d_X1_bestToPaint at h
  refine AM.of (by decide +kernel) (fun ad => Nat.le_of_ble_eq_true rfl) (fun {p l e s m args below meth c D cs ad b0} C hT => ?_)
  have C : Ctx p l s m args meth c D cs ad b0 RX1 cX1_bestToPaint 3 (some .int) := C
  refine a_sub (lv' := [(0, .ref (ad 1))]) [0] rfl ?_
  refine a_iconst (v := (-1 : Int32)) C dX1_bestToPaint_0 rfl ?_
  refine a_istore_n (lv' := [(1, .int (-1 : Int32)), (0, .ref (ad 1))]) C dX1_bestToPaint_1 rfl (by decide) rfl ?_
  refine a_iconst (v := (0 : Int32)) C dX1_bestToPaint_2 rfl ?_
  refine a_istore_n (lv' := [(2, .int (0 : Int32)), (1, .int (-1 : Int32)), (0, .ref (ad 1))]) C dX1_bestToPaint_3 rfl (by decide) rfl ?_
  refine a_sub (lv' := [(0, .ref (ad 1)), (1, .int (-1 : Int32)), (2, .int (0 : Int32))]) [2, 1, 0] rfl ?_
  exact w_X1_bestToPaint_4 C hT (-1 : Int32) (0 : Int32) h
set_option maxRecDepth 20000 in
set_option maxHeartbeats 4000000 in
theorem w_X4_next   (V : VT) (o9 : Int32 ⊕ String) (W9 : VT) (h : d_X4_next  V = some (o9, W9)) : AM 6 1 yX4_next (.code yX4_next cX4_next 2 (some .int)) (fun ad => [.ref (ad 0)]) V W9 (rX o9) := by
  unfold d_X4_next at h
  refine AM.of (by decide +kernel) (fun ad => Nat.le_of_ble_eq_true rfl) (fun {p l e s m args below meth c D cs ad b0} C hT => ?_)
  have C : Ctx p l s m args meth c D cs ad b0 RX4 cX4_next 2 (some .int) := C
  refine a_sub (lv' := [(0, .ref (ad 0))]) [0] rfl ?_
  refine a_aload_n (q := 0) C dX4_next_0 rfl rfl ?_
  refine a_getr (a := 0) (t := 1) C dX4_next_1 fl_RX4_10 rfl rfl ?_
  obtain ⟨r2, g1, h⟩ := bd_spec h
  refine a_cVi (a := 1) (st := []) C dX4_next_4 cv_RX4_206 (w_X1_bestToPaint   V r2 g1) rfl rfl rfl rfl rfl ⟨Nat.le_of_ble_eq_true rfl, Nat.le_of_ble_eq_true rfl, Nat.le_of_ble_eq_true rfl, Nat.le_of_ble_eq_true rfl⟩ (Nat.le_of_ble_eq_true rfl) ?_
  refine a_istore_n (lv' := [(1, .int r2), (0, .ref (ad 0))]) C dX4_next_7 rfl (by decide) rfl ?_
  refine a_iload_n (q := 0) C dX4_next_8 rfl rfl ?_
  refine a_iconst (v := (-1 : Int32)) C dX4_next_9 rfl ?_
  refine a_icmp_ne (tgt := 23) C dX4_next_10 (by decide) (fun c3 => ?_) (fun c3 => ?_)
  · have h := it_f c3 h
    refine a_iload_n (q := 0) C dX4_next_23 rfl rfl ?_
    obtain ⟨rfl, rfl⟩ := ret2 h
    exact a_iret C dX4_next_24 rfl (by decide) rfl rfl
  · have h := it_t c3 h
    obtain ⟨rfl, rfl⟩ := ret2 h
    exact a_throwN (text := "all countries are painted") C hT tn_RX4_193_197 (by decide +kernel) dX4_next_13 dX4_next_16 dX4_next_17 dX4_next_19 dX4_next_22 ⟨by decide, by decide, by decide, by decide⟩ (by decide) rfl rfl
set_option maxRecDepth 20000 in
set_option maxHeartbeats 4000000 in
theorem w_X1_countRobbed_5 {p : Program} {l : Launch} {e : Env} {s : State} {m : MethodId} {args : Array Value} {below : List Frame} {meth : Method} {c : Code} {D : va_G} {cs : Nat → ClassId} {ad : Nat → Nat} {b0 : Nat} (C : Ctx p l s m args meth c D cs ad b0 RX1 cX1_countRobbed 5 (some .int)) (hT : ∀ x ∈ c.exceptionTable.toList, False)   {V : VT} {r9 : Int32}     :
    ∀ (x1 x2 x3 x4 : Int32) , d_X1_countRobbed_5 V x1 x2 x3 x4 = some r9 → AW p l e (rmOf 4 0) s m args below meth c D cs ad b0 (QF below D cs ad b0 V ((rI r9) ad) args s 0) 5 0 V [(0, .ref (ad 1)), (1, .int x1), (2, .int x2), (3, .int x3), (4, .int x4)] [] 5 := by
  refine lo4_ind (P := fun x1 x2 x3 x4 => AW p l e (rmOf 4 0) s m args below meth c D cs ad b0 (QF below D cs ad b0 V ((rI r9) ad) args s 0) 5 0 V [(0, .ref (ad 1)), (1, .int x1), (2, .int x2), (3, .int x3), (4, .int x4)] [] 5) ?_ FU
  intro k5 hk5 x1 x2 x3 x4 h
  unfold d_X1_countRobbed_5b at h
  refine a_iload (q := 4) C dX1_countRobbed_5 rfl ?_
  refine a_aload_n (q := 0) C dX1_countRobbed_7 rfl rfl ?_
  refine a_geti (a := 1) (x := (V 1 8)) C dX1_countRobbed_8 fl_RX1_36 rfl rfl rfl ?_
  refine a_icmp_ge (tgt := 46) C dX1_countRobbed_11 (by decide) (fun c1 => ?_) (fun c1 => ?_)
  · have h := it_t c1 h
    refine a_iload_n (q := 3) C dX1_countRobbed_46 rfl rfl ?_
    obtain rfl := ret1 h
    exact a_iret C dX1_countRobbed_47 rfl (by decide) rfl rfl
  · have h := it_f c1 h
    refine a_aload_n (q := 0) C dX1_countRobbed_14 rfl rfl ?_
    refine a_iload_n (q := 1) C dX1_countRobbed_15 rfl rfl ?_
    refine a_iload (q := 4) C dX1_countRobbed_16 rfl ?_
    obtain ⟨r3, g2, h⟩ := bd_spec h
    refine a_cVi (a := 1) (st := []) C dX1_countRobbed_18 cv_RX1_55 (w_X1_areNeighbours x1 x4  V r3 g2) rfl rfl rfl rfl rfl ⟨Nat.le_of_ble_eq_true rfl, Nat.le_of_ble_eq_true rfl, Nat.le_of_ble_eq_true rfl, Nat.le_of_ble_eq_true rfl⟩ (Nat.le_of_ble_eq_true rfl) ?_
    refine a_if_eq (tgt := 40) C dX1_countRobbed_21 (by decide) (fun c4 => ?_) (fun c4 => ?_)
    · have h := it_t c4 h
      refine a_iinc (q := 4) (v := (x4 + (1 : Int32))) (lv' := [(4, .int (x4 + (1 : Int32))), (0, .ref (ad 1)), (1, .int x1), (2, .int x2), (3, .int x3)]) C dX1_countRobbed_40 rfl rfl (by decide) rfl ?_
      refine a_goto (tgt := 5) C dX1_countRobbed_43 (by decide) ?_
      refine a_sub (lv' := [(0, .ref (ad 1)), (1, .int x1), (2, .int x2), (3, .int x3), (4, .int (x4 + (1 : Int32)))]) [1, 2, 3, 4, 0] rfl ?_
      exact hk5 x1 x2 x3 (x4 + (1 : Int32)) h
    · have h := it_f c4 h
      refine a_aload_n (q := 0) C dX1_countRobbed_24 rfl rfl ?_
      refine a_iload (q := 4) C dX1_countRobbed_25 rfl ?_
      obtain ⟨r6, g5, h⟩ := bd_spec h
      refine a_cVi (a := 1) (st := []) C dX1_countRobbed_27 cv_RX1_83 (w_X1_freeHues x4  V r6 g5) rfl rfl rfl rfl rfl ⟨Nat.le_of_ble_eq_true rfl, Nat.le_of_ble_eq_true rfl, Nat.le_of_ble_eq_true rfl, Nat.le_of_ble_eq_true rfl⟩ (Nat.le_of_ble_eq_true rfl) ?_
      refine a_iload_n (q := 2) C dX1_countRobbed_30 rfl rfl ?_
      refine a_ishr C dX1_countRobbed_31 ?_
      refine a_iconst (v := (1 : Int32)) C dX1_countRobbed_32 rfl ?_
      refine a_iand C dX1_countRobbed_33 ?_
      refine a_if_eq (tgt := 40) C dX1_countRobbed_34 (by decide) (fun c7 => ?_) (fun c7 => ?_)
      · have h := it_t c7 h
        refine a_iinc (q := 4) (v := (x4 + (1 : Int32))) (lv' := [(4, .int (x4 + (1 : Int32))), (0, .ref (ad 1)), (1, .int x1), (2, .int x2), (3, .int x3)]) C dX1_countRobbed_40 rfl rfl (by decide) rfl ?_
        refine a_goto (tgt := 5) C dX1_countRobbed_43 (by decide) ?_
        refine a_sub (lv' := [(0, .ref (ad 1)), (1, .int x1), (2, .int x2), (3, .int x3), (4, .int (x4 + (1 : Int32)))]) [1, 2, 3, 4, 0] rfl ?_
        exact hk5 x1 x2 x3 (x4 + (1 : Int32)) h
      · have h := it_f c7 h
        refine a_iinc (q := 3) (v := (x3 + (1 : Int32))) (lv' := [(3, .int (x3 + (1 : Int32))), (0, .ref (ad 1)), (1, .int x1), (2, .int x2), (4, .int x4)]) C dX1_countRobbed_37 rfl rfl (by decide) rfl ?_
        refine a_iinc (q := 4) (v := (x4 + (1 : Int32))) (lv' := [(4, .int (x4 + (1 : Int32))), (3, .int (x3 + (1 : Int32))), (0, .ref (ad 1)), (1, .int x1), (2, .int x2)]) C dX1_countRobbed_40 rfl rfl (by decide) rfl ?_
        refine a_goto (tgt := 5) C dX1_countRobbed_43 (by decide) ?_
        refine a_sub (lv' := [(0, .ref (ad 1)), (1, .int x1), (2, .int x2), (3, .int (x3 + (1 : Int32))), (4, .int (x4 + (1 : Int32)))]) [2, 3, 4, 1, 0] rfl ?_
        exact hk5 x1 x2 (x3 + (1 : Int32)) (x4 + (1 : Int32)) h
set_option maxRecDepth 20000 in
set_option maxHeartbeats 4000000 in
theorem w_X1_countRobbed (x1 : Int32) (x2 : Int32)  (V : VT) (r9 : Int32) (h : d_X1_countRobbed x1 x2 V = some r9) : AM 4 0 yX1_countRobbed (.code yX1_countRobbed cX1_countRobbed 5 (some .int)) (fun ad => [.ref (ad 1), .int x1, .int x2]) V V (rI r9) := by
  unfold d_X1_countRobbed at h
  refine AM.of (by decide +kernel) (fun ad => Nat.le_of_ble_eq_true rfl) (fun {p l e s m args below meth c D cs ad b0} C hT => ?_)
  have C : Ctx p l s m args meth c D cs ad b0 RX1 cX1_countRobbed 5 (some .int) := C
  refine a_sub (lv' := [(0, .ref (ad 1)), (1, .int x1), (2, .int x2)]) [0, 1, 2] rfl ?_
  refine a_iconst (v := (0 : Int32)) C dX1_countRobbed_0 rfl ?_
  refine a_istore_n (lv' := [(3, .int (0 : Int32)), (0, .ref (ad 1)), (1, .int x1), (2, .int x2)]) C dX1_countRobbed_1 rfl (by decide) rfl ?_
  refine a_iconst (v := (0 : Int32)) C dX1_countRobbed_2 rfl ?_
  refine a_istore (lv' := [(4, .int (0 : Int32)), (3, .int (0 : Int32)), (0, .ref (ad 1)), (1, .int x1), (2, .int x2)]) C dX1_countRobbed_3 (by decide) rfl ?_
  refine a_sub (lv' := [(0, .ref (ad 1)), (1, .int x1), (2, .int x2), (3, .int (0 : Int32)), (4, .int (0 : Int32))]) [2, 3, 4, 1, 0] rfl ?_
  exact w_X1_countRobbed_5 C hT x1 x2 (0 : Int32) (0 : Int32) h
set_option maxRecDepth 20000 in
set_option maxHeartbeats 4000000 in
theorem w_X1_gentlestHue_14 {p : Program} {l : Launch} {e : Env} {s : State} {m : MethodId} {args : Array Value} {below : List Frame} {meth : Method} {c : Code} {D : va_G} {cs : Nat → ClassId} {ad : Nat → Nat} {b0 : Nat} (C : Ctx p l s m args meth c D cs ad b0 RX1 cX1_gentlestHue 7 (some .int)) (hT : ∀ x ∈ c.exceptionTable.toList, False)   {V : VT} {r9 : Int32}     :
    ∀ (x1 x2 x3 x4 x5 : Int32) , d_X1_gentlestHue_14 V x1 x2 x3 x4 x5 = some r9 → AW p l e (rmOf 5 0) s m args below meth c D cs ad b0 (QF below D cs ad b0 V ((rI r9) ad) args s 0) 7 0 V [(0, .ref (ad 1)), (1, .int x1), (2, .int x2), (3, .int x3), (4, .int x4), (5, .int x5)] [] 14 := by
  refine lo5_ind (P := fun x1 x2 x3 x4 x5 => AW p l e (rmOf 5 0) s m args below meth c D cs ad b0 (QF below D cs ad b0 V ((rI r9) ad) args s 0) 7 0 V [(0, .ref (ad 1)), (1, .int x1), (2, .int x2), (3, .int x3), (4, .int x4), (5, .int x5)] [] 14) ?_ FU
  intro k14 hk14 x1 x2 x3 x4 x5 h
  unfold d_X1_gentlestHue_14b at h
  refine a_iload (q := 5) C dX1_gentlestHue_14 rfl ?_
  refine a_iconst (v := (5 : Int32)) C dX1_gentlestHue_16 rfl ?_
  refine a_icmp_ge (tgt := 63) C dX1_gentlestHue_17 (by decide) (fun c1 => ?_) (fun c1 => ?_)
  · have h := it_t c1 h
    refine a_iload_n (q := 3) C dX1_gentlestHue_63 rfl rfl ?_
    obtain rfl := ret1 h
    exact a_iret C dX1_gentlestHue_64 rfl (by decide) rfl rfl
  · have h := it_f c1 h
    refine a_iload_n (q := 2) C dX1_gentlestHue_20 rfl rfl ?_
    refine a_iload (q := 5) C dX1_gentlestHue_21 rfl ?_
    refine a_ishr C dX1_gentlestHue_23 ?_
    refine a_iconst (v := (1 : Int32)) C dX1_gentlestHue_24 rfl ?_
    refine a_iand C dX1_gentlestHue_25 ?_
    refine a_if_eq (tgt := 57) C dX1_gentlestHue_26 (by decide) (fun c2 => ?_) (fun c2 => ?_)
    · have h := it_t c2 h
      refine a_iinc (q := 5) (v := (x5 + (1 : Int32))) (lv' := [(5, .int (x5 + (1 : Int32))), (0, .ref (ad 1)), (1, .int x1), (2, .int x2), (3, .int x3), (4, .int x4)]) C dX1_gentlestHue_57 rfl rfl (by decide) rfl ?_
      refine a_goto (tgt := 14) C dX1_gentlestHue_60 (by decide) ?_
      refine a_sub (lv' := [(0, .ref (ad 1)), (1, .int x1), (2, .int x2), (3, .int x3), (4, .int x4), (5, .int (x5 + (1 : Int32)))]) [1, 2, 3, 4, 5, 0] rfl ?_
      exact hk14 x1 x2 x3 x4 (x5 + (1 : Int32)) h
    · have h := it_f c2 h
      refine a_aload_n (q := 0) C dX1_gentlestHue_29 rfl rfl ?_
      refine a_iload_n (q := 1) C dX1_gentlestHue_30 rfl rfl ?_
      refine a_iload (q := 5) C dX1_gentlestHue_31 rfl ?_
      obtain ⟨r4, g3, h⟩ := bd_spec h
      refine a_cVi (a := 1) (st := []) C dX1_gentlestHue_33 cv_RX1_110 (w_X1_countRobbed x1 x5  V r4 g3) rfl rfl rfl rfl rfl ⟨Nat.le_of_ble_eq_true rfl, Nat.le_of_ble_eq_true rfl, Nat.le_of_ble_eq_true rfl, Nat.le_of_ble_eq_true rfl⟩ (Nat.le_of_ble_eq_true rfl) ?_
      refine a_istore (lv' := [(6, .int r4), (0, .ref (ad 1)), (1, .int x1), (2, .int x2), (3, .int x3), (4, .int x4), (5, .int x5)]) C dX1_gentlestHue_36 (by decide) rfl ?_
      refine a_iload_n (q := 4) C dX1_gentlestHue_38 rfl rfl ?_
      refine a_iconst (v := (-1 : Int32)) C dX1_gentlestHue_39 rfl ?_
      refine a_icmp_eq (tgt := 50) C dX1_gentlestHue_40 (by decide) (fun c5 => ?_) (fun c5 => ?_)
      · have h := it_t c5 h
        refine a_iload (q := 6) C dX1_gentlestHue_50 rfl ?_
        refine a_istore_n (lv' := [(3, .int x5), (6, .int r4), (0, .ref (ad 1)), (1, .int x1), (2, .int x2), (4, .int x4), (5, .int x5)]) C dX1_gentlestHue_52 rfl (by decide) rfl ?_
        refine a_iload (q := 1) C dX1_gentlestHue_53 rfl ?_
        refine a_istore (lv' := [(4, .int r4), (3, .int x5), (6, .int r4), (0, .ref (ad 1)), (1, .int x1), (2, .int x2), (5, .int x5)]) C dX1_gentlestHue_55 (by decide) rfl ?_
        refine a_iinc (q := 6) (v := (x5 + (1 : Int32))) (lv' := [(5, .int (x5 + (1 : Int32))), (4, .int r4), (3, .int x5), (6, .int r4), (0, .ref (ad 1)), (1, .int x1), (2, .int x2)]) C dX1_gentlestHue_57 rfl rfl (by decide) rfl ?_
        refine a_goto (tgt := 14) C dX1_gentlestHue_60 (by decide) ?_
        refine a_sub (lv' := [(0, .ref (ad 1)), (1, .int x1), (2, .int x2), (3, .int x5), (4, .int r4), (5, .int (x5 + (1 : Int32)))]) [4, 5, 6, 2, 1, 0] rfl ?_
        exact hk14 x1 x2 x5 r4 (x5 + (1 : Int32)) h
      · have h := it_f c5 h
        refine a_iload (q := 0) C dX1_gentlestHue_43 rfl ?_
        refine a_iload (q := 5) C dX1_gentlestHue_45 rfl ?_
        refine a_icmp_ge (tgt := 57) C dX1_gentlestHue_47 (by decide) (fun c6 => ?_) (fun c6 => ?_)
        · have h := it_t c6 h
          refine a_iinc (q := 6) (v := (x5 + (1 : Int32))) (lv' := [(5, .int (x5 + (1 : Int32))), (6, .int r4), (0, .ref (ad 1)), (1, .int x1), (2, .int x2), (3, .int x3), (4, .int x4)]) C dX1_gentlestHue_57 rfl rfl (by decide) rfl ?_
          refine a_goto (tgt := 14) C dX1_gentlestHue_60 (by decide) ?_
          refine a_sub (lv' := [(0, .ref (ad 1)), (1, .int x1), (2, .int x2), (3, .int x3), (4, .int x4), (5, .int (x5 + (1 : Int32)))]) [2, 3, 4, 5, 6, 0] rfl ?_
          exact hk14 x1 x2 x3 x4 (x5 + (1 : Int32)) h
        · have h := it_f c6 h
          refine a_iload (q := 6) C dX1_gentlestHue_50 rfl ?_
          refine a_istore_n (lv' := [(3, .int x5), (6, .int r4), (0, .ref (ad 1)), (1, .int x1), (2, .int x2), (4, .int x4), (5, .int x5)]) C dX1_gentlestHue_52 rfl (by decide) rfl ?_
          refine a_iload (q := 1) C dX1_gentlestHue_53 rfl ?_
          refine a_istore (lv' := [(4, .int r4), (3, .int x5), (6, .int r4), (0, .ref (ad 1)), (1, .int x1), (2, .int x2), (5, .int x5)]) C dX1_gentlestHue_55 (by decide) rfl ?_
          refine a_iinc (q := 6) (v := (x5 + (1 : Int32))) (lv' := [(5, .int (x5 + (1 : Int32))), (4, .int r4), (3, .int x5), (6, .int r4), (0, .ref (ad 1)), (1, .int x1), (2, .int x2)]) C dX1_gentlestHue_57 rfl rfl (by decide) rfl ?_
          refine a_goto (tgt := 14) C dX1_gentlestHue_60 (by decide) ?_
          refine a_sub (lv' := [(0, .ref (ad 1)), (1, .int x1), (2, .int x2), (3, .int x5), (4, .int r4), (5, .int (x5 + (1 : Int32)))]) [4, 5, 6, 2, 1, 0] rfl ?_
          exact hk14 x1 x2 x5 r4 (x5 + (1 : Int32)) h
set_option maxRecDepth 20000 in
set_option maxHeartbeats 4000000 in
theorem w_X1_gentlestHue (x1 : Int32)  (V : VT) (r9 : Int32) (h : d_X1_gentlestHue x1 V = some r9) : AM 5 0 yX1_gentlestHue (.code yX1_gentlestHue cX1_gentlestHue 7 (some .int)) (fun ad => [.ref (ad 1), .int x1]) V V (rI r9) := by
  unfold d_X1_gentlestHue at h
  refine AM.of (by decide +kernel) (fun ad => Nat.le_of_ble_eq_true rfl) (fun {p l e s m args below meth c D cs ad b0} C hT => ?_)
  have C : Ctx p l s m args meth c D cs ad b0 RX1 cX1_gentlestHue 7 (some .int) := C
  refine a_sub (lv' := [(0, .ref (ad 1)), (1, .int x1)]) [0, 1] rfl ?_
  refine a_aload_n (q := 0) C dX1_gentlestHue_0 rfl rfl ?_
  refine a_iload_n (q := 1) C dX1_gentlestHue_1 rfl rfl ?_
  obtain ⟨r2, g1, h⟩ := bd_spec h
  refine a_cVi (a := 1) (st := []) C dX1_gentlestHue_2 cv_RX1_83 (w_X1_freeHues x1  V r2 g1) rfl rfl rfl rfl rfl ⟨Nat.le_of_ble_eq_true rfl, Nat.le_of_ble_eq_true rfl, Nat.le_of_ble_eq_true rfl, Nat.le_of_ble_eq_true rfl⟩ (Nat.le_of_ble_eq_true rfl) ?_
  refine a_istore_n (lv' := [(2, .int r2), (0, .ref (ad 1)), (1, .int x1)]) C dX1_gentlestHue_5 rfl (by decide) rfl ?_
  refine a_iconst (v := (-1 : Int32)) C dX1_gentlestHue_6 rfl ?_
  refine a_istore_n (lv' := [(3, .int (-1 : Int32)), (2, .int r2), (0, .ref (ad 1)), (1, .int x1)]) C dX1_gentlestHue_7 rfl (by decide) rfl ?_
  refine a_iconst (v := (0 : Int32)) C dX1_gentlestHue_8 rfl ?_
  refine a_istore (lv' := [(4, .int (0 : Int32)), (3, .int (-1 : Int32)), (2, .int r2), (0, .ref (ad 1)), (1, .int x1)]) C dX1_gentlestHue_9 (by decide) rfl ?_
  refine a_iconst (v := (0 : Int32)) C dX1_gentlestHue_11 rfl ?_
  refine a_istore (lv' := [(5, .int (0 : Int32)), (4, .int (0 : Int32)), (3, .int (-1 : Int32)), (2, .int r2), (0, .ref (ad 1)), (1, .int x1)]) C dX1_gentlestHue_12 (by decide) rfl ?_
  refine a_sub (lv' := [(0, .ref (ad 1)), (1, .int x1), (2, .int r2), (3, .int (-1 : Int32)), (4, .int (0 : Int32)), (5, .int (0 : Int32))]) [4, 5, 3, 2, 1, 0] rfl ?_
  exact w_X1_gentlestHue_14 C hT x1 r2 (-1 : Int32) (0 : Int32) (0 : Int32) h
set_option maxRecDepth 20000 in
set_option maxHeartbeats 4000000 in
theorem w_X4_gentle (x1 : Int32)  (V : VT) (o9 : Int32 ⊕ String) (W9 : VT) (h : d_X4_gentle x1 V = some (o9, W9)) : AM 7 2 yX4_gentle (.code yX4_gentle cX4_gentle 3 (some .int)) (fun ad => [.ref (ad 0), .int x1]) V W9 (rX o9) := by
  unfold d_X4_gentle at h
  refine AM.of (by decide +kernel) (fun ad => Nat.le_of_ble_eq_true rfl) (fun {p l e s m args below meth c D cs ad b0} C hT => ?_)
  have C : Ctx p l s m args meth c D cs ad b0 RX4 cX4_gentle 3 (some .int) := C
  refine a_sub (lv' := [(0, .ref (ad 0)), (1, .int x1)]) [0, 1] rfl ?_
  refine a_aload_n (q := 0) C dX4_gentle_0 rfl rfl ?_
  refine a_iload_n (q := 1) C dX4_gentle_1 rfl rfl ?_
  obtain ⟨o2, V3, g1, n4, t5⟩ := bx_spec h
  refine a_cVxv (a := 0) (st := []) (k' := 1) C dX4_gentle_2 cv_RX4_87 (w_X4_stopIfNoCountry x1  V o2 V3 g1) rfl rfl rfl rfl rfl ⟨Nat.le_of_ble_eq_true rfl, Nat.le_of_ble_eq_true rfl, Nat.le_of_ble_eq_true rfl, Nat.le_of_ble_eq_true rfl⟩ (Nat.le_of_ble_eq_true rfl) (fun r6 e9 => ?_) (fun E9 e9 => ?_)
  · have h := n4 r6 e9
    refine a_aload_n (q := 0) C dX4_gentle_5 rfl rfl ?_
    refine a_getr (a := 0) (t := 1) C dX4_gentle_6 fl_RX4_10 rfl rfl ?_
    refine a_iload_n (q := 1) C dX4_gentle_9 rfl rfl ?_
    obtain ⟨r8, g7, h⟩ := bd_spec h
    refine a_cVi (a := 1) (st := []) C dX4_gentle_10 cv_RX4_211 (w_X1_gentlestHue x1  V3 r8 g7) rfl rfl rfl rfl rfl ⟨Nat.le_of_ble_eq_true rfl, Nat.le_of_ble_eq_true rfl, Nat.le_of_ble_eq_true rfl, Nat.le_of_ble_eq_true rfl⟩ (Nat.le_of_ble_eq_true rfl) ?_
    refine a_istore_n (lv' := [(2, .int r8), (0, .ref (ad 0)), (1, .int x1)]) C dX4_gentle_13 rfl (by decide) rfl ?_
    refine a_iload_n (q := 0) C dX4_gentle_14 rfl rfl ?_
    refine a_iconst (v := (-1 : Int32)) C dX4_gentle_15 rfl ?_
    refine a_icmp_ne (tgt := 29) C dX4_gentle_16 (by decide) (fun c9 => ?_) (fun c9 => ?_)
    · have h := it_f c9 h
      refine a_iload_n (q := 0) C dX4_gentle_29 rfl rfl ?_
      obtain ⟨rfl, rfl⟩ := ret2 h
      exact a_iret C dX4_gentle_30 rfl (by decide) rfl rfl
    · have h := it_t c9 h
      obtain ⟨rfl, rfl⟩ := ret2 h
      exact a_throwN (text := "no hue is free for the country") C hT tn_RX4_193_197 (by decide +kernel) dX4_gentle_19 dX4_gentle_22 dX4_gentle_23 dX4_gentle_25 dX4_gentle_28 ⟨by decide, by decide, by decide, by decide⟩ (by decide) rfl rfl
  · obtain ⟨rfl, rfl⟩ := Prod.mk.inj (t5 E9 e9)
    exact a_xout C hT (by decide) rfl rfl
set_option maxRecDepth 20000 in
set_option maxHeartbeats 4000000 in
theorem w_X4_isCrown (x0 : Int32)  (V : VT) (r9 : Int32) (h : d_X4_isCrown x0 V = some r9) : AM 2 0 yX4_isCrown (.code yX4_isCrown cX4_isCrown 1 (some .boolean)) (fun ad => [.int x0]) V V (rI r9) := by
  unfold d_X4_isCrown at h
  refine AM.of (by decide +kernel) (fun ad => Nat.le_of_ble_eq_true rfl) (fun {p l e s m args below meth c D cs ad b0} C hT => ?_)
  have C : Ctx p l s m args meth c D cs ad b0 RX4 cX4_isCrown 1 (some .boolean) := C
  refine a_sub (lv' := [(0, .int x0)]) [0] rfl ?_
  refine a_iload_n (q := 0) C dX4_isCrown_0 rfl rfl ?_
  refine a_if_lt (tgt := 14) C dX4_isCrown_1 (by decide) (fun c1 => ?_) (fun c1 => ?_)
  · have h := it_t c1 h
    refine a_iconst (v := (0 : Int32)) C dX4_isCrown_14 rfl ?_
    obtain rfl := ret1 h
    exact a_zret C dX4_isCrown_15 rfl rfl (by decide) rfl rfl
  · have h := it_f c1 h
    refine a_iload_n (q := 0) C dX4_isCrown_4 rfl rfl ?_
    refine a_bipush (v := (9 : Int32)) C dX4_isCrown_5 rfl ?_
    refine a_icmp_gt (tgt := 14) C dX4_isCrown_7 (by decide) (fun c2 => ?_) (fun c2 => ?_)
    · have h := it_t c2 h
      refine a_iconst (v := (0 : Int32)) C dX4_isCrown_14 rfl ?_
      obtain rfl := ret1 h
      exact a_zret C dX4_isCrown_15 rfl rfl (by decide) rfl rfl
    · have h := it_f c2 h
      refine a_iconst (v := (1 : Int32)) C dX4_isCrown_10 rfl ?_
      refine a_goto (tgt := 15) C dX4_isCrown_11 (by decide) ?_
      obtain rfl := ret1 h
      exact a_zret C dX4_isCrown_15 rfl rfl (by decide) rfl rfl
set_option maxRecDepth 20000 in
set_option maxHeartbeats 4000000 in
theorem w_X1_setWish (x1 : Int32) (x2 : Int32) (x3 : Int32)  (V : VT) (W9 : VT) (h : d_X1_setWish x1 x2 x3 V = some W9) : AM 2 0 yX1_setWish (.code yX1_setWish cX1_setWish 4 (none)) (fun ad => [.ref (ad 1), .int x1, .int x2, .int x3]) V W9 (rV) := by
  unfold d_X1_setWish at h
  refine AM.of (by decide +kernel) (fun ad => Nat.le_of_ble_eq_true rfl) (fun {p l e s m args below meth c D cs ad b0} C hT => ?_)
  have C : Ctx p l s m args meth c D cs ad b0 RX1 cX1_setWish 4 (none) := C
  refine a_sub (lv' := [(0, .ref (ad 1)), (1, .int x1), (2, .int x2), (3, .int x3)]) [0, 1, 2, 3] rfl ?_
  refine a_aload_n (q := 0) C dX1_setWish_0 rfl rfl ?_
  refine a_getr (a := 1) (t := 4) C dX1_setWish_1 fl_RX1_18 rfl rfl ?_
  refine a_iload_n (q := 1) C dX1_setWish_4 rfl rfl ?_
  refine a_iload_n (q := 2) C dX1_setWish_5 rfl rfl ?_
  obtain ⟨z1, h⟩ := asr_spec h
  refine a_iast (a := 4) C dX1_setWish_6 rfl (inb_in z1) ?_
  refine a_aload_n (q := 0) C dX1_setWish_7 rfl rfl ?_
  refine a_getr (a := 1) (t := 5) C dX1_setWish_8 fl_RX1_21 rfl rfl ?_
  refine a_iload_n (q := 1) C dX1_setWish_11 rfl rfl ?_
  refine a_iload_n (q := 3) C dX1_setWish_12 rfl rfl ?_
  obtain ⟨z2, h⟩ := asr_spec h
  refine a_iast (a := 5) C dX1_setWish_13 rfl (inb_in z2) ?_
  obtain rfl := ret1 h
  exact a_vret C dX1_setWish_14 rfl (by decide) rfl rfl
set_option maxRecDepth 20000 in
set_option maxHeartbeats 4000000 in
theorem w_X4_wish (x1 : Int32) (x2 : Int32) (x3 : Int32)  (V : VT) (o9 : Int32 ⊕ String) (W9 : VT) (h : d_X4_wish x1 x2 x3 V = some (o9, W9)) : AM 7 3 yX4_wish (.code yX4_wish cX4_wish 5 (some .int)) (fun ad => [.ref (ad 0), .int x1, .int x2, .int x3]) V W9 (rX o9) := by
  unfold d_X4_wish at h
  refine AM.of (by decide +kernel) (fun ad => Nat.le_of_ble_eq_true rfl) (fun {p l e s m args below meth c D cs ad b0} C hT => ?_)
  have C : Ctx p l s m args meth c D cs ad b0 RX4 cX4_wish 5 (some .int) := C
  refine a_sub (lv' := [(0, .ref (ad 0)), (1, .int x1), (2, .int x2), (3, .int x3)]) [0, 1, 2, 3] rfl ?_
  refine a_aload_n (q := 0) C dX4_wish_0 rfl rfl ?_
  refine a_iload_n (q := 1) C dX4_wish_1 rfl rfl ?_
  obtain ⟨o2, V3, g1, n4, t5⟩ := bx_spec h
  refine a_cVxv (a := 0) (st := []) (k' := 1) C dX4_wish_2 cv_RX4_87 (w_X4_stopIfNoCountry x1  V o2 V3 g1) rfl rfl rfl rfl rfl ⟨Nat.le_of_ble_eq_true rfl, Nat.le_of_ble_eq_true rfl, Nat.le_of_ble_eq_true rfl, Nat.le_of_ble_eq_true rfl⟩ (Nat.le_of_ble_eq_true rfl) (fun r6 e9 => ?_) (fun E9 e9 => ?_)
  · have h := n4 r6 e9
    refine a_aload_n (q := 0) C dX4_wish_5 rfl rfl ?_
    refine a_iload_n (q := 2) C dX4_wish_6 rfl rfl ?_
    obtain ⟨o8, V9, g7, n10, t11⟩ := bx_spec h
    refine a_cVxv (a := 0) (st := []) (k' := 1) C dX4_wish_7 cv_RX4_153 (w_X4_stopIfNoHue x2  V3 o8 V9 g7) rfl rfl rfl rfl rfl ⟨Nat.le_of_ble_eq_true rfl, Nat.le_of_ble_eq_true rfl, Nat.le_of_ble_eq_true rfl, Nat.le_of_ble_eq_true rfl⟩ (Nat.le_of_ble_eq_true rfl) (fun r12 e9 => ?_) (fun E9 e9 => ?_)
    · have h := n10 r12 e9
      refine a_iload_n (q := 3) C dX4_wish_10 rfl rfl ?_
      obtain ⟨r14, g13, h⟩ := bd_spec h
      refine a_cSi (st := []) C dX4_wish_11 cv_RX4_216 (w_X4_isCrown x3  V9 r14 g13) rfl rfl rfl ⟨Nat.le_of_ble_eq_true rfl, Nat.le_of_ble_eq_true rfl, Nat.le_of_ble_eq_true rfl, Nat.le_of_ble_eq_true rfl⟩ (Nat.le_of_ble_eq_true rfl) ?_
      refine a_if_ne (tgt := 27) C dX4_wish_14 (by decide) (fun c15 => ?_) (fun c15 => ?_)
      · have h := it_f c15 h
        refine a_aload_n (q := 0) C dX4_wish_27 rfl rfl ?_
        refine a_getr (a := 0) (t := 28) C dX4_wish_28 fl_RX4_25 rfl rfl ?_
        refine a_aload_n (q := 0) C dX4_wish_31 rfl rfl ?_
        refine a_getr (a := 0) (t := 1) C dX4_wish_32 fl_RX4_10 rfl rfl ?_
        obtain ⟨V17, g16, h⟩ := bd_spec h
        refine a_cVv (a := 28) (st := []) C dX4_wish_35 cv_RX4_79 (w_X3_keep 1 rfl V9 V17 g16) rfl rfl rfl rfl rfl ⟨Nat.le_of_ble_eq_true rfl, Nat.le_of_ble_eq_true rfl, Nat.le_of_ble_eq_true rfl, Nat.le_of_ble_eq_true rfl⟩ (Nat.le_of_ble_eq_true rfl) ?_
        refine a_aload_n (q := 0) C dX4_wish_38 rfl rfl ?_
        refine a_getr (a := 0) (t := 1) C dX4_wish_39 fl_RX4_10 rfl rfl ?_
        refine a_getr (a := 1) (t := 4) C dX4_wish_42 fl_RX4_130 rfl rfl ?_
        refine a_iload_n (q := 1) C dX4_wish_45 rfl rfl ?_
        obtain ⟨z18, h⟩ := asr_spec h
        refine a_iald (a := 4) (x := (V17 4 x1.toNatClampNeg)) C dX4_wish_46 rfl (inb_in z18) rfl ?_
        refine a_istore (lv' := [(4, .int (V17 4 x1.toNatClampNeg)), (0, .ref (ad 0)), (1, .int x1), (2, .int x2), (3, .int x3)]) C dX4_wish_47 (by decide) rfl ?_
        refine a_aload_n (q := 1) C dX4_wish_49 rfl rfl ?_
        refine a_getr (a := 0) (t := 1) C dX4_wish_50 fl_RX4_10 rfl rfl ?_
        refine a_iload_n (q := 2) C dX4_wish_53 rfl rfl ?_
        refine a_iload_n (q := 3) C dX4_wish_54 rfl rfl ?_
        refine a_iload_n (q := 4) C dX4_wish_55 rfl rfl ?_
        obtain ⟨V20, g19, h⟩ := bd_spec h
        refine a_cVv (a := 1) (st := []) C dX4_wish_56 cv_RX4_221 (w_X1_setWish x1 x2 x3  V17 V20 g19) rfl rfl rfl rfl rfl ⟨Nat.le_of_ble_eq_true rfl, Nat.le_of_ble_eq_true rfl, Nat.le_of_ble_eq_true rfl, Nat.le_of_ble_eq_true rfl⟩ (Nat.le_of_ble_eq_true rfl) ?_
        refine a_iload (q := 0) C dX4_wish_59 rfl ?_
        obtain ⟨rfl, rfl⟩ := ret2 h
        exact a_iret C dX4_wish_61 rfl (by decide) rfl rfl
      · have h := it_t c15 h
        obtain ⟨rfl, rfl⟩ := ret2 h
        exact a_throw (text := "a crown is from 0 to 9") C hT th_RX4_64_68 (by decide +kernel) dX4_wish_17 dX4_wish_20 dX4_wish_21 dX4_wish_23 dX4_wish_26 ⟨by decide, by decide, by decide, by decide⟩ (by decide) rfl rfl
    · obtain ⟨rfl, rfl⟩ := Prod.mk.inj (t11 E9 e9)
      exact a_xout C hT (by decide) rfl rfl
  · obtain ⟨rfl, rfl⟩ := Prod.mk.inj (t5 E9 e9)
    exact a_xout C hT (by decide) rfl rfl
set_option maxRecDepth 20000 in
set_option maxHeartbeats 4000000 in
theorem w_X1_isFulfilled (x1 : Int32)  (V : VT) (r9 : Int32) (h : d_X1_isFulfilled x1 V = some r9) : AM 3 0 yX1_isFulfilled (.code yX1_isFulfilled cX1_isFulfilled 2 (some .boolean)) (fun ad => [.ref (ad 1), .int x1]) V V (rI r9) := by
  unfold d_X1_isFulfilled at h
  refine AM.of (by decide +kernel) (fun ad => Nat.le_of_ble_eq_true rfl) (fun {p l e s m args below meth c D cs ad b0} C hT => ?_)
  have C : Ctx p l s m args meth c D cs ad b0 RX1 cX1_isFulfilled 2 (some .boolean) := C
  refine a_sub (lv' := [(0, .ref (ad 1)), (1, .int x1)]) [0, 1] rfl ?_
  refine a_aload_n (q := 0) C dX1_isFulfilled_0 rfl rfl ?_
  refine a_iload_n (q := 1) C dX1_isFulfilled_1 rfl rfl ?_
  obtain ⟨r2, g1, h⟩ := bd_spec h
  refine a_cVi (a := 1) (st := []) C dX1_isFulfilled_2 cv_RX1_59 (w_X1_isPainted x1  V r2 g1) rfl rfl rfl rfl rfl ⟨Nat.le_of_ble_eq_true rfl, Nat.le_of_ble_eq_true rfl, Nat.le_of_ble_eq_true rfl, Nat.le_of_ble_eq_true rfl⟩ (Nat.le_of_ble_eq_true rfl) ?_
  refine a_if_eq (tgt := 27) C dX1_isFulfilled_5 (by decide) (fun c3 => ?_) (fun c3 => ?_)
  · have h := it_t c3 h
    refine a_iconst (v := (0 : Int32)) C dX1_isFulfilled_27 rfl ?_
    obtain rfl := ret1 h
    exact a_zret C dX1_isFulfilled_28 rfl rfl (by decide) rfl rfl
  · have h := it_f c3 h
    refine a_aload_n (q := 0) C dX1_isFulfilled_8 rfl rfl ?_
    refine a_getr (a := 1) (t := 3) C dX1_isFulfilled_9 fl_RX1_15 rfl rfl ?_
    refine a_iload_n (q := 1) C dX1_isFulfilled_12 rfl rfl ?_
    obtain ⟨z4, h⟩ := asr_spec h
    refine a_iald (a := 3) (x := (V 3 x1.toNatClampNeg)) C dX1_isFulfilled_13 rfl (inb_in z4) rfl ?_
    refine a_aload_n (q := 0) C dX1_isFulfilled_14 rfl rfl ?_
    refine a_getr (a := 1) (t := 4) C dX1_isFulfilled_15 fl_RX1_18 rfl rfl ?_
    refine a_iload_n (q := 1) C dX1_isFulfilled_18 rfl rfl ?_
    obtain ⟨z5, h⟩ := asr_spec h
    refine a_iald (a := 4) (x := (V 4 x1.toNatClampNeg)) C dX1_isFulfilled_19 rfl (inb_in z5) rfl ?_
    refine a_icmp_ne (tgt := 27) C dX1_isFulfilled_20 (by decide) (fun c6 => ?_) (fun c6 => ?_)
    · have h := it_f c6 h
      refine a_iconst (v := (0 : Int32)) C dX1_isFulfilled_27 rfl ?_
      obtain rfl := ret1 h
      exact a_zret C dX1_isFulfilled_28 rfl rfl (by decide) rfl rfl
    · have h := it_t c6 h
      refine a_iconst (v := (1 : Int32)) C dX1_isFulfilled_23 rfl ?_
      refine a_goto (tgt := 28) C dX1_isFulfilled_24 (by decide) ?_
      obtain rfl := ret1 h
      exact a_zret C dX1_isFulfilled_28 rfl rfl (by decide) rfl rfl
set_option maxRecDepth 20000 in
set_option maxHeartbeats 4000000 in
theorem w_X1_sumFulfilledCrowns_4 {p : Program} {l : Launch} {e : Env} {s : State} {m : MethodId} {args : Array Value} {below : List Frame} {meth : Method} {c : Code} {D : va_G} {cs : Nat → ClassId} {ad : Nat → Nat} {b0 : Nat} (C : Ctx p l s m args meth c D cs ad b0 RX1 cX1_sumFulfilledCrowns 3 (some .int)) (hT : ∀ x ∈ c.exceptionTable.toList, False)   {V : VT} {r9 : Int32}     :
    ∀ (x1 x2 : Int32) , d_X1_sumFulfilledCrowns_4 V x1 x2 = some r9 → AW p l e (rmOf 4 0) s m args below meth c D cs ad b0 (QF below D cs ad b0 V ((rI r9) ad) args s 0) 3 0 V [(0, .ref (ad 1)), (1, .int x1), (2, .int x2)] [] 4 := by
  refine lo2_ind (P := fun x1 x2 => AW p l e (rmOf 4 0) s m args below meth c D cs ad b0 (QF below D cs ad b0 V ((rI r9) ad) args s 0) 3 0 V [(0, .ref (ad 1)), (1, .int x1), (2, .int x2)] [] 4) ?_ FU
  intro k4 hk4 x1 x2 h
  unfold d_X1_sumFulfilledCrowns_4b at h
  refine a_iload_n (q := 2) C dX1_sumFulfilledCrowns_4 rfl rfl ?_
  refine a_aload_n (q := 0) C dX1_sumFulfilledCrowns_5 rfl rfl ?_
  refine a_geti (a := 1) (x := (V 1 8)) C dX1_sumFulfilledCrowns_6 fl_RX1_36 rfl rfl rfl ?_
  refine a_icmp_ge (tgt := 35) C dX1_sumFulfilledCrowns_9 (by decide) (fun c1 => ?_) (fun c1 => ?_)
  · have h := it_t c1 h
    refine a_iload_n (q := 1) C dX1_sumFulfilledCrowns_35 rfl rfl ?_
    obtain rfl := ret1 h
    exact a_iret C dX1_sumFulfilledCrowns_36 rfl (by decide) rfl rfl
  · have h := it_f c1 h
    refine a_aload_n (q := 0) C dX1_sumFulfilledCrowns_12 rfl rfl ?_
    refine a_iload_n (q := 2) C dX1_sumFulfilledCrowns_13 rfl rfl ?_
    obtain ⟨r3, g2, h⟩ := bd_spec h
    refine a_cVi (a := 1) (st := []) C dX1_sumFulfilledCrowns_14 cv_RX1_116 (w_X1_isFulfilled x2  V r3 g2) rfl rfl rfl rfl rfl ⟨Nat.le_of_ble_eq_true rfl, Nat.le_of_ble_eq_true rfl, Nat.le_of_ble_eq_true rfl, Nat.le_of_ble_eq_true rfl⟩ (Nat.le_of_ble_eq_true rfl) ?_
    refine a_if_eq (tgt := 29) C dX1_sumFulfilledCrowns_17 (by decide) (fun c4 => ?_) (fun c4 => ?_)
    · have h := it_t c4 h
      refine a_iinc (q := 2) (v := (x2 + (1 : Int32))) (lv' := [(2, .int (x2 + (1 : Int32))), (0, .ref (ad 1)), (1, .int x1)]) C dX1_sumFulfilledCrowns_29 rfl rfl (by decide) rfl ?_
      refine a_goto (tgt := 4) C dX1_sumFulfilledCrowns_32 (by decide) ?_
      refine a_sub (lv' := [(0, .ref (ad 1)), (1, .int x1), (2, .int (x2 + (1 : Int32)))]) [1, 2, 0] rfl ?_
      exact hk4 x1 (x2 + (1 : Int32)) h
    · have h := it_f c4 h
      refine a_iload_n (q := 1) C dX1_sumFulfilledCrowns_20 rfl rfl ?_
      refine a_aload_n (q := 0) C dX1_sumFulfilledCrowns_21 rfl rfl ?_
      refine a_getr (a := 1) (t := 5) C dX1_sumFulfilledCrowns_22 fl_RX1_21 rfl rfl ?_
      refine a_iload_n (q := 2) C dX1_sumFulfilledCrowns_25 rfl rfl ?_
      obtain ⟨z5, h⟩ := asr_spec h
      refine a_iald (a := 5) (x := (V 5 x2.toNatClampNeg)) C dX1_sumFulfilledCrowns_26 rfl (inb_in z5) rfl ?_
      refine a_iadd C dX1_sumFulfilledCrowns_27 ?_
      refine a_istore_n (lv' := [(1, .int (x1 + (V 5 x2.toNatClampNeg))), (0, .ref (ad 1)), (2, .int x2)]) C dX1_sumFulfilledCrowns_28 rfl (by decide) rfl ?_
      refine a_iinc (q := 2) (v := (x2 + (1 : Int32))) (lv' := [(2, .int (x2 + (1 : Int32))), (1, .int (x1 + (V 5 x2.toNatClampNeg))), (0, .ref (ad 1))]) C dX1_sumFulfilledCrowns_29 rfl rfl (by decide) rfl ?_
      refine a_goto (tgt := 4) C dX1_sumFulfilledCrowns_32 (by decide) ?_
      refine a_sub (lv' := [(0, .ref (ad 1)), (1, .int (x1 + (V 5 x2.toNatClampNeg))), (2, .int (x2 + (1 : Int32)))]) [2, 1, 0] rfl ?_
      exact hk4 (x1 + (V 5 x2.toNatClampNeg)) (x2 + (1 : Int32)) h
set_option maxRecDepth 20000 in
set_option maxHeartbeats 4000000 in
theorem w_X1_sumFulfilledCrowns   (V : VT) (r9 : Int32) (h : d_X1_sumFulfilledCrowns  V = some r9) : AM 4 0 yX1_sumFulfilledCrowns (.code yX1_sumFulfilledCrowns cX1_sumFulfilledCrowns 3 (some .int)) (fun ad => [.ref (ad 1)]) V V (rI r9) := by
  unfold d_X1_sumFulfilledCrowns at h
  refine AM.of (by decide +kernel) (fun ad => Nat.le_of_ble_eq_true rfl) (fun {p l e s m args below meth c D cs ad b0} C hT => ?_)
  have C : Ctx p l s m args meth c D cs ad b0 RX1 cX1_sumFulfilledCrowns 3 (some .int) := C
  refine a_sub (lv' := [(0, .ref (ad 1))]) [0] rfl ?_
  refine a_iconst (v := (0 : Int32)) C dX1_sumFulfilledCrowns_0 rfl ?_
  refine a_istore_n (lv' := [(1, .int (0 : Int32)), (0, .ref (ad 1))]) C dX1_sumFulfilledCrowns_1 rfl (by decide) rfl ?_
  refine a_iconst (v := (0 : Int32)) C dX1_sumFulfilledCrowns_2 rfl ?_
  refine a_istore_n (lv' := [(2, .int (0 : Int32)), (1, .int (0 : Int32)), (0, .ref (ad 1))]) C dX1_sumFulfilledCrowns_3 rfl (by decide) rfl ?_
  refine a_sub (lv' := [(0, .ref (ad 1)), (1, .int (0 : Int32)), (2, .int (0 : Int32))]) [2, 1, 0] rfl ?_
  exact w_X1_sumFulfilledCrowns_4 C hT (0 : Int32) (0 : Int32) h
set_option maxRecDepth 20000 in
set_option maxHeartbeats 4000000 in
theorem w_X4_fulfilled   (V : VT) (r9 : Int32) (h : d_X4_fulfilled  V = some r9) : AM 5 0 yX4_fulfilled (.code yX4_fulfilled cX4_fulfilled 1 (some .int)) (fun ad => [.ref (ad 0)]) V V (rI r9) := by
  unfold d_X4_fulfilled at h
  refine AM.of (by decide +kernel) (fun ad => Nat.le_of_ble_eq_true rfl) (fun {p l e s m args below meth c D cs ad b0} C hT => ?_)
  have C : Ctx p l s m args meth c D cs ad b0 RX4 cX4_fulfilled 1 (some .int) := C
  refine a_sub (lv' := [(0, .ref (ad 0))]) [0] rfl ?_
  refine a_aload_n (q := 0) C dX4_fulfilled_0 rfl rfl ?_
  refine a_getr (a := 0) (t := 1) C dX4_fulfilled_1 fl_RX4_10 rfl rfl ?_
  obtain ⟨r2, g1, h⟩ := bd_spec h
  refine a_cVi (a := 1) (st := []) C dX4_fulfilled_4 cv_RX4_224 (w_X1_sumFulfilledCrowns   V r2 g1) rfl rfl rfl rfl rfl ⟨Nat.le_of_ble_eq_true rfl, Nat.le_of_ble_eq_true rfl, Nat.le_of_ble_eq_true rfl, Nat.le_of_ble_eq_true rfl⟩ (Nat.le_of_ble_eq_true rfl) ?_
  obtain rfl := ret1 h
  exact a_iret C dX4_fulfilled_7 rfl (by decide) rfl rfl
set_option maxRecDepth 20000 in
set_option maxHeartbeats 4000000 in
theorem w_X0_noteHolders_16 {p : Program} {l : Launch} {e : Env} {s : State} {m : MethodId} {args : Array Value} {below : List Frame} {meth : Method} {c : Code} {D : va_G} {cs : Nat → ClassId} {ad : Nat → Nat} {b0 : Nat} (C : Ctx p l s m args meth c D cs ad b0 RX0 cX0_noteHolders 4 (none)) (hT : ∀ x ∈ c.exceptionTable.toList, False)    {W9 : VT} {k2 : Int32 → VT → Option VT}   (hk2 : ∀ (x2 : Int32) (V : VT), k2 x2 V = some W9 → AW p l e (rmOf 2 0) s m args below meth c D cs ad b0 (QF below D cs ad b0 W9 ((rV) ad) args s 0) 4 0 V [(0, .ref (ad 102)), (1, .ref (ad 1)), (2, .int x2)] [] 2) :
    ∀ (x2 x3 : Int32) (V : VT), d_X0_noteHolders_16 k2 x2 x3 V = some W9 → AW p l e (rmOf 2 0) s m args below meth c D cs ad b0 (QF below D cs ad b0 W9 ((rV) ad) args s 0) 4 0 V [(0, .ref (ad 102)), (1, .ref (ad 1)), (2, .int x2), (3, .int x3)] [] 16 := by
  refine lo2W_ind (P := fun x2 x3 V => AW p l e (rmOf 2 0) s m args below meth c D cs ad b0 (QF below D cs ad b0 W9 ((rV) ad) args s 0) 4 0 V [(0, .ref (ad 102)), (1, .ref (ad 1)), (2, .int x2), (3, .int x3)] [] 16) ?_ FU
  intro k16 hk16 x2 x3 V h
  unfold d_X0_noteHolders_16b at h
  refine a_iload_n (q := 3) C dX0_noteHolders_16 rfl rfl ?_
  refine a_aload_n (q := 1) C dX0_noteHolders_17 rfl rfl ?_
  refine a_geti (a := 1) (x := (V 1 8)) C dX0_noteHolders_18 fl_RX0_53 rfl rfl rfl ?_
  refine a_icmp_ge (tgt := 52) C dX0_noteHolders_21 (by decide) (fun c1 => ?_) (fun c1 => ?_)
  · have h := it_t c1 h
    refine a_iinc (q := 2) (v := (x2 + (1 : Int32))) (lv' := [(2, .int (x2 + (1 : Int32))), (0, .ref (ad 102)), (1, .ref (ad 1)), (3, .int x3)]) C dX0_noteHolders_52 rfl rfl (by decide) rfl ?_
    refine a_goto (tgt := 2) C dX0_noteHolders_55 (by decide) ?_
    refine a_sub (lv' := [(0, .ref (ad 102)), (1, .ref (ad 1)), (2, .int (x2 + (1 : Int32)))]) [1, 2, 0] rfl ?_
    exact hk2 (x2 + (1 : Int32)) V h
  · have h := it_f c1 h
    refine a_aload_n (q := 1) C dX0_noteHolders_24 rfl rfl ?_
    refine a_getr (a := 1) (t := 3) C dX0_noteHolders_25 fl_RX0_64 rfl rfl ?_
    refine a_iload_n (q := 3) C dX0_noteHolders_28 rfl rfl ?_
    obtain ⟨z2, h⟩ := asr_spec h
    refine a_iald (a := 3) (x := (V 3 x3.toNatClampNeg)) C dX0_noteHolders_29 rfl (inb_in z2) rfl ?_
    refine a_iload_n (q := 2) C dX0_noteHolders_30 rfl rfl ?_
    refine a_icmp_ne (tgt := 46) C dX0_noteHolders_31 (by decide) (fun c3 => ?_) (fun c3 => ?_)
    · have h := it_f c3 h
      refine a_iinc (q := 3) (v := (x3 + (1 : Int32))) (lv' := [(3, .int (x3 + (1 : Int32))), (0, .ref (ad 102)), (1, .ref (ad 1)), (2, .int x2)]) C dX0_noteHolders_46 rfl rfl (by decide) rfl ?_
      refine a_goto (tgt := 16) C dX0_noteHolders_49 (by decide) ?_
      refine a_sub (lv' := [(0, .ref (ad 102)), (1, .ref (ad 1)), (2, .int x2), (3, .int (x3 + (1 : Int32)))]) [1, 2, 3, 0] rfl ?_
      exact hk16 x2 (x3 + (1 : Int32)) V h
    · have h := it_t c3 h
      refine a_aload_n (q := 0) C dX0_noteHolders_34 rfl rfl ?_
      refine a_getr (a := 102) (t := 103) C dX0_noteHolders_35 fl_RX0_9 rfl rfl ?_
      refine a_iload_n (q := 2) C dX0_noteHolders_38 rfl rfl ?_
      refine a_dup2 C dX0_noteHolders_39 rfl rfl ?_
      obtain ⟨z4, h⟩ := asr_spec h
      refine a_iald (a := 103) (x := (V 103 x2.toNatClampNeg)) C dX0_noteHolders_40 rfl (inb_in z4) rfl ?_
      refine a_iconst (v := (1 : Int32)) C dX0_noteHolders_41 rfl ?_
      refine a_iload_n (q := 3) C dX0_noteHolders_42 rfl rfl ?_
      refine a_ishl C dX0_noteHolders_43 ?_
      refine a_ior C dX0_noteHolders_44 ?_
      obtain ⟨z5, h⟩ := asr_spec h
      refine a_iast (a := 103) C dX0_noteHolders_45 rfl (inb_in z5) ?_
      refine a_iinc (q := 3) (v := (x3 + (1 : Int32))) (lv' := [(3, .int (x3 + (1 : Int32))), (0, .ref (ad 102)), (1, .ref (ad 1)), (2, .int x2)]) C dX0_noteHolders_46 rfl rfl (by decide) rfl ?_
      refine a_goto (tgt := 16) C dX0_noteHolders_49 (by decide) ?_
      refine a_sub (lv' := [(0, .ref (ad 102)), (1, .ref (ad 1)), (2, .int x2), (3, .int (x3 + (1 : Int32)))]) [1, 2, 3, 0] rfl ?_
      exact hk16 x2 (x3 + (1 : Int32)) (up2 V 103 x2.toNatClampNeg ((V 103 x2.toNatClampNeg) ||| ((1 : Int32) <<< (x3 &&& 31)))) h
set_option maxRecDepth 20000 in
set_option maxHeartbeats 4000000 in
theorem w_X0_noteHolders_2 {p : Program} {l : Launch} {e : Env} {s : State} {m : MethodId} {args : Array Value} {below : List Frame} {meth : Method} {c : Code} {D : va_G} {cs : Nat → ClassId} {ad : Nat → Nat} {b0 : Nat} (C : Ctx p l s m args meth c D cs ad b0 RX0 cX0_noteHolders 4 (none)) (hT : ∀ x ∈ c.exceptionTable.toList, False)    {W9 : VT}     :
    ∀ (x2 : Int32) (V : VT), d_X0_noteHolders_2 x2 V = some W9 → AW p l e (rmOf 2 0) s m args below meth c D cs ad b0 (QF below D cs ad b0 W9 ((rV) ad) args s 0) 4 0 V [(0, .ref (ad 102)), (1, .ref (ad 1)), (2, .int x2)] [] 2 := by
  refine lo1W_ind (P := fun x2 V => AW p l e (rmOf 2 0) s m args below meth c D cs ad b0 (QF below D cs ad b0 W9 ((rV) ad) args s 0) 4 0 V [(0, .ref (ad 102)), (1, .ref (ad 1)), (2, .int x2)] [] 2) ?_ FU
  intro k2 hk2 x2 V h
  unfold d_X0_noteHolders_2b at h
  refine a_iload_n (q := 2) C dX0_noteHolders_2 rfl rfl ?_
  refine a_iconst (v := (5 : Int32)) C dX0_noteHolders_3 rfl ?_
  refine a_icmp_ge (tgt := 58) C dX0_noteHolders_4 (by decide) (fun c1 => ?_) (fun c1 => ?_)
  · have h := it_t c1 h
    obtain rfl := ret1 h
    exact a_vret C dX0_noteHolders_58 rfl (by decide) rfl rfl
  · have h := it_f c1 h
    refine a_aload_n (q := 0) C dX0_noteHolders_7 rfl rfl ?_
    refine a_getr (a := 102) (t := 103) C dX0_noteHolders_8 fl_RX0_9 rfl rfl ?_
    refine a_iload_n (q := 2) C dX0_noteHolders_11 rfl rfl ?_
    refine a_iconst (v := (0 : Int32)) C dX0_noteHolders_12 rfl ?_
    obtain ⟨z2, h⟩ := asr_spec h
    refine a_iast (a := 103) C dX0_noteHolders_13 rfl (inb_in z2) ?_
    refine a_iconst (v := (0 : Int32)) C dX0_noteHolders_14 rfl ?_
    refine a_istore_n (lv' := [(3, .int (0 : Int32)), (0, .ref (ad 102)), (1, .ref (ad 1)), (2, .int x2)]) C dX0_noteHolders_15 rfl (by decide) rfl ?_
    refine a_sub (lv' := [(0, .ref (ad 102)), (1, .ref (ad 1)), (2, .int x2), (3, .int (0 : Int32))]) [1, 2, 3, 0] rfl ?_
    exact w_X0_noteHolders_16 C hT hk2 x2 (0 : Int32) (up2 V 103 x2.toNatClampNeg (0 : Int32)) h
set_option maxRecDepth 20000 in
set_option maxHeartbeats 4000000 in
theorem w_X0_noteHolders   (V : VT) (W9 : VT) (h : d_X0_noteHolders  V = some W9) : AM 2 0 yX0_noteHolders (.code yX0_noteHolders cX0_noteHolders 4 (none)) (fun ad => [.ref (ad 102), .ref (ad 1)]) V W9 (rV) := by
  unfold d_X0_noteHolders at h
  refine AM.of (by decide +kernel) (fun ad => Nat.le_of_ble_eq_true rfl) (fun {p l e s m args below meth c D cs ad b0} C hT => ?_)
  have C : Ctx p l s m args meth c D cs ad b0 RX0 cX0_noteHolders 4 (none) := C
  refine a_sub (lv' := [(0, .ref (ad 102)), (1, .ref (ad 1))]) [0, 1] rfl ?_
  refine a_iconst (v := (0 : Int32)) C dX0_noteHolders_0 rfl ?_
  refine a_istore_n (lv' := [(2, .int (0 : Int32)), (0, .ref (ad 102)), (1, .ref (ad 1))]) C dX0_noteHolders_1 rfl (by decide) rfl ?_
  refine a_sub (lv' := [(0, .ref (ad 102)), (1, .ref (ad 1)), (2, .int (0 : Int32))]) [1, 2, 0] rfl ?_
  exact w_X0_noteHolders_2 C hT (0 : Int32) V h
set_option maxRecDepth 20000 in
set_option maxHeartbeats 4000000 in
theorem w_X0_countChoices_5 {p : Program} {l : Launch} {e : Env} {s : State} {m : MethodId} {args : Array Value} {below : List Frame} {meth : Method} {c : Code} {D : va_G} {cs : Nat → ClassId} {ad : Nat → Nat} {b0 : Nat} (C : Ctx p l s m args meth c D cs ad b0 RX0 cX0_countChoices 5 (some .int)) (hT : ∀ x ∈ c.exceptionTable.toList, False)   {V : VT} {r9 : Int32}     :
    ∀ (x0 x1 x3 x4 : Int32) , d_X0_countChoices_5 V x0 x1 x3 x4 = some r9 → AW p l e (rmOf 2 0) s m args below meth c D cs ad b0 (QF below D cs ad b0 V ((rI r9) ad) args s 0) 5 0 V [(0, .int x0), (1, .int x1), (2, .ref (ad 103)), (3, .int x3), (4, .int x4)] [] 5 := by
  refine lo4_ind (P := fun x0 x1 x3 x4 => AW p l e (rmOf 2 0) s m args below meth c D cs ad b0 (QF below D cs ad b0 V ((rI r9) ad) args s 0) 5 0 V [(0, .int x0), (1, .int x1), (2, .ref (ad 103)), (3, .int x3), (4, .int x4)] [] 5) ?_ FU
  intro k5 hk5 x0 x1 x3 x4 h
  unfold d_X0_countChoices_5b at h
  refine a_iload (q := 4) C dX0_countChoices_5 rfl ?_
  refine a_iload_n (q := 1) C dX0_countChoices_7 rfl rfl ?_
  refine a_icmp_ge (tgt := 29) C dX0_countChoices_8 (by decide) (fun c1 => ?_) (fun c1 => ?_)
  · have h := it_t c1 h
    refine a_iload_n (q := 3) C dX0_countChoices_29 rfl rfl ?_
    obtain rfl := ret1 h
    exact a_iret C dX0_countChoices_30 rfl (by decide) rfl rfl
  · have h := it_f c1 h
    refine a_aload_n (q := 2) C dX0_countChoices_11 rfl rfl ?_
    refine a_iload (q := 4) C dX0_countChoices_12 rfl ?_
    obtain ⟨z2, h⟩ := asr_spec h
    refine a_iald (a := 103) (x := (V 103 x4.toNatClampNeg)) C dX0_countChoices_14 rfl (inb_in z2) rfl ?_
    refine a_iload_n (q := 0) C dX0_countChoices_15 rfl rfl ?_
    refine a_iand C dX0_countChoices_16 ?_
    refine a_if_ne (tgt := 23) C dX0_countChoices_17 (by decide) (fun c3 => ?_) (fun c3 => ?_)
    · have h := it_f c3 h
      refine a_iinc (q := 4) (v := (x4 + (1 : Int32))) (lv' := [(4, .int (x4 + (1 : Int32))), (0, .int x0), (1, .int x1), (2, .ref (ad 103)), (3, .int x3)]) C dX0_countChoices_23 rfl rfl (by decide) rfl ?_
      refine a_goto (tgt := 5) C dX0_countChoices_26 (by decide) ?_
      refine a_sub (lv' := [(0, .int x0), (1, .int x1), (2, .ref (ad 103)), (3, .int x3), (4, .int (x4 + (1 : Int32)))]) [1, 2, 3, 4, 0] rfl ?_
      exact hk5 x0 x1 x3 (x4 + (1 : Int32)) h
    · have h := it_t c3 h
      refine a_iinc (q := 3) (v := (x3 + (1 : Int32))) (lv' := [(3, .int (x3 + (1 : Int32))), (0, .int x0), (1, .int x1), (2, .ref (ad 103)), (4, .int x4)]) C dX0_countChoices_20 rfl rfl (by decide) rfl ?_
      refine a_iinc (q := 4) (v := (x4 + (1 : Int32))) (lv' := [(4, .int (x4 + (1 : Int32))), (3, .int (x3 + (1 : Int32))), (0, .int x0), (1, .int x1), (2, .ref (ad 103))]) C dX0_countChoices_23 rfl rfl (by decide) rfl ?_
      refine a_goto (tgt := 5) C dX0_countChoices_26 (by decide) ?_
      refine a_sub (lv' := [(0, .int x0), (1, .int x1), (2, .ref (ad 103)), (3, .int (x3 + (1 : Int32))), (4, .int (x4 + (1 : Int32)))]) [2, 3, 4, 1, 0] rfl ?_
      exact hk5 x0 x1 (x3 + (1 : Int32)) (x4 + (1 : Int32)) h
set_option maxRecDepth 20000 in
set_option maxHeartbeats 4000000 in
theorem w_X0_countChoices (x0 : Int32) (x1 : Int32)  (V : VT) (r9 : Int32) (h : d_X0_countChoices x0 x1 V = some r9) : AM 2 0 yX0_countChoices (.code yX0_countChoices cX0_countChoices 5 (some .int)) (fun ad => [.int x0, .int x1, .ref (ad 103)]) V V (rI r9) := by
  unfold d_X0_countChoices at h
  refine AM.of (by decide +kernel) (fun ad => Nat.le_of_ble_eq_true rfl) (fun {p l e s m args below meth c D cs ad b0} C hT => ?_)
  have C : Ctx p l s m args meth c D cs ad b0 RX0 cX0_countChoices 5 (some .int) := C
  refine a_sub (lv' := [(0, .int x0), (1, .int x1), (2, .ref (ad 103))]) [0, 1, 2] rfl ?_
  refine a_iconst (v := (0 : Int32)) C dX0_countChoices_0 rfl ?_
  refine a_istore_n (lv' := [(3, .int (0 : Int32)), (0, .int x0), (1, .int x1), (2, .ref (ad 103))]) C dX0_countChoices_1 rfl (by decide) rfl ?_
  refine a_iconst (v := (0 : Int32)) C dX0_countChoices_2 rfl ?_
  refine a_istore (lv' := [(4, .int (0 : Int32)), (3, .int (0 : Int32)), (0, .int x0), (1, .int x1), (2, .ref (ad 103))]) C dX0_countChoices_3 (by decide) rfl ?_
  refine a_sub (lv' := [(0, .int x0), (1, .int x1), (2, .ref (ad 103)), (3, .int (0 : Int32)), (4, .int (0 : Int32))]) [2, 3, 4, 1, 0] rfl ?_
  exact w_X0_countChoices_5 C hT x0 x1 (0 : Int32) (0 : Int32) h
set_option maxRecDepth 20000 in
set_option maxHeartbeats 4000000 in
theorem w_X0_countFrom_86 {p : Program} {l : Launch} {e : Env} {s : State} {m : MethodId} {args : Array Value} {below : List Frame} {meth : Method} {c : Code} {D : va_G} {cs : Nat → ClassId} {ad : Nat → Nat} {b0 : Nat} (C : Ctx p l s m args meth c D cs ad b0 RX0 cX0_countFrom 7 (some .int)) (hT : ∀ x ∈ c.exceptionTable.toList, False) {kR : Int32 → Int32 → Int32 → VT → Option (Int32 × VT)}   {r9 : Int32} {W9 : VT}  {dn : Nat} (hdn : 3 ≤ dn) (hR : ∀ (x0 x1 x2 : Int32) (V : VT) (r9 : Int32) (W9 : VT), kR x0 x1 x2 V = some (r9, W9) → AM dn 0 yX0_countFrom (.code yX0_countFrom cX0_countFrom 7 (some .int)) (fun ad => [.int x0, .int x1, .int x2, .ref (ad 103), .ref (ad 6)]) V W9 (rI r9))    :
    ∀ (x0 x1 x2 x5 x6 : Int32) (V : VT), d_X0_countFrom_86 kR x0 x1 x2 x5 x6 V = some (r9, W9) → AW p l e (rmOf (dn + 1) 0) s m args below meth c D cs ad b0 (QF below D cs ad b0 W9 ((rI r9) ad) args s 0) 7 0 V [(0, .int x0), (1, .int x1), (2, .int x2), (3, .ref (ad 103)), (4, .ref (ad 6)), (5, .int x5), (6, .int x6)] [] 86 := by
  refine lo5W_ind (P := fun x0 x1 x2 x5 x6 V => AW p l e (rmOf (dn + 1) 0) s m args below meth c D cs ad b0 (QF below D cs ad b0 W9 ((rI r9) ad) args s 0) 7 0 V [(0, .int x0), (1, .int x1), (2, .int x2), (3, .ref (ad 103)), (4, .ref (ad 6)), (5, .int x5), (6, .int x6)] [] 86) ?_ FU
  intro k86 hk86 x0 x1 x2 x5 x6 V h
  unfold d_X0_countFrom_86b at h
  refine a_iload (q := 6) C dX0_countFrom_86 rfl ?_
  refine a_iload_n (q := 2) C dX0_countFrom_88 rfl rfl ?_
  refine a_icmp_ge (tgt := 148) C dX0_countFrom_89 (by decide) (fun c1 => ?_) (fun c1 => ?_)
  · have h := it_t c1 h
    refine a_iload (q := 5) C dX0_countFrom_148 rfl ?_
    obtain ⟨rfl, rfl⟩ := ret2 h
    exact a_iret C dX0_countFrom_150 rfl (by decide) rfl rfl
  · have h := it_f c1 h
    refine a_aload_n (q := 3) C dX0_countFrom_92 rfl rfl ?_
    refine a_iload (q := 6) C dX0_countFrom_93 rfl ?_
    obtain ⟨z2, h⟩ := asr_spec h
    refine a_iald (a := 103) (x := (V 103 x6.toNatClampNeg)) C dX0_countFrom_95 rfl (inb_in z2) rfl ?_
    refine a_aload (q := 4) C dX0_countFrom_96 rfl ?_
    refine a_iload_n (q := 0) C dX0_countFrom_98 rfl rfl ?_
    obtain ⟨z3, h⟩ := asr_spec h
    refine a_iald (a := 6) (x := (V 6 x0.toNatClampNeg)) C dX0_countFrom_99 rfl (inb_in z3) rfl ?_
    refine a_iand C dX0_countFrom_100 ?_
    refine a_if_ne (tgt := 142) C dX0_countFrom_101 (by decide) (fun c4 => ?_) (fun c4 => ?_)
    · have h := it_f c4 h
      refine a_iinc (q := 6) (v := (x6 + (1 : Int32))) (lv' := [(6, .int (x6 + (1 : Int32))), (0, .int x0), (1, .int x1), (2, .int x2), (3, .ref (ad 103)), (4, .ref (ad 6)), (5, .int x5)]) C dX0_countFrom_142 rfl rfl (by decide) rfl ?_
      refine a_goto (tgt := 86) C dX0_countFrom_145 (by decide) ?_
      refine a_sub (lv' := [(0, .int x0), (1, .int x1), (2, .int x2), (3, .ref (ad 103)), (4, .ref (ad 6)), (5, .int x5), (6, .int (x6 + (1 : Int32)))]) [1, 2, 3, 4, 5, 6, 0] rfl ?_
      exact hk86 x0 x1 x2 x5 (x6 + (1 : Int32)) V h
    · have h := it_t c4 h
      refine a_aload_n (q := 3) C dX0_countFrom_104 rfl rfl ?_
      refine a_iload (q := 6) C dX0_countFrom_105 rfl ?_
      refine a_dup2 C dX0_countFrom_107 rfl rfl ?_
      obtain ⟨z5, h⟩ := asr_spec h
      refine a_iald (a := 103) (x := (V 103 x6.toNatClampNeg)) C dX0_countFrom_108 rfl (inb_in z5) rfl ?_
      refine a_iconst (v := (1 : Int32)) C dX0_countFrom_109 rfl ?_
      refine a_iload_n (q := 0) C dX0_countFrom_110 rfl rfl ?_
      refine a_ishl C dX0_countFrom_111 ?_
      refine a_ior C dX0_countFrom_112 ?_
      obtain ⟨z6, h⟩ := asr_spec h
      refine a_iast (a := 103) C dX0_countFrom_113 rfl (inb_in z6) ?_
      refine a_iload (q := 5) C dX0_countFrom_114 rfl ?_
      refine a_iload_n (q := 0) C dX0_countFrom_116 rfl rfl ?_
      refine a_iconst (v := (1 : Int32)) C dX0_countFrom_117 rfl ?_
      refine a_iadd C dX0_countFrom_118 ?_
      refine a_iload_n (q := 1) C dX0_countFrom_119 rfl rfl ?_
      refine a_iload_n (q := 2) C dX0_countFrom_120 rfl rfl ?_
      refine a_aload_n (q := 3) C dX0_countFrom_121 rfl rfl ?_
      refine a_aload (q := 4) C dX0_countFrom_122 rfl ?_
      obtain ⟨r9, V8, g7, h⟩ := bw_spec h
      refine a_cSi (st := [.int x5]) C dX0_countFrom_124 cv_RX0_31 (hR (x0 + (1 : Int32)) x1 x2 (up2 V 103 x6.toNatClampNeg ((V 103 x6.toNatClampNeg) ||| ((1 : Int32) <<< (x0 &&& 31)))) r9 V8 g7) rfl rfl rfl ⟨by simp only [rmOf]; omega, by simp only [rmOf]; omega, by simp only [rmOf]; omega, by simp only [rmOf]; omega⟩ (Nat.le_of_ble_eq_true rfl) ?_
      refine a_iadd C dX0_countFrom_127 ?_
      refine a_istore (lv' := [(5, .int (x5 + r9)), (0, .int x0), (1, .int x1), (2, .int x2), (3, .ref (ad 103)), (4, .ref (ad 6)), (6, .int x6)]) C dX0_countFrom_128 (by decide) rfl ?_
      refine a_aload_n (q := 4) C dX0_countFrom_130 rfl rfl ?_
      refine a_iload (q := 6) C dX0_countFrom_131 rfl ?_
      refine a_dup2 C dX0_countFrom_133 rfl rfl ?_
      obtain ⟨z10, h⟩ := asr_spec h
      refine a_iald (a := 103) (x := (V8 103 x6.toNatClampNeg)) C dX0_countFrom_134 rfl (inb_in z10) rfl ?_
      refine a_iconst (v := (1 : Int32)) C dX0_countFrom_135 rfl ?_
      refine a_iload_n (q := 1) C dX0_countFrom_136 rfl rfl ?_
      refine a_ishl C dX0_countFrom_137 ?_
      refine a_iconst (v := (-1 : Int32)) C dX0_countFrom_138 rfl ?_
      refine a_ixor C dX0_countFrom_139 ?_
      refine a_iand C dX0_countFrom_140 ?_
      obtain ⟨z11, h⟩ := asr_spec h
      refine a_iast (a := 103) C dX0_countFrom_141 rfl (inb_in z11) ?_
      refine a_iinc (q := 6) (v := (x6 + (1 : Int32))) (lv' := [(6, .int (x6 + (1 : Int32))), (5, .int (x5 + r9)), (0, .int x0), (1, .int x1), (2, .int x2), (3, .ref (ad 103)), (4, .ref (ad 6))]) C dX0_countFrom_142 rfl rfl (by decide) rfl ?_
      refine a_goto (tgt := 86) C dX0_countFrom_145 (by decide) ?_
      refine a_sub (lv' := [(0, .int x0), (1, .int x1), (2, .int x2), (3, .ref (ad 103)), (4, .ref (ad 6)), (5, .int (x5 + r9)), (6, .int (x6 + (1 : Int32)))]) [2, 3, 4, 5, 6, 1, 0] rfl ?_
      exact hk86 x0 x1 x2 (x5 + r9) (x6 + (1 : Int32)) (up2 V8 103 x6.toNatClampNeg ((V8 103 x6.toNatClampNeg) &&& (((1 : Int32) <<< (x0 &&& 31)) ^^^ (-1 : Int32)))) h
set_option maxRecDepth 20000 in
set_option maxHeartbeats 4000000 in
theorem w_X0_countFromb : ∀ (n : Nat) (x0 x1 x2 : Int32) (V : VT) (r9 : Int32) (W9 : VT), lo3W d_X0_countFromb n x0 x1 x2 V = some (r9, W9) → AM (3 + n) 0 yX0_countFrom (.code yX0_countFrom cX0_countFrom 7 (some .int)) (fun ad => [.int x0, .int x1, .int x2, .ref (ad 103), .ref (ad 6)]) V W9 (rI r9) := by
  intro n
  induction n with
  | zero => intro x0 x1 x2 V r9 W9 h; exact absurd h (by intro q; cases q)
  | succ dn0 ih =>
  intro x0 x1 x2 V r9 W9 h
  obtain ⟨dn, hdn0⟩ : ∃ dn, dn = 3 + dn0 := ⟨_, rfl⟩
  have hdn : 3 ≤ dn := by omega
  rw [show 3 + (dn0 + 1) = dn + 1 by omega]
  have h : d_X0_countFromb (lo3W d_X0_countFromb dn0) x0 x1 x2 V = some (r9, W9) := h
  rw [← hdn0] at ih
  generalize lo3W d_X0_countFromb dn0 = kR at h ih
  have hR := ih
  unfold d_X0_countFromb at h
  refine AM.of (by decide +kernel) (fun ad => Nat.le_of_ble_eq_true rfl) (fun {p l e s m args below meth c D cs ad b0} C hT => ?_)
  have C : Ctx p l s m args meth c D cs ad b0 RX0 cX0_countFrom 7 (some .int) := C
  refine a_sub (lv' := [(0, .int x0), (1, .int x1), (2, .int x2), (3, .ref (ad 103)), (4, .ref (ad 6))]) [0, 1, 2, 3, 4] rfl ?_
  refine a_iload_n (q := 0) C dX0_countFrom_0 rfl rfl ?_
  refine a_bipush (v := (7 : Int32)) C dX0_countFrom_1 rfl ?_
  refine a_icmp_ge (tgt := 12) C dX0_countFrom_3 (by decide) (fun c1 => ?_) (fun c1 => ?_)
  · have h := it_t c1 h
    refine a_iconst (v := (1 : Int32)) C dX0_countFrom_12 rfl ?_
    obtain ⟨rfl, rfl⟩ := ret2 h
    exact a_iret C dX0_countFrom_13 rfl (by decide) rfl rfl
  · have h := it_f c1 h
    refine a_iload_n (q := 1) C dX0_countFrom_6 rfl rfl ?_
    refine a_iload_n (q := 0) C dX0_countFrom_7 rfl rfl ?_
    refine a_ishr C dX0_countFrom_8 ?_
    refine a_if_ne (tgt := 14) C dX0_countFrom_9 (by decide) (fun c2 => ?_) (fun c2 => ?_)
    · have h := it_f c2 h
      refine a_iload_n (q := 1) C dX0_countFrom_14 rfl rfl ?_
      refine a_iload_n (q := 0) C dX0_countFrom_15 rfl rfl ?_
      refine a_ishr C dX0_countFrom_16 ?_
      refine a_iconst (v := (1 : Int32)) C dX0_countFrom_17 rfl ?_
      refine a_iand C dX0_countFrom_18 ?_
      refine a_if_ne (tgt := 34) C dX0_countFrom_19 (by decide) (fun c3 => ?_) (fun c3 => ?_)
      · have h := it_f c3 h
        refine a_aload (q := 4) C dX0_countFrom_34 rfl ?_
        refine a_iload_n (q := 0) C dX0_countFrom_36 rfl rfl ?_
        obtain ⟨z4, h⟩ := asr_spec h
        refine a_iald (a := 6) (x := (V 6 x0.toNatClampNeg)) C dX0_countFrom_37 rfl (inb_in z4) rfl ?_
        refine a_iload_n (q := 1) C dX0_countFrom_38 rfl rfl ?_
        refine a_iand C dX0_countFrom_39 ?_
        refine a_iload_n (q := 0) C dX0_countFrom_40 rfl rfl ?_
        refine a_ishr C dX0_countFrom_41 ?_
        refine a_if_ne (tgt := 80) C dX0_countFrom_42 (by decide) (fun c5 => ?_) (fun c5 => ?_)
        · have h := it_f c5 h
          refine a_iconst (v := (0 : Int32)) C dX0_countFrom_80 rfl ?_
          refine a_istore (lv' := [(5, .int (0 : Int32)), (0, .int x0), (1, .int x1), (2, .int x2), (3, .ref (ad 103)), (4, .ref (ad 6))]) C dX0_countFrom_81 (by decide) rfl ?_
          refine a_iconst (v := (0 : Int32)) C dX0_countFrom_83 rfl ?_
          refine a_istore (lv' := [(6, .int (0 : Int32)), (5, .int (0 : Int32)), (0, .int x0), (1, .int x1), (2, .int x2), (3, .ref (ad 103)), (4, .ref (ad 6))]) C dX0_countFrom_84 (by decide) rfl ?_
          refine a_sub (lv' := [(0, .int x0), (1, .int x1), (2, .int x2), (3, .ref (ad 103)), (4, .ref (ad 6)), (5, .int (0 : Int32)), (6, .int (0 : Int32))]) [2, 3, 4, 5, 6, 1, 0] rfl ?_
          exact w_X0_countFrom_86 C hT hdn hR x0 x1 x2 (0 : Int32) (0 : Int32) V h
        · have h := it_t c5 h
          refine a_aload (q := 4) C dX0_countFrom_45 rfl ?_
          refine a_iload_n (q := 0) C dX0_countFrom_47 rfl rfl ?_
          obtain ⟨z6, h⟩ := asr_spec h
          refine a_iald (a := 6) (x := (V 6 x0.toNatClampNeg)) C dX0_countFrom_48 rfl (inb_in z6) rfl ?_
          refine a_iload_n (q := 2) C dX0_countFrom_49 rfl rfl ?_
          refine a_aload_n (q := 3) C dX0_countFrom_50 rfl rfl ?_
          obtain ⟨r8, g7, h⟩ := bd_spec h
          refine a_cSi (st := []) C dX0_countFrom_51 cv_RX0_67 (w_X0_countChoices (V 6 x0.toNatClampNeg) x2  V r8 g7) rfl rfl rfl ⟨by simp only [rmOf]; omega, by simp only [rmOf]; omega, by simp only [rmOf]; omega, by simp only [rmOf]; omega⟩ (Nat.le_of_ble_eq_true rfl) ?_
          refine a_istore (lv' := [(5, .int r8), (0, .int x0), (1, .int x1), (2, .int x2), (3, .ref (ad 103)), (4, .ref (ad 6))]) C dX0_countFrom_54 (by decide) rfl ?_
          refine a_iload (q := 0) C dX0_countFrom_56 rfl ?_
          refine a_if_ne (tgt := 65) C dX0_countFrom_58 (by decide) (fun c9 => ?_) (fun c9 => ?_)
          · have h := it_f c9 h
            refine a_iload (q := 0) C dX0_countFrom_65 rfl ?_
            refine a_iload_n (q := 1) C dX0_countFrom_67 rfl rfl ?_
            refine a_iconst (v := (1 : Int32)) C dX0_countFrom_68 rfl ?_
            refine a_iadd C dX0_countFrom_69 ?_
            refine a_iload_n (q := 2) C dX0_countFrom_70 rfl rfl ?_
            refine a_iload_n (q := 3) C dX0_countFrom_71 rfl rfl ?_
            refine a_aload_n (q := 4) C dX0_countFrom_72 rfl rfl ?_
            refine a_aload (q := 5) C dX0_countFrom_73 rfl ?_
            obtain ⟨r12, V11, g10, h⟩ := bw_spec h
            refine a_cSi (st := [.int r8]) C dX0_countFrom_75 cv_RX0_31 (hR (x0 + (1 : Int32)) x1 x2 V r12 V11 g10) rfl rfl rfl ⟨by simp only [rmOf]; omega, by simp only [rmOf]; omega, by simp only [rmOf]; omega, by simp only [rmOf]; omega⟩ (Nat.le_of_ble_eq_true rfl) ?_
            refine a_imul C dX0_countFrom_78 ?_
            obtain ⟨rfl, rfl⟩ := ret2 h
            exact a_iret C dX0_countFrom_79 rfl (by decide) rfl rfl
          · have h := it_t c9 h
            refine a_iconst (v := (0 : Int32)) C dX0_countFrom_61 rfl ?_
            refine a_goto (tgt := 79) C dX0_countFrom_62 (by decide) ?_
            obtain ⟨rfl, rfl⟩ := ret2 h
            exact a_iret C dX0_countFrom_79 rfl (by decide) rfl rfl
      · have h := it_t c3 h
        refine a_iload_n (q := 0) C dX0_countFrom_22 rfl rfl ?_
        refine a_iconst (v := (1 : Int32)) C dX0_countFrom_23 rfl ?_
        refine a_iadd C dX0_countFrom_24 ?_
        refine a_iload_n (q := 1) C dX0_countFrom_25 rfl rfl ?_
        refine a_iload_n (q := 2) C dX0_countFrom_26 rfl rfl ?_
        refine a_aload_n (q := 3) C dX0_countFrom_27 rfl rfl ?_
        refine a_aload (q := 4) C dX0_countFrom_28 rfl ?_
        obtain ⟨r15, V14, g13, h⟩ := bw_spec h
        refine a_cSi (st := []) C dX0_countFrom_30 cv_RX0_31 (hR (x0 + (1 : Int32)) x1 x2 V r15 V14 g13) rfl rfl rfl ⟨by simp only [rmOf]; omega, by simp only [rmOf]; omega, by simp only [rmOf]; omega, by simp only [rmOf]; omega⟩ (Nat.le_of_ble_eq_true rfl) ?_
        obtain ⟨rfl, rfl⟩ := ret2 h
        exact a_iret C dX0_countFrom_33 rfl (by decide) rfl rfl
    · have h := it_t c2 h
      refine a_iconst (v := (1 : Int32)) C dX0_countFrom_12 rfl ?_
      obtain ⟨rfl, rfl⟩ := ret2 h
      exact a_iret C dX0_countFrom_13 rfl (by decide) rfl rfl
set_option maxRecDepth 20000 in
set_option maxHeartbeats 4000000 in
theorem w_X0_countFrom (x0 x1 x2 : Int32) (V : VT) (r9 : Int32) (W9 : VT) (h : d_X0_countFrom x0 x1 x2 V = some (r9, W9)) : AM 15 0 yX0_countFrom (.code yX0_countFrom cX0_countFrom 7 (some .int)) (fun ad => [.int x0, .int x1, .int x2, .ref (ad 103), .ref (ad 6)]) V W9 (rI r9) := w_X0_countFromb 12 x0 x1 x2 V r9 W9 h
set_option maxRecDepth 20000 in
set_option maxHeartbeats 4000000 in
theorem w_X0_count (x2 : Int32)  (V : VT) (r9 : Int32) (W9 : VT) (h : d_X0_count x2 V = some (r9, W9)) : AM 16 0 yX0_count (.code yX0_count cX0_count 3 (some .int)) (fun ad => [.ref (ad 102), .ref (ad 1), .int x2]) V W9 (rI r9) := by
  unfold d_X0_count at h
  refine AM.of (by decide +kernel) (fun ad => Nat.le_of_ble_eq_true rfl) (fun {p l e s m args below meth c D cs ad b0} C hT => ?_)
  have C : Ctx p l s m args meth c D cs ad b0 RX0 cX0_count 3 (some .int) := C
  refine a_sub (lv' := [(0, .ref (ad 102)), (1, .ref (ad 1)), (2, .int x2)]) [0, 1, 2] rfl ?_
  refine a_aload_n (q := 0) C dX0_count_0 rfl rfl ?_
  refine a_aload_n (q := 1) C dX0_count_1 rfl rfl ?_
  obtain ⟨V2, g1, h⟩ := bd_spec h
  refine a_cVv (a := 102) (st := []) C dX0_count_2 cv_RX0_18 (w_X0_noteHolders   V V2 g1) rfl rfl rfl rfl rfl ⟨Nat.le_of_ble_eq_true rfl, Nat.le_of_ble_eq_true rfl, Nat.le_of_ble_eq_true rfl, Nat.le_of_ble_eq_true rfl⟩ (Nat.le_of_ble_eq_true rfl) ?_
  refine a_iconst (v := (0 : Int32)) C dX0_count_5 rfl ?_
  refine a_aload_n (q := 1) C dX0_count_6 rfl rfl ?_
  obtain ⟨r4, g3, h⟩ := bd_spec h
  refine a_cVi (a := 1) (st := [.int (0 : Int32)]) C dX0_count_7 cv_RX0_22 (w_X1_unpainted   V2 r4 g3) rfl rfl rfl rfl rfl ⟨Nat.le_of_ble_eq_true rfl, Nat.le_of_ble_eq_true rfl, Nat.le_of_ble_eq_true rfl, Nat.le_of_ble_eq_true rfl⟩ (Nat.le_of_ble_eq_true rfl) ?_
  refine a_iload_n (q := 2) C dX0_count_10 rfl rfl ?_
  refine a_aload_n (q := 0) C dX0_count_11 rfl rfl ?_
  refine a_getr (a := 102) (t := 103) C dX0_count_12 fl_RX0_9 rfl rfl ?_
  refine a_aload_n (q := 1) C dX0_count_15 rfl rfl ?_
  refine a_getr (a := 1) (t := 6) C dX0_count_16 fl_RX0_28 rfl rfl ?_
  obtain ⟨r7, V6, g5, h⟩ := bw_spec h
  refine a_cSi (st := []) C dX0_count_19 cv_RX0_31 (w_X0_countFrom (0 : Int32) r4 x2  V2 r7 V6 g5) rfl rfl rfl ⟨Nat.le_of_ble_eq_true rfl, Nat.le_of_ble_eq_true rfl, Nat.le_of_ble_eq_true rfl, Nat.le_of_ble_eq_true rfl⟩ (Nat.le_of_ble_eq_true rfl) ?_
  obtain ⟨rfl, rfl⟩ := ret2 h
  exact a_iret C dX0_count_22 rfl (by decide) rfl rfl
set_option maxRecDepth 20000 in
set_option maxHeartbeats 4000000 in
theorem w_X4_ways   (V : VT) (r9 : Int32) (W9 : VT) (h : d_X4_ways  V = some (r9, W9)) : AM 17 0 yX4_ways (.code yX4_ways cX4_ways 1 (some .int)) (fun ad => [.ref (ad 0)]) V W9 (rI r9) := by
  unfold d_X4_ways at h
  refine AM.of (by decide +kernel) (fun ad => Nat.le_of_ble_eq_true rfl) (fun {p l e s m args below meth c D cs ad b0} C hT => ?_)
  have C : Ctx p l s m args meth c D cs ad b0 RX4 cX4_ways 1 (some .int) := C
  refine a_sub (lv' := [(0, .ref (ad 0))]) [0] rfl ?_
  refine a_aload_n (q := 0) C dX4_ways_0 rfl rfl ?_
  refine a_getr (a := 0) (t := 102) C dX4_ways_1 fl_RX4_32 rfl rfl ?_
  refine a_aload_n (q := 0) C dX4_ways_4 rfl rfl ?_
  refine a_getr (a := 0) (t := 1) C dX4_ways_5 fl_RX4_10 rfl rfl ?_
  refine a_aload_n (q := 0) C dX4_ways_8 rfl rfl ?_
  refine a_getr (a := 0) (t := 1) C dX4_ways_9 fl_RX4_10 rfl rfl ?_
  refine a_geti (a := 1) (x := (V 1 9)) C dX4_ways_12 fl_RX4_150 rfl rfl rfl ?_
  obtain ⟨r3, V2, g1, h⟩ := bw_spec h
  refine a_cVi (a := 102) (st := []) C dX4_ways_15 cv_RX4_227 (w_X0_count (V 1 9)  V r3 V2 g1) rfl rfl rfl rfl rfl ⟨Nat.le_of_ble_eq_true rfl, Nat.le_of_ble_eq_true rfl, Nat.le_of_ble_eq_true rfl, Nat.le_of_ble_eq_true rfl⟩ (Nat.le_of_ble_eq_true rfl) ?_
  obtain ⟨rfl, rfl⟩ := ret2 h
  exact a_iret C dX4_ways_18 rfl (by decide) rfl rfl
set_option maxRecDepth 20000 in
set_option maxHeartbeats 4000000 in
theorem w_X0_spellOut_31 {p : Program} {l : Launch} {e : Env} {s : State} {m : MethodId} {args : Array Value} {below : List Frame} {meth : Method} {c : Code} {D : va_G} {cs : Nat → ClassId} {ad : Nat → Nat} {b0 : Nat} (C : Ctx p l s m args meth c D cs ad b0 RX0 cX0_spellOut 5 (none)) (hT : ∀ x ∈ c.exceptionTable.toList, False)    {W9 : VT} {k5 : Int32 → Int32 → VT → Option VT}   (hk5 : ∀ (x3 x4 : Int32) (V : VT), k5 x3 x4 V = some W9 → AW p l e (rmOf 3 0) s m args below meth c D cs ad b0 (QF below D cs ad b0 W9 ((rV) ad) args s 0) 5 0 V [(0, .ref (ad 102)), (1, .ref (ad 1)), (3, .int x3), (4, .int x4)] [] 5) :
    ∀ (x3 x4 : Int32) (V : VT), d_X0_spellOut_31 k5 x3 x4 V = some W9 → AW p l e (rmOf 3 0) s m args below meth c D cs ad b0 (QF below D cs ad b0 W9 ((rV) ad) args s 0) 5 0 V [(0, .ref (ad 102)), (1, .ref (ad 1)), (3, .int x3), (4, .int x4)] [] 31 := by
  intro x3 x4 V h
  unfold d_X0_spellOut_31 at h
  refine a_aload_n (q := 0) C dX0_spellOut_31 rfl rfl ?_
  refine a_getr (a := 102) (t := 104) C dX0_spellOut_32 fl_RX0_15 rfl rfl ?_
  refine a_iload (q := 3) C dX0_spellOut_35 rfl ?_
  refine a_aload_n (q := 1) C dX0_spellOut_37 rfl rfl ?_
  refine a_getr (a := 1) (t := 3) C dX0_spellOut_38 fl_RX0_64 rfl rfl ?_
  refine a_iload (q := 3) C dX0_spellOut_41 rfl ?_
  obtain ⟨z1, h⟩ := asr_spec h
  refine a_iald (a := 3) (x := (V 3 x4.toNatClampNeg)) C dX0_spellOut_43 rfl (inb_in z1) rfl ?_
  obtain ⟨z2, h⟩ := asr_spec h
  refine a_iast (a := 104) C dX0_spellOut_44 rfl (inb_in z2) ?_
  refine a_goto (tgt := 68) C dX0_spellOut_45 (by decide) ?_
  refine a_iinc (q := 3) (v := (x4 + (1 : Int32))) (lv' := [(4, .int (x4 + (1 : Int32))), (0, .ref (ad 102)), (1, .ref (ad 1)), (3, .int x3)]) C dX0_spellOut_68 rfl rfl (by decide) rfl ?_
  refine a_goto (tgt := 5) C dX0_spellOut_71 (by decide) ?_
  refine a_sub (lv' := [(0, .ref (ad 102)), (1, .ref (ad 1)), (3, .int x3), (4, .int (x4 + (1 : Int32)))]) [1, 2, 3, 0] rfl ?_
  exact hk5 x3 (x4 + (1 : Int32)) (up2 V 104 x4.toNatClampNeg (V 3 x4.toNatClampNeg)) h
set_option maxRecDepth 20000 in
set_option maxHeartbeats 4000000 in
theorem w_X0_spellOut_5 {p : Program} {l : Launch} {e : Env} {s : State} {m : MethodId} {args : Array Value} {below : List Frame} {meth : Method} {c : Code} {D : va_G} {cs : Nat → ClassId} {ad : Nat → Nat} {b0 : Nat} (C : Ctx p l s m args meth c D cs ad b0 RX0 cX0_spellOut 5 (none)) (hT : ∀ x ∈ c.exceptionTable.toList, False)    {W9 : VT}     :
    ∀ (x3 x4 : Int32) (V : VT), d_X0_spellOut_5 x3 x4 V = some W9 → AW p l e (rmOf 3 0) s m args below meth c D cs ad b0 (QF below D cs ad b0 W9 ((rV) ad) args s 0) 5 0 V [(0, .ref (ad 102)), (1, .ref (ad 1)), (3, .int x3), (4, .int x4)] [] 5 := by
  refine lo2W_ind (P := fun x3 x4 V => AW p l e (rmOf 3 0) s m args below meth c D cs ad b0 (QF below D cs ad b0 W9 ((rV) ad) args s 0) 5 0 V [(0, .ref (ad 102)), (1, .ref (ad 1)), (3, .int x3), (4, .int x4)] [] 5) ?_ FU
  intro k5 hk5 x3 x4 V h
  unfold d_X0_spellOut_5b at h
  refine a_iload (q := 3) C dX0_spellOut_5 rfl ?_
  refine a_aload_n (q := 1) C dX0_spellOut_7 rfl rfl ?_
  refine a_geti (a := 1) (x := (V 1 8)) C dX0_spellOut_8 fl_RX0_53 rfl rfl rfl ?_
  refine a_icmp_ge (tgt := 74) C dX0_spellOut_11 (by decide) (fun c1 => ?_) (fun c1 => ?_)
  · have h := it_t c1 h
    obtain rfl := ret1 h
    exact a_vret C dX0_spellOut_74 rfl (by decide) rfl rfl
  · have h := it_f c1 h
    refine a_aload_n (q := 1) C dX0_spellOut_14 rfl rfl ?_
    refine a_iload (q := 3) C dX0_spellOut_15 rfl ?_
    obtain ⟨r3, g2, h⟩ := bd_spec h
    refine a_cVi (a := 1) (st := []) C dX0_spellOut_17 cv_RX0_38 (w_X1_isPainted x4  V r3 g2) rfl rfl rfl rfl rfl ⟨Nat.le_of_ble_eq_true rfl, Nat.le_of_ble_eq_true rfl, Nat.le_of_ble_eq_true rfl, Nat.le_of_ble_eq_true rfl⟩ (Nat.le_of_ble_eq_true rfl) ?_
    refine a_if_ne (tgt := 31) C dX0_spellOut_20 (by decide) (fun c4 => ?_) (fun c4 => ?_)
    · have h := it_f c4 h
      refine a_sub (lv' := [(0, .ref (ad 102)), (1, .ref (ad 1)), (3, .int x3), (4, .int x4)]) [0, 1, 2, 3] rfl ?_
      exact w_X0_spellOut_31 C hT hk5 x3 x4 V h
    · have h := it_t c4 h
      refine a_aload_n (q := 1) C dX0_spellOut_23 rfl rfl ?_
      refine a_geti (a := 1) (x := (V 1 9)) C dX0_spellOut_24 fl_RX0_45 rfl rfl rfl ?_
      refine a_iconst (v := (1 : Int32)) C dX0_spellOut_27 rfl ?_
      refine a_icmp_ge (tgt := 48) C dX0_spellOut_28 (by decide) (fun c5 => ?_) (fun c5 => ?_)
      · have h := it_t c5 h
        refine a_aload_n (q := 0) C dX0_spellOut_48 rfl rfl ?_
        refine a_getr (a := 102) (t := 104) C dX0_spellOut_49 fl_RX0_15 rfl rfl ?_
        refine a_iload (q := 3) C dX0_spellOut_52 rfl ?_
        refine a_iload_n (q := 2) C dX0_spellOut_54 rfl rfl ?_
        refine a_aload_n (q := 1) C dX0_spellOut_55 rfl rfl ?_
        refine a_geti (a := 1) (x := (V 1 9)) C dX0_spellOut_56 fl_RX0_45 rfl rfl rfl ?_
        obtain ⟨z6, h⟩ := asr_spec h
        refine a_irem C dX0_spellOut_59 (nz_ne z6) ?_
        obtain ⟨z7, h⟩ := asr_spec h
        refine a_iast (a := 104) C dX0_spellOut_60 rfl (inb_in z7) ?_
        refine a_iload_n (q := 2) C dX0_spellOut_61 rfl rfl ?_
        refine a_aload_n (q := 1) C dX0_spellOut_62 rfl rfl ?_
        refine a_geti (a := 1) (x := (V 1 9)) C dX0_spellOut_63 fl_RX0_45 rfl rfl rfl ?_
        obtain ⟨z8, h⟩ := asr_spec h
        refine a_idiv C dX0_spellOut_66 (nz_ne z8) ?_
        refine a_istore_n (lv' := [(3, .int (x3 / (V 1 9))), (0, .ref (ad 102)), (1, .ref (ad 1)), (4, .int x4)]) C dX0_spellOut_67 rfl (by decide) rfl ?_
        refine a_iinc (q := 3) (v := (x4 + (1 : Int32))) (lv' := [(4, .int (x4 + (1 : Int32))), (3, .int (x3 / (V 1 9))), (0, .ref (ad 102)), (1, .ref (ad 1))]) C dX0_spellOut_68 rfl rfl (by decide) rfl ?_
        refine a_goto (tgt := 5) C dX0_spellOut_71 (by decide) ?_
        refine a_sub (lv' := [(0, .ref (ad 102)), (1, .ref (ad 1)), (3, .int (x3 / (V 1 9))), (4, .int (x4 + (1 : Int32)))]) [2, 3, 1, 0] rfl ?_
        exact hk5 (x3 / (V 1 9)) (x4 + (1 : Int32)) (up2 V 104 x4.toNatClampNeg (x3 - x3 / (V 1 9) * (V 1 9))) h
      · have h := it_f c5 h
        refine a_sub (lv' := [(0, .ref (ad 102)), (1, .ref (ad 1)), (3, .int x3), (4, .int x4)]) [0, 1, 2, 3] rfl ?_
        exact w_X0_spellOut_31 C hT hk5 x3 x4 V h
set_option maxRecDepth 20000 in
set_option maxHeartbeats 4000000 in
theorem w_X0_spellOut (x2 : Int32)  (V : VT) (W9 : VT) (h : d_X0_spellOut x2 V = some W9) : AM 3 0 yX0_spellOut (.code yX0_spellOut cX0_spellOut 5 (none)) (fun ad => [.ref (ad 102), .ref (ad 1), .int x2]) V W9 (rV) := by
  unfold d_X0_spellOut at h
  refine AM.of (by decide +kernel) (fun ad => Nat.le_of_ble_eq_true rfl) (fun {p l e s m args below meth c D cs ad b0} C hT => ?_)
  have C : Ctx p l s m args meth c D cs ad b0 RX0 cX0_spellOut 5 (none) := C
  refine a_sub (lv' := [(0, .ref (ad 102)), (1, .ref (ad 1)), (2, .int x2)]) [0, 1, 2] rfl ?_
  refine a_iload_n (q := 2) C dX0_spellOut_0 rfl rfl ?_
  refine a_istore_n (lv' := [(3, .int x2), (0, .ref (ad 102)), (1, .ref (ad 1)), (2, .int x2)]) C dX0_spellOut_1 rfl (by decide) rfl ?_
  refine a_iconst (v := (0 : Int32)) C dX0_spellOut_2 rfl ?_
  refine a_istore (lv' := [(4, .int (0 : Int32)), (3, .int x2), (0, .ref (ad 102)), (1, .ref (ad 1)), (2, .int x2)]) C dX0_spellOut_3 (by decide) rfl ?_
  refine a_sub (lv' := [(0, .ref (ad 102)), (1, .ref (ad 1)), (3, .int x2), (4, .int (0 : Int32))]) [2, 3, 1, 0] rfl ?_
  exact w_X0_spellOut_5 C hT x2 (0 : Int32) V h
set_option maxRecDepth 20000 in
set_option maxHeartbeats 4000000 in
theorem w_X0_isWay_12 {p : Program} {l : Launch} {e : Env} {s : State} {m : MethodId} {args : Array Value} {below : List Frame} {meth : Method} {c : Code} {D : va_G} {cs : Nat → ClassId} {ad : Nat → Nat} {b0 : Nat} (C : Ctx p l s m args meth c D cs ad b0 RX0 cX0_isWay 4 (some .boolean)) (hT : ∀ x ∈ c.exceptionTable.toList, False)   {V : VT} {r9 : Int32} {k2 : Int32 → Option Int32}   (hk2 : ∀ (x2 : Int32) , k2 x2 = some r9 → AW p l e (rmOf 3 0) s m args below meth c D cs ad b0 (QF below D cs ad b0 V ((rI r9) ad) args s 0) 4 0 V [(0, .ref (ad 102)), (1, .ref (ad 1)), (2, .int x2)] [] 2) :
    ∀ (x2 x3 : Int32) , d_X0_isWay_12 V k2 x2 x3 = some r9 → AW p l e (rmOf 3 0) s m args below meth c D cs ad b0 (QF below D cs ad b0 V ((rI r9) ad) args s 0) 4 0 V [(0, .ref (ad 102)), (1, .ref (ad 1)), (2, .int x2), (3, .int x3)] [] 12 := by
  refine lo2_ind (P := fun x2 x3 => AW p l e (rmOf 3 0) s m args below meth c D cs ad b0 (QF below D cs ad b0 V ((rI r9) ad) args s 0) 4 0 V [(0, .ref (ad 102)), (1, .ref (ad 1)), (2, .int x2), (3, .int x3)] [] 12) ?_ FU
  intro k12 hk12 x2 x3 h
  unfold d_X0_isWay_12b at h
  refine a_iload_n (q := 3) C dX0_isWay_12 rfl rfl ?_
  refine a_iload_n (q := 2) C dX0_isWay_13 rfl rfl ?_
  refine a_icmp_ge (tgt := 49) C dX0_isWay_14 (by decide) (fun c1 => ?_) (fun c1 => ?_)
  · have h := it_t c1 h
    refine a_iinc (q := 2) (v := (x2 + (1 : Int32))) (lv' := [(2, .int (x2 + (1 : Int32))), (0, .ref (ad 102)), (1, .ref (ad 1)), (3, .int x3)]) C dX0_isWay_49 rfl rfl (by decide) rfl ?_
    refine a_goto (tgt := 2) C dX0_isWay_52 (by decide) ?_
    refine a_sub (lv' := [(0, .ref (ad 102)), (1, .ref (ad 1)), (2, .int (x2 + (1 : Int32)))]) [1, 2, 0] rfl ?_
    exact hk2 (x2 + (1 : Int32)) h
  · have h := it_f c1 h
    refine a_aload_n (q := 1) C dX0_isWay_17 rfl rfl ?_
    refine a_iload_n (q := 2) C dX0_isWay_18 rfl rfl ?_
    refine a_iload_n (q := 3) C dX0_isWay_19 rfl rfl ?_
    obtain ⟨r3, g2, h⟩ := bd_spec h
    refine a_cVi (a := 1) (st := []) C dX0_isWay_20 cv_RX0_71 (w_X1_areNeighbours x2 x3  V r3 g2) rfl rfl rfl rfl rfl ⟨Nat.le_of_ble_eq_true rfl, Nat.le_of_ble_eq_true rfl, Nat.le_of_ble_eq_true rfl, Nat.le_of_ble_eq_true rfl⟩ (Nat.le_of_ble_eq_true rfl) ?_
    refine a_if_eq (tgt := 43) C dX0_isWay_23 (by decide) (fun c4 => ?_) (fun c4 => ?_)
    · have h := it_t c4 h
      refine a_iinc (q := 3) (v := (x3 + (1 : Int32))) (lv' := [(3, .int (x3 + (1 : Int32))), (0, .ref (ad 102)), (1, .ref (ad 1)), (2, .int x2)]) C dX0_isWay_43 rfl rfl (by decide) rfl ?_
      refine a_goto (tgt := 12) C dX0_isWay_46 (by decide) ?_
      refine a_sub (lv' := [(0, .ref (ad 102)), (1, .ref (ad 1)), (2, .int x2), (3, .int (x3 + (1 : Int32)))]) [1, 2, 3, 0] rfl ?_
      exact hk12 x2 (x3 + (1 : Int32)) h
    · have h := it_f c4 h
      refine a_aload_n (q := 0) C dX0_isWay_26 rfl rfl ?_
      refine a_getr (a := 102) (t := 104) C dX0_isWay_27 fl_RX0_15 rfl rfl ?_
      refine a_iload_n (q := 2) C dX0_isWay_30 rfl rfl ?_
      obtain ⟨z5, h⟩ := asr_spec h
      refine a_iald (a := 104) (x := (V 104 x2.toNatClampNeg)) C dX0_isWay_31 rfl (inb_in z5) rfl ?_
      refine a_aload_n (q := 0) C dX0_isWay_32 rfl rfl ?_
      refine a_getr (a := 102) (t := 104) C dX0_isWay_33 fl_RX0_15 rfl rfl ?_
      refine a_iload_n (q := 3) C dX0_isWay_36 rfl rfl ?_
      obtain ⟨z6, h⟩ := asr_spec h
      refine a_iald (a := 104) (x := (V 104 x3.toNatClampNeg)) C dX0_isWay_37 rfl (inb_in z6) rfl ?_
      refine a_icmp_ne (tgt := 43) C dX0_isWay_38 (by decide) (fun c7 => ?_) (fun c7 => ?_)
      · have h := it_f c7 h
        refine a_iinc (q := 3) (v := (x3 + (1 : Int32))) (lv' := [(3, .int (x3 + (1 : Int32))), (0, .ref (ad 102)), (1, .ref (ad 1)), (2, .int x2)]) C dX0_isWay_43 rfl rfl (by decide) rfl ?_
        refine a_goto (tgt := 12) C dX0_isWay_46 (by decide) ?_
        refine a_sub (lv' := [(0, .ref (ad 102)), (1, .ref (ad 1)), (2, .int x2), (3, .int (x3 + (1 : Int32)))]) [1, 2, 3, 0] rfl ?_
        exact hk12 x2 (x3 + (1 : Int32)) h
      · have h := it_t c7 h
        refine a_iconst (v := (0 : Int32)) C dX0_isWay_41 rfl ?_
        obtain rfl := ret1 h
        exact a_zret C dX0_isWay_42 rfl rfl (by decide) rfl rfl
set_option maxRecDepth 20000 in
set_option maxHeartbeats 4000000 in
theorem w_X0_isWay_2 {p : Program} {l : Launch} {e : Env} {s : State} {m : MethodId} {args : Array Value} {below : List Frame} {meth : Method} {c : Code} {D : va_G} {cs : Nat → ClassId} {ad : Nat → Nat} {b0 : Nat} (C : Ctx p l s m args meth c D cs ad b0 RX0 cX0_isWay 4 (some .boolean)) (hT : ∀ x ∈ c.exceptionTable.toList, False)   {V : VT} {r9 : Int32}     :
    ∀ (x2 : Int32) , d_X0_isWay_2 V x2 = some r9 → AW p l e (rmOf 3 0) s m args below meth c D cs ad b0 (QF below D cs ad b0 V ((rI r9) ad) args s 0) 4 0 V [(0, .ref (ad 102)), (1, .ref (ad 1)), (2, .int x2)] [] 2 := by
  refine lo1_ind (P := fun x2 => AW p l e (rmOf 3 0) s m args below meth c D cs ad b0 (QF below D cs ad b0 V ((rI r9) ad) args s 0) 4 0 V [(0, .ref (ad 102)), (1, .ref (ad 1)), (2, .int x2)] [] 2) ?_ FU
  intro k2 hk2 x2 h
  unfold d_X0_isWay_2b at h
  refine a_iload_n (q := 2) C dX0_isWay_2 rfl rfl ?_
  refine a_aload_n (q := 1) C dX0_isWay_3 rfl rfl ?_
  refine a_geti (a := 1) (x := (V 1 8)) C dX0_isWay_4 fl_RX0_53 rfl rfl rfl ?_
  refine a_icmp_ge (tgt := 55) C dX0_isWay_7 (by decide) (fun c1 => ?_) (fun c1 => ?_)
  · have h := it_t c1 h
    refine a_iconst (v := (1 : Int32)) C dX0_isWay_55 rfl ?_
    obtain rfl := ret1 h
    exact a_zret C dX0_isWay_56 rfl rfl (by decide) rfl rfl
  · have h := it_f c1 h
    refine a_iconst (v := (0 : Int32)) C dX0_isWay_10 rfl ?_
    refine a_istore_n (lv' := [(3, .int (0 : Int32)), (0, .ref (ad 102)), (1, .ref (ad 1)), (2, .int x2)]) C dX0_isWay_11 rfl (by decide) rfl ?_
    refine a_sub (lv' := [(0, .ref (ad 102)), (1, .ref (ad 1)), (2, .int x2), (3, .int (0 : Int32))]) [1, 2, 3, 0] rfl ?_
    exact w_X0_isWay_12 C hT hk2 x2 (0 : Int32) h
set_option maxRecDepth 20000 in
set_option maxHeartbeats 4000000 in
theorem w_X0_isWay   (V : VT) (r9 : Int32) (h : d_X0_isWay  V = some r9) : AM 3 0 yX0_isWay (.code yX0_isWay cX0_isWay 4 (some .boolean)) (fun ad => [.ref (ad 102), .ref (ad 1)]) V V (rI r9) := by
  unfold d_X0_isWay at h
  refine AM.of (by decide +kernel) (fun ad => Nat.le_of_ble_eq_true rfl) (fun {p l e s m args below meth c D cs ad b0} C hT => ?_)
  have C : Ctx p l s m args meth c D cs ad b0 RX0 cX0_isWay 4 (some .boolean) := C
  refine a_sub (lv' := [(0, .ref (ad 102)), (1, .ref (ad 1))]) [0, 1] rfl ?_
  refine a_iconst (v := (0 : Int32)) C dX0_isWay_0 rfl ?_
  refine a_istore_n (lv' := [(2, .int (0 : Int32)), (0, .ref (ad 102)), (1, .ref (ad 1))]) C dX0_isWay_1 rfl (by decide) rfl ?_
  refine a_sub (lv' := [(0, .ref (ad 102)), (1, .ref (ad 1)), (2, .int (0 : Int32))]) [1, 2, 0] rfl ?_
  exact w_X0_isWay_2 C hT (0 : Int32) h
set_option maxRecDepth 20000 in
set_option maxHeartbeats 4000000 in
theorem w_X0_countByNumbers_42 {p : Program} {l : Launch} {e : Env} {s : State} {m : MethodId} {args : Array Value} {below : List Frame} {meth : Method} {c : Code} {D : va_G} {cs : Nat → ClassId} {ad : Nat → Nat} {b0 : Nat} (C : Ctx p l s m args meth c D cs ad b0 RX0 cX0_countByNumbers 5 (some .int)) (hT : ∀ x ∈ c.exceptionTable.toList, False)    {r9 : Int32} {W9 : VT}     :
    ∀ (x2 x3 x4 : Int32) (V : VT), d_X0_countByNumbers_42 x2 x3 x4 V = some (r9, W9) → AW p l e (rmOf 4 0) s m args below meth c D cs ad b0 (QF below D cs ad b0 W9 ((rI r9) ad) args s 0) 5 0 V [(0, .ref (ad 102)), (1, .ref (ad 1)), (2, .int x2), (3, .int x3), (4, .int x4)] [] 42 := by
  refine lo3W_ind (P := fun x2 x3 x4 V => AW p l e (rmOf 4 0) s m args below meth c D cs ad b0 (QF below D cs ad b0 W9 ((rI r9) ad) args s 0) 5 0 V [(0, .ref (ad 102)), (1, .ref (ad 1)), (2, .int x2), (3, .int x3), (4, .int x4)] [] 42) ?_ FU
  intro k42 hk42 x2 x3 x4 V h
  unfold d_X0_countByNumbers_42b at h
  refine a_iload (q := 4) C dX0_countByNumbers_42 rfl ?_
  refine a_iload_n (q := 2) C dX0_countByNumbers_44 rfl rfl ?_
  refine a_icmp_ge (tgt := 72) C dX0_countByNumbers_45 (by decide) (fun c1 => ?_) (fun c1 => ?_)
  · have h := it_t c1 h
    refine a_iload_n (q := 3) C dX0_countByNumbers_72 rfl rfl ?_
    obtain ⟨rfl, rfl⟩ := ret2 h
    exact a_iret C dX0_countByNumbers_73 rfl (by decide) rfl rfl
  · have h := it_f c1 h
    refine a_aload_n (q := 0) C dX0_countByNumbers_48 rfl rfl ?_
    refine a_aload_n (q := 1) C dX0_countByNumbers_49 rfl rfl ?_
    refine a_iload (q := 4) C dX0_countByNumbers_50 rfl ?_
    obtain ⟨V3, g2, h⟩ := bd_spec h
    refine a_cVv (a := 102) (st := []) C dX0_countByNumbers_52 cv_RX0_56 (w_X0_spellOut x4  V V3 g2) rfl rfl rfl rfl rfl ⟨Nat.le_of_ble_eq_true rfl, Nat.le_of_ble_eq_true rfl, Nat.le_of_ble_eq_true rfl, Nat.le_of_ble_eq_true rfl⟩ (Nat.le_of_ble_eq_true rfl) ?_
    refine a_aload_n (q := 0) C dX0_countByNumbers_55 rfl rfl ?_
    refine a_aload_n (q := 1) C dX0_countByNumbers_56 rfl rfl ?_
    obtain ⟨r5, g4, h⟩ := bd_spec h
    refine a_cVi (a := 102) (st := []) C dX0_countByNumbers_57 cv_RX0_60 (w_X0_isWay   V3 r5 g4) rfl rfl rfl rfl rfl ⟨Nat.le_of_ble_eq_true rfl, Nat.le_of_ble_eq_true rfl, Nat.le_of_ble_eq_true rfl, Nat.le_of_ble_eq_true rfl⟩ (Nat.le_of_ble_eq_true rfl) ?_
    refine a_if_eq (tgt := 66) C dX0_countByNumbers_60 (by decide) (fun c6 => ?_) (fun c6 => ?_)
    · have h := it_t c6 h
      refine a_iinc (q := 4) (v := (x4 + (1 : Int32))) (lv' := [(4, .int (x4 + (1 : Int32))), (0, .ref (ad 102)), (1, .ref (ad 1)), (2, .int x2), (3, .int x3)]) C dX0_countByNumbers_66 rfl rfl (by decide) rfl ?_
      refine a_goto (tgt := 42) C dX0_countByNumbers_69 (by decide) ?_
      refine a_sub (lv' := [(0, .ref (ad 102)), (1, .ref (ad 1)), (2, .int x2), (3, .int x3), (4, .int (x4 + (1 : Int32)))]) [1, 2, 3, 4, 0] rfl ?_
      exact hk42 x2 x3 (x4 + (1 : Int32)) V3 h
    · have h := it_f c6 h
      refine a_iinc (q := 3) (v := (x3 + (1 : Int32))) (lv' := [(3, .int (x3 + (1 : Int32))), (0, .ref (ad 102)), (1, .ref (ad 1)), (2, .int x2), (4, .int x4)]) C dX0_countByNumbers_63 rfl rfl (by decide) rfl ?_
      refine a_iinc (q := 4) (v := (x4 + (1 : Int32))) (lv' := [(4, .int (x4 + (1 : Int32))), (3, .int (x3 + (1 : Int32))), (0, .ref (ad 102)), (1, .ref (ad 1)), (2, .int x2)]) C dX0_countByNumbers_66 rfl rfl (by decide) rfl ?_
      refine a_goto (tgt := 42) C dX0_countByNumbers_69 (by decide) ?_
      refine a_sub (lv' := [(0, .ref (ad 102)), (1, .ref (ad 1)), (2, .int x2), (3, .int (x3 + (1 : Int32))), (4, .int (x4 + (1 : Int32)))]) [2, 3, 4, 1, 0] rfl ?_
      exact hk42 x2 (x3 + (1 : Int32)) (x4 + (1 : Int32)) V3 h
set_option maxRecDepth 20000 in
set_option maxHeartbeats 4000000 in
theorem w_X0_countByNumbers_4 {p : Program} {l : Launch} {e : Env} {s : State} {m : MethodId} {args : Array Value} {below : List Frame} {meth : Method} {c : Code} {D : va_G} {cs : Nat → ClassId} {ad : Nat → Nat} {b0 : Nat} (C : Ctx p l s m args meth c D cs ad b0 RX0 cX0_countByNumbers 5 (some .int)) (hT : ∀ x ∈ c.exceptionTable.toList, False)    {r9 : Int32} {W9 : VT}     :
    ∀ (x2 x3 : Int32) (V : VT), d_X0_countByNumbers_4 x2 x3 V = some (r9, W9) → AW p l e (rmOf 4 0) s m args below meth c D cs ad b0 (QF below D cs ad b0 W9 ((rI r9) ad) args s 0) 5 0 V [(0, .ref (ad 102)), (1, .ref (ad 1)), (2, .int x2), (3, .int x3)] [] 4 := by
  refine lo2W_ind (P := fun x2 x3 V => AW p l e (rmOf 4 0) s m args below meth c D cs ad b0 (QF below D cs ad b0 W9 ((rI r9) ad) args s 0) 5 0 V [(0, .ref (ad 102)), (1, .ref (ad 1)), (2, .int x2), (3, .int x3)] [] 4) ?_ FU
  intro k4 hk4 x2 x3 V h
  unfold d_X0_countByNumbers_4b at h
  refine a_iload_n (q := 3) C dX0_countByNumbers_4 rfl rfl ?_
  refine a_aload_n (q := 1) C dX0_countByNumbers_5 rfl rfl ?_
  refine a_geti (a := 1) (x := (V 1 8)) C dX0_countByNumbers_6 fl_RX0_53 rfl rfl rfl ?_
  refine a_icmp_ge (tgt := 37) C dX0_countByNumbers_9 (by decide) (fun c1 => ?_) (fun c1 => ?_)
  · have h := it_t c1 h
    refine a_iconst (v := (0 : Int32)) C dX0_countByNumbers_37 rfl ?_
    refine a_istore_n (lv' := [(3, .int (0 : Int32)), (0, .ref (ad 102)), (1, .ref (ad 1)), (2, .int x2)]) C dX0_countByNumbers_38 rfl (by decide) rfl ?_
    refine a_iconst (v := (0 : Int32)) C dX0_countByNumbers_39 rfl ?_
    refine a_istore (lv' := [(4, .int (0 : Int32)), (3, .int (0 : Int32)), (0, .ref (ad 102)), (1, .ref (ad 1)), (2, .int x2)]) C dX0_countByNumbers_40 (by decide) rfl ?_
    refine a_sub (lv' := [(0, .ref (ad 102)), (1, .ref (ad 1)), (2, .int x2), (3, .int (0 : Int32)), (4, .int (0 : Int32))]) [2, 3, 4, 1, 0] rfl ?_
    exact w_X0_countByNumbers_42 C hT x2 (0 : Int32) (0 : Int32) V h
  · have h := it_f c1 h
    refine a_iload_n (q := 2) C dX0_countByNumbers_12 rfl rfl ?_
    refine a_aload_n (q := 1) C dX0_countByNumbers_13 rfl rfl ?_
    refine a_iload_n (q := 3) C dX0_countByNumbers_14 rfl rfl ?_
    obtain ⟨r3, g2, h⟩ := bd_spec h
    refine a_cVi (a := 1) (st := [.int x2]) C dX0_countByNumbers_15 cv_RX0_38 (w_X1_isPainted x3  V r3 g2) rfl rfl rfl rfl rfl ⟨Nat.le_of_ble_eq_true rfl, Nat.le_of_ble_eq_true rfl, Nat.le_of_ble_eq_true rfl, Nat.le_of_ble_eq_true rfl⟩ (Nat.le_of_ble_eq_true rfl) ?_
    refine a_if_eq (tgt := 25) C dX0_countByNumbers_18 (by decide) (fun c4 => ?_) (fun c4 => ?_)
    · have h := it_t c4 h
      refine a_aload_n (q := 1) C dX0_countByNumbers_25 rfl rfl ?_
      refine a_geti (a := 1) (x := (V 1 9)) C dX0_countByNumbers_26 fl_RX0_45 rfl rfl rfl ?_
      refine a_imul C dX0_countByNumbers_29 ?_
      refine a_istore_n (lv' := [(2, .int (x2 * (V 1 9))), (0, .ref (ad 102)), (1, .ref (ad 1)), (3, .int x3)]) C dX0_countByNumbers_30 rfl (by decide) rfl ?_
      refine a_iinc (q := 3) (v := (x3 + (1 : Int32))) (lv' := [(3, .int (x3 + (1 : Int32))), (2, .int (x2 * (V 1 9))), (0, .ref (ad 102)), (1, .ref (ad 1))]) C dX0_countByNumbers_31 rfl rfl (by decide) rfl ?_
      refine a_goto (tgt := 4) C dX0_countByNumbers_34 (by decide) ?_
      refine a_sub (lv' := [(0, .ref (ad 102)), (1, .ref (ad 1)), (2, .int (x2 * (V 1 9))), (3, .int (x3 + (1 : Int32)))]) [2, 3, 1, 0] rfl ?_
      exact hk4 (x2 * (V 1 9)) (x3 + (1 : Int32)) V h
    · have h := it_f c4 h
      refine a_iconst (v := (1 : Int32)) C dX0_countByNumbers_21 rfl ?_
      refine a_goto (tgt := 29) C dX0_countByNumbers_22 (by decide) ?_
      refine a_imul C dX0_countByNumbers_29 ?_
      refine a_istore_n (lv' := [(2, .int (x2 * (1 : Int32))), (0, .ref (ad 102)), (1, .ref (ad 1)), (3, .int x3)]) C dX0_countByNumbers_30 rfl (by decide) rfl ?_
      refine a_iinc (q := 3) (v := (x3 + (1 : Int32))) (lv' := [(3, .int (x3 + (1 : Int32))), (2, .int (x2 * (1 : Int32))), (0, .ref (ad 102)), (1, .ref (ad 1))]) C dX0_countByNumbers_31 rfl rfl (by decide) rfl ?_
      refine a_goto (tgt := 4) C dX0_countByNumbers_34 (by decide) ?_
      refine a_sub (lv' := [(0, .ref (ad 102)), (1, .ref (ad 1)), (2, .int (x2 * (1 : Int32))), (3, .int (x3 + (1 : Int32)))]) [2, 3, 1, 0] rfl ?_
      exact hk4 (x2 * (1 : Int32)) (x3 + (1 : Int32)) V h
set_option maxRecDepth 20000 in
set_option maxHeartbeats 4000000 in
theorem w_X0_countByNumbers   (V : VT) (r9 : Int32) (W9 : VT) (h : d_X0_countByNumbers  V = some (r9, W9)) : AM 4 0 yX0_countByNumbers (.code yX0_countByNumbers cX0_countByNumbers 5 (some .int)) (fun ad => [.ref (ad 102), .ref (ad 1)]) V W9 (rI r9) := by
  unfold d_X0_countByNumbers at h
  refine AM.of (by decide +kernel) (fun ad => Nat.le_of_ble_eq_true rfl) (fun {p l e s m args below meth c D cs ad b0} C hT => ?_)
  have C : Ctx p l s m args meth c D cs ad b0 RX0 cX0_countByNumbers 5 (some .int) := C
  refine a_sub (lv' := [(0, .ref (ad 102)), (1, .ref (ad 1))]) [0, 1] rfl ?_
  refine a_iconst (v := (1 : Int32)) C dX0_countByNumbers_0 rfl ?_
  refine a_istore_n (lv' := [(2, .int (1 : Int32)), (0, .ref (ad 102)), (1, .ref (ad 1))]) C dX0_countByNumbers_1 rfl (by decide) rfl ?_
  refine a_iconst (v := (0 : Int32)) C dX0_countByNumbers_2 rfl ?_
  refine a_istore_n (lv' := [(3, .int (0 : Int32)), (2, .int (1 : Int32)), (0, .ref (ad 102)), (1, .ref (ad 1))]) C dX0_countByNumbers_3 rfl (by decide) rfl ?_
  refine a_sub (lv' := [(0, .ref (ad 102)), (1, .ref (ad 1)), (2, .int (1 : Int32)), (3, .int (0 : Int32))]) [2, 3, 1, 0] rfl ?_
  exact w_X0_countByNumbers_4 C hT (1 : Int32) (0 : Int32) V h
set_option maxRecDepth 20000 in
set_option maxHeartbeats 4000000 in
theorem w_X4_waysAgain   (V : VT) (r9 : Int32) (W9 : VT) (h : d_X4_waysAgain  V = some (r9, W9)) : AM 17 0 yX4_waysAgain (.code yX4_waysAgain cX4_waysAgain 1 (some .int)) (fun ad => [.ref (ad 0)]) V W9 (rI r9) := by
  unfold d_X4_waysAgain at h
  refine AM.of (by decide +kernel) (fun ad => Nat.le_of_ble_eq_true rfl) (fun {p l e s m args below meth c D cs ad b0} C hT => ?_)
  have C : Ctx p l s m args meth c D cs ad b0 RX4 cX4_waysAgain 1 (some .int) := C
  refine a_sub (lv' := [(0, .ref (ad 0))]) [0] rfl ?_
  refine a_aload_n (q := 0) C dX4_waysAgain_0 rfl rfl ?_
  refine a_getr (a := 0) (t := 1) C dX4_waysAgain_1 fl_RX4_10 rfl rfl ?_
  obtain ⟨r2, g1, h⟩ := bd_spec h
  refine a_cVi (a := 1) (st := []) C dX4_waysAgain_4 cv_RX4_231 (w_X1_unpainted   V r2 g1) rfl rfl rfl rfl rfl ⟨Nat.le_of_ble_eq_true rfl, Nat.le_of_ble_eq_true rfl, Nat.le_of_ble_eq_true rfl, Nat.le_of_ble_eq_true rfl⟩ (Nat.le_of_ble_eq_true rfl) ?_
  obtain ⟨r4, g3, h⟩ := bd_spec h
  refine a_cSi (st := []) C dX4_waysAgain_7 cv_RX4_125 (w_J6_bitCount_0f7a4 r2  V r4 g3) rfl rfl rfl ⟨Nat.le_of_ble_eq_true rfl, Nat.le_of_ble_eq_true rfl, Nat.le_of_ble_eq_true rfl, Nat.le_of_ble_eq_true rfl⟩ (Nat.le_of_ble_eq_true rfl) ?_
  refine a_iconst (v := (4 : Int32)) C dX4_waysAgain_10 rfl ?_
  refine a_icmp_le (tgt := 33) C dX4_waysAgain_11 (by decide) (fun c5 => ?_) (fun c5 => ?_)
  · have h := it_t c5 h
    refine a_aload_n (q := 0) C dX4_waysAgain_33 rfl rfl ?_
    refine a_getr (a := 0) (t := 102) C dX4_waysAgain_34 fl_RX4_32 rfl rfl ?_
    refine a_aload_n (q := 0) C dX4_waysAgain_37 rfl rfl ?_
    refine a_getr (a := 0) (t := 1) C dX4_waysAgain_38 fl_RX4_10 rfl rfl ?_
    obtain ⟨r8, V7, g6, h⟩ := bw_spec h
    refine a_cVi (a := 102) (st := []) C dX4_waysAgain_41 cv_RX4_234 (w_X0_countByNumbers   V r8 V7 g6) rfl rfl rfl rfl rfl ⟨Nat.le_of_ble_eq_true rfl, Nat.le_of_ble_eq_true rfl, Nat.le_of_ble_eq_true rfl, Nat.le_of_ble_eq_true rfl⟩ (Nat.le_of_ble_eq_true rfl) ?_
    obtain ⟨rfl, rfl⟩ := ret2 h
    exact a_iret C dX4_waysAgain_44 rfl (by decide) rfl rfl
  · have h := it_f c5 h
    refine a_aload_n (q := 0) C dX4_waysAgain_14 rfl rfl ?_
    refine a_getr (a := 0) (t := 102) C dX4_waysAgain_15 fl_RX4_32 rfl rfl ?_
    refine a_aload_n (q := 0) C dX4_waysAgain_18 rfl rfl ?_
    refine a_getr (a := 0) (t := 1) C dX4_waysAgain_19 fl_RX4_10 rfl rfl ?_
    refine a_aload_n (q := 0) C dX4_waysAgain_22 rfl rfl ?_
    refine a_getr (a := 0) (t := 1) C dX4_waysAgain_23 fl_RX4_10 rfl rfl ?_
    refine a_geti (a := 1) (x := (V 1 9)) C dX4_waysAgain_26 fl_RX4_150 rfl rfl rfl ?_
    obtain ⟨r11, V10, g9, h⟩ := bw_spec h
    refine a_cVi (a := 102) (st := []) C dX4_waysAgain_29 cv_RX4_227 (w_X0_count (V 1 9)  V r11 V10 g9) rfl rfl rfl rfl rfl ⟨Nat.le_of_ble_eq_true rfl, Nat.le_of_ble_eq_true rfl, Nat.le_of_ble_eq_true rfl, Nat.le_of_ble_eq_true rfl⟩ (Nat.le_of_ble_eq_true rfl) ?_
    obtain ⟨rfl, rfl⟩ := ret2 h
    exact a_iret C dX4_waysAgain_32 rfl (by decide) rfl rfl
set_option maxRecDepth 20000 in
set_option maxHeartbeats 4000000 in
theorem w_X0_countWithWish (x2 : Int32)  (V : VT) (r9 : Int32) (W9 : VT) (h : d_X0_countWithWish x2 V = some (r9, W9)) : AM 17 0 yX0_countWithWish (.code yX0_countWithWish cX0_countWithWish 5 (some .int)) (fun ad => [.ref (ad 102), .ref (ad 1), .int x2]) V W9 (rI r9) := by
  unfold d_X0_countWithWish at h
  refine AM.of (by decide +kernel) (fun ad => Nat.le_of_ble_eq_true rfl) (fun {p l e s m args below meth c D cs ad b0} C hT => ?_)
  have C : Ctx p l s m args meth c D cs ad b0 RX0 cX0_countWithWish 5 (some .int) := C
  refine a_sub (lv' := [(0, .ref (ad 102)), (1, .ref (ad 1)), (2, .int x2)]) [0, 1, 2] rfl ?_
  refine a_aload_n (q := 1) C dX0_countWithWish_0 rfl rfl ?_
  refine a_getr (a := 1) (t := 4) C dX0_countWithWish_1 fl_RX0_35 rfl rfl ?_
  refine a_iload_n (q := 2) C dX0_countWithWish_4 rfl rfl ?_
  obtain ⟨z1, h⟩ := asr_spec h
  refine a_iald (a := 4) (x := (V 4 x2.toNatClampNeg)) C dX0_countWithWish_5 rfl (inb_in z1) rfl ?_
  refine a_istore_n (lv' := [(3, .int (V 4 x2.toNatClampNeg)), (0, .ref (ad 102)), (1, .ref (ad 1)), (2, .int x2)]) C dX0_countWithWish_6 rfl (by decide) rfl ?_
  refine a_aload_n (q := 2) C dX0_countWithWish_7 rfl rfl ?_
  refine a_iload_n (q := 3) C dX0_countWithWish_8 rfl rfl ?_
  obtain ⟨r3, g2, h⟩ := bd_spec h
  refine a_cVi (a := 1) (st := []) C dX0_countWithWish_9 cv_RX0_38 (w_X1_isPainted x2  V r3 g2) rfl rfl rfl rfl rfl ⟨Nat.le_of_ble_eq_true rfl, Nat.le_of_ble_eq_true rfl, Nat.le_of_ble_eq_true rfl, Nat.le_of_ble_eq_true rfl⟩ (Nat.le_of_ble_eq_true rfl) ?_
  refine a_if_eq (tgt := 37) C dX0_countWithWish_12 (by decide) (fun c4 => ?_) (fun c4 => ?_)
  · have h := it_t c4 h
    refine a_aload_n (q := 1) C dX0_countWithWish_37 rfl rfl ?_
    refine a_aload_n (q := 2) C dX0_countWithWish_38 rfl rfl ?_
    obtain ⟨V6, g5, h⟩ := bd_spec h
    refine a_cVv (a := 102) (st := []) C dX0_countWithWish_39 cv_RX0_18 (w_X0_noteHolders   V V6 g5) rfl rfl rfl rfl rfl ⟨Nat.le_of_ble_eq_true rfl, Nat.le_of_ble_eq_true rfl, Nat.le_of_ble_eq_true rfl, Nat.le_of_ble_eq_true rfl⟩ (Nat.le_of_ble_eq_true rfl) ?_
    refine a_iload_n (q := 0) C dX0_countWithWish_42 rfl rfl ?_
    refine a_if_lt (tgt := 70) C dX0_countWithWish_43 (by decide) (fun c7 => ?_) (fun c7 => ?_)
    · have h := it_t c7 h
      refine a_iconst (v := (0 : Int32)) C dX0_countWithWish_70 rfl ?_
      obtain ⟨rfl, rfl⟩ := ret2 h
      exact a_iret C dX0_countWithWish_71 rfl (by decide) rfl rfl
    · have h := it_f c7 h
      refine a_iload_n (q := 0) C dX0_countWithWish_46 rfl rfl ?_
      refine a_aload_n (q := 2) C dX0_countWithWish_47 rfl rfl ?_
      refine a_geti (a := 1) (x := (V6 1 9)) C dX0_countWithWish_48 fl_RX0_45 rfl rfl rfl ?_
      refine a_icmp_ge (tgt := 70) C dX0_countWithWish_51 (by decide) (fun c8 => ?_) (fun c8 => ?_)
      · have h := it_t c8 h
        refine a_iconst (v := (0 : Int32)) C dX0_countWithWish_70 rfl ?_
        obtain ⟨rfl, rfl⟩ := ret2 h
        exact a_iret C dX0_countWithWish_71 rfl (by decide) rfl rfl
      · have h := it_f c8 h
        refine a_aload_n (q := 1) C dX0_countWithWish_54 rfl rfl ?_
        refine a_getr (a := 102) (t := 103) C dX0_countWithWish_55 fl_RX0_9 rfl rfl ?_
        refine a_iload_n (q := 0) C dX0_countWithWish_58 rfl rfl ?_
        obtain ⟨z9, h⟩ := asr_spec h
        refine a_iald (a := 103) (x := (V6 103 (V 4 x2.toNatClampNeg).toNatClampNeg)) C dX0_countWithWish_59 rfl (inb_in z9) rfl ?_
        refine a_aload_n (q := 2) C dX0_countWithWish_60 rfl rfl ?_
        refine a_getr (a := 1) (t := 6) C dX0_countWithWish_61 fl_RX0_28 rfl rfl ?_
        refine a_iload_n (q := 3) C dX0_countWithWish_64 rfl rfl ?_
        obtain ⟨z10, h⟩ := asr_spec h
        refine a_iald (a := 6) (x := (V6 6 x2.toNatClampNeg)) C dX0_countWithWish_65 rfl (inb_in z10) rfl ?_
        refine a_iand C dX0_countWithWish_66 ?_
        refine a_if_eq (tgt := 72) C dX0_countWithWish_67 (by decide) (fun c11 => ?_) (fun c11 => ?_)
        · have h := it_t c11 h
          refine a_iconst (v := (1 : Int32)) C dX0_countWithWish_72 rfl ?_
          refine a_iload_n (q := 3) C dX0_countWithWish_73 rfl rfl ?_
          refine a_ishl C dX0_countWithWish_74 ?_
          refine a_istore (lv' := [(4, .int ((1 : Int32) <<< (x2 &&& 31))), (3, .int (V 4 x2.toNatClampNeg)), (0, .ref (ad 102)), (1, .ref (ad 1)), (2, .int x2)]) C dX0_countWithWish_75 (by decide) rfl ?_
          refine a_aload_n (q := 2) C dX0_countWithWish_77 rfl rfl ?_
          refine a_getr (a := 102) (t := 103) C dX0_countWithWish_78 fl_RX0_9 rfl rfl ?_
          refine a_iload_n (q := 1) C dX0_countWithWish_81 rfl rfl ?_
          refine a_dup2 C dX0_countWithWish_82 rfl rfl ?_
          obtain ⟨z12, h⟩ := asr_spec h
          refine a_iald (a := 103) (x := (V6 103 (V 4 x2.toNatClampNeg).toNatClampNeg)) C dX0_countWithWish_83 rfl (inb_in z12) rfl ?_
          refine a_iload (q := 0) C dX0_countWithWish_84 rfl ?_
          refine a_ior C dX0_countWithWish_86 ?_
          obtain ⟨z13, h⟩ := asr_spec h
          refine a_iast (a := 103) C dX0_countWithWish_87 rfl (inb_in z13) ?_
          refine a_iconst (v := (0 : Int32)) C dX0_countWithWish_88 rfl ?_
          refine a_aload_n (q := 3) C dX0_countWithWish_89 rfl rfl ?_
          obtain ⟨r15, g14, h⟩ := bd_spec h
          refine a_cVi (a := 1) (st := [.int (0 : Int32)]) C dX0_countWithWish_90 cv_RX0_22 (w_X1_unpainted   (up2 V6 103 (V 4 x2.toNatClampNeg).toNatClampNeg ((V6 103 (V 4 x2.toNatClampNeg).toNatClampNeg) ||| ((1 : Int32) <<< (x2 &&& 31)))) r15 g14) rfl rfl rfl rfl rfl ⟨Nat.le_of_ble_eq_true rfl, Nat.le_of_ble_eq_true rfl, Nat.le_of_ble_eq_true rfl, Nat.le_of_ble_eq_true rfl⟩ (Nat.le_of_ble_eq_true rfl) ?_
          refine a_iload (q := 0) C dX0_countWithWish_93 rfl ?_
          refine a_iconst (v := (-1 : Int32)) C dX0_countWithWish_95 rfl ?_
          refine a_ixor C dX0_countWithWish_96 ?_
          refine a_iand C dX0_countWithWish_97 ?_
          refine a_aload_n (q := 3) C dX0_countWithWish_98 rfl rfl ?_
          refine a_geti (a := 1) (x := (V6 1 9)) C dX0_countWithWish_99 fl_RX0_45 rfl rfl rfl ?_
          refine a_aload_n (q := 2) C dX0_countWithWish_102 rfl rfl ?_
          refine a_getr (a := 102) (t := 103) C dX0_countWithWish_103 fl_RX0_9 rfl rfl ?_
          refine a_aload_n (q := 3) C dX0_countWithWish_106 rfl rfl ?_
          refine a_getr (a := 1) (t := 6) C dX0_countWithWish_107 fl_RX0_28 rfl rfl ?_
          obtain ⟨r18, V17, g16, h⟩ := bw_spec h
          refine a_cSi (st := []) C dX0_countWithWish_110 cv_RX0_31 (w_X0_countFrom (0 : Int32) (r15 &&& (((1 : Int32) <<< (x2 &&& 31)) ^^^ (-1 : Int32))) (V6 1 9)  (up2 V6 103 (V 4 x2.toNatClampNeg).toNatClampNeg ((V6 103 (V 4 x2.toNatClampNeg).toNatClampNeg) ||| ((1 : Int32) <<< (x2 &&& 31)))) r18 V17 g16) rfl rfl rfl ⟨Nat.le_of_ble_eq_true rfl, Nat.le_of_ble_eq_true rfl, Nat.le_of_ble_eq_true rfl, Nat.le_of_ble_eq_true rfl⟩ (Nat.le_of_ble_eq_true rfl) ?_
          obtain ⟨rfl, rfl⟩ := ret2 h
          exact a_iret C dX0_countWithWish_113 rfl (by decide) rfl rfl
        · have h := it_f c11 h
          refine a_iconst (v := (0 : Int32)) C dX0_countWithWish_70 rfl ?_
          obtain ⟨rfl, rfl⟩ := ret2 h
          exact a_iret C dX0_countWithWish_71 rfl (by decide) rfl rfl
  · have h := it_f c4 h
    refine a_aload_n (q := 2) C dX0_countWithWish_15 rfl rfl ?_
    refine a_iload_n (q := 3) C dX0_countWithWish_16 rfl rfl ?_
    obtain ⟨r20, g19, h⟩ := bd_spec h
    refine a_cVi (a := 1) (st := []) C dX0_countWithWish_17 cv_RX0_42 (w_X1_isFulfilled x2  V r20 g19) rfl rfl rfl rfl rfl ⟨Nat.le_of_ble_eq_true rfl, Nat.le_of_ble_eq_true rfl, Nat.le_of_ble_eq_true rfl, Nat.le_of_ble_eq_true rfl⟩ (Nat.le_of_ble_eq_true rfl) ?_
    refine a_if_eq (tgt := 35) C dX0_countWithWish_20 (by decide) (fun c21 => ?_) (fun c21 => ?_)
    · have h := it_t c21 h
      refine a_iconst (v := (0 : Int32)) C dX0_countWithWish_35 rfl ?_
      obtain ⟨rfl, rfl⟩ := ret2 h
      exact a_iret C dX0_countWithWish_36 rfl (by decide) rfl rfl
    · have h := it_f c21 h
      refine a_aload_n (q := 1) C dX0_countWithWish_23 rfl rfl ?_
      refine a_aload_n (q := 2) C dX0_countWithWish_24 rfl rfl ?_
      refine a_aload_n (q := 2) C dX0_countWithWish_25 rfl rfl ?_
      refine a_geti (a := 1) (x := (V 1 9)) C dX0_countWithWish_26 fl_RX0_45 rfl rfl rfl ?_
      obtain ⟨r24, V23, g22, h⟩ := bw_spec h
      refine a_cVi (a := 102) (st := []) C dX0_countWithWish_29 cv_RX0_49 (w_X0_count (V 1 9)  V r24 V23 g22) rfl rfl rfl rfl rfl ⟨Nat.le_of_ble_eq_true rfl, Nat.le_of_ble_eq_true rfl, Nat.le_of_ble_eq_true rfl, Nat.le_of_ble_eq_true rfl⟩ (Nat.le_of_ble_eq_true rfl) ?_
      refine a_goto (tgt := 36) C dX0_countWithWish_32 (by decide) ?_
      obtain ⟨rfl, rfl⟩ := ret2 h
      exact a_iret C dX0_countWithWish_36 rfl (by decide) rfl rfl
set_option maxRecDepth 20000 in
set_option maxHeartbeats 4000000 in
theorem w_X4_waysFor (x1 : Int32)  (V : VT) (o9 : Int32 ⊕ String) (W9 : VT) (h : d_X4_waysFor x1 V = some (o9, W9)) : AM 18 2 yX4_waysFor (.code yX4_waysFor cX4_waysFor 2 (some .int)) (fun ad => [.ref (ad 0), .int x1]) V W9 (rX o9) := by
  unfold d_X4_waysFor at h
  refine AM.of (by decide +kernel) (fun ad => Nat.le_of_ble_eq_true rfl) (fun {p l e s m args below meth c D cs ad b0} C hT => ?_)
  have C : Ctx p l s m args meth c D cs ad b0 RX4 cX4_waysFor 2 (some .int) := C
  refine a_sub (lv' := [(0, .ref (ad 0)), (1, .int x1)]) [0, 1] rfl ?_
  refine a_aload_n (q := 0) C dX4_waysFor_0 rfl rfl ?_
  refine a_iload_n (q := 1) C dX4_waysFor_1 rfl rfl ?_
  obtain ⟨o2, V3, g1, n4, t5⟩ := bx_spec h
  refine a_cVxv (a := 0) (st := []) (k' := 1) C dX4_waysFor_2 cv_RX4_87 (w_X4_stopIfNoCountry x1  V o2 V3 g1) rfl rfl rfl rfl rfl ⟨Nat.le_of_ble_eq_true rfl, Nat.le_of_ble_eq_true rfl, Nat.le_of_ble_eq_true rfl, Nat.le_of_ble_eq_true rfl⟩ (Nat.le_of_ble_eq_true rfl) (fun r6 e9 => ?_) (fun E9 e9 => ?_)
  · have h := n4 r6 e9
    refine a_aload_n (q := 0) C dX4_waysFor_5 rfl rfl ?_
    refine a_getr (a := 0) (t := 1) C dX4_waysFor_6 fl_RX4_10 rfl rfl ?_
    refine a_getr (a := 1) (t := 4) C dX4_waysFor_9 fl_RX4_130 rfl rfl ?_
    refine a_iload_n (q := 1) C dX4_waysFor_12 rfl rfl ?_
    obtain ⟨z7, h⟩ := asr_spec h
    refine a_iald (a := 4) (x := (V3 4 x1.toNatClampNeg)) C dX4_waysFor_13 rfl (inb_in z7) rfl ?_
    refine a_iconst (v := (-1 : Int32)) C dX4_waysFor_14 rfl ?_
    refine a_icmp_ne (tgt := 28) C dX4_waysFor_15 (by decide) (fun c8 => ?_) (fun c8 => ?_)
    · have h := it_f c8 h
      refine a_aload_n (q := 0) C dX4_waysFor_28 rfl rfl ?_
      refine a_getr (a := 0) (t := 102) C dX4_waysFor_29 fl_RX4_32 rfl rfl ?_
      refine a_aload_n (q := 0) C dX4_waysFor_32 rfl rfl ?_
      refine a_getr (a := 0) (t := 1) C dX4_waysFor_33 fl_RX4_10 rfl rfl ?_
      refine a_iload_n (q := 1) C dX4_waysFor_36 rfl rfl ?_
      obtain ⟨r11, V10, g9, h⟩ := bw_spec h
      refine a_cVi (a := 102) (st := []) C dX4_waysFor_37 cv_RX4_240 (w_X0_countWithWish x1  V3 r11 V10 g9) rfl rfl rfl rfl rfl ⟨Nat.le_of_ble_eq_true rfl, Nat.le_of_ble_eq_true rfl, Nat.le_of_ble_eq_true rfl, Nat.le_of_ble_eq_true rfl⟩ (Nat.le_of_ble_eq_true rfl) ?_
      obtain ⟨rfl, rfl⟩ := ret2 h
      exact a_iret C dX4_waysFor_40 rfl (by decide) rfl rfl
    · have h := it_t c8 h
      obtain ⟨rfl, rfl⟩ := ret2 h
      exact a_throwN (text := "the country has no wish") C hT tn_RX4_193_197 (by decide +kernel) dX4_waysFor_18 dX4_waysFor_21 dX4_waysFor_22 dX4_waysFor_24 dX4_waysFor_27 ⟨by decide, by decide, by decide, by decide⟩ (by decide) rfl rfl
  · obtain ⟨rfl, rfl⟩ := Prod.mk.inj (t5 E9 e9)
    exact a_xout C hT (by decide) rfl rfl
set_option maxRecDepth 20000 in
set_option maxHeartbeats 4000000 in
theorem w_J9_max_7cf53 (x0 : Int32) (x1 : Int32)  (V : VT) (r9 : Int32) (h : d_J9_max_7cf53 x0 x1 V = some r9) : AM 2 0 yJ9_max_7cf53 (.code yJ9_max_7cf53 cJ9_max_7cf53 2 (some .int)) (fun ad => [.int x0, .int x1]) V V (rI r9) := by
  unfold d_J9_max_7cf53 at h
  refine AM.ofF (by decide +kernel) (fun ad => Nat.le_of_ble_eq_true rfl) (fun {p l e s m args below meth c D cs ad b0} C hT => ?_)
  have C : Ctx p l s m args meth c D cs ad b0 RJ9 cJ9_max_7cf53 2 (some .int) := C
  refine a_sub (lv' := [(0, .int x0), (1, .int x1)]) [0, 1] rfl ?_
  refine a_iload_n (q := 0) C dJ9_max_7cf53_0 rfl rfl ?_
  refine a_iload_n (q := 1) C dJ9_max_7cf53_1 rfl rfl ?_
  refine a_icmp_lt (tgt := 9) C dJ9_max_7cf53_2 (by decide) (fun c1 => ?_) (fun c1 => ?_)
  · have h := it_t c1 h
    refine a_iload_n (q := 1) C dJ9_max_7cf53_9 rfl rfl ?_
    obtain rfl := ret1 h
    exact a_iret C dJ9_max_7cf53_10 rfl (by decide) rfl rfl
  · have h := it_f c1 h
    refine a_iload_n (q := 0) C dJ9_max_7cf53_5 rfl rfl ?_
    refine a_goto (tgt := 10) C dJ9_max_7cf53_6 (by decide) ?_
    obtain rfl := ret1 h
    exact a_iret C dJ9_max_7cf53_10 rfl (by decide) rfl rfl
set_option maxRecDepth 20000 in
set_option maxHeartbeats 4000000 in
theorem w_X1_countHuesNeeded_4 {p : Program} {l : Launch} {e : Env} {s : State} {m : MethodId} {args : Array Value} {below : List Frame} {meth : Method} {c : Code} {D : va_G} {cs : Nat → ClassId} {ad : Nat → Nat} {b0 : Nat} (C : Ctx p l s m args meth c D cs ad b0 RX1 cX1_countHuesNeeded 3 (some .int)) (hT : ∀ x ∈ c.exceptionTable.toList, False)   {V : VT} {r9 : Int32}     :
    ∀ (x1 x2 : Int32) , d_X1_countHuesNeeded_4 V x1 x2 = some r9 → AW p l e (rmOf 3 0) s m args below meth c D cs ad b0 (QF below D cs ad b0 V ((rI r9) ad) args s 0) 3 0 V [(0, .ref (ad 1)), (1, .int x1), (2, .int x2)] [] 4 := by
  refine lo2_ind (P := fun x1 x2 => AW p l e (rmOf 3 0) s m args below meth c D cs ad b0 (QF below D cs ad b0 V ((rI r9) ad) args s 0) 3 0 V [(0, .ref (ad 1)), (1, .int x1), (2, .int x2)] [] 4) ?_ FU
  intro k4 hk4 x1 x2 h
  unfold d_X1_countHuesNeeded_4b at h
  refine a_iload_n (q := 2) C dX1_countHuesNeeded_4 rfl rfl ?_
  refine a_aload_n (q := 0) C dX1_countHuesNeeded_5 rfl rfl ?_
  refine a_geti (a := 1) (x := (V 1 8)) C dX1_countHuesNeeded_6 fl_RX1_36 rfl rfl rfl ?_
  refine a_icmp_ge (tgt := 31) C dX1_countHuesNeeded_9 (by decide) (fun c1 => ?_) (fun c1 => ?_)
  · have h := it_t c1 h
    refine a_iload_n (q := 1) C dX1_countHuesNeeded_31 rfl rfl ?_
    obtain rfl := ret1 h
    exact a_iret C dX1_countHuesNeeded_32 rfl (by decide) rfl rfl
  · have h := it_f c1 h
    refine a_iload_n (q := 1) C dX1_countHuesNeeded_12 rfl rfl ?_
    refine a_aload_n (q := 0) C dX1_countHuesNeeded_13 rfl rfl ?_
    refine a_getr (a := 1) (t := 3) C dX1_countHuesNeeded_14 fl_RX1_15 rfl rfl ?_
    refine a_iload_n (q := 2) C dX1_countHuesNeeded_17 rfl rfl ?_
    obtain ⟨z2, h⟩ := asr_spec h
    refine a_iald (a := 3) (x := (V 3 x2.toNatClampNeg)) C dX1_countHuesNeeded_18 rfl (inb_in z2) rfl ?_
    refine a_iconst (v := (1 : Int32)) C dX1_countHuesNeeded_19 rfl ?_
    refine a_iadd C dX1_countHuesNeeded_20 ?_
    obtain ⟨r4, g3, h⟩ := bd_spec h
    refine a_cSi (st := []) C dX1_countHuesNeeded_21 cv_RX1_119 (w_J9_max_7cf53 x1 ((V 3 x2.toNatClampNeg) + (1 : Int32))  V r4 g3) rfl rfl rfl ⟨Nat.le_of_ble_eq_true rfl, Nat.le_of_ble_eq_true rfl, Nat.le_of_ble_eq_true rfl, Nat.le_of_ble_eq_true rfl⟩ (Nat.le_of_ble_eq_true rfl) ?_
    refine a_istore_n (lv' := [(1, .int r4), (0, .ref (ad 1)), (2, .int x2)]) C dX1_countHuesNeeded_24 rfl (by decide) rfl ?_
    refine a_iinc (q := 2) (v := (x2 + (1 : Int32))) (lv' := [(2, .int (x2 + (1 : Int32))), (1, .int r4), (0, .ref (ad 1))]) C dX1_countHuesNeeded_25 rfl rfl (by decide) rfl ?_
    refine a_goto (tgt := 4) C dX1_countHuesNeeded_28 (by decide) ?_
    refine a_sub (lv' := [(0, .ref (ad 1)), (1, .int r4), (2, .int (x2 + (1 : Int32)))]) [2, 1, 0] rfl ?_
    exact hk4 r4 (x2 + (1 : Int32)) h
set_option maxRecDepth 20000 in
set_option maxHeartbeats 4000000 in
theorem w_X1_countHuesNeeded   (V : VT) (r9 : Int32) (h : d_X1_countHuesNeeded  V = some r9) : AM 3 0 yX1_countHuesNeeded (.code yX1_countHuesNeeded cX1_countHuesNeeded 3 (some .int)) (fun ad => [.ref (ad 1)]) V V (rI r9) := by
  unfold d_X1_countHuesNeeded at h
  refine AM.of (by decide +kernel) (fun ad => Nat.le_of_ble_eq_true rfl) (fun {p l e s m args below meth c D cs ad b0} C hT => ?_)
  have C : Ctx p l s m args meth c D cs ad b0 RX1 cX1_countHuesNeeded 3 (some .int) := C
  refine a_sub (lv' := [(0, .ref (ad 1))]) [0] rfl ?_
  refine a_iconst (v := (1 : Int32)) C dX1_countHuesNeeded_0 rfl ?_
  refine a_istore_n (lv' := [(1, .int (1 : Int32)), (0, .ref (ad 1))]) C dX1_countHuesNeeded_1 rfl (by decide) rfl ?_
  refine a_iconst (v := (0 : Int32)) C dX1_countHuesNeeded_2 rfl ?_
  refine a_istore_n (lv' := [(2, .int (0 : Int32)), (1, .int (1 : Int32)), (0, .ref (ad 1))]) C dX1_countHuesNeeded_3 rfl (by decide) rfl ?_
  refine a_sub (lv' := [(0, .ref (ad 1)), (1, .int (1 : Int32)), (2, .int (0 : Int32))]) [2, 1, 0] rfl ?_
  exact w_X1_countHuesNeeded_4 C hT (1 : Int32) (0 : Int32) h
set_option maxRecDepth 20000 in
set_option maxHeartbeats 4000000 in
theorem w_X4_fewest_8 {p : Program} {l : Launch} {e : Env} {s : State} {m : MethodId} {args : Array Value} {below : List Frame} {meth : Method} {c : Code} {D : va_G} {cs : Nat → ClassId} {ad : Nat → Nat} {b0 : Nat} (C : Ctx p l s m args meth c D cs ad b0 RX4 cX4_fewest 2 (some .int)) (hT : ∀ x ∈ c.exceptionTable.toList, False)    {o9 : Int32 ⊕ String} {W9 : VT}     :
    ∀ (x1 : Int32) (V : VT), d_X4_fewest_8 x1 V = some (o9, W9) → AW p l e (rmOf 17 1) s m args below meth c D cs ad b0 (QF below D cs ad b0 W9 ((rX o9) ad) args s 1) 2 0 V [(0, .ref (ad 0)), (1, .int x1)] [] 8 := by
  refine lo1W_ind (P := fun x1 V => AW p l e (rmOf 17 1) s m args below meth c D cs ad b0 (QF below D cs ad b0 W9 ((rX o9) ad) args s 1) 2 0 V [(0, .ref (ad 0)), (1, .int x1)] [] 8) ?_ FU
  intro k8 hk8 x1 V h
  unfold d_X4_fewest_8b at h
  refine a_iload_n (q := 1) C dX4_fewest_8 rfl rfl ?_
  refine a_iconst (v := (5 : Int32)) C dX4_fewest_9 rfl ?_
  refine a_icmp_gt (tgt := 36) C dX4_fewest_10 (by decide) (fun c1 => ?_) (fun c1 => ?_)
  · have h := it_t c1 h
    obtain ⟨rfl, rfl⟩ := ret2 h
    exact a_throwN (text := "5 hues are not enough") C hT tn_RX4_193_197 (by decide +kernel) dX4_fewest_36 dX4_fewest_39 dX4_fewest_40 dX4_fewest_42 dX4_fewest_45 ⟨by decide, by decide, by decide, by decide⟩ (by decide) rfl rfl
  · have h := it_f c1 h
    refine a_aload_n (q := 0) C dX4_fewest_13 rfl rfl ?_
    refine a_getr (a := 0) (t := 102) C dX4_fewest_14 fl_RX4_32 rfl rfl ?_
    refine a_aload_n (q := 0) C dX4_fewest_17 rfl rfl ?_
    refine a_getr (a := 0) (t := 1) C dX4_fewest_18 fl_RX4_10 rfl rfl ?_
    refine a_iload_n (q := 1) C dX4_fewest_21 rfl rfl ?_
    obtain ⟨r4, V3, g2, h⟩ := bw_spec h
    refine a_cVi (a := 102) (st := []) C dX4_fewest_22 cv_RX4_227 (w_X0_count x1  V r4 V3 g2) rfl rfl rfl rfl rfl ⟨Nat.le_of_ble_eq_true rfl, Nat.le_of_ble_eq_true rfl, Nat.le_of_ble_eq_true rfl, Nat.le_of_ble_eq_true rfl⟩ (Nat.le_of_ble_eq_true rfl) ?_
    refine a_if_le (tgt := 30) C dX4_fewest_25 (by decide) (fun c5 => ?_) (fun c5 => ?_)
    · have h := it_t c5 h
      refine a_iinc (q := 1) (v := (x1 + (1 : Int32))) (lv' := [(1, .int (x1 + (1 : Int32))), (0, .ref (ad 0))]) C dX4_fewest_30 rfl rfl (by decide) rfl ?_
      refine a_goto (tgt := 8) C dX4_fewest_33 (by decide) ?_
      refine a_sub (lv' := [(0, .ref (ad 0)), (1, .int (x1 + (1 : Int32)))]) [1, 0] rfl ?_
      exact hk8 (x1 + (1 : Int32)) V3 h
    · have h := it_f c5 h
      refine a_iload_n (q := 1) C dX4_fewest_28 rfl rfl ?_
      obtain ⟨rfl, rfl⟩ := ret2 h
      exact a_iret C dX4_fewest_29 rfl (by decide) rfl rfl
set_option maxRecDepth 20000 in
set_option maxHeartbeats 4000000 in
theorem w_X4_fewest   (V : VT) (o9 : Int32 ⊕ String) (W9 : VT) (h : d_X4_fewest  V = some (o9, W9)) : AM 17 1 yX4_fewest (.code yX4_fewest cX4_fewest 2 (some .int)) (fun ad => [.ref (ad 0)]) V W9 (rX o9) := by
  unfold d_X4_fewest at h
  refine AM.of (by decide +kernel) (fun ad => Nat.le_of_ble_eq_true rfl) (fun {p l e s m args below meth c D cs ad b0} C hT => ?_)
  have C : Ctx p l s m args meth c D cs ad b0 RX4 cX4_fewest 2 (some .int) := C
  refine a_sub (lv' := [(0, .ref (ad 0))]) [0] rfl ?_
  refine a_aload_n (q := 0) C dX4_fewest_0 rfl rfl ?_
  refine a_getr (a := 0) (t := 1) C dX4_fewest_1 fl_RX4_10 rfl rfl ?_
  obtain ⟨r2, g1, h⟩ := bd_spec h
  refine a_cVi (a := 1) (st := []) C dX4_fewest_4 cv_RX4_243 (w_X1_countHuesNeeded   V r2 g1) rfl rfl rfl rfl rfl ⟨Nat.le_of_ble_eq_true rfl, Nat.le_of_ble_eq_true rfl, Nat.le_of_ble_eq_true rfl, Nat.le_of_ble_eq_true rfl⟩ (Nat.le_of_ble_eq_true rfl) ?_
  refine a_istore_n (lv' := [(1, .int r2), (0, .ref (ad 0))]) C dX4_fewest_7 rfl (by decide) rfl ?_
  refine a_sub (lv' := [(0, .ref (ad 0)), (1, .int r2)]) [1, 0] rfl ?_
  exact w_X4_fewest_8 C hT r2 V h
set_option maxRecDepth 20000 in
set_option maxHeartbeats 4000000 in
theorem w_X1_isClique_13 {p : Program} {l : Launch} {e : Env} {s : State} {m : MethodId} {args : Array Value} {below : List Frame} {meth : Method} {c : Code} {D : va_G} {cs : Nat → ClassId} {ad : Nat → Nat} {b0 : Nat} (C : Ctx p l s m args meth c D cs ad b0 RX1 cX1_isClique 4 (some .boolean)) (hT : ∀ x ∈ c.exceptionTable.toList, False)   {V : VT} {r9 : Int32}     :
    ∀ (x1 x2 : Int32) , d_X1_isClique_13 V x1 x2 = some r9 → AW p l e (rmOf 2 0) s m args below meth c D cs ad b0 (QF below D cs ad b0 V ((rI r9) ad) args s 0) 4 0 V [(0, .ref (ad 1)), (1, .int x1), (2, .int x2)] [] 13 := by
  refine lo2_ind (P := fun x1 x2 => AW p l e (rmOf 2 0) s m args below meth c D cs ad b0 (QF below D cs ad b0 V ((rI r9) ad) args s 0) 4 0 V [(0, .ref (ad 1)), (1, .int x1), (2, .int x2)] [] 13) ?_ FU
  intro k13 hk13 x1 x2 h
  unfold d_X1_isClique_13b at h
  refine a_iload_n (q := 2) C dX1_isClique_13 rfl rfl ?_
  refine a_aload_n (q := 0) C dX1_isClique_14 rfl rfl ?_
  refine a_geti (a := 1) (x := (V 1 8)) C dX1_isClique_15 fl_RX1_36 rfl rfl rfl ?_
  refine a_icmp_ge (tgt := 55) C dX1_isClique_18 (by decide) (fun c1 => ?_) (fun c1 => ?_)
  · have h := it_t c1 h
    refine a_iconst (v := (1 : Int32)) C dX1_isClique_55 rfl ?_
    obtain rfl := ret1 h
    exact a_zret C dX1_isClique_56 rfl rfl (by decide) rfl rfl
  · have h := it_f c1 h
    refine a_iload_n (q := 1) C dX1_isClique_21 rfl rfl ?_
    refine a_aload_n (q := 0) C dX1_isClique_22 rfl rfl ?_
    refine a_getr (a := 1) (t := 6) C dX1_isClique_23 fl_RX1_24 rfl rfl ?_
    refine a_iload_n (q := 2) C dX1_isClique_26 rfl rfl ?_
    obtain ⟨z2, h⟩ := asr_spec h
    refine a_iald (a := 6) (x := (V 6 x2.toNatClampNeg)) C dX1_isClique_27 rfl (inb_in z2) rfl ?_
    refine a_iconst (v := (-1 : Int32)) C dX1_isClique_28 rfl ?_
    refine a_ixor C dX1_isClique_29 ?_
    refine a_iand C dX1_isClique_30 ?_
    refine a_istore_n (lv' := [(3, .int (x1 &&& ((V 6 x2.toNatClampNeg) ^^^ (-1 : Int32)))), (0, .ref (ad 1)), (1, .int x1), (2, .int x2)]) C dX1_isClique_31 rfl (by decide) rfl ?_
    refine a_iload_n (q := 0) C dX1_isClique_32 rfl rfl ?_
    refine a_iload_n (q := 3) C dX1_isClique_33 rfl rfl ?_
    refine a_ishr C dX1_isClique_34 ?_
    refine a_iconst (v := (1 : Int32)) C dX1_isClique_35 rfl ?_
    refine a_iand C dX1_isClique_36 ?_
    refine a_if_eq (tgt := 49) C dX1_isClique_37 (by decide) (fun c3 => ?_) (fun c3 => ?_)
    · have h := it_t c3 h
      refine a_iinc (q := 3) (v := (x2 + (1 : Int32))) (lv' := [(2, .int (x2 + (1 : Int32))), (3, .int (x1 &&& ((V 6 x2.toNatClampNeg) ^^^ (-1 : Int32)))), (0, .ref (ad 1)), (1, .int x1)]) C dX1_isClique_49 rfl rfl (by decide) rfl ?_
      refine a_goto (tgt := 13) C dX1_isClique_52 (by decide) ?_
      refine a_sub (lv' := [(0, .ref (ad 1)), (1, .int x1), (2, .int (x2 + (1 : Int32)))]) [2, 3, 0] rfl ?_
      exact hk13 x1 (x2 + (1 : Int32)) h
    · have h := it_f c3 h
      refine a_iload_n (q := 0) C dX1_isClique_40 rfl rfl ?_
      refine a_iconst (v := (1 : Int32)) C dX1_isClique_41 rfl ?_
      refine a_iload_n (q := 3) C dX1_isClique_42 rfl rfl ?_
      refine a_ishl C dX1_isClique_43 ?_
      refine a_icmp_eq (tgt := 49) C dX1_isClique_44 (by decide) (fun c4 => ?_) (fun c4 => ?_)
      · have h := it_t c4 h
        refine a_iinc (q := 3) (v := (x2 + (1 : Int32))) (lv' := [(2, .int (x2 + (1 : Int32))), (3, .int (x1 &&& ((V 6 x2.toNatClampNeg) ^^^ (-1 : Int32)))), (0, .ref (ad 1)), (1, .int x1)]) C dX1_isClique_49 rfl rfl (by decide) rfl ?_
        refine a_goto (tgt := 13) C dX1_isClique_52 (by decide) ?_
        refine a_sub (lv' := [(0, .ref (ad 1)), (1, .int x1), (2, .int (x2 + (1 : Int32)))]) [2, 3, 0] rfl ?_
        exact hk13 x1 (x2 + (1 : Int32)) h
      · have h := it_f c4 h
        refine a_iconst (v := (0 : Int32)) C dX1_isClique_47 rfl ?_
        obtain rfl := ret1 h
        exact a_zret C dX1_isClique_48 rfl rfl (by decide) rfl rfl
set_option maxRecDepth 20000 in
set_option maxHeartbeats 4000000 in
theorem w_X1_isClique (x1 : Int32)  (V : VT) (r9 : Int32) (h : d_X1_isClique x1 V = some r9) : AM 2 0 yX1_isClique (.code yX1_isClique cX1_isClique 4 (some .boolean)) (fun ad => [.ref (ad 1), .int x1]) V V (rI r9) := by
  unfold d_X1_isClique at h
  refine AM.of (by decide +kernel) (fun ad => Nat.le_of_ble_eq_true rfl) (fun {p l e s m args below meth c D cs ad b0} C hT => ?_)
  have C : Ctx p l s m args meth c D cs ad b0 RX1 cX1_isClique 4 (some .boolean) := C
  refine a_sub (lv' := [(0, .ref (ad 1)), (1, .int x1)]) [0, 1] rfl ?_
  refine a_iload_n (q := 1) C dX1_isClique_0 rfl rfl ?_
  refine a_aload_n (q := 0) C dX1_isClique_1 rfl rfl ?_
  refine a_geti (a := 1) (x := (V 1 8)) C dX1_isClique_2 fl_RX1_36 rfl rfl rfl ?_
  refine a_ishr C dX1_isClique_5 ?_
  refine a_if_eq (tgt := 11) C dX1_isClique_6 (by decide) (fun c1 => ?_) (fun c1 => ?_)
  · have h := it_t c1 h
    refine a_iconst (v := (0 : Int32)) C dX1_isClique_11 rfl ?_
    refine a_istore_n (lv' := [(2, .int (0 : Int32)), (0, .ref (ad 1)), (1, .int x1)]) C dX1_isClique_12 rfl (by decide) rfl ?_
    refine a_sub (lv' := [(0, .ref (ad 1)), (1, .int x1), (2, .int (0 : Int32))]) [1, 2, 0] rfl ?_
    exact w_X1_isClique_13 C hT x1 (0 : Int32) h
  · have h := it_f c1 h
    refine a_iconst (v := (0 : Int32)) C dX1_isClique_9 rfl ?_
    obtain rfl := ret1 h
    exact a_zret C dX1_isClique_10 rfl rfl (by decide) rfl rfl
set_option maxRecDepth 20000 in
set_option maxHeartbeats 4000000 in
theorem w_X4_clique_4 {p : Program} {l : Launch} {e : Env} {s : State} {m : MethodId} {args : Array Value} {below : List Frame} {meth : Method} {c : Code} {D : va_G} {cs : Nat → ClassId} {ad : Nat → Nat} {b0 : Nat} (C : Ctx p l s m args meth c D cs ad b0 RX4 cX4_clique 3 (some .int)) (hT : ∀ x ∈ c.exceptionTable.toList, False)   {V : VT} {r9 : Int32}     :
    ∀ (x1 x2 : Int32) , d_X4_clique_4 V x1 x2 = some r9 → AW p l e (rmOf 3 0) s m args below meth c D cs ad b0 (QF below D cs ad b0 V ((rI r9) ad) args s 0) 3 0 V [(0, .ref (ad 0)), (1, .int x1), (2, .int x2)] [] 4 := by
  refine lo2_ind (P := fun x1 x2 => AW p l e (rmOf 3 0) s m args below meth c D cs ad b0 (QF below D cs ad b0 V ((rI r9) ad) args s 0) 3 0 V [(0, .ref (ad 0)), (1, .int x1), (2, .int x2)] [] 4) ?_ FU
  intro k4 hk4 x1 x2 h
  unfold d_X4_clique_4b at h
  refine a_iload_n (q := 2) C dX4_clique_4 rfl rfl ?_
  refine a_sipush (v := (128 : Int32)) C dX4_clique_5 rfl ?_
  refine a_icmp_ge (tgt := 37) C dX4_clique_8 (by decide) (fun c1 => ?_) (fun c1 => ?_)
  · have h := it_t c1 h
    refine a_iload_n (q := 1) C dX4_clique_37 rfl rfl ?_
    obtain rfl := ret1 h
    exact a_iret C dX4_clique_38 rfl (by decide) rfl rfl
  · have h := it_f c1 h
    refine a_aload_n (q := 0) C dX4_clique_11 rfl rfl ?_
    refine a_getr (a := 0) (t := 1) C dX4_clique_12 fl_RX4_10 rfl rfl ?_
    refine a_iload_n (q := 2) C dX4_clique_15 rfl rfl ?_
    obtain ⟨r3, g2, h⟩ := bd_spec h
    refine a_cVi (a := 1) (st := []) C dX4_clique_16 cv_RX4_248 (w_X1_isClique x2  V r3 g2) rfl rfl rfl rfl rfl ⟨Nat.le_of_ble_eq_true rfl, Nat.le_of_ble_eq_true rfl, Nat.le_of_ble_eq_true rfl, Nat.le_of_ble_eq_true rfl⟩ (Nat.le_of_ble_eq_true rfl) ?_
    refine a_if_eq (tgt := 31) C dX4_clique_19 (by decide) (fun c4 => ?_) (fun c4 => ?_)
    · have h := it_t c4 h
      refine a_iinc (q := 2) (v := (x2 + (1 : Int32))) (lv' := [(2, .int (x2 + (1 : Int32))), (0, .ref (ad 0)), (1, .int x1)]) C dX4_clique_31 rfl rfl (by decide) rfl ?_
      refine a_goto (tgt := 4) C dX4_clique_34 (by decide) ?_
      refine a_sub (lv' := [(0, .ref (ad 0)), (1, .int x1), (2, .int (x2 + (1 : Int32)))]) [1, 2, 0] rfl ?_
      exact hk4 x1 (x2 + (1 : Int32)) h
    · have h := it_f c4 h
      refine a_iload_n (q := 1) C dX4_clique_22 rfl rfl ?_
      refine a_iload_n (q := 2) C dX4_clique_23 rfl rfl ?_
      obtain ⟨r6, g5, h⟩ := bd_spec h
      refine a_cSi (st := [.int x1]) C dX4_clique_24 cv_RX4_125 (w_J6_bitCount_0f7a4 x2  V r6 g5) rfl rfl rfl ⟨Nat.le_of_ble_eq_true rfl, Nat.le_of_ble_eq_true rfl, Nat.le_of_ble_eq_true rfl, Nat.le_of_ble_eq_true rfl⟩ (Nat.le_of_ble_eq_true rfl) ?_
      obtain ⟨r8, g7, h⟩ := bd_spec h
      refine a_cSi (st := []) C dX4_clique_27 cv_RX4_251 (w_J9_max_7cf53 x1 r6  V r8 g7) rfl rfl rfl ⟨Nat.le_of_ble_eq_true rfl, Nat.le_of_ble_eq_true rfl, Nat.le_of_ble_eq_true rfl, Nat.le_of_ble_eq_true rfl⟩ (Nat.le_of_ble_eq_true rfl) ?_
      refine a_istore_n (lv' := [(1, .int r8), (0, .ref (ad 0)), (2, .int x2)]) C dX4_clique_30 rfl (by decide) rfl ?_
      refine a_iinc (q := 2) (v := (x2 + (1 : Int32))) (lv' := [(2, .int (x2 + (1 : Int32))), (1, .int r8), (0, .ref (ad 0))]) C dX4_clique_31 rfl rfl (by decide) rfl ?_
      refine a_goto (tgt := 4) C dX4_clique_34 (by decide) ?_
      refine a_sub (lv' := [(0, .ref (ad 0)), (1, .int r8), (2, .int (x2 + (1 : Int32)))]) [2, 1, 0] rfl ?_
      exact hk4 r8 (x2 + (1 : Int32)) h
set_option maxRecDepth 20000 in
set_option maxHeartbeats 4000000 in
theorem w_X4_clique   (V : VT) (r9 : Int32) (h : d_X4_clique  V = some r9) : AM 3 0 yX4_clique (.code yX4_clique cX4_clique 3 (some .int)) (fun ad => [.ref (ad 0)]) V V (rI r9) := by
  unfold d_X4_clique at h
  refine AM.of (by decide +kernel) (fun ad => Nat.le_of_ble_eq_true rfl) (fun {p l e s m args below meth c D cs ad b0} C hT => ?_)
  have C : Ctx p l s m args meth c D cs ad b0 RX4 cX4_clique 3 (some .int) := C
  refine a_sub (lv' := [(0, .ref (ad 0))]) [0] rfl ?_
  refine a_iconst (v := (0 : Int32)) C dX4_clique_0 rfl ?_
  refine a_istore_n (lv' := [(1, .int (0 : Int32)), (0, .ref (ad 0))]) C dX4_clique_1 rfl (by decide) rfl ?_
  refine a_iconst (v := (0 : Int32)) C dX4_clique_2 rfl ?_
  refine a_istore_n (lv' := [(2, .int (0 : Int32)), (1, .int (0 : Int32)), (0, .ref (ad 0))]) C dX4_clique_3 rfl (by decide) rfl ?_
  refine a_sub (lv' := [(0, .ref (ad 0)), (1, .int (0 : Int32)), (2, .int (0 : Int32))]) [2, 1, 0] rfl ?_
  exact w_X4_clique_4 C hT (0 : Int32) (0 : Int32) h
set_option maxRecDepth 20000 in
set_option maxHeartbeats 4000000 in
theorem w_X4_put (x1 : Int32)  (V : VT) (W9 : VT) (h : d_X4_put x1 V = some W9) : AM 2 0 yX4_put (.code yX4_put cX4_put 2 (none)) (fun ad => [.ref (ad 0), .int x1]) V W9 (rV) := by
  unfold d_X4_put at h
  refine AM.of (by decide +kernel) (fun ad => Nat.le_of_ble_eq_true rfl) (fun {p l e s m args below meth c D cs ad b0} C hT => ?_)
  have C : Ctx p l s m args meth c D cs ad b0 RX4 cX4_put 2 (none) := C
  refine a_sub (lv' := [(0, .ref (ad 0)), (1, .int x1)]) [0, 1] rfl ?_
  refine a_aload_n (q := 0) C dX4_put_0 rfl rfl ?_
  refine a_geti (a := 0) (x := (V 0 7)) C dX4_put_1 fl_RX4_47 rfl rfl rfl ?_
  refine a_bipush (v := (17 : Int32)) C dX4_put_4 rfl ?_
  refine a_icmp_ge (tgt := 29) C dX4_put_6 (by decide) (fun c1 => ?_) (fun c1 => ?_)
  · have h := it_t c1 h
    obtain rfl := ret1 h
    exact a_vret C dX4_put_29 rfl (by decide) rfl rfl
  · have h := it_f c1 h
    refine a_aload_n (q := 0) C dX4_put_9 rfl rfl ?_
    refine a_getr (a := 0) (t := 108) C dX4_put_10 fl_RX4_43 rfl rfl ?_
    refine a_aload_n (q := 0) C dX4_put_13 rfl rfl ?_
    refine a_geti (a := 0) (x := (V 0 7)) C dX4_put_14 fl_RX4_47 rfl rfl rfl ?_
    refine a_iload_n (q := 1) C dX4_put_17 rfl rfl ?_
    obtain ⟨z2, h⟩ := asr_spec h
    refine a_cast (a := 108) C dX4_put_18 rfl (inb_in z2) ?_
    refine a_aload_n (q := 0) C dX4_put_19 rfl rfl ?_
    refine a_dup C dX4_put_20 rfl ?_
    refine a_geti (a := 0) (x := (V 0 7)) C dX4_put_21 fl_RX4_47 rfl rfl rfl ?_
    refine a_iconst (v := (1 : Int32)) C dX4_put_24 rfl ?_
    refine a_iadd C dX4_put_25 ?_
    refine a_puti (a := 0) C dX4_put_26 fp_RX4_47 rfl rfl rfl rfl ?_
    obtain rfl := ret1 h
    exact a_vret C dX4_put_29 rfl (by decide) rfl rfl
set_option maxRecDepth 20000 in
set_option maxHeartbeats 4000000 in
theorem w_X4_putDigit (x1 : Int32)  (V : VT) (W9 : VT) (h : d_X4_putDigit x1 V = some W9) : AM 3 0 yX4_putDigit (.code yX4_putDigit cX4_putDigit 2 (none)) (fun ad => [.ref (ad 0), .int x1]) V W9 (rV) := by
  unfold d_X4_putDigit at h
  refine AM.of (by decide +kernel) (fun ad => Nat.le_of_ble_eq_true rfl) (fun {p l e s m args below meth c D cs ad b0} C hT => ?_)
  have C : Ctx p l s m args meth c D cs ad b0 RX4 cX4_putDigit 2 (none) := C
  refine a_sub (lv' := [(0, .ref (ad 0)), (1, .int x1)]) [0, 1] rfl ?_
  refine a_aload_n (q := 0) C dX4_putDigit_0 rfl rfl ?_
  refine a_bipush (v := (48 : Int32)) C dX4_putDigit_1 rfl ?_
  refine a_iload_n (q := 1) C dX4_putDigit_3 rfl rfl ?_
  refine a_iadd C dX4_putDigit_4 ?_
  refine a_i2c (v := (((48 : Int32) + x1).toUInt32 % 65536).toInt32) C dX4_putDigit_5 rfl ?_
  obtain ⟨V2, g1, h⟩ := bd_spec h
  refine a_cVv (a := 0) (st := []) C dX4_putDigit_6 cv_RX4_259 (w_X4_put (((48 : Int32) + x1).toUInt32 % 65536).toInt32  V V2 g1) rfl rfl rfl rfl rfl ⟨Nat.le_of_ble_eq_true rfl, Nat.le_of_ble_eq_true rfl, Nat.le_of_ble_eq_true rfl, Nat.le_of_ble_eq_true rfl⟩ (Nat.le_of_ble_eq_true rfl) ?_
  obtain rfl := ret1 h
  exact a_vret C dX4_putDigit_9 rfl (by decide) rfl rfl
set_option maxRecDepth 20000 in
set_option maxHeartbeats 4000000 in
theorem w_X4_putNeighbours_37 {p : Program} {l : Launch} {e : Env} {s : State} {m : MethodId} {args : Array Value} {below : List Frame} {meth : Method} {c : Code} {D : va_G} {cs : Nat → ClassId} {ad : Nat → Nat} {b0 : Nat} (C : Ctx p l s m args meth c D cs ad b0 RX4 cX4_putNeighbours 4 (none)) (hT : ∀ x ∈ c.exceptionTable.toList, False)    {W9 : VT} {k4 : Int32 → Int32 → Int32 → VT → Option VT}   (hk4 : ∀ (x1 x2 x3 : Int32) (V : VT), k4 x1 x2 x3 V = some W9 → AW p l e (rmOf 4 0) s m args below meth c D cs ad b0 (QF below D cs ad b0 W9 ((rV) ad) args s 0) 4 0 V [(0, .ref (ad 0)), (1, .int x1), (2, .int x2), (3, .int x3)] [] 4) :
    ∀ (x1 x3 : Int32) (V : VT), d_X4_putNeighbours_37 k4 x1 x3 V = some W9 → AW p l e (rmOf 4 0) s m args below meth c D cs ad b0 (QF below D cs ad b0 W9 ((rV) ad) args s 0) 4 0 V [(0, .ref (ad 0)), (1, .int x1), (3, .int x3)] [] 37 := by
  intro x1 x3 V h
  unfold d_X4_putNeighbours_37 at h
  refine a_aload_n (q := 0) C dX4_putNeighbours_37 rfl rfl ?_
  refine a_iload_n (q := 2) C dX4_putNeighbours_38 rfl rfl ?_
  obtain ⟨V2, g1, h⟩ := bd_spec h
  refine a_cVv (a := 0) (st := []) C dX4_putNeighbours_39 cv_RX4_256 (w_X4_putDigit x3  V V2 g1) rfl rfl rfl rfl rfl ⟨Nat.le_of_ble_eq_true rfl, Nat.le_of_ble_eq_true rfl, Nat.le_of_ble_eq_true rfl, Nat.le_of_ble_eq_true rfl⟩ (Nat.le_of_ble_eq_true rfl) ?_
  refine a_iconst (v := (0 : Int32)) C dX4_putNeighbours_42 rfl ?_
  refine a_istore_n (lv' := [(2, .int (0 : Int32)), (0, .ref (ad 0)), (1, .int x1), (3, .int x3)]) C dX4_putNeighbours_43 rfl (by decide) rfl ?_
  refine a_iinc (q := 3) (v := (x3 + (1 : Int32))) (lv' := [(3, .int (x3 + (1 : Int32))), (2, .int (0 : Int32)), (0, .ref (ad 0)), (1, .int x1)]) C dX4_putNeighbours_44 rfl rfl (by decide) rfl ?_
  refine a_goto (tgt := 4) C dX4_putNeighbours_47 (by decide) ?_
  refine a_sub (lv' := [(0, .ref (ad 0)), (1, .int x1), (2, .int (0 : Int32)), (3, .int (x3 + (1 : Int32)))]) [2, 3, 1, 0] rfl ?_
  exact hk4 x1 (0 : Int32) (x3 + (1 : Int32)) V2 h
set_option maxRecDepth 20000 in
set_option maxHeartbeats 4000000 in
theorem w_X4_putNeighbours_4 {p : Program} {l : Launch} {e : Env} {s : State} {m : MethodId} {args : Array Value} {below : List Frame} {meth : Method} {c : Code} {D : va_G} {cs : Nat → ClassId} {ad : Nat → Nat} {b0 : Nat} (C : Ctx p l s m args meth c D cs ad b0 RX4 cX4_putNeighbours 4 (none)) (hT : ∀ x ∈ c.exceptionTable.toList, False)    {W9 : VT}     :
    ∀ (x1 x2 x3 : Int32) (V : VT), d_X4_putNeighbours_4 x1 x2 x3 V = some W9 → AW p l e (rmOf 4 0) s m args below meth c D cs ad b0 (QF below D cs ad b0 W9 ((rV) ad) args s 0) 4 0 V [(0, .ref (ad 0)), (1, .int x1), (2, .int x2), (3, .int x3)] [] 4 := by
  refine lo3W_ind (P := fun x1 x2 x3 V => AW p l e (rmOf 4 0) s m args below meth c D cs ad b0 (QF below D cs ad b0 W9 ((rV) ad) args s 0) 4 0 V [(0, .ref (ad 0)), (1, .int x1), (2, .int x2), (3, .int x3)] [] 4) ?_ FU
  intro k4 hk4 x1 x2 x3 V h
  unfold d_X4_putNeighbours_4b at h
  refine a_iload_n (q := 3) C dX4_putNeighbours_4 rfl rfl ?_
  refine a_aload_n (q := 0) C dX4_putNeighbours_5 rfl rfl ?_
  refine a_getr (a := 0) (t := 1) C dX4_putNeighbours_6 fl_RX4_10 rfl rfl ?_
  refine a_geti (a := 1) (x := (V 1 8)) C dX4_putNeighbours_9 fl_RX4_303 rfl rfl rfl ?_
  refine a_icmp_ge (tgt := 50) C dX4_putNeighbours_12 (by decide) (fun c1 => ?_) (fun c1 => ?_)
  · have h := it_t c1 h
    obtain rfl := ret1 h
    exact a_vret C dX4_putNeighbours_50 rfl (by decide) rfl rfl
  · have h := it_f c1 h
    refine a_aload_n (q := 0) C dX4_putNeighbours_15 rfl rfl ?_
    refine a_getr (a := 0) (t := 1) C dX4_putNeighbours_16 fl_RX4_10 rfl rfl ?_
    refine a_iload_n (q := 1) C dX4_putNeighbours_19 rfl rfl ?_
    refine a_iload_n (q := 3) C dX4_putNeighbours_20 rfl rfl ?_
    obtain ⟨r3, g2, h⟩ := bd_spec h
    refine a_cVi (a := 1) (st := []) C dX4_putNeighbours_21 cv_RX4_108 (w_X1_areNeighbours x1 x3  V r3 g2) rfl rfl rfl rfl rfl ⟨Nat.le_of_ble_eq_true rfl, Nat.le_of_ble_eq_true rfl, Nat.le_of_ble_eq_true rfl, Nat.le_of_ble_eq_true rfl⟩ (Nat.le_of_ble_eq_true rfl) ?_
    refine a_if_eq (tgt := 44) C dX4_putNeighbours_24 (by decide) (fun c4 => ?_) (fun c4 => ?_)
    · have h := it_t c4 h
      refine a_iinc (q := 3) (v := (x3 + (1 : Int32))) (lv' := [(3, .int (x3 + (1 : Int32))), (0, .ref (ad 0)), (1, .int x1), (2, .int x2)]) C dX4_putNeighbours_44 rfl rfl (by decide) rfl ?_
      refine a_goto (tgt := 4) C dX4_putNeighbours_47 (by decide) ?_
      refine a_sub (lv' := [(0, .ref (ad 0)), (1, .int x1), (2, .int x2), (3, .int (x3 + (1 : Int32)))]) [1, 2, 3, 0] rfl ?_
      exact hk4 x1 x2 (x3 + (1 : Int32)) V h
    · have h := it_f c4 h
      refine a_iload_n (q := 2) C dX4_putNeighbours_27 rfl rfl ?_
      refine a_if_ne (tgt := 37) C dX4_putNeighbours_28 (by decide) (fun c5 => ?_) (fun c5 => ?_)
      · have h := it_f c5 h
        refine a_sub (lv' := [(0, .ref (ad 0)), (1, .int x1), (3, .int x3)]) [0, 1, 3] rfl ?_
        exact w_X4_putNeighbours_37 C hT hk4 x1 x3 V h
      · have h := it_t c5 h
        refine a_aload_n (q := 0) C dX4_putNeighbours_31 rfl rfl ?_
        refine a_bipush (v := (44 : Int32)) C dX4_putNeighbours_32 rfl ?_
        obtain ⟨V7, g6, h⟩ := bd_spec h
        refine a_cVv (a := 0) (st := []) C dX4_putNeighbours_34 cv_RX4_259 (w_X4_put (44 : Int32)  V V7 g6) rfl rfl rfl rfl rfl ⟨Nat.le_of_ble_eq_true rfl, Nat.le_of_ble_eq_true rfl, Nat.le_of_ble_eq_true rfl, Nat.le_of_ble_eq_true rfl⟩ (Nat.le_of_ble_eq_true rfl) ?_
        refine a_sub (lv' := [(0, .ref (ad 0)), (1, .int x1), (3, .int x3)]) [0, 1, 3] rfl ?_
        exact w_X4_putNeighbours_37 C hT hk4 x1 x3 V7 h
set_option maxRecDepth 20000 in
set_option maxHeartbeats 4000000 in
theorem w_X4_putNeighbours (x1 : Int32)  (V : VT) (W9 : VT) (h : d_X4_putNeighbours x1 V = some W9) : AM 4 0 yX4_putNeighbours (.code yX4_putNeighbours cX4_putNeighbours 4 (none)) (fun ad => [.ref (ad 0), .int x1]) V W9 (rV) := by
  unfold d_X4_putNeighbours at h
  refine AM.of (by decide +kernel) (fun ad => Nat.le_of_ble_eq_true rfl) (fun {p l e s m args below meth c D cs ad b0} C hT => ?_)
  have C : Ctx p l s m args meth c D cs ad b0 RX4 cX4_putNeighbours 4 (none) := C
  refine a_sub (lv' := [(0, .ref (ad 0)), (1, .int x1)]) [0, 1] rfl ?_
  refine a_iconst (v := (1 : Int32)) C dX4_putNeighbours_0 rfl ?_
  refine a_istore_n (lv' := [(2, .int (1 : Int32)), (0, .ref (ad 0)), (1, .int x1)]) C dX4_putNeighbours_1 rfl (by decide) rfl ?_
  refine a_iconst (v := (0 : Int32)) C dX4_putNeighbours_2 rfl ?_
  refine a_istore_n (lv' := [(3, .int (0 : Int32)), (2, .int (1 : Int32)), (0, .ref (ad 0)), (1, .int x1)]) C dX4_putNeighbours_3 rfl (by decide) rfl ?_
  refine a_sub (lv' := [(0, .ref (ad 0)), (1, .int x1), (2, .int (1 : Int32)), (3, .int (0 : Int32))]) [2, 3, 1, 0] rfl ?_
  exact w_X4_putNeighbours_4 C hT x1 (1 : Int32) (0 : Int32) V h
set_option maxRecDepth 20000 in
set_option maxHeartbeats 4000000 in
theorem w_X4_line_54 {p : Program} {l : Launch} {e : Env} {s : State} {m : MethodId} {args : Array Value} {below : List Frame} {meth : Method} {c : Code} {D : va_G} {cs : Nat → ClassId} {ad : Nat → Nat} {b0 : Nat} (C : Ctx p l s m args meth c D cs ad b0 RX4 cX4_line 2 (some .int)) (hT : ∀ x ∈ c.exceptionTable.toList, False)    {o9 : Int32 ⊕ String} {W9 : VT}     :
    ∀ (x1 : Int32) (V : VT), d_X4_line_54 x1 V = some (o9, W9) → AW p l e (rmOf 7 1) s m args below meth c D cs ad b0 (QF below D cs ad b0 W9 ((rX o9) ad) args s 1) 2 1 V [(0, .ref (ad 0)), (1, .int x1)] [] 54 := by
  intro x1 V h
  unfold d_X4_line_54 at h
  refine a_aload_n (q := 0) C dX4_line_54 rfl rfl ?_
  refine a_bipush (v := (40 : Int32)) C dX4_line_55 rfl ?_
  obtain ⟨V2, g1, h⟩ := bd_spec h
  refine a_cVv (a := 0) (st := []) C dX4_line_57 cv_RX4_259 (w_X4_put (40 : Int32)  V V2 g1) rfl rfl rfl rfl rfl ⟨Nat.le_of_ble_eq_true rfl, Nat.le_of_ble_eq_true rfl, Nat.le_of_ble_eq_true rfl, Nat.le_of_ble_eq_true rfl⟩ (Nat.le_of_ble_eq_true rfl) ?_
  refine a_aload_n (q := 0) C dX4_line_60 rfl rfl ?_
  refine a_iload_n (q := 1) C dX4_line_61 rfl rfl ?_
  obtain ⟨V4, g3, h⟩ := bd_spec h
  refine a_cVv (a := 0) (st := []) C dX4_line_62 cv_RX4_266 (w_X4_putNeighbours x1  V2 V4 g3) rfl rfl rfl rfl rfl ⟨Nat.le_of_ble_eq_true rfl, Nat.le_of_ble_eq_true rfl, Nat.le_of_ble_eq_true rfl, Nat.le_of_ble_eq_true rfl⟩ (Nat.le_of_ble_eq_true rfl) ?_
  refine a_aload_n (q := 0) C dX4_line_65 rfl rfl ?_
  refine a_bipush (v := (41 : Int32)) C dX4_line_66 rfl ?_
  obtain ⟨V6, g5, h⟩ := bd_spec h
  refine a_cVv (a := 0) (st := []) C dX4_line_68 cv_RX4_259 (w_X4_put (41 : Int32)  V4 V6 g5) rfl rfl rfl rfl rfl ⟨Nat.le_of_ble_eq_true rfl, Nat.le_of_ble_eq_true rfl, Nat.le_of_ble_eq_true rfl, Nat.le_of_ble_eq_true rfl⟩ (Nat.le_of_ble_eq_true rfl) ?_
  refine a_aload_n (q := 0) C dX4_line_71 rfl rfl ?_
  refine a_getr (a := 0) (t := 1) C dX4_line_72 fl_RX4_10 rfl rfl ?_
  refine a_iload_n (q := 1) C dX4_line_75 rfl rfl ?_
  obtain ⟨r8, g7, h⟩ := bd_spec h
  refine a_cVi (a := 1) (st := []) C dX4_line_76 cv_RX4_269 (w_X1_isStuck x1  V6 r8 g7) rfl rfl rfl rfl rfl ⟨Nat.le_of_ble_eq_true rfl, Nat.le_of_ble_eq_true rfl, Nat.le_of_ble_eq_true rfl, Nat.le_of_ble_eq_true rfl⟩ (Nat.le_of_ble_eq_true rfl) ?_
  refine a_if_eq (tgt := 88) C dX4_line_79 (by decide) (fun c9 => ?_) (fun c9 => ?_)
  · have h := it_t c9 h
    refine a_aload_n (q := 0) C dX4_line_88 rfl rfl ?_
    refine a_geti (a := 0) (x := (V6 0 7)) C dX4_line_89 fl_RX4_47 rfl rfl rfl ?_
    obtain ⟨rfl, rfl⟩ := ret2 h
    exact a_iret C dX4_line_92 rfl (by decide) rfl rfl
  · have h := it_f c9 h
    refine a_aload_n (q := 0) C dX4_line_82 rfl rfl ?_
    refine a_bipush (v := (33 : Int32)) C dX4_line_83 rfl ?_
    obtain ⟨V11, g10, h⟩ := bd_spec h
    refine a_cVv (a := 0) (st := []) C dX4_line_85 cv_RX4_259 (w_X4_put (33 : Int32)  V6 V11 g10) rfl rfl rfl rfl rfl ⟨Nat.le_of_ble_eq_true rfl, Nat.le_of_ble_eq_true rfl, Nat.le_of_ble_eq_true rfl, Nat.le_of_ble_eq_true rfl⟩ (Nat.le_of_ble_eq_true rfl) ?_
    refine a_aload_n (q := 0) C dX4_line_88 rfl rfl ?_
    refine a_geti (a := 0) (x := (V11 0 7)) C dX4_line_89 fl_RX4_47 rfl rfl rfl ?_
    obtain ⟨rfl, rfl⟩ := ret2 h
    exact a_iret C dX4_line_92 rfl (by decide) rfl rfl
set_option maxRecDepth 20000 in
set_option maxHeartbeats 4000000 in
theorem w_X4_line (x1 : Int32)  (V : VT) (o9 : Int32 ⊕ String) (W9 : VT) (h : d_X4_line x1 V = some (o9, W9)) : AM 7 1 yX4_line (.code yX4_line cX4_line 2 (some .int)) (fun ad => [.ref (ad 0), .int x1]) V W9 (rX o9) := by
  unfold d_X4_line at h
  refine AM.of (by decide +kernel) (fun ad => Nat.le_of_ble_eq_true rfl) (fun {p l e s m args below meth c D cs ad b0} C hT => ?_)
  have C : Ctx p l s m args meth c D cs ad b0 RX4 cX4_line 2 (some .int) := C
  refine a_sub (lv' := [(0, .ref (ad 0)), (1, .int x1)]) [0, 1] rfl ?_
  refine a_aload_n (q := 0) C dX4_line_0 rfl rfl ?_
  refine a_iload_n (q := 1) C dX4_line_1 rfl rfl ?_
  obtain ⟨o2, V3, g1, n4, t5⟩ := bx_spec h
  refine a_cVxv (a := 0) (st := []) (k' := 1) C dX4_line_2 cv_RX4_87 (w_X4_stopIfNoCountry x1  V o2 V3 g1) rfl rfl rfl rfl rfl ⟨Nat.le_of_ble_eq_true rfl, Nat.le_of_ble_eq_true rfl, Nat.le_of_ble_eq_true rfl, Nat.le_of_ble_eq_true rfl⟩ (Nat.le_of_ble_eq_true rfl) (fun r6 e9 => ?_) (fun E9 e9 => ?_)
  · have h := n4 r6 e9
    refine a_aload_n (q := 0) C dX4_line_5 rfl rfl ?_
    refine a_iconst (v := (0 : Int32)) C dX4_line_6 rfl ?_
    refine a_puti (a := 0) C dX4_line_7 fp_RX4_47 rfl rfl rfl rfl ?_
    refine a_aload_n (q := 0) C dX4_line_10 rfl rfl ?_
    refine a_iload_n (q := 1) C dX4_line_11 rfl rfl ?_
    obtain ⟨V8, g7, h⟩ := bd_spec h
    refine a_cVv (a := 0) (st := []) C dX4_line_12 cv_RX4_256 (w_X4_putDigit x1  (up2 V3 0 7 (0 : Int32)) V8 g7) rfl rfl rfl rfl rfl ⟨Nat.le_of_ble_eq_true rfl, Nat.le_of_ble_eq_true rfl, Nat.le_of_ble_eq_true rfl, Nat.le_of_ble_eq_true rfl⟩ (Nat.le_of_ble_eq_true rfl) ?_
    refine a_aload_n (q := 0) C dX4_line_15 rfl rfl ?_
    refine a_bipush (v := (58 : Int32)) C dX4_line_16 rfl ?_
    obtain ⟨V10, g9, h⟩ := bd_spec h
    refine a_cVv (a := 0) (st := []) C dX4_line_18 cv_RX4_259 (w_X4_put (58 : Int32)  V8 V10 g9) rfl rfl rfl rfl rfl ⟨Nat.le_of_ble_eq_true rfl, Nat.le_of_ble_eq_true rfl, Nat.le_of_ble_eq_true rfl, Nat.le_of_ble_eq_true rfl⟩ (Nat.le_of_ble_eq_true rfl) ?_
    refine a_aload_n (q := 0) C dX4_line_21 rfl rfl ?_
    refine a_getr (a := 0) (t := 1) C dX4_line_22 fl_RX4_10 rfl rfl ?_
    refine a_iload_n (q := 1) C dX4_line_25 rfl rfl ?_
    obtain ⟨r12, g11, h⟩ := bd_spec h
    refine a_cVi (a := 1) (st := []) C dX4_line_26 cv_RX4_263 (w_X1_isPainted x1  V10 r12 g11) rfl rfl rfl rfl rfl ⟨Nat.le_of_ble_eq_true rfl, Nat.le_of_ble_eq_true rfl, Nat.le_of_ble_eq_true rfl, Nat.le_of_ble_eq_true rfl⟩ (Nat.le_of_ble_eq_true rfl) ?_
    refine a_if_eq (tgt := 48) C dX4_line_29 (by decide) (fun c13 => ?_) (fun c13 => ?_)
    · have h := it_t c13 h
      refine a_aload_n (q := 0) C dX4_line_48 rfl rfl ?_
      refine a_bipush (v := (45 : Int32)) C dX4_line_49 rfl ?_
      obtain ⟨V15, g14, h⟩ := bd_spec h
      refine a_cVv (a := 0) (st := []) C dX4_line_51 cv_RX4_259 (w_X4_put (45 : Int32)  V10 V15 g14) rfl rfl rfl rfl rfl ⟨Nat.le_of_ble_eq_true rfl, Nat.le_of_ble_eq_true rfl, Nat.le_of_ble_eq_true rfl, Nat.le_of_ble_eq_true rfl⟩ (Nat.le_of_ble_eq_true rfl) ?_
      refine a_sub (lv' := [(0, .ref (ad 0)), (1, .int x1)]) [0, 1] rfl ?_
      exact w_X4_line_54 C hT x1 V15 h
    · have h := it_f c13 h
      refine a_aload_n (q := 0) C dX4_line_32 rfl rfl ?_
      refine a_aload_n (q := 0) C dX4_line_33 rfl rfl ?_
      refine a_getr (a := 0) (t := 1) C dX4_line_34 fl_RX4_10 rfl rfl ?_
      refine a_getr (a := 1) (t := 3) C dX4_line_37 fl_RX4_116 rfl rfl ?_
      refine a_iload_n (q := 1) C dX4_line_40 rfl rfl ?_
      obtain ⟨z16, h⟩ := asr_spec h
      refine a_iald (a := 3) (x := (V10 3 x1.toNatClampNeg)) C dX4_line_41 rfl (inb_in z16) rfl ?_
      obtain ⟨V18, g17, h⟩ := bd_spec h
      refine a_cVv (a := 0) (st := []) C dX4_line_42 cv_RX4_256 (w_X4_putDigit (V10 3 x1.toNatClampNeg)  V10 V18 g17) rfl rfl rfl rfl rfl ⟨Nat.le_of_ble_eq_true rfl, Nat.le_of_ble_eq_true rfl, Nat.le_of_ble_eq_true rfl, Nat.le_of_ble_eq_true rfl⟩ (Nat.le_of_ble_eq_true rfl) ?_
      refine a_goto (tgt := 54) C dX4_line_45 (by decide) ?_
      refine a_sub (lv' := [(0, .ref (ad 0)), (1, .int x1)]) [0, 1] rfl ?_
      exact w_X4_line_54 C hT x1 V18 h
  · obtain ⟨rfl, rfl⟩ := Prod.mk.inj (t5 E9 e9)
    exact a_xout C hT (by decide) rfl rfl
set_option maxRecDepth 20000 in
set_option maxHeartbeats 4000000 in
theorem w_X4_character_12 {p : Program} {l : Launch} {e : Env} {s : State} {m : MethodId} {args : Array Value} {below : List Frame} {meth : Method} {c : Code} {D : va_G} {cs : Nat → ClassId} {ad : Nat → Nat} {b0 : Nat} (C : Ctx p l s m args meth c D cs ad b0 RX4 cX4_character 2 (some .char)) (hT : ∀ x ∈ c.exceptionTable.toList, False)    {o9 : Int32 ⊕ String} {W9 : VT}     :
    ∀ (V : VT), d_X4_character_12 V = some (o9, W9) → AW p l e (rmOf 6 1) s m args below meth c D cs ad b0 (QF below D cs ad b0 W9 ((rX o9) ad) args s 1) 2 0 V [] [] 12 := by
  intro V h
  unfold d_X4_character_12 at h
  obtain ⟨rfl, rfl⟩ := ret2 h
  exact a_throwW (text := "the line has no such index") C hT th_RX4_272_276 (by decide +kernel) dX4_character_12 dX4_character_15 dX4_character_16 dX4_character_19 dX4_character_22 ⟨by decide, by decide, by decide, by decide⟩ (by decide) rfl rfl
set_option maxRecDepth 20000 in
set_option maxHeartbeats 4000000 in
theorem w_X4_character (x1 : Int32)  (V : VT) (o9 : Int32 ⊕ String) (W9 : VT) (h : d_X4_character x1 V = some (o9, W9)) : AM 6 1 yX4_character (.code yX4_character cX4_character 2 (some .char)) (fun ad => [.ref (ad 0), .int x1]) V W9 (rX o9) := by
  unfold d_X4_character at h
  refine AM.of (by decide +kernel) (fun ad => Nat.le_of_ble_eq_true rfl) (fun {p l e s m args below meth c D cs ad b0} C hT => ?_)
  have C : Ctx p l s m args meth c D cs ad b0 RX4 cX4_character 2 (some .char) := C
  refine a_sub (lv' := [(0, .ref (ad 0)), (1, .int x1)]) [0, 1] rfl ?_
  refine a_iload_n (q := 1) C dX4_character_0 rfl rfl ?_
  refine a_if_lt (tgt := 12) C dX4_character_1 (by decide) (fun c1 => ?_) (fun c1 => ?_)
  · have h := it_t c1 h
    refine a_sub (lv' := []) [] rfl ?_
    exact w_X4_character_12 C hT V h
  · have h := it_f c1 h
    refine a_iload_n (q := 1) C dX4_character_4 rfl rfl ?_
    refine a_aload_n (q := 0) C dX4_character_5 rfl rfl ?_
    refine a_geti (a := 0) (x := (V 0 7)) C dX4_character_6 fl_RX4_47 rfl rfl rfl ?_
    refine a_icmp_lt (tgt := 23) C dX4_character_9 (by decide) (fun c2 => ?_) (fun c2 => ?_)
    · have h := it_t c2 h
      refine a_aload_n (q := 0) C dX4_character_23 rfl rfl ?_
      refine a_getr (a := 0) (t := 108) C dX4_character_24 fl_RX4_43 rfl rfl ?_
      refine a_iload_n (q := 1) C dX4_character_27 rfl rfl ?_
      obtain ⟨z3, h⟩ := asr_spec h
      refine a_cald (a := 108) (x := (V 108 x1.toNatClampNeg)) C dX4_character_28 rfl (inb_in z3) rfl ?_
      obtain ⟨z4, h⟩ := asr_spec h
      obtain ⟨rfl, rfl⟩ := ret2 h
      exact a_zret C dX4_character_29 rfl (cok_n z4) (by decide) rfl rfl
    · have h := it_f c2 h
      refine a_sub (lv' := []) [] rfl ?_
      exact w_X4_character_12 C hT V h
set_option maxRecDepth 20000 in
set_option maxHeartbeats 4000000 in
theorem w_X2_add (x1 : Int32)  (V : VT) (W9 : VT) (h : d_X2_add x1 V = some W9) : AM 2 0 yX2_add (.code yX2_add cX2_add 2 (none)) (fun ad => [.ref (ad 105), .int x1]) V W9 (rV) := by
  unfold d_X2_add at h
  refine AM.of (by decide +kernel) (fun ad => Nat.le_of_ble_eq_true rfl) (fun {p l e s m args below meth c D cs ad b0} C hT => ?_)
  have C : Ctx p l s m args meth c D cs ad b0 RX2 cX2_add 2 (none) := C
  refine a_sub (lv' := [(0, .ref (ad 105)), (1, .int x1)]) [0, 1] rfl ?_
  refine a_aload_n (q := 0) C dX2_add_0 rfl rfl ?_
  refine a_geti (a := 105) (x := (V 105 1)) C dX2_add_1 fl_RX2_15 rfl rfl rfl ?_
  refine a_bipush (v := (60 : Int32)) C dX2_add_4 rfl ?_
  refine a_icmp_ge (tgt := 29) C dX2_add_6 (by decide) (fun c1 => ?_) (fun c1 => ?_)
  · have h := it_t c1 h
    obtain rfl := ret1 h
    exact a_vret C dX2_add_29 rfl (by decide) rfl rfl
  · have h := it_f c1 h
    refine a_aload_n (q := 0) C dX2_add_9 rfl rfl ?_
    refine a_getr (a := 105) (t := 106) C dX2_add_10 fl_RX2_9 rfl rfl ?_
    refine a_aload_n (q := 0) C dX2_add_13 rfl rfl ?_
    refine a_geti (a := 105) (x := (V 105 1)) C dX2_add_14 fl_RX2_15 rfl rfl rfl ?_
    refine a_iload_n (q := 1) C dX2_add_17 rfl rfl ?_
    obtain ⟨z2, h⟩ := asr_spec h
    refine a_cast (a := 106) C dX2_add_18 rfl (inb_in z2) ?_
    refine a_aload_n (q := 0) C dX2_add_19 rfl rfl ?_
    refine a_dup C dX2_add_20 rfl ?_
    refine a_geti (a := 105) (x := (V 105 1)) C dX2_add_21 fl_RX2_15 rfl rfl rfl ?_
    refine a_iconst (v := (1 : Int32)) C dX2_add_24 rfl ?_
    refine a_iadd C dX2_add_25 ?_
    refine a_puti (a := 105) C dX2_add_26 fp_RX2_15 rfl rfl rfl rfl ?_
    obtain rfl := ret1 h
    exact a_vret C dX2_add_29 rfl (by decide) rfl rfl
set_option maxRecDepth 20000 in
set_option maxHeartbeats 4000000 in
theorem w_X4_append (x1 : Int32)  (V : VT) (o9 : Int32 ⊕ String) (W9 : VT) (h : d_X4_append x1 V = some (o9, W9)) : AM 6 1 yX4_append (.code yX4_append cX4_append 2 (some .int)) (fun ad => [.ref (ad 0), .int x1]) V W9 (rX o9) := by
  unfold d_X4_append at h
  refine AM.of (by decide +kernel) (fun ad => Nat.le_of_ble_eq_true rfl) (fun {p l e s m args below meth c D cs ad b0} C hT => ?_)
  have C : Ctx p l s m args meth c D cs ad b0 RX4 cX4_append 2 (some .int) := C
  refine a_sub (lv' := [(0, .ref (ad 0)), (1, .int x1)]) [0, 1] rfl ?_
  refine a_aload_n (q := 0) C dX4_append_0 rfl rfl ?_
  refine a_getr (a := 0) (t := 105) C dX4_append_1 fl_RX4_39 rfl rfl ?_
  refine a_geti (a := 105) (x := (V 105 1)) C dX4_append_4 fl_RX4_277 rfl rfl rfl ?_
  refine a_bipush (v := (60 : Int32)) C dX4_append_7 rfl ?_
  refine a_icmp_lt (tgt := 23) C dX4_append_9 (by decide) (fun c1 => ?_) (fun c1 => ?_)
  · have h := it_t c1 h
    refine a_aload_n (q := 0) C dX4_append_23 rfl rfl ?_
    refine a_getr (a := 0) (t := 105) C dX4_append_24 fl_RX4_39 rfl rfl ?_
    refine a_iload_n (q := 1) C dX4_append_27 rfl rfl ?_
    obtain ⟨V3, g2, h⟩ := bd_spec h
    refine a_cVv (a := 105) (st := []) C dX4_append_28 cv_RX4_285 (w_X2_add x1  V V3 g2) rfl rfl rfl rfl rfl ⟨Nat.le_of_ble_eq_true rfl, Nat.le_of_ble_eq_true rfl, Nat.le_of_ble_eq_true rfl, Nat.le_of_ble_eq_true rfl⟩ (Nat.le_of_ble_eq_true rfl) ?_
    refine a_aload_n (q := 0) C dX4_append_31 rfl rfl ?_
    refine a_getr (a := 0) (t := 105) C dX4_append_32 fl_RX4_39 rfl rfl ?_
    refine a_geti (a := 105) (x := (V3 105 1)) C dX4_append_35 fl_RX4_277 rfl rfl rfl ?_
    obtain ⟨rfl, rfl⟩ := ret2 h
    exact a_iret C dX4_append_38 rfl (by decide) rfl rfl
  · have h := it_f c1 h
    obtain ⟨rfl, rfl⟩ := ret2 h
    exact a_throwW (text := "the input contains 60 characters") C hT th_RX4_280_284 (by decide +kernel) dX4_append_12 dX4_append_15 dX4_append_16 dX4_append_19 dX4_append_22 ⟨by decide, by decide, by decide, by decide⟩ (by decide) rfl rfl
set_option maxRecDepth 20000 in
set_option maxHeartbeats 4000000 in
theorem w_X2_shapeOf (x0 : Int32)  (V : VT) (r9 : Option Nat) (h : d_X2_shapeOf x0 V = some r9) : AM 2 0 yX2_shapeOf (.code yX2_shapeOf cX2_shapeOf 1 (some (.object "java/lang/String"))) (fun ad => [.int x0]) V V (rS r9) := by
  unfold d_X2_shapeOf at h
  refine AM.of (by decide +kernel) (fun ad => Nat.le_of_ble_eq_true rfl) (fun {p l e s m args below meth c D cs ad b0} C hT => ?_)
  have C : Ctx p l s m args meth c D cs ad b0 RX2 cX2_shapeOf 1 (some (.object "java/lang/String")) := C
  refine a_sub (lv' := [(0, .int x0)]) [0] rfl ?_
  refine a_iload_n (q := 0) C dX2_shapeOf_0 rfl rfl ?_
  by_cases c1 : x0 = (98 : Int32)
  · have h := it_t c1 h
    refine a_tswIn (tgt := 111) (v := (98 : Int32)) C dX2_shapeOf_1 c1 (by decide) (by decide) rfl (by decide) ?_
    refine a_ldcS (i := 1) C dX2_shapeOf_111 rfl ?_
    obtain rfl := ret1 h
    exact a_aret C dX2_shapeOf_113 rfl (Or.inr ⟨_, rfl⟩) (by decide) rfl rfl
  · have h := it_f c1 h
    by_cases c2 : x0 = (99 : Int32)
    · have h := it_t c2 h
      refine a_tswIn (tgt := 129) (v := (99 : Int32)) C dX2_shapeOf_1 c2 (by decide) (by decide) rfl (by decide) ?_
      refine a_null C dX2_shapeOf_129 ?_
      obtain rfl := ret1 h
      exact a_aret C dX2_shapeOf_130 rfl (Or.inl rfl) (by decide) rfl rfl
    · have h := it_f c2 h
      by_cases c3 : x0 = (100 : Int32)
      · have h := it_t c3 h
        refine a_tswIn (tgt := 129) (v := (100 : Int32)) C dX2_shapeOf_1 c3 (by decide) (by decide) rfl (by decide) ?_
        refine a_null C dX2_shapeOf_129 ?_
        obtain rfl := ret1 h
        exact a_aret C dX2_shapeOf_130 rfl (Or.inl rfl) (by decide) rfl rfl
      · have h := it_f c3 h
        by_cases c4 : x0 = (101 : Int32)
        · have h := it_t c4 h
          refine a_tswIn (tgt := 129) (v := (101 : Int32)) C dX2_shapeOf_1 c4 (by decide) (by decide) rfl (by decide) ?_
          refine a_null C dX2_shapeOf_129 ?_
          obtain rfl := ret1 h
          exact a_aret C dX2_shapeOf_130 rfl (Or.inl rfl) (by decide) rfl rfl
        · have h := it_f c4 h
          by_cases c5 : x0 = (102 : Int32)
          · have h := it_t c5 h
            refine a_tswIn (tgt := 117) (v := (102 : Int32)) C dX2_shapeOf_1 c5 (by decide) (by decide) rfl (by decide) ?_
            refine a_ldcS (i := 2) C dX2_shapeOf_117 rfl ?_
            obtain rfl := ret1 h
            exact a_aret C dX2_shapeOf_119 rfl (Or.inr ⟨_, rfl⟩) (by decide) rfl rfl
          · have h := it_f c5 h
            by_cases c6 : x0 = (103 : Int32)
            · have h := it_t c6 h
              refine a_tswIn (tgt := 129) (v := (103 : Int32)) C dX2_shapeOf_1 c6 (by decide) (by decide) rfl (by decide) ?_
              refine a_null C dX2_shapeOf_129 ?_
              obtain rfl := ret1 h
              exact a_aret C dX2_shapeOf_130 rfl (Or.inl rfl) (by decide) rfl rfl
            · have h := it_f c6 h
              by_cases c7 : x0 = (104 : Int32)
              · have h := it_t c7 h
                refine a_tswIn (tgt := 123) (v := (104 : Int32)) C dX2_shapeOf_1 c7 (by decide) (by decide) rfl (by decide) ?_
                refine a_ldcS (i := 4) C dX2_shapeOf_123 rfl ?_
                obtain rfl := ret1 h
                exact a_aret C dX2_shapeOf_125 rfl (Or.inr ⟨_, rfl⟩) (by decide) rfl rfl
              · have h := it_f c7 h
                by_cases c8 : x0 = (105 : Int32)
                · have h := it_t c8 h
                  refine a_tswIn (tgt := 129) (v := (105 : Int32)) C dX2_shapeOf_1 c8 (by decide) (by decide) rfl (by decide) ?_
                  refine a_null C dX2_shapeOf_129 ?_
                  obtain rfl := ret1 h
                  exact a_aret C dX2_shapeOf_130 rfl (Or.inl rfl) (by decide) rfl rfl
                · have h := it_f c8 h
                  by_cases c9 : x0 = (106 : Int32)
                  · have h := it_t c9 h
                    refine a_tswIn (tgt := 126) (v := (106 : Int32)) C dX2_shapeOf_1 c9 (by decide) (by decide) rfl (by decide) ?_
                    refine a_ldcS (i := 5) C dX2_shapeOf_126 rfl ?_
                    obtain rfl := ret1 h
                    exact a_aret C dX2_shapeOf_128 rfl (Or.inr ⟨_, rfl⟩) (by decide) rfl rfl
                  · have h := it_f c9 h
                    by_cases c10 : x0 = (107 : Int32)
                    · have h := it_t c10 h
                      refine a_tswIn (tgt := 129) (v := (107 : Int32)) C dX2_shapeOf_1 c10 (by decide) (by decide) rfl (by decide) ?_
                      refine a_null C dX2_shapeOf_129 ?_
                      obtain rfl := ret1 h
                      exact a_aret C dX2_shapeOf_130 rfl (Or.inl rfl) (by decide) rfl rfl
                    · have h := it_f c10 h
                      by_cases c11 : x0 = (108 : Int32)
                      · have h := it_t c11 h
                        refine a_tswIn (tgt := 129) (v := (108 : Int32)) C dX2_shapeOf_1 c11 (by decide) (by decide) rfl (by decide) ?_
                        refine a_null C dX2_shapeOf_129 ?_
                        obtain rfl := ret1 h
                        exact a_aret C dX2_shapeOf_130 rfl (Or.inl rfl) (by decide) rfl rfl
                      · have h := it_f c11 h
                        by_cases c12 : x0 = (109 : Int32)
                        · have h := it_t c12 h
                          refine a_tswIn (tgt := 129) (v := (109 : Int32)) C dX2_shapeOf_1 c12 (by decide) (by decide) rfl (by decide) ?_
                          refine a_null C dX2_shapeOf_129 ?_
                          obtain rfl := ret1 h
                          exact a_aret C dX2_shapeOf_130 rfl (Or.inl rfl) (by decide) rfl rfl
                        · have h := it_f c12 h
                          by_cases c13 : x0 = (110 : Int32)
                          · have h := it_t c13 h
                            refine a_tswIn (tgt := 129) (v := (110 : Int32)) C dX2_shapeOf_1 c13 (by decide) (by decide) rfl (by decide) ?_
                            refine a_null C dX2_shapeOf_129 ?_
                            obtain rfl := ret1 h
                            exact a_aret C dX2_shapeOf_130 rfl (Or.inl rfl) (by decide) rfl rfl
                          · have h := it_f c13 h
                            by_cases c14 : x0 = (111 : Int32)
                            · have h := it_t c14 h
                              refine a_tswIn (tgt := 129) (v := (111 : Int32)) C dX2_shapeOf_1 c14 (by decide) (by decide) rfl (by decide) ?_
                              refine a_null C dX2_shapeOf_129 ?_
                              obtain rfl := ret1 h
                              exact a_aret C dX2_shapeOf_130 rfl (Or.inl rfl) (by decide) rfl rfl
                            · have h := it_f c14 h
                              by_cases c15 : x0 = (112 : Int32)
                              · have h := it_t c15 h
                                refine a_tswIn (tgt := 108) (v := (112 : Int32)) C dX2_shapeOf_1 c15 (by decide) (by decide) rfl (by decide) ?_
                                refine a_ldcS (i := 0) C dX2_shapeOf_108 rfl ?_
                                obtain rfl := ret1 h
                                exact a_aret C dX2_shapeOf_110 rfl (Or.inr ⟨_, rfl⟩) (by decide) rfl rfl
                              · have h := it_f c15 h
                                by_cases c16 : x0 = (113 : Int32)
                                · have h := it_t c16 h
                                  refine a_tswIn (tgt := 129) (v := (113 : Int32)) C dX2_shapeOf_1 c16 (by decide) (by decide) rfl (by decide) ?_
                                  refine a_null C dX2_shapeOf_129 ?_
                                  obtain rfl := ret1 h
                                  exact a_aret C dX2_shapeOf_130 rfl (Or.inl rfl) (by decide) rfl rfl
                                · have h := it_f c16 h
                                  by_cases c17 : x0 = (114 : Int32)
                                  · have h := it_t c17 h
                                    refine a_tswIn (tgt := 129) (v := (114 : Int32)) C dX2_shapeOf_1 c17 (by decide) (by decide) rfl (by decide) ?_
                                    refine a_null C dX2_shapeOf_129 ?_
                                    obtain rfl := ret1 h
                                    exact a_aret C dX2_shapeOf_130 rfl (Or.inl rfl) (by decide) rfl rfl
                                  · have h := it_f c17 h
                                    by_cases c18 : x0 = (115 : Int32)
                                    · have h := it_t c18 h
                                      refine a_tswIn (tgt := 129) (v := (115 : Int32)) C dX2_shapeOf_1 c18 (by decide) (by decide) rfl (by decide) ?_
                                      refine a_null C dX2_shapeOf_129 ?_
                                      obtain rfl := ret1 h
                                      exact a_aret C dX2_shapeOf_130 rfl (Or.inl rfl) (by decide) rfl rfl
                                    · have h := it_f c18 h
                                      by_cases c19 : x0 = (116 : Int32)
                                      · have h := it_t c19 h
                                        refine a_tswIn (tgt := 129) (v := (116 : Int32)) C dX2_shapeOf_1 c19 (by decide) (by decide) rfl (by decide) ?_
                                        refine a_null C dX2_shapeOf_129 ?_
                                        obtain rfl := ret1 h
                                        exact a_aret C dX2_shapeOf_130 rfl (Or.inl rfl) (by decide) rfl rfl
                                      · have h := it_f c19 h
                                        by_cases c20 : x0 = (117 : Int32)
                                        · have h := it_t c20 h
                                          refine a_tswIn (tgt := 129) (v := (117 : Int32)) C dX2_shapeOf_1 c20 (by decide) (by decide) rfl (by decide) ?_
                                          refine a_null C dX2_shapeOf_129 ?_
                                          obtain rfl := ret1 h
                                          exact a_aret C dX2_shapeOf_130 rfl (Or.inl rfl) (by decide) rfl rfl
                                        · have h := it_f c20 h
                                          by_cases c21 : x0 = (118 : Int32)
                                          · have h := it_t c21 h
                                            refine a_tswIn (tgt := 129) (v := (118 : Int32)) C dX2_shapeOf_1 c21 (by decide) (by decide) rfl (by decide) ?_
                                            refine a_null C dX2_shapeOf_129 ?_
                                            obtain rfl := ret1 h
                                            exact a_aret C dX2_shapeOf_130 rfl (Or.inl rfl) (by decide) rfl rfl
                                          · have h := it_f c21 h
                                            by_cases c22 : x0 = (119 : Int32)
                                            · have h := it_t c22 h
                                              refine a_tswIn (tgt := 120) (v := (119 : Int32)) C dX2_shapeOf_1 c22 (by decide) (by decide) rfl (by decide) ?_
                                              refine a_ldcS (i := 3) C dX2_shapeOf_120 rfl ?_
                                              obtain rfl := ret1 h
                                              exact a_aret C dX2_shapeOf_122 rfl (Or.inr ⟨_, rfl⟩) (by decide) rfl rfl
                                            · have h := it_f c22 h
                                              by_cases c23 : x0 = (120 : Int32)
                                              · have h := it_t c23 h
                                                refine a_tswIn (tgt := 114) (v := (120 : Int32)) C dX2_shapeOf_1 c23 (by decide) (by decide) rfl (by decide) ?_
                                                refine a_ldcS (i := 2) C dX2_shapeOf_114 rfl ?_
                                                obtain rfl := ret1 h
                                                exact a_aret C dX2_shapeOf_116 rfl (Or.inr ⟨_, rfl⟩) (by decide) rfl rfl
                                              · have h := it_f c23 h
                                                refine a_tswOut (tgt := 129) C dX2_shapeOf_1 (by have q0 := lv_neT (a := 98) c1 rfl; have q1 := lv_neT (a := 99) c2 rfl; have q2 := lv_neT (a := 100) c3 rfl; have q3 := lv_neT (a := 101) c4 rfl; have q4 := lv_neT (a := 102) c5 rfl; have q5 := lv_neT (a := 103) c6 rfl; have q6 := lv_neT (a := 104) c7 rfl; have q7 := lv_neT (a := 105) c8 rfl; have q8 := lv_neT (a := 106) c9 rfl; have q9 := lv_neT (a := 107) c10 rfl; have q10 := lv_neT (a := 108) c11 rfl; have q11 := lv_neT (a := 109) c12 rfl; have q12 := lv_neT (a := 110) c13 rfl; have q13 := lv_neT (a := 111) c14 rfl; have q14 := lv_neT (a := 112) c15 rfl; have q15 := lv_neT (a := 113) c16 rfl; have q16 := lv_neT (a := 114) c17 rfl; have q17 := lv_neT (a := 115) c18 rfl; have q18 := lv_neT (a := 116) c19 rfl; have q19 := lv_neT (a := 117) c20 rfl; have q20 := lv_neT (a := 118) c21 rfl; have q21 := lv_neT (a := 119) c22 rfl; have q22 := lv_neT (a := 120) c23 rfl; omega) (by decide) ?_
                                                refine a_null C dX2_shapeOf_129 ?_
                                                obtain rfl := ret1 h
                                                exact a_aret C dX2_shapeOf_130 rfl (Or.inl rfl) (by decide) rfl rfl
set_option maxRecDepth 20000 in
set_option maxHeartbeats 4000000 in
theorem w_X2_takeDigits_82 {p : Program} {l : Launch} {e : Env} {s : State} {m : MethodId} {args : Array Value} {below : List Frame} {meth : Method} {c : Code} {D : va_G} {cs : Nat → ClassId} {ad : Nat → Nat} {b0 : Nat} (C : Ctx p l s m args meth c D cs ad b0 RX2 cX2_takeDigits 4 (some .boolean)) (hT : ∀ x ∈ c.exceptionTable.toList, False)    {r9 : Int32} {W9 : VT}     :
    ∀ (x2 x3 : Int32) (V : VT), d_X2_takeDigits_82 x2 x3 V = some (r9, W9) → AW p l e (rmOf 2 0) s m args below meth c D cs ad b0 (QF below D cs ad b0 W9 ((rI r9) ad) args s 0) 4 0 V [(0, .ref (ad 105)), (2, .int x2), (3, .int x3)] [] 82 := by
  intro x2 x3 V h
  unfold d_X2_takeDigits_82 at h
  refine a_iload_n (q := 2) C dX2_takeDigits_82 rfl rfl ?_
  refine a_if_eq (tgt := 94) C dX2_takeDigits_83 (by decide) (fun c1 => ?_) (fun c1 => ?_)
  · have h := it_t c1 h
    refine a_iconst (v := (0 : Int32)) C dX2_takeDigits_94 rfl ?_
    obtain ⟨rfl, rfl⟩ := ret2 h
    exact a_zret C dX2_takeDigits_95 rfl rfl (by decide) rfl rfl
  · have h := it_f c1 h
    refine a_aload_n (q := 0) C dX2_takeDigits_86 rfl rfl ?_
    refine a_geti (a := 105) (x := (V 105 5)) C dX2_takeDigits_87 fl_RX2_29 rfl rfl rfl ?_
    refine a_iconst (v := (3 : Int32)) C dX2_takeDigits_90 rfl ?_
    refine a_icmp_lt (tgt := 96) C dX2_takeDigits_91 (by decide) (fun c2 => ?_) (fun c2 => ?_)
    · have h := it_t c2 h
      refine a_aload_n (q := 0) C dX2_takeDigits_96 rfl rfl ?_
      refine a_getr (a := 105) (t := 107) C dX2_takeDigits_97 fl_RX2_25 rfl rfl ?_
      refine a_aload_n (q := 0) C dX2_takeDigits_100 rfl rfl ?_
      refine a_geti (a := 105) (x := (V 105 5)) C dX2_takeDigits_101 fl_RX2_29 rfl rfl rfl ?_
      refine a_iload_n (q := 1) C dX2_takeDigits_104 rfl rfl ?_
      obtain ⟨z3, h⟩ := asr_spec h
      refine a_iast (a := 107) C dX2_takeDigits_105 rfl (inb_in z3) ?_
      refine a_aload_n (q := 0) C dX2_takeDigits_106 rfl rfl ?_
      refine a_dup C dX2_takeDigits_107 rfl ?_
      refine a_geti (a := 105) (x := (V 105 5)) C dX2_takeDigits_108 fl_RX2_29 rfl rfl rfl ?_
      refine a_iconst (v := (1 : Int32)) C dX2_takeDigits_111 rfl ?_
      refine a_iadd C dX2_takeDigits_112 ?_
      refine a_puti (a := 105) C dX2_takeDigits_113 fp_RX2_29 rfl rfl rfl rfl ?_
      refine a_iconst (v := (1 : Int32)) C dX2_takeDigits_116 rfl ?_
      obtain ⟨rfl, rfl⟩ := ret2 h
      exact a_zret C dX2_takeDigits_117 rfl rfl (by decide) rfl rfl
    · have h := it_f c2 h
      refine a_iconst (v := (0 : Int32)) C dX2_takeDigits_94 rfl ?_
      obtain ⟨rfl, rfl⟩ := ret2 h
      exact a_zret C dX2_takeDigits_95 rfl rfl (by decide) rfl rfl
set_option maxRecDepth 20000 in
set_option maxHeartbeats 4000000 in
theorem w_X2_takeDigits_4 {p : Program} {l : Launch} {e : Env} {s : State} {m : MethodId} {args : Array Value} {below : List Frame} {meth : Method} {c : Code} {D : va_G} {cs : Nat → ClassId} {ad : Nat → Nat} {b0 : Nat} (C : Ctx p l s m args meth c D cs ad b0 RX2 cX2_takeDigits 4 (some .boolean)) (hT : ∀ x ∈ c.exceptionTable.toList, False)    {r9 : Int32} {W9 : VT}     :
    ∀ (x1 x2 x3 : Int32) (V : VT), d_X2_takeDigits_4 x1 x2 x3 V = some (r9, W9) → AW p l e (rmOf 2 0) s m args below meth c D cs ad b0 (QF below D cs ad b0 W9 ((rI r9) ad) args s 0) 4 0 V [(0, .ref (ad 105)), (1, .int x1), (2, .int x2), (3, .int x3)] [] 4 := by
  refine lo3W_ind (P := fun x1 x2 x3 V => AW p l e (rmOf 2 0) s m args below meth c D cs ad b0 (QF below D cs ad b0 W9 ((rI r9) ad) args s 0) 4 0 V [(0, .ref (ad 105)), (1, .int x1), (2, .int x2), (3, .int x3)] [] 4) ?_ FU
  intro k4 hk4 x1 x2 x3 V h
  unfold d_X2_takeDigits_4b at h
  refine a_iload_n (q := 3) C dX2_takeDigits_4 rfl rfl ?_
  refine a_iload_n (q := 1) C dX2_takeDigits_5 rfl rfl ?_
  refine a_icmp_ge (tgt := 82) C dX2_takeDigits_6 (by decide) (fun c1 => ?_) (fun c1 => ?_)
  · have h := it_t c1 h
    refine a_sub (lv' := [(0, .ref (ad 105)), (2, .int x2), (3, .int x3)]) [0, 2, 3] rfl ?_
    exact w_X2_takeDigits_82 C hT x2 x3 V h
  · have h := it_f c1 h
    refine a_aload_n (q := 0) C dX2_takeDigits_9 rfl rfl ?_
    refine a_geti (a := 105) (x := (V 105 2)) C dX2_takeDigits_10 fl_RX2_19 rfl rfl rfl ?_
    refine a_aload_n (q := 0) C dX2_takeDigits_13 rfl rfl ?_
    refine a_geti (a := 105) (x := (V 105 1)) C dX2_takeDigits_14 fl_RX2_15 rfl rfl rfl ?_
    refine a_icmp_ge (tgt := 82) C dX2_takeDigits_17 (by decide) (fun c2 => ?_) (fun c2 => ?_)
    · have h := it_t c2 h
      refine a_sub (lv' := [(0, .ref (ad 105)), (2, .int x2), (3, .int x3)]) [0, 2, 3] rfl ?_
      exact w_X2_takeDigits_82 C hT x2 x3 V h
    · have h := it_f c2 h
      refine a_aload_n (q := 0) C dX2_takeDigits_20 rfl rfl ?_
      refine a_getr (a := 105) (t := 106) C dX2_takeDigits_21 fl_RX2_9 rfl rfl ?_
      refine a_aload_n (q := 0) C dX2_takeDigits_24 rfl rfl ?_
      refine a_geti (a := 105) (x := (V 105 2)) C dX2_takeDigits_25 fl_RX2_19 rfl rfl rfl ?_
      obtain ⟨z3, h⟩ := asr_spec h
      refine a_cald (a := 106) (x := (V 106 (V 105 2).toNatClampNeg)) C dX2_takeDigits_28 rfl (inb_in z3) rfl ?_
      refine a_bipush (v := (48 : Int32)) C dX2_takeDigits_29 rfl ?_
      refine a_icmp_lt (tgt := 82) C dX2_takeDigits_31 (by decide) (fun c4 => ?_) (fun c4 => ?_)
      · have h := it_t c4 h
        refine a_sub (lv' := [(0, .ref (ad 105)), (2, .int x2), (3, .int x3)]) [0, 2, 3] rfl ?_
        exact w_X2_takeDigits_82 C hT x2 x3 V h
      · have h := it_f c4 h
        refine a_aload_n (q := 0) C dX2_takeDigits_34 rfl rfl ?_
        refine a_getr (a := 105) (t := 106) C dX2_takeDigits_35 fl_RX2_9 rfl rfl ?_
        refine a_aload_n (q := 0) C dX2_takeDigits_38 rfl rfl ?_
        refine a_geti (a := 105) (x := (V 105 2)) C dX2_takeDigits_39 fl_RX2_19 rfl rfl rfl ?_
        obtain ⟨z5, h⟩ := asr_spec h
        refine a_cald (a := 106) (x := (V 106 (V 105 2).toNatClampNeg)) C dX2_takeDigits_42 rfl (inb_in z5) rfl ?_
        refine a_bipush (v := (57 : Int32)) C dX2_takeDigits_43 rfl ?_
        refine a_icmp_gt (tgt := 82) C dX2_takeDigits_45 (by decide) (fun c6 => ?_) (fun c6 => ?_)
        · have h := it_t c6 h
          refine a_sub (lv' := [(0, .ref (ad 105)), (2, .int x2), (3, .int x3)]) [0, 2, 3] rfl ?_
          exact w_X2_takeDigits_82 C hT x2 x3 V h
        · have h := it_f c6 h
          refine a_iload_n (q := 2) C dX2_takeDigits_48 rfl rfl ?_
          refine a_bipush (v := (10 : Int32)) C dX2_takeDigits_49 rfl ?_
          refine a_imul C dX2_takeDigits_51 ?_
          refine a_aload_n (q := 0) C dX2_takeDigits_52 rfl rfl ?_
          refine a_getr (a := 105) (t := 106) C dX2_takeDigits_53 fl_RX2_9 rfl rfl ?_
          refine a_aload_n (q := 0) C dX2_takeDigits_56 rfl rfl ?_
          refine a_geti (a := 105) (x := (V 105 2)) C dX2_takeDigits_57 fl_RX2_19 rfl rfl rfl ?_
          obtain ⟨z7, h⟩ := asr_spec h
          refine a_cald (a := 106) (x := (V 106 (V 105 2).toNatClampNeg)) C dX2_takeDigits_60 rfl (inb_in z7) rfl ?_
          refine a_bipush (v := (48 : Int32)) C dX2_takeDigits_61 rfl ?_
          refine a_isub C dX2_takeDigits_63 ?_
          refine a_iadd C dX2_takeDigits_64 ?_
          refine a_istore_n (lv' := [(2, .int ((x2 * (10 : Int32)) + ((V 106 (V 105 2).toNatClampNeg) - (48 : Int32)))), (0, .ref (ad 105)), (1, .int x1), (3, .int x3)]) C dX2_takeDigits_65 rfl (by decide) rfl ?_
          refine a_aload_n (q := 1) C dX2_takeDigits_66 rfl rfl ?_
          refine a_dup C dX2_takeDigits_67 rfl ?_
          refine a_geti (a := 105) (x := (V 105 2)) C dX2_takeDigits_68 fl_RX2_19 rfl rfl rfl ?_
          refine a_iconst (v := (1 : Int32)) C dX2_takeDigits_71 rfl ?_
          refine a_iadd C dX2_takeDigits_72 ?_
          refine a_puti (a := 105) C dX2_takeDigits_73 fp_RX2_19 rfl rfl rfl rfl ?_
          refine a_iinc (q := 3) (v := (x3 + (1 : Int32))) (lv' := [(3, .int (x3 + (1 : Int32))), (2, .int ((x2 * (10 : Int32)) + ((V 106 (V 105 2).toNatClampNeg) - (48 : Int32)))), (0, .ref (ad 105)), (1, .int x1)]) C dX2_takeDigits_76 rfl rfl (by decide) rfl ?_
          refine a_goto (tgt := 4) C dX2_takeDigits_79 (by decide) ?_
          refine a_sub (lv' := [(0, .ref (ad 105)), (1, .int x1), (2, .int ((x2 * (10 : Int32)) + ((V 106 (V 105 2).toNatClampNeg) - (48 : Int32)))), (3, .int (x3 + (1 : Int32)))]) [2, 3, 1, 0] rfl ?_
          exact hk4 x1 ((x2 * (10 : Int32)) + ((V 106 (V 105 2).toNatClampNeg) - (48 : Int32))) (x3 + (1 : Int32)) (up2 V 105 2 ((V 105 2) + (1 : Int32))) h
set_option maxRecDepth 20000 in
set_option maxHeartbeats 4000000 in
theorem w_X2_takeDigits (x1 : Int32)  (V : VT) (r9 : Int32) (W9 : VT) (h : d_X2_takeDigits x1 V = some (r9, W9)) : AM 2 0 yX2_takeDigits (.code yX2_takeDigits cX2_takeDigits 4 (some .boolean)) (fun ad => [.ref (ad 105), .int x1]) V W9 (rI r9) := by
  unfold d_X2_takeDigits at h
  refine AM.of (by decide +kernel) (fun ad => Nat.le_of_ble_eq_true rfl) (fun {p l e s m args below meth c D cs ad b0} C hT => ?_)
  have C : Ctx p l s m args meth c D cs ad b0 RX2 cX2_takeDigits 4 (some .boolean) := C
  refine a_sub (lv' := [(0, .ref (ad 105)), (1, .int x1)]) [0, 1] rfl ?_
  refine a_iconst (v := (0 : Int32)) C dX2_takeDigits_0 rfl ?_
  refine a_istore_n (lv' := [(2, .int (0 : Int32)), (0, .ref (ad 105)), (1, .int x1)]) C dX2_takeDigits_1 rfl (by decide) rfl ?_
  refine a_iconst (v := (0 : Int32)) C dX2_takeDigits_2 rfl ?_
  refine a_istore_n (lv' := [(3, .int (0 : Int32)), (2, .int (0 : Int32)), (0, .ref (ad 105)), (1, .int x1)]) C dX2_takeDigits_3 rfl (by decide) rfl ?_
  refine a_sub (lv' := [(0, .ref (ad 105)), (1, .int x1), (2, .int (0 : Int32)), (3, .int (0 : Int32))]) [2, 3, 1, 0] rfl ?_
  exact w_X2_takeDigits_4 C hT x1 (0 : Int32) (0 : Int32) V h
set_option maxRecDepth 20000 in
set_option maxHeartbeats 4000000 in
theorem w_X2_takePart (x1 : Int32)  (V : VT) (r9 : Int32) (W9 : VT) (h : d_X2_takePart x1 V = some (r9, W9)) : AM 3 0 yX2_takePart (.code yX2_takePart cX2_takePart 2 (some .boolean)) (fun ad => [.ref (ad 105), .int x1]) V W9 (rI r9) := by
  unfold d_X2_takePart at h
  refine AM.of (by decide +kernel) (fun ad => Nat.le_of_ble_eq_true rfl) (fun {p l e s m args below meth c D cs ad b0} C hT => ?_)
  have C : Ctx p l s m args meth c D cs ad b0 RX2 cX2_takePart 2 (some .boolean) := C
  refine a_sub (lv' := [(0, .ref (ad 105)), (1, .int x1)]) [0, 1] rfl ?_
  refine a_iload_n (q := 1) C dX2_takePart_0 rfl rfl ?_
  refine a_bipush (v := (100 : Int32)) C dX2_takePart_1 rfl ?_
  refine a_icmp_ne (tgt := 12) C dX2_takePart_3 (by decide) (fun c1 => ?_) (fun c1 => ?_)
  · have h := it_f c1 h
    refine a_iload_n (q := 1) C dX2_takePart_12 rfl rfl ?_
    refine a_bipush (v := (110 : Int32)) C dX2_takePart_13 rfl ?_
    refine a_icmp_ne (tgt := 24) C dX2_takePart_15 (by decide) (fun c2 => ?_) (fun c2 => ?_)
    · have h := it_f c2 h
      refine a_aload_n (q := 0) C dX2_takePart_24 rfl rfl ?_
      refine a_geti (a := 105) (x := (V 105 2)) C dX2_takePart_25 fl_RX2_19 rfl rfl rfl ?_
      refine a_aload_n (q := 0) C dX2_takePart_28 rfl rfl ?_
      refine a_geti (a := 105) (x := (V 105 1)) C dX2_takePart_29 fl_RX2_15 rfl rfl rfl ?_
      refine a_icmp_ge (tgt := 48) C dX2_takePart_32 (by decide) (fun c3 => ?_) (fun c3 => ?_)
      · have h := it_t c3 h
        refine a_iconst (v := (0 : Int32)) C dX2_takePart_48 rfl ?_
        obtain ⟨rfl, rfl⟩ := ret2 h
        exact a_zret C dX2_takePart_49 rfl rfl (by decide) rfl rfl
      · have h := it_f c3 h
        refine a_aload_n (q := 0) C dX2_takePart_35 rfl rfl ?_
        refine a_getr (a := 105) (t := 106) C dX2_takePart_36 fl_RX2_9 rfl rfl ?_
        refine a_aload_n (q := 0) C dX2_takePart_39 rfl rfl ?_
        refine a_geti (a := 105) (x := (V 105 2)) C dX2_takePart_40 fl_RX2_19 rfl rfl rfl ?_
        obtain ⟨z4, h⟩ := asr_spec h
        refine a_cald (a := 106) (x := (V 106 (V 105 2).toNatClampNeg)) C dX2_takePart_43 rfl (inb_in z4) rfl ?_
        refine a_iload_n (q := 1) C dX2_takePart_44 rfl rfl ?_
        refine a_icmp_eq (tgt := 50) C dX2_takePart_45 (by decide) (fun c5 => ?_) (fun c5 => ?_)
        · have h := it_t c5 h
          refine a_aload_n (q := 0) C dX2_takePart_50 rfl rfl ?_
          refine a_dup C dX2_takePart_51 rfl ?_
          refine a_geti (a := 105) (x := (V 105 2)) C dX2_takePart_52 fl_RX2_19 rfl rfl rfl ?_
          refine a_iconst (v := (1 : Int32)) C dX2_takePart_55 rfl ?_
          refine a_iadd C dX2_takePart_56 ?_
          refine a_puti (a := 105) C dX2_takePart_57 fp_RX2_19 rfl rfl rfl rfl ?_
          refine a_iconst (v := (1 : Int32)) C dX2_takePart_60 rfl ?_
          obtain ⟨rfl, rfl⟩ := ret2 h
          exact a_zret C dX2_takePart_61 rfl rfl (by decide) rfl rfl
        · have h := it_f c5 h
          refine a_iconst (v := (0 : Int32)) C dX2_takePart_48 rfl ?_
          obtain ⟨rfl, rfl⟩ := ret2 h
          exact a_zret C dX2_takePart_49 rfl rfl (by decide) rfl rfl
    · have h := it_t c2 h
      refine a_aload_n (q := 0) C dX2_takePart_18 rfl rfl ?_
      refine a_iconst (v := (2 : Int32)) C dX2_takePart_19 rfl ?_
      obtain ⟨r8, V7, g6, h⟩ := bw_spec h
      refine a_cVi (a := 105) (st := []) C dX2_takePart_20 cv_RX2_65 (w_X2_takeDigits (2 : Int32)  V r8 V7 g6) rfl rfl rfl rfl rfl ⟨Nat.le_of_ble_eq_true rfl, Nat.le_of_ble_eq_true rfl, Nat.le_of_ble_eq_true rfl, Nat.le_of_ble_eq_true rfl⟩ (Nat.le_of_ble_eq_true rfl) ?_
      obtain ⟨z9, h⟩ := asr_spec h
      obtain ⟨rfl, rfl⟩ := ret2 h
      exact a_zret C dX2_takePart_23 rfl (zok_n z9) (by decide) rfl rfl
  · have h := it_t c1 h
    refine a_aload_n (q := 0) C dX2_takePart_6 rfl rfl ?_
    refine a_iconst (v := (1 : Int32)) C dX2_takePart_7 rfl ?_
    obtain ⟨r12, V11, g10, h⟩ := bw_spec h
    refine a_cVi (a := 105) (st := []) C dX2_takePart_8 cv_RX2_65 (w_X2_takeDigits (1 : Int32)  V r12 V11 g10) rfl rfl rfl rfl rfl ⟨Nat.le_of_ble_eq_true rfl, Nat.le_of_ble_eq_true rfl, Nat.le_of_ble_eq_true rfl, Nat.le_of_ble_eq_true rfl⟩ (Nat.le_of_ble_eq_true rfl) ?_
    obtain ⟨z13, h⟩ := asr_spec h
    obtain ⟨rfl, rfl⟩ := ret2 h
    exact a_zret C dX2_takePart_11 rfl (zok_n z13) (by decide) rfl rfl
set_option maxRecDepth 20000 in
set_option maxHeartbeats 4000000 in
theorem w_X2_takeParts_57 {p : Program} {l : Launch} {e : Env} {s : State} {m : MethodId} {args : Array Value} {below : List Frame} {meth : Method} {c : Code} {D : va_G} {cs : Nat → ClassId} {ad : Nat → Nat} {b0 : Nat} (C : Ctx p l s m args meth c D cs ad b0 RX2 cX2_takeParts 3 (some .boolean)) (hT : ∀ x ∈ c.exceptionTable.toList, False)  {i5 : Nat}  {r9 : Int32} {W9 : VT}   (hi5 : isStr i5 = true)  :
    ∀ (x2 : Int32) (V : VT), d_X2_takeParts_57 i5 x2 V = some (r9, W9) → AW p l e (rmOf 8 0) s m args below meth c D cs ad b0 (QF below D cs ad b0 W9 ((rI r9) ad) args s 0) 3 0 V [(0, .ref (ad 105)), (1, .ref (ad (200 + i5))), (2, .int x2)] [] 57 := by
  refine lo1W_ind (P := fun x2 V => AW p l e (rmOf 8 0) s m args below meth c D cs ad b0 (QF below D cs ad b0 W9 ((rI r9) ad) args s 0) 3 0 V [(0, .ref (ad 105)), (1, .ref (ad (200 + i5))), (2, .int x2)] [] 57) ?_ FU
  intro k57 hk57 x2 V h
  unfold d_X2_takeParts_57b at h
  refine a_iload_n (q := 2) C dX2_takeParts_57 rfl rfl ?_
  refine a_aload_n (q := 1) C dX2_takeParts_58 rfl rfl ?_
  refine a_strLen (i := i5) C dX2_takeParts_59 hi5 ⟨Nat.le_of_ble_eq_true rfl, Nat.le_of_ble_eq_true rfl, Nat.le_of_ble_eq_true rfl, Nat.le_of_ble_eq_true rfl⟩ (Nat.le_of_ble_eq_true rfl) ?_
  refine a_icmp_ge (tgt := 85) C dX2_takeParts_62 (by decide) (fun c1 => ?_) (fun c1 => ?_)
  · have h := it_t c1 h
    refine a_iconst (v := (1 : Int32)) C dX2_takeParts_85 rfl ?_
    obtain ⟨rfl, rfl⟩ := ret2 h
    exact a_zret C dX2_takeParts_86 rfl rfl (by decide) rfl rfl
  · have h := it_f c1 h
    refine a_aload_n (q := 0) C dX2_takeParts_65 rfl rfl ?_
    refine a_aload_n (q := 1) C dX2_takeParts_66 rfl rfl ?_
    refine a_iload_n (q := 2) C dX2_takeParts_67 rfl rfl ?_
    obtain ⟨z2, h⟩ := asr_spec h
    refine a_strCh (i := i5) C dX2_takeParts_68 hi5 z2 ⟨Nat.le_of_ble_eq_true rfl, Nat.le_of_ble_eq_true rfl, Nat.le_of_ble_eq_true rfl, Nat.le_of_ble_eq_true rfl⟩ (Nat.le_of_ble_eq_true rfl) ?_
    obtain ⟨r5, V4, g3, h⟩ := bw_spec h
    refine a_cVi (a := 105) (st := []) C dX2_takeParts_71 cv_RX2_49 (w_X2_takePart (strCh i5 x2.toNatClampNeg)  V r5 V4 g3) rfl rfl rfl rfl rfl ⟨Nat.le_of_ble_eq_true rfl, Nat.le_of_ble_eq_true rfl, Nat.le_of_ble_eq_true rfl, Nat.le_of_ble_eq_true rfl⟩ (Nat.le_of_ble_eq_true rfl) ?_
    refine a_if_ne (tgt := 79) C dX2_takeParts_74 (by decide) (fun c6 => ?_) (fun c6 => ?_)
    · have h := it_f c6 h
      refine a_iinc (q := 2) (v := (x2 + (1 : Int32))) (lv' := [(2, .int (x2 + (1 : Int32))), (0, .ref (ad 105)), (1, .ref (ad (200 + i5)))]) C dX2_takeParts_79 rfl rfl (by decide) rfl ?_
      refine a_goto (tgt := 57) C dX2_takeParts_82 (by decide) ?_
      refine a_sub (lv' := [(0, .ref (ad 105)), (1, .ref (ad (200 + i5))), (2, .int (x2 + (1 : Int32)))]) [1, 2, 0] rfl ?_
      exact hk57 (x2 + (1 : Int32)) V4 h
    · have h := it_t c6 h
      refine a_iconst (v := (0 : Int32)) C dX2_takeParts_77 rfl ?_
      obtain ⟨rfl, rfl⟩ := ret2 h
      exact a_zret C dX2_takeParts_78 rfl rfl (by decide) rfl rfl
set_option maxRecDepth 20000 in
set_option maxHeartbeats 4000000 in
theorem w_X2_takeParts   (V : VT) (r9 : Int32) (W9 : VT) (h : d_X2_takeParts  V = some (r9, W9)) : AM 8 0 yX2_takeParts (.code yX2_takeParts cX2_takeParts 3 (some .boolean)) (fun ad => [.ref (ad 105)]) V W9 (rI r9) := by
  unfold d_X2_takeParts at h
  refine AM.of (by decide +kernel) (fun ad => Nat.le_of_ble_eq_true rfl) (fun {p l e s m args below meth c D cs ad b0} C hT => ?_)
  have C : Ctx p l s m args meth c D cs ad b0 RX2 cX2_takeParts 3 (some .boolean) := C
  refine a_sub (lv' := [(0, .ref (ad 105))]) [0] rfl ?_
  refine a_aload_n (q := 0) C dX2_takeParts_0 rfl rfl ?_
  refine a_geti (a := 105) (x := (V 105 2)) C dX2_takeParts_1 fl_RX2_19 rfl rfl rfl ?_
  refine a_aload_n (q := 0) C dX2_takeParts_4 rfl rfl ?_
  refine a_geti (a := 105) (x := (V 105 1)) C dX2_takeParts_5 fl_RX2_15 rfl rfl rfl ?_
  refine a_icmp_lt (tgt := 13) C dX2_takeParts_8 (by decide) (fun c1 => ?_) (fun c1 => ?_)
  · have h := it_t c1 h
    refine a_aload_n (q := 0) C dX2_takeParts_13 rfl rfl ?_
    refine a_aload_n (q := 0) C dX2_takeParts_14 rfl rfl ?_
    refine a_getr (a := 105) (t := 106) C dX2_takeParts_15 fl_RX2_9 rfl rfl ?_
    refine a_aload_n (q := 0) C dX2_takeParts_18 rfl rfl ?_
    refine a_geti (a := 105) (x := (V 105 2)) C dX2_takeParts_19 fl_RX2_19 rfl rfl rfl ?_
    obtain ⟨z2, h⟩ := asr_spec h
    refine a_cald (a := 106) (x := (V 106 (V 105 2).toNatClampNeg)) C dX2_takeParts_22 rfl (inb_in z2) rfl ?_
    refine a_puti (a := 105) C dX2_takeParts_23 fp_RX2_22 rfl rfl rfl rfl ?_
    refine a_aload_n (q := 0) C dX2_takeParts_26 rfl rfl ?_
    refine a_geti (a := 105) (x := (V 106 (V 105 2).toNatClampNeg)) C dX2_takeParts_27 fl_RX2_22 rfl rfl rfl ?_
    obtain ⟨o4, g3, h⟩ := bd_spec h
    refine a_cSs (st := []) C dX2_takeParts_30 cv_RX2_36 (w_X2_shapeOf (V 106 (V 105 2).toNatClampNeg)  (up2 V 105 3 (V 106 (V 105 2).toNatClampNeg)) o4 g3) rfl rfl rfl ⟨Nat.le_of_ble_eq_true rfl, Nat.le_of_ble_eq_true rfl, Nat.le_of_ble_eq_true rfl, Nat.le_of_ble_eq_true rfl⟩ (Nat.le_of_ble_eq_true rfl) (fun v9 e9 => ?_)
    cases o4 with
    | none =>
      cases e9
      have h := mo_n h
      refine a_astore_nN (lv' := [(1, .null), (0, .ref (ad 105))]) C dX2_takeParts_33 rfl (by decide) rfl ?_
      refine a_aload_nN (q := 0) C dX2_takeParts_34 rfl rfl ?_
      refine a_ifnonnullN C dX2_takeParts_35 ?_
      refine a_iconst (v := (0 : Int32)) C dX2_takeParts_38 rfl ?_
      obtain ⟨rfl, rfl⟩ := ret2 h
      exact a_zret C dX2_takeParts_39 rfl rfl (by decide) rfl rfl
    | some i5 =>
      cases e9
      have h := mo_s h
      have hi5 := ds_str _ g3
      refine a_astore_n (lv' := [(1, .ref (ad (200 + i5))), (0, .ref (ad 105))]) C dX2_takeParts_33 rfl (by decide) rfl ?_
      refine a_aload_n (q := 0) C dX2_takeParts_34 rfl rfl ?_
      refine a_ifnonnull (tgt := 40) C dX2_takeParts_35 (by decide) ?_
      refine a_aload_n (q := 1) C dX2_takeParts_40 rfl rfl ?_
      refine a_dup C dX2_takeParts_41 rfl ?_
      refine a_geti (a := 105) (x := (V 105 2)) C dX2_takeParts_42 fl_RX2_19 rfl rfl rfl ?_
      refine a_iconst (v := (1 : Int32)) C dX2_takeParts_45 rfl ?_
      refine a_iadd C dX2_takeParts_46 ?_
      refine a_puti (a := 105) C dX2_takeParts_47 fp_RX2_19 rfl rfl rfl rfl ?_
      refine a_aload_n (q := 1) C dX2_takeParts_50 rfl rfl ?_
      refine a_iconst (v := (0 : Int32)) C dX2_takeParts_51 rfl ?_
      refine a_puti (a := 105) C dX2_takeParts_52 fp_RX2_29 rfl rfl rfl rfl ?_
      refine a_iconst (v := (0 : Int32)) C dX2_takeParts_55 rfl ?_
      refine a_istore_n (lv' := [(2, .int (0 : Int32)), (1, .ref (ad (200 + i5))), (0, .ref (ad 105))]) C dX2_takeParts_56 rfl (by decide) rfl ?_
      refine a_sub (lv' := [(0, .ref (ad 105)), (1, .ref (ad (200 + i5))), (2, .int (0 : Int32))]) [2, 1, 0] rfl ?_
      exact w_X2_takeParts_57 C hT hi5 (0 : Int32) (up2 (up2 (up2 V 105 3 (V 106 (V 105 2).toNatClampNeg)) 105 2 ((V 105 2) + (1 : Int32))) 105 5 (0 : Int32)) h
  · have h := it_f c1 h
    refine a_iconst (v := (0 : Int32)) C dX2_takeParts_11 rfl ?_
    obtain ⟨rfl, rfl⟩ := ret2 h
    exact a_zret C dX2_takeParts_12 rfl rfl (by decide) rfl rfl
set_option maxRecDepth 20000 in
set_option maxHeartbeats 4000000 in
theorem w_X2_findError_7 {p : Program} {l : Launch} {e : Env} {s : State} {m : MethodId} {args : Array Value} {below : List Frame} {meth : Method} {c : Code} {D : va_G} {cs : Nat → ClassId} {ad : Nat → Nat} {b0 : Nat} (C : Ctx p l s m args meth c D cs ad b0 RX2 cX2_findError 2 (some .int)) (hT : ∀ x ∈ c.exceptionTable.toList, False)    {r9 : Int32} {W9 : VT}     :
    ∀ (x1 : Int32) (V : VT), d_X2_findError_7 x1 V = some (r9, W9) → AW p l e (rmOf 9 0) s m args below meth c D cs ad b0 (QF below D cs ad b0 W9 ((rI r9) ad) args s 0) 2 0 V [(0, .ref (ad 105)), (1, .int x1)] [] 7 := by
  refine lo1W_ind (P := fun x1 V => AW p l e (rmOf 9 0) s m args below meth c D cs ad b0 (QF below D cs ad b0 W9 ((rI r9) ad) args s 0) 2 0 V [(0, .ref (ad 105)), (1, .int x1)] [] 7) ?_ FU
  intro k7 hk7 x1 V h
  unfold d_X2_findError_7b at h
  refine a_iload_n (q := 1) C dX2_findError_7 rfl rfl ?_
  refine a_bipush (v := (60 : Int32)) C dX2_findError_8 rfl ?_
  refine a_icmp_ge (tgt := 73) C dX2_findError_10 (by decide) (fun c1 => ?_) (fun c1 => ?_)
  · have h := it_t c1 h
    refine a_aload_n (q := 0) C dX2_findError_73 rfl rfl ?_
    refine a_geti (a := 105) (x := (V 105 2)) C dX2_findError_74 fl_RX2_19 rfl rfl rfl ?_
    obtain ⟨rfl, rfl⟩ := ret2 h
    exact a_iret C dX2_findError_77 rfl (by decide) rfl rfl
  · have h := it_f c1 h
    refine a_aload_n (q := 0) C dX2_findError_13 rfl rfl ?_
    obtain ⟨r4, V3, g2, h⟩ := bw_spec h
    refine a_cVi (a := 105) (st := []) C dX2_findError_14 cv_RX2_32 (w_X2_takeParts   V r4 V3 g2) rfl rfl rfl rfl rfl ⟨Nat.le_of_ble_eq_true rfl, Nat.le_of_ble_eq_true rfl, Nat.le_of_ble_eq_true rfl, Nat.le_of_ble_eq_true rfl⟩ (Nat.le_of_ble_eq_true rfl) ?_
    refine a_if_ne (tgt := 25) C dX2_findError_17 (by decide) (fun c5 => ?_) (fun c5 => ?_)
    · have h := it_f c5 h
      refine a_aload_n (q := 0) C dX2_findError_25 rfl rfl ?_
      refine a_geti (a := 105) (x := (V3 105 2)) C dX2_findError_26 fl_RX2_19 rfl rfl rfl ?_
      refine a_aload_n (q := 0) C dX2_findError_29 rfl rfl ?_
      refine a_geti (a := 105) (x := (V3 105 1)) C dX2_findError_30 fl_RX2_15 rfl rfl rfl ?_
      refine a_icmp_lt (tgt := 38) C dX2_findError_33 (by decide) (fun c6 => ?_) (fun c6 => ?_)
      · have h := it_t c6 h
        refine a_aload_n (q := 0) C dX2_findError_38 rfl rfl ?_
        refine a_getr (a := 105) (t := 106) C dX2_findError_39 fl_RX2_9 rfl rfl ?_
        refine a_aload_n (q := 0) C dX2_findError_42 rfl rfl ?_
        refine a_geti (a := 105) (x := (V3 105 2)) C dX2_findError_43 fl_RX2_19 rfl rfl rfl ?_
        obtain ⟨z7, h⟩ := asr_spec h
        refine a_cald (a := 106) (x := (V3 106 (V3 105 2).toNatClampNeg)) C dX2_findError_46 rfl (inb_in z7) rfl ?_
        refine a_bipush (v := (59 : Int32)) C dX2_findError_47 rfl ?_
        refine a_icmp_eq (tgt := 57) C dX2_findError_49 (by decide) (fun c8 => ?_) (fun c8 => ?_)
        · have h := it_t c8 h
          refine a_aload_n (q := 0) C dX2_findError_57 rfl rfl ?_
          refine a_dup C dX2_findError_58 rfl ?_
          refine a_geti (a := 105) (x := (V3 105 2)) C dX2_findError_59 fl_RX2_19 rfl rfl rfl ?_
          refine a_iconst (v := (1 : Int32)) C dX2_findError_62 rfl ?_
          refine a_iadd C dX2_findError_63 ?_
          refine a_puti (a := 105) C dX2_findError_64 fp_RX2_19 rfl rfl rfl rfl ?_
          refine a_iinc (q := 1) (v := (x1 + (1 : Int32))) (lv' := [(1, .int (x1 + (1 : Int32))), (0, .ref (ad 105))]) C dX2_findError_67 rfl rfl (by decide) rfl ?_
          refine a_goto (tgt := 7) C dX2_findError_70 (by decide) ?_
          refine a_sub (lv' := [(0, .ref (ad 105)), (1, .int (x1 + (1 : Int32)))]) [1, 0] rfl ?_
          exact hk7 (x1 + (1 : Int32)) (up2 V3 105 2 ((V3 105 2) + (1 : Int32))) h
        · have h := it_f c8 h
          refine a_aload_n (q := 0) C dX2_findError_52 rfl rfl ?_
          refine a_geti (a := 105) (x := (V3 105 2)) C dX2_findError_53 fl_RX2_19 rfl rfl rfl ?_
          obtain ⟨rfl, rfl⟩ := ret2 h
          exact a_iret C dX2_findError_56 rfl (by decide) rfl rfl
      · have h := it_f c6 h
        refine a_iconst (v := (-1 : Int32)) C dX2_findError_36 rfl ?_
        obtain ⟨rfl, rfl⟩ := ret2 h
        exact a_iret C dX2_findError_37 rfl (by decide) rfl rfl
    · have h := it_t c5 h
      refine a_aload_n (q := 0) C dX2_findError_20 rfl rfl ?_
      refine a_geti (a := 105) (x := (V3 105 2)) C dX2_findError_21 fl_RX2_19 rfl rfl rfl ?_
      obtain ⟨rfl, rfl⟩ := ret2 h
      exact a_iret C dX2_findError_24 rfl (by decide) rfl rfl
set_option maxRecDepth 20000 in
set_option maxHeartbeats 4000000 in
theorem w_X2_findError   (V : VT) (r9 : Int32) (W9 : VT) (h : d_X2_findError  V = some (r9, W9)) : AM 9 0 yX2_findError (.code yX2_findError cX2_findError 2 (some .int)) (fun ad => [.ref (ad 105)]) V W9 (rI r9) := by
  unfold d_X2_findError at h
  refine AM.of (by decide +kernel) (fun ad => Nat.le_of_ble_eq_true rfl) (fun {p l e s m args below meth c D cs ad b0} C hT => ?_)
  have C : Ctx p l s m args meth c D cs ad b0 RX2 cX2_findError 2 (some .int) := C
  refine a_sub (lv' := [(0, .ref (ad 105))]) [0] rfl ?_
  refine a_aload_n (q := 0) C dX2_findError_0 rfl rfl ?_
  refine a_iconst (v := (0 : Int32)) C dX2_findError_1 rfl ?_
  refine a_puti (a := 105) C dX2_findError_2 fp_RX2_19 rfl rfl rfl rfl ?_
  refine a_iconst (v := (0 : Int32)) C dX2_findError_5 rfl ?_
  refine a_istore_n (lv' := [(1, .int (0 : Int32)), (0, .ref (ad 105))]) C dX2_findError_6 rfl (by decide) rfl ?_
  refine a_sub (lv' := [(0, .ref (ad 105)), (1, .int (0 : Int32))]) [1, 0] rfl ?_
  exact w_X2_findError_7 C hT (0 : Int32) (up2 V 105 2 (0 : Int32)) h
set_option maxRecDepth 20000 in
set_option maxHeartbeats 4000000 in
theorem w_X2_takeOrder   (V : VT) (r9 : Int32) (W9 : VT) (h : d_X2_takeOrder  V = some (r9, W9)) : AM 9 0 yX2_takeOrder (.code yX2_takeOrder cX2_takeOrder 2 (some .boolean)) (fun ad => [.ref (ad 105)]) V W9 (rI r9) := by
  unfold d_X2_takeOrder at h
  refine AM.of (by decide +kernel) (fun ad => Nat.le_of_ble_eq_true rfl) (fun {p l e s m args below meth c D cs ad b0} C hT => ?_)
  have C : Ctx p l s m args meth c D cs ad b0 RX2 cX2_takeOrder 2 (some .boolean) := C
  refine a_sub (lv' := [(0, .ref (ad 105))]) [0] rfl ?_
  refine a_aload_n (q := 0) C dX2_takeOrder_0 rfl rfl ?_
  obtain ⟨r3, V2, g1, h⟩ := bw_spec h
  refine a_cVi (a := 105) (st := []) C dX2_takeOrder_1 cv_RX2_32 (w_X2_takeParts   V r3 V2 g1) rfl rfl rfl rfl rfl ⟨Nat.le_of_ble_eq_true rfl, Nat.le_of_ble_eq_true rfl, Nat.le_of_ble_eq_true rfl, Nat.le_of_ble_eq_true rfl⟩ (Nat.le_of_ble_eq_true rfl) ?_
  refine a_istore_n (lv' := [(1, .int r3), (0, .ref (ad 105))]) C dX2_takeOrder_4 rfl (by decide) rfl ?_
  refine a_aload_n (q := 1) C dX2_takeOrder_5 rfl rfl ?_
  refine a_dup C dX2_takeOrder_6 rfl ?_
  refine a_geti (a := 105) (x := (V2 105 2)) C dX2_takeOrder_7 fl_RX2_19 rfl rfl rfl ?_
  refine a_iconst (v := (1 : Int32)) C dX2_takeOrder_10 rfl ?_
  refine a_iadd C dX2_takeOrder_11 ?_
  refine a_puti (a := 105) C dX2_takeOrder_12 fp_RX2_19 rfl rfl rfl rfl ?_
  refine a_iload_n (q := 0) C dX2_takeOrder_15 rfl rfl ?_
  obtain ⟨z4, h⟩ := asr_spec h
  obtain ⟨rfl, rfl⟩ := ret2 h
  exact a_zret C dX2_takeOrder_16 rfl (zok_n z4) (by decide) rfl rfl
set_option maxRecDepth 20000 in
set_option maxHeartbeats 4000000 in
theorem w_X4_isInRange (x1 : Int32) (x2 : Int32) (x3 : Int32) (x4 : Int32)  (V : VT) (r9 : Int32) (h : d_X4_isInRange x1 x2 x3 x4 V = some r9) : AM 3 0 yX4_isInRange (.code yX4_isInRange cX4_isInRange 5 (some .boolean)) (fun ad => [.ref (ad 0), .int x1, .int x2, .int x3, .int x4]) V V (rI r9) := by
  unfold d_X4_isInRange at h
  refine AM.of (by decide +kernel) (fun ad => Nat.le_of_ble_eq_true rfl) (fun {p l e s m args below meth c D cs ad b0} C hT => ?_)
  have C : Ctx p l s m args meth c D cs ad b0 RX4 cX4_isInRange 5 (some .boolean) := C
  refine a_sub (lv' := [(0, .ref (ad 0)), (1, .int x1), (2, .int x2), (3, .int x3), (4, .int x4)]) [0, 1, 2, 3, 4] rfl ?_
  refine a_iload_n (q := 1) C dX4_isInRange_0 rfl rfl ?_
  by_cases c1 : x1 = (98 : Int32)
  · have h := it_t c1 h
    refine a_lsw (tgt := 76) C dX4_isInRange_1 (by decide) ((by rw [c1] <;> rfl)) (by decide) ?_
    refine a_aload_n (q := 0) C dX4_isInRange_76 rfl rfl ?_
    refine a_getr (a := 0) (t := 1) C dX4_isInRange_77 fl_RX4_10 rfl rfl ?_
    refine a_iload_n (q := 2) C dX4_isInRange_80 rfl rfl ?_
    obtain ⟨r3, g2, h⟩ := bd_spec h
    refine a_cVi (a := 1) (st := []) C dX4_isInRange_81 cv_RX4_357 (w_X1_isCountry x2  V r3 g2) rfl rfl rfl rfl rfl ⟨Nat.le_of_ble_eq_true rfl, Nat.le_of_ble_eq_true rfl, Nat.le_of_ble_eq_true rfl, Nat.le_of_ble_eq_true rfl⟩ (Nat.le_of_ble_eq_true rfl) ?_
    refine a_if_eq (tgt := 102) C dX4_isInRange_84 (by decide) (fun c4 => ?_) (fun c4 => ?_)
    · have h := it_t c4 h
      refine a_iconst (v := (0 : Int32)) C dX4_isInRange_102 rfl ?_
      obtain rfl := ret1 h
      exact a_zret C dX4_isInRange_103 rfl rfl (by decide) rfl rfl
    · have h := it_f c4 h
      refine a_aload_n (q := 0) C dX4_isInRange_87 rfl rfl ?_
      refine a_getr (a := 0) (t := 1) C dX4_isInRange_88 fl_RX4_10 rfl rfl ?_
      refine a_iload_n (q := 3) C dX4_isInRange_91 rfl rfl ?_
      obtain ⟨r6, g5, h⟩ := bd_spec h
      refine a_cVi (a := 1) (st := []) C dX4_isInRange_92 cv_RX4_357 (w_X1_isCountry x3  V r6 g5) rfl rfl rfl rfl rfl ⟨Nat.le_of_ble_eq_true rfl, Nat.le_of_ble_eq_true rfl, Nat.le_of_ble_eq_true rfl, Nat.le_of_ble_eq_true rfl⟩ (Nat.le_of_ble_eq_true rfl) ?_
      refine a_if_eq (tgt := 102) C dX4_isInRange_95 (by decide) (fun c7 => ?_) (fun c7 => ?_)
      · have h := it_t c7 h
        refine a_iconst (v := (0 : Int32)) C dX4_isInRange_102 rfl ?_
        obtain rfl := ret1 h
        exact a_zret C dX4_isInRange_103 rfl rfl (by decide) rfl rfl
      · have h := it_f c7 h
        refine a_iconst (v := (1 : Int32)) C dX4_isInRange_98 rfl ?_
        refine a_goto (tgt := 103) C dX4_isInRange_99 (by decide) ?_
        obtain rfl := ret1 h
        exact a_zret C dX4_isInRange_103 rfl rfl (by decide) rfl rfl
  · have h := it_f c1 h
    by_cases c8 : x1 = (104 : Int32)
    · have h := it_t c8 h
      refine a_lsw (tgt := 136) C dX4_isInRange_1 (by decide) ((by rw [c8] <;> rfl)) (by decide) ?_
      refine a_iload_n (q := 2) C dX4_isInRange_136 rfl rfl ?_
      obtain ⟨r10, g9, h⟩ := bd_spec h
      refine a_cSi (st := []) C dX4_isInRange_137 cv_RX4_141 (w_X4_isManyHues x2  V r10 g9) rfl rfl rfl ⟨Nat.le_of_ble_eq_true rfl, Nat.le_of_ble_eq_true rfl, Nat.le_of_ble_eq_true rfl, Nat.le_of_ble_eq_true rfl⟩ (Nat.le_of_ble_eq_true rfl) ?_
      obtain ⟨z11, h⟩ := asr_spec h
      obtain rfl := ret1 h
      exact a_zret C dX4_isInRange_140 rfl (zok_n z11) (by decide) rfl rfl
    · have h := it_f c8 h
      by_cases c12 : x1 = (106 : Int32)
      · have h := it_t c12 h
        refine a_lsw (tgt := 141) C dX4_isInRange_1 (by decide) ((by rw [c12] <;> rfl)) (by decide) ?_
        refine a_iload_n (q := 2) C dX4_isInRange_141 rfl rfl ?_
        obtain ⟨r14, g13, h⟩ := bd_spec h
        refine a_cSi (st := []) C dX4_isInRange_142 cv_RX4_362 (w_X4_isHue x2  V r14 g13) rfl rfl rfl ⟨Nat.le_of_ble_eq_true rfl, Nat.le_of_ble_eq_true rfl, Nat.le_of_ble_eq_true rfl, Nat.le_of_ble_eq_true rfl⟩ (Nat.le_of_ble_eq_true rfl) ?_
        refine a_if_eq (tgt := 159) C dX4_isInRange_145 (by decide) (fun c15 => ?_) (fun c15 => ?_)
        · have h := it_t c15 h
          refine a_iconst (v := (0 : Int32)) C dX4_isInRange_159 rfl ?_
          obtain rfl := ret1 h
          exact a_zret C dX4_isInRange_160 rfl rfl (by decide) rfl rfl
        · have h := it_f c15 h
          refine a_iload_n (q := 3) C dX4_isInRange_148 rfl rfl ?_
          obtain ⟨r17, g16, h⟩ := bd_spec h
          refine a_cSi (st := []) C dX4_isInRange_149 cv_RX4_156 (w_X4_isManyPots x3  V r17 g16) rfl rfl rfl ⟨Nat.le_of_ble_eq_true rfl, Nat.le_of_ble_eq_true rfl, Nat.le_of_ble_eq_true rfl, Nat.le_of_ble_eq_true rfl⟩ (Nat.le_of_ble_eq_true rfl) ?_
          refine a_if_eq (tgt := 159) C dX4_isInRange_152 (by decide) (fun c18 => ?_) (fun c18 => ?_)
          · have h := it_t c18 h
            refine a_iconst (v := (0 : Int32)) C dX4_isInRange_159 rfl ?_
            obtain rfl := ret1 h
            exact a_zret C dX4_isInRange_160 rfl rfl (by decide) rfl rfl
          · have h := it_f c18 h
            refine a_iconst (v := (1 : Int32)) C dX4_isInRange_155 rfl ?_
            refine a_goto (tgt := 160) C dX4_isInRange_156 (by decide) ?_
            obtain rfl := ret1 h
            exact a_zret C dX4_isInRange_160 rfl rfl (by decide) rfl rfl
      · have h := it_f c12 h
        by_cases c19 : x1 = (112 : Int32)
        · have h := it_t c19 h
          refine a_lsw (tgt := 52) C dX4_isInRange_1 (by decide) ((by rw [c19] <;> rfl)) (by decide) ?_
          refine a_aload_n (q := 0) C dX4_isInRange_52 rfl rfl ?_
          refine a_getr (a := 0) (t := 1) C dX4_isInRange_53 fl_RX4_10 rfl rfl ?_
          refine a_iload_n (q := 2) C dX4_isInRange_56 rfl rfl ?_
          obtain ⟨r21, g20, h⟩ := bd_spec h
          refine a_cVi (a := 1) (st := []) C dX4_isInRange_57 cv_RX4_357 (w_X1_isCountry x2  V r21 g20) rfl rfl rfl rfl rfl ⟨Nat.le_of_ble_eq_true rfl, Nat.le_of_ble_eq_true rfl, Nat.le_of_ble_eq_true rfl, Nat.le_of_ble_eq_true rfl⟩ (Nat.le_of_ble_eq_true rfl) ?_
          refine a_if_eq (tgt := 74) C dX4_isInRange_60 (by decide) (fun c22 => ?_) (fun c22 => ?_)
          · have h := it_t c22 h
            refine a_iconst (v := (0 : Int32)) C dX4_isInRange_74 rfl ?_
            obtain rfl := ret1 h
            exact a_zret C dX4_isInRange_75 rfl rfl (by decide) rfl rfl
          · have h := it_f c22 h
            refine a_iload_n (q := 3) C dX4_isInRange_63 rfl rfl ?_
            obtain ⟨r24, g23, h⟩ := bd_spec h
            refine a_cSi (st := []) C dX4_isInRange_64 cv_RX4_362 (w_X4_isHue x3  V r24 g23) rfl rfl rfl ⟨Nat.le_of_ble_eq_true rfl, Nat.le_of_ble_eq_true rfl, Nat.le_of_ble_eq_true rfl, Nat.le_of_ble_eq_true rfl⟩ (Nat.le_of_ble_eq_true rfl) ?_
            refine a_if_eq (tgt := 74) C dX4_isInRange_67 (by decide) (fun c25 => ?_) (fun c25 => ?_)
            · have h := it_t c25 h
              refine a_iconst (v := (0 : Int32)) C dX4_isInRange_74 rfl ?_
              obtain rfl := ret1 h
              exact a_zret C dX4_isInRange_75 rfl rfl (by decide) rfl rfl
            · have h := it_f c25 h
              refine a_iconst (v := (1 : Int32)) C dX4_isInRange_70 rfl ?_
              refine a_goto (tgt := 75) C dX4_isInRange_71 (by decide) ?_
              obtain rfl := ret1 h
              exact a_zret C dX4_isInRange_75 rfl rfl (by decide) rfl rfl
        · have h := it_f c19 h
          by_cases c26 : x1 = (119 : Int32)
          · have h := it_t c26 h
            refine a_lsw (tgt := 104) C dX4_isInRange_1 (by decide) ((by rw [c26] <;> rfl)) (by decide) ?_
            refine a_aload_n (q := 0) C dX4_isInRange_104 rfl rfl ?_
            refine a_getr (a := 0) (t := 1) C dX4_isInRange_105 fl_RX4_10 rfl rfl ?_
            refine a_iload_n (q := 2) C dX4_isInRange_108 rfl rfl ?_
            obtain ⟨r28, g27, h⟩ := bd_spec h
            refine a_cVi (a := 1) (st := []) C dX4_isInRange_109 cv_RX4_357 (w_X1_isCountry x2  V r28 g27) rfl rfl rfl rfl rfl ⟨Nat.le_of_ble_eq_true rfl, Nat.le_of_ble_eq_true rfl, Nat.le_of_ble_eq_true rfl, Nat.le_of_ble_eq_true rfl⟩ (Nat.le_of_ble_eq_true rfl) ?_
            refine a_if_eq (tgt := 134) C dX4_isInRange_112 (by decide) (fun c29 => ?_) (fun c29 => ?_)
            · have h := it_t c29 h
              refine a_iconst (v := (0 : Int32)) C dX4_isInRange_134 rfl ?_
              obtain rfl := ret1 h
              exact a_zret C dX4_isInRange_135 rfl rfl (by decide) rfl rfl
            · have h := it_f c29 h
              refine a_iload_n (q := 3) C dX4_isInRange_115 rfl rfl ?_
              obtain ⟨r31, g30, h⟩ := bd_spec h
              refine a_cSi (st := []) C dX4_isInRange_116 cv_RX4_362 (w_X4_isHue x3  V r31 g30) rfl rfl rfl ⟨Nat.le_of_ble_eq_true rfl, Nat.le_of_ble_eq_true rfl, Nat.le_of_ble_eq_true rfl, Nat.le_of_ble_eq_true rfl⟩ (Nat.le_of_ble_eq_true rfl) ?_
              refine a_if_eq (tgt := 134) C dX4_isInRange_119 (by decide) (fun c32 => ?_) (fun c32 => ?_)
              · have h := it_t c32 h
                refine a_iconst (v := (0 : Int32)) C dX4_isInRange_134 rfl ?_
                obtain rfl := ret1 h
                exact a_zret C dX4_isInRange_135 rfl rfl (by decide) rfl rfl
              · have h := it_f c32 h
                refine a_iload (q := 4) C dX4_isInRange_122 rfl ?_
                obtain ⟨r34, g33, h⟩ := bd_spec h
                refine a_cSi (st := []) C dX4_isInRange_124 cv_RX4_216 (w_X4_isCrown x4  V r34 g33) rfl rfl rfl ⟨Nat.le_of_ble_eq_true rfl, Nat.le_of_ble_eq_true rfl, Nat.le_of_ble_eq_true rfl, Nat.le_of_ble_eq_true rfl⟩ (Nat.le_of_ble_eq_true rfl) ?_
                refine a_if_eq (tgt := 134) C dX4_isInRange_127 (by decide) (fun c35 => ?_) (fun c35 => ?_)
                · have h := it_t c35 h
                  refine a_iconst (v := (0 : Int32)) C dX4_isInRange_134 rfl ?_
                  obtain rfl := ret1 h
                  exact a_zret C dX4_isInRange_135 rfl rfl (by decide) rfl rfl
                · have h := it_f c35 h
                  refine a_iconst (v := (1 : Int32)) C dX4_isInRange_130 rfl ?_
                  refine a_goto (tgt := 135) C dX4_isInRange_131 (by decide) ?_
                  obtain rfl := ret1 h
                  exact a_zret C dX4_isInRange_135 rfl rfl (by decide) rfl rfl
          · have h := it_f c26 h
            refine a_lsw (tgt := 161) C dX4_isInRange_1 (by decide) (((lv_osw c1 rfl).trans ((lv_osw c8 rfl).trans ((lv_osw c12 rfl).trans ((lv_osw c19 rfl).trans ((lv_osw c26 rfl).trans (rfl))))))) (by first | decide | rfl) ?_
            refine a_iconst (v := (1 : Int32)) C dX4_isInRange_161 rfl ?_
            obtain rfl := ret1 h
            exact a_zret C dX4_isInRange_162 rfl rfl (by decide) rfl rfl
set_option maxRecDepth 20000 in
set_option maxHeartbeats 4000000 in
theorem w_X4_reasonAgainstOrder (x1 : Int32) (x2 : Int32) (x3 : Int32)  (V : VT) (r9 : Int32) (h : d_X4_reasonAgainstOrder x1 x2 x3 V = some r9) : AM 5 0 yX4_reasonAgainstOrder (.code yX4_reasonAgainstOrder cX4_reasonAgainstOrder 4 (some .int)) (fun ad => [.ref (ad 0), .int x1, .int x2, .int x3]) V V (rI r9) := by
  unfold d_X4_reasonAgainstOrder at h
  refine AM.of (by decide +kernel) (fun ad => Nat.le_of_ble_eq_true rfl) (fun {p l e s m args below meth c D cs ad b0} C hT => ?_)
  have C : Ctx p l s m args meth c D cs ad b0 RX4 cX4_reasonAgainstOrder 4 (some .int) := C
  refine a_sub (lv' := [(0, .ref (ad 0)), (1, .int x1), (2, .int x2), (3, .int x3)]) [0, 1, 2, 3] rfl ?_
  refine a_iload_n (q := 1) C dX4_reasonAgainstOrder_0 rfl rfl ?_
  by_cases c1 : x1 = (98 : Int32)
  · have h := it_t c1 h
    refine a_lsw (tgt := 54) C dX4_reasonAgainstOrder_1 (by decide) ((by rw [c1] <;> rfl)) (by decide) ?_
    refine a_aload_n (q := 0) C dX4_reasonAgainstOrder_54 rfl rfl ?_
    refine a_getr (a := 0) (t := 1) C dX4_reasonAgainstOrder_55 fl_RX4_10 rfl rfl ?_
    refine a_iload_n (q := 2) C dX4_reasonAgainstOrder_58 rfl rfl ?_
    refine a_iload_n (q := 3) C dX4_reasonAgainstOrder_59 rfl rfl ?_
    obtain ⟨r3, g2, h⟩ := bd_spec h
    refine a_cVi (a := 1) (st := []) C dX4_reasonAgainstOrder_60 cv_RX4_91 (w_X1_reasonAgainstBorder x2 x3  V r3 g2) rfl rfl rfl rfl rfl ⟨Nat.le_of_ble_eq_true rfl, Nat.le_of_ble_eq_true rfl, Nat.le_of_ble_eq_true rfl, Nat.le_of_ble_eq_true rfl⟩ (Nat.le_of_ble_eq_true rfl) ?_
    obtain rfl := ret1 h
    exact a_iret C dX4_reasonAgainstOrder_63 rfl (by decide) rfl rfl
  · have h := it_f c1 h
    by_cases c4 : x1 = (104 : Int32)
    · have h := it_t c4 h
      refine a_lsw (tgt := 72) C dX4_reasonAgainstOrder_1 (by decide) ((by rw [c4] <;> rfl)) (by decide) ?_
      refine a_aload_n (q := 0) C dX4_reasonAgainstOrder_72 rfl rfl ?_
      refine a_getr (a := 0) (t := 1) C dX4_reasonAgainstOrder_73 fl_RX4_10 rfl rfl ?_
      refine a_iload_n (q := 2) C dX4_reasonAgainstOrder_76 rfl rfl ?_
      obtain ⟨r6, g5, h⟩ := bd_spec h
      refine a_cVi (a := 1) (st := []) C dX4_reasonAgainstOrder_77 cv_RX4_147 (w_X1_reasonAgainstHues x2  V r6 g5) rfl rfl rfl rfl rfl ⟨Nat.le_of_ble_eq_true rfl, Nat.le_of_ble_eq_true rfl, Nat.le_of_ble_eq_true rfl, Nat.le_of_ble_eq_true rfl⟩ (Nat.le_of_ble_eq_true rfl) ?_
      obtain rfl := ret1 h
      exact a_iret C dX4_reasonAgainstOrder_80 rfl (by decide) rfl rfl
    · have h := it_f c4 h
      by_cases c7 : x1 = (112 : Int32)
      · have h := it_t c7 h
        refine a_lsw (tgt := 44) C dX4_reasonAgainstOrder_1 (by decide) ((by rw [c7] <;> rfl)) (by decide) ?_
        refine a_aload_n (q := 0) C dX4_reasonAgainstOrder_44 rfl rfl ?_
        refine a_getr (a := 0) (t := 1) C dX4_reasonAgainstOrder_45 fl_RX4_10 rfl rfl ?_
        refine a_iload_n (q := 2) C dX4_reasonAgainstOrder_48 rfl rfl ?_
        refine a_iload_n (q := 3) C dX4_reasonAgainstOrder_49 rfl rfl ?_
        obtain ⟨r9, g8, h⟩ := bd_spec h
        refine a_cVi (a := 1) (st := []) C dX4_reasonAgainstOrder_50 cv_RX4_175 (w_X1_reasonAgainstPaint x2 x3  V r9 g8) rfl rfl rfl rfl rfl ⟨Nat.le_of_ble_eq_true rfl, Nat.le_of_ble_eq_true rfl, Nat.le_of_ble_eq_true rfl, Nat.le_of_ble_eq_true rfl⟩ (Nat.le_of_ble_eq_true rfl) ?_
        obtain rfl := ret1 h
        exact a_iret C dX4_reasonAgainstOrder_53 rfl (by decide) rfl rfl
      · have h := it_f c7 h
        by_cases c10 : x1 = (120 : Int32)
        · have h := it_t c10 h
          refine a_lsw (tgt := 64) C dX4_reasonAgainstOrder_1 (by decide) ((by rw [c10] <;> rfl)) (by decide) ?_
          refine a_aload_n (q := 0) C dX4_reasonAgainstOrder_64 rfl rfl ?_
          refine a_getr (a := 0) (t := 1) C dX4_reasonAgainstOrder_65 fl_RX4_10 rfl rfl ?_
          obtain ⟨r12, g11, h⟩ := bd_spec h
          refine a_cVi (a := 1) (st := []) C dX4_reasonAgainstOrder_68 cv_RX4_184 (w_X1_reasonAgainstBack   V r12 g11) rfl rfl rfl rfl rfl ⟨Nat.le_of_ble_eq_true rfl, Nat.le_of_ble_eq_true rfl, Nat.le_of_ble_eq_true rfl, Nat.le_of_ble_eq_true rfl⟩ (Nat.le_of_ble_eq_true rfl) ?_
          obtain rfl := ret1 h
          exact a_iret C dX4_reasonAgainstOrder_71 rfl (by decide) rfl rfl
        · have h := it_f c10 h
          refine a_lsw (tgt := 81) C dX4_reasonAgainstOrder_1 (by decide) (((lv_osw c1 rfl).trans ((lv_osw c4 rfl).trans ((lv_osw c7 rfl).trans ((lv_osw c10 rfl).trans (rfl)))))) (by first | decide | rfl) ?_
          refine a_iconst (v := (0 : Int32)) C dX4_reasonAgainstOrder_81 rfl ?_
          obtain rfl := ret1 h
          exact a_iret C dX4_reasonAgainstOrder_82 rfl (by decide) rfl rfl
set_option maxRecDepth 20000 in
set_option maxHeartbeats 4000000 in
theorem w_X4_judge (x1 : Int32) (x2 : Int32) (x3 : Int32) (x4 : Int32)  (V : VT) (r9 : Int32) (W9 : VT) (h : d_X4_judge x1 x2 x3 x4 V = some (r9, W9)) : AM 6 0 yX4_judge (.code yX4_judge cX4_judge 6 (some .int)) (fun ad => [.ref (ad 0), .int x1, .int x2, .int x3, .int x4]) V W9 (rI r9) := by
  unfold d_X4_judge at h
  refine AM.of (by decide +kernel) (fun ad => Nat.le_of_ble_eq_true rfl) (fun {p l e s m args below meth c D cs ad b0} C hT => ?_)
  have C : Ctx p l s m args meth c D cs ad b0 RX4 cX4_judge 6 (some .int) := C
  refine a_sub (lv' := [(0, .ref (ad 0)), (1, .int x1), (2, .int x2), (3, .int x3), (4, .int x4)]) [0, 1, 2, 3, 4] rfl ?_
  refine a_aload_n (q := 0) C dX4_judge_0 rfl rfl ?_
  refine a_iload_n (q := 1) C dX4_judge_1 rfl rfl ?_
  refine a_iload_n (q := 2) C dX4_judge_2 rfl rfl ?_
  refine a_iload_n (q := 3) C dX4_judge_3 rfl rfl ?_
  refine a_iload (q := 4) C dX4_judge_4 rfl ?_
  obtain ⟨r2, g1, h⟩ := bd_spec h
  refine a_cVi (a := 0) (st := []) C dX4_judge_6 cv_RX4_396 (w_X4_isInRange x1 x2 x3 x4  V r2 g1) rfl rfl rfl rfl rfl ⟨Nat.le_of_ble_eq_true rfl, Nat.le_of_ble_eq_true rfl, Nat.le_of_ble_eq_true rfl, Nat.le_of_ble_eq_true rfl⟩ (Nat.le_of_ble_eq_true rfl) ?_
  refine a_if_ne (tgt := 15) C dX4_judge_9 (by decide) (fun c3 => ?_) (fun c3 => ?_)
  · have h := it_f c3 h
    refine a_aload_n (q := 0) C dX4_judge_15 rfl rfl ?_
    refine a_iload_n (q := 1) C dX4_judge_16 rfl rfl ?_
    refine a_iload_n (q := 2) C dX4_judge_17 rfl rfl ?_
    refine a_iload_n (q := 3) C dX4_judge_18 rfl rfl ?_
    obtain ⟨r5, g4, h⟩ := bd_spec h
    refine a_cVi (a := 0) (st := []) C dX4_judge_19 cv_RX4_400 (w_X4_reasonAgainstOrder x1 x2 x3  V r5 g4) rfl rfl rfl rfl rfl ⟨Nat.le_of_ble_eq_true rfl, Nat.le_of_ble_eq_true rfl, Nat.le_of_ble_eq_true rfl, Nat.le_of_ble_eq_true rfl⟩ (Nat.le_of_ble_eq_true rfl) ?_
    refine a_istore (lv' := [(5, .int r5), (0, .ref (ad 0)), (1, .int x1), (2, .int x2), (3, .int x3), (4, .int x4)]) C dX4_judge_22 (by decide) rfl ?_
    refine a_iload (q := 0) C dX4_judge_24 rfl ?_
    refine a_if_ne (tgt := 31) C dX4_judge_26 (by decide) (fun c6 => ?_) (fun c6 => ?_)
    · have h := it_f c6 h
      refine a_aload_n (q := 1) C dX4_judge_31 rfl rfl ?_
      refine a_iload (q := 0) C dX4_judge_32 rfl ?_
      refine a_iload_n (q := 3) C dX4_judge_34 rfl rfl ?_
      refine a_iload_n (q := 4) C dX4_judge_35 rfl rfl ?_
      obtain ⟨V8, g7, h⟩ := bd_spec h
      refine a_cVv (a := 0) (st := []) C dX4_judge_36 cv_RX4_367 (w_X4_keepReason r5 x2 x3  V V8 g7) rfl rfl rfl rfl rfl ⟨Nat.le_of_ble_eq_true rfl, Nat.le_of_ble_eq_true rfl, Nat.le_of_ble_eq_true rfl, Nat.le_of_ble_eq_true rfl⟩ (Nat.le_of_ble_eq_true rfl) ?_
      refine a_iconst (v := (-1 : Int32)) C dX4_judge_39 rfl ?_
      obtain ⟨rfl, rfl⟩ := ret2 h
      exact a_iret C dX4_judge_40 rfl (by decide) rfl rfl
    · have h := it_t c6 h
      refine a_iconst (v := (0 : Int32)) C dX4_judge_29 rfl ?_
      obtain ⟨rfl, rfl⟩ := ret2 h
      exact a_iret C dX4_judge_30 rfl (by decide) rfl rfl
  · have h := it_t c3 h
    refine a_bipush (v := (-2 : Int32)) C dX4_judge_12 rfl ?_
    obtain ⟨rfl, rfl⟩ := ret2 h
    exact a_iret C dX4_judge_14 rfl (by decide) rfl rfl
set_option maxRecDepth 20000 in
set_option maxHeartbeats 4000000 in
theorem w_X4_perform (x1 : Int32) (x2 : Int32) (x3 : Int32) (x4 : Int32)  (V : VT) (W9 : VT) (h : d_X4_perform x1 x2 x3 x4 V = some W9) : AM 6 0 yX4_perform (.code yX4_perform cX4_perform 5 (none)) (fun ad => [.ref (ad 0), .int x1, .int x2, .int x3, .int x4]) V W9 (rV) := by
  unfold d_X4_perform at h
  refine AM.of (by decide +kernel) (fun ad => Nat.le_of_ble_eq_true rfl) (fun {p l e s m args below meth c D cs ad b0} C hT => ?_)
  have C : Ctx p l s m args meth c D cs ad b0 RX4 cX4_perform 5 (none) := C
  refine a_sub (lv' := [(0, .ref (ad 0)), (1, .int x1), (2, .int x2), (3, .int x3), (4, .int x4)]) [0, 1, 2, 3, 4] rfl ?_
  refine a_iload_n (q := 1) C dX4_perform_0 rfl rfl ?_
  by_cases c1 : x1 = (98 : Int32)
  · have h := it_t c1 h
    refine a_tswIn (tgt := 120) (v := (98 : Int32)) C dX4_perform_1 c1 (by decide) (by decide) rfl (by decide) ?_
    refine a_aload_n (q := 0) C dX4_perform_120 rfl rfl ?_
    refine a_getr (a := 0) (t := 1) C dX4_perform_121 fl_RX4_10 rfl rfl ?_
    refine a_iload_n (q := 2) C dX4_perform_124 rfl rfl ?_
    refine a_iload_n (q := 3) C dX4_perform_125 rfl rfl ?_
    obtain ⟨V3, g2, h⟩ := bd_spec h
    refine a_cVv (a := 1) (st := []) C dX4_perform_126 cv_RX4_95 (w_X1_join x2 x3  V V3 g2) rfl rfl rfl rfl rfl ⟨Nat.le_of_ble_eq_true rfl, Nat.le_of_ble_eq_true rfl, Nat.le_of_ble_eq_true rfl, Nat.le_of_ble_eq_true rfl⟩ (Nat.le_of_ble_eq_true rfl) ?_
    refine a_goto (tgt := 191) C dX4_perform_129 (by decide) ?_
    obtain rfl := ret1 h
    exact a_vret C dX4_perform_191 rfl (by decide) rfl rfl
  · have h := it_f c1 h
    by_cases c4 : x1 = (99 : Int32)
    · have h := it_t c4 h
      refine a_tswIn (tgt := 191) (v := (99 : Int32)) C dX4_perform_1 c4 (by decide) (by decide) rfl (by decide) ?_
      obtain rfl := ret1 h
      exact a_vret C dX4_perform_191 rfl (by decide) rfl rfl
    · have h := it_f c4 h
      by_cases c5 : x1 = (100 : Int32)
      · have h := it_t c5 h
        refine a_tswIn (tgt := 191) (v := (100 : Int32)) C dX4_perform_1 c5 (by decide) (by decide) rfl (by decide) ?_
        obtain rfl := ret1 h
        exact a_vret C dX4_perform_191 rfl (by decide) rfl rfl
      · have h := it_f c5 h
        by_cases c6 : x1 = (101 : Int32)
        · have h := it_t c6 h
          refine a_tswIn (tgt := 191) (v := (101 : Int32)) C dX4_perform_1 c6 (by decide) (by decide) rfl (by decide) ?_
          obtain rfl := ret1 h
          exact a_vret C dX4_perform_191 rfl (by decide) rfl rfl
        · have h := it_f c6 h
          by_cases c7 : x1 = (102 : Int32)
          · have h := it_t c7 h
            refine a_tswIn (tgt := 143) (v := (102 : Int32)) C dX4_perform_1 c7 (by decide) (by decide) rfl (by decide) ?_
            refine a_aload_n (q := 0) C dX4_perform_143 rfl rfl ?_
            refine a_getr (a := 0) (t := 1) C dX4_perform_144 fl_RX4_10 rfl rfl ?_
            obtain ⟨r10, V9, g8, h⟩ := bw_spec h
            refine a_cVi (a := 1) (st := []) C dX4_perform_147 cv_RX4_190 (w_X1_fillIn   V r10 V9 g8) rfl rfl rfl rfl rfl ⟨Nat.le_of_ble_eq_true rfl, Nat.le_of_ble_eq_true rfl, Nat.le_of_ble_eq_true rfl, Nat.le_of_ble_eq_true rfl⟩ (Nat.le_of_ble_eq_true rfl) ?_
            refine a_pop C dX4_perform_150 rfl ?_
            refine a_goto (tgt := 191) C dX4_perform_151 (by decide) ?_
            obtain rfl := ret1 h
            exact a_vret C dX4_perform_191 rfl (by decide) rfl rfl
          · have h := it_f c7 h
            by_cases c11 : x1 = (103 : Int32)
            · have h := it_t c11 h
              refine a_tswIn (tgt := 191) (v := (103 : Int32)) C dX4_perform_1 c11 (by decide) (by decide) rfl (by decide) ?_
              obtain rfl := ret1 h
              exact a_vret C dX4_perform_191 rfl (by decide) rfl rfl
            · have h := it_f c11 h
              by_cases c12 : x1 = (104 : Int32)
              · have h := it_t c12 h
                refine a_tswIn (tgt := 168) (v := (104 : Int32)) C dX4_perform_1 c12 (by decide) (by decide) rfl (by decide) ?_
                refine a_aload_n (q := 0) C dX4_perform_168 rfl rfl ?_
                refine a_getr (a := 0) (t := 1) C dX4_perform_169 fl_RX4_10 rfl rfl ?_
                refine a_iload_n (q := 2) C dX4_perform_172 rfl rfl ?_
                refine a_puti (a := 1) C dX4_perform_173 fp_RX4_150 rfl rfl rfl rfl ?_
                refine a_goto (tgt := 191) C dX4_perform_176 (by decide) ?_
                obtain rfl := ret1 h
                exact a_vret C dX4_perform_191 rfl (by decide) rfl rfl
              · have h := it_f c12 h
                by_cases c13 : x1 = (105 : Int32)
                · have h := it_t c13 h
                  refine a_tswIn (tgt := 191) (v := (105 : Int32)) C dX4_perform_1 c13 (by decide) (by decide) rfl (by decide) ?_
                  obtain rfl := ret1 h
                  exact a_vret C dX4_perform_191 rfl (by decide) rfl rfl
                · have h := it_f c13 h
                  by_cases c14 : x1 = (106 : Int32)
                  · have h := it_t c14 h
                    refine a_tswIn (tgt := 179) (v := (106 : Int32)) C dX4_perform_1 c14 (by decide) (by decide) rfl (by decide) ?_
                    refine a_aload_n (q := 0) C dX4_perform_179 rfl rfl ?_
                    refine a_getr (a := 0) (t := 1) C dX4_perform_180 fl_RX4_10 rfl rfl ?_
                    refine a_iload_n (q := 2) C dX4_perform_183 rfl rfl ?_
                    refine a_iload_n (q := 3) C dX4_perform_184 rfl rfl ?_
                    obtain ⟨V16, g15, h⟩ := bd_spec h
                    refine a_cVv (a := 1) (st := []) C dX4_perform_185 cv_RX4_161 (w_X1_bring x2 x3  V V16 g15) rfl rfl rfl rfl rfl ⟨Nat.le_of_ble_eq_true rfl, Nat.le_of_ble_eq_true rfl, Nat.le_of_ble_eq_true rfl, Nat.le_of_ble_eq_true rfl⟩ (Nat.le_of_ble_eq_true rfl) ?_
                    refine a_goto (tgt := 191) C dX4_perform_188 (by decide) ?_
                    obtain rfl := ret1 h
                    exact a_vret C dX4_perform_191 rfl (by decide) rfl rfl
                  · have h := it_f c14 h
                    by_cases c17 : x1 = (107 : Int32)
                    · have h := it_t c17 h
                      refine a_tswIn (tgt := 191) (v := (107 : Int32)) C dX4_perform_1 c17 (by decide) (by decide) rfl (by decide) ?_
                      obtain rfl := ret1 h
                      exact a_vret C dX4_perform_191 rfl (by decide) rfl rfl
                    · have h := it_f c17 h
                      by_cases c18 : x1 = (108 : Int32)
                      · have h := it_t c18 h
                        refine a_tswIn (tgt := 191) (v := (108 : Int32)) C dX4_perform_1 c18 (by decide) (by decide) rfl (by decide) ?_
                        obtain rfl := ret1 h
                        exact a_vret C dX4_perform_191 rfl (by decide) rfl rfl
                      · have h := it_f c18 h
                        by_cases c19 : x1 = (109 : Int32)
                        · have h := it_t c19 h
                          refine a_tswIn (tgt := 191) (v := (109 : Int32)) C dX4_perform_1 c19 (by decide) (by decide) rfl (by decide) ?_
                          obtain rfl := ret1 h
                          exact a_vret C dX4_perform_191 rfl (by decide) rfl rfl
                        · have h := it_f c19 h
                          by_cases c20 : x1 = (110 : Int32)
                          · have h := it_t c20 h
                            refine a_tswIn (tgt := 191) (v := (110 : Int32)) C dX4_perform_1 c20 (by decide) (by decide) rfl (by decide) ?_
                            obtain rfl := ret1 h
                            exact a_vret C dX4_perform_191 rfl (by decide) rfl rfl
                          · have h := it_f c20 h
                            by_cases c21 : x1 = (111 : Int32)
                            · have h := it_t c21 h
                              refine a_tswIn (tgt := 191) (v := (111 : Int32)) C dX4_perform_1 c21 (by decide) (by decide) rfl (by decide) ?_
                              obtain rfl := ret1 h
                              exact a_vret C dX4_perform_191 rfl (by decide) rfl rfl
                            · have h := it_f c21 h
                              by_cases c22 : x1 = (112 : Int32)
                              · have h := it_t c22 h
                                refine a_tswIn (tgt := 108) (v := (112 : Int32)) C dX4_perform_1 c22 (by decide) (by decide) rfl (by decide) ?_
                                refine a_aload_n (q := 0) C dX4_perform_108 rfl rfl ?_
                                refine a_getr (a := 0) (t := 1) C dX4_perform_109 fl_RX4_10 rfl rfl ?_
                                refine a_iload_n (q := 2) C dX4_perform_112 rfl rfl ?_
                                refine a_iload_n (q := 3) C dX4_perform_113 rfl rfl ?_
                                obtain ⟨V24, g23, h⟩ := bd_spec h
                                refine a_cVv (a := 1) (st := []) C dX4_perform_114 cv_RX4_178 (w_X1_cover x2 x3  V V24 g23) rfl rfl rfl rfl rfl ⟨Nat.le_of_ble_eq_true rfl, Nat.le_of_ble_eq_true rfl, Nat.le_of_ble_eq_true rfl, Nat.le_of_ble_eq_true rfl⟩ (Nat.le_of_ble_eq_true rfl) ?_
                                refine a_goto (tgt := 191) C dX4_perform_117 (by decide) ?_
                                obtain rfl := ret1 h
                                exact a_vret C dX4_perform_191 rfl (by decide) rfl rfl
                              · have h := it_f c22 h
                                by_cases c25 : x1 = (113 : Int32)
                                · have h := it_t c25 h
                                  refine a_tswIn (tgt := 191) (v := (113 : Int32)) C dX4_perform_1 c25 (by decide) (by decide) rfl (by decide) ?_
                                  obtain rfl := ret1 h
                                  exact a_vret C dX4_perform_191 rfl (by decide) rfl rfl
                                · have h := it_f c25 h
                                  by_cases c26 : x1 = (114 : Int32)
                                  · have h := it_t c26 h
                                    refine a_tswIn (tgt := 191) (v := (114 : Int32)) C dX4_perform_1 c26 (by decide) (by decide) rfl (by decide) ?_
                                    obtain rfl := ret1 h
                                    exact a_vret C dX4_perform_191 rfl (by decide) rfl rfl
                                  · have h := it_f c26 h
                                    by_cases c27 : x1 = (115 : Int32)
                                    · have h := it_t c27 h
                                      refine a_tswIn (tgt := 191) (v := (115 : Int32)) C dX4_perform_1 c27 (by decide) (by decide) rfl (by decide) ?_
                                      obtain rfl := ret1 h
                                      exact a_vret C dX4_perform_191 rfl (by decide) rfl rfl
                                    · have h := it_f c27 h
                                      by_cases c28 : x1 = (116 : Int32)
                                      · have h := it_t c28 h
                                        refine a_tswIn (tgt := 191) (v := (116 : Int32)) C dX4_perform_1 c28 (by decide) (by decide) rfl (by decide) ?_
                                        obtain rfl := ret1 h
                                        exact a_vret C dX4_perform_191 rfl (by decide) rfl rfl
                                      · have h := it_f c28 h
                                        by_cases c29 : x1 = (117 : Int32)
                                        · have h := it_t c29 h
                                          refine a_tswIn (tgt := 191) (v := (117 : Int32)) C dX4_perform_1 c29 (by decide) (by decide) rfl (by decide) ?_
                                          obtain rfl := ret1 h
                                          exact a_vret C dX4_perform_191 rfl (by decide) rfl rfl
                                        · have h := it_f c29 h
                                          by_cases c30 : x1 = (118 : Int32)
                                          · have h := it_t c30 h
                                            refine a_tswIn (tgt := 191) (v := (118 : Int32)) C dX4_perform_1 c30 (by decide) (by decide) rfl (by decide) ?_
                                            obtain rfl := ret1 h
                                            exact a_vret C dX4_perform_191 rfl (by decide) rfl rfl
                                          · have h := it_f c30 h
                                            by_cases c31 : x1 = (119 : Int32)
                                            · have h := it_t c31 h
                                              refine a_tswIn (tgt := 154) (v := (119 : Int32)) C dX4_perform_1 c31 (by decide) (by decide) rfl (by decide) ?_
                                              refine a_aload_n (q := 0) C dX4_perform_154 rfl rfl ?_
                                              refine a_getr (a := 0) (t := 1) C dX4_perform_155 fl_RX4_10 rfl rfl ?_
                                              refine a_iload_n (q := 2) C dX4_perform_158 rfl rfl ?_
                                              refine a_iload_n (q := 3) C dX4_perform_159 rfl rfl ?_
                                              refine a_iload (q := 4) C dX4_perform_160 rfl ?_
                                              obtain ⟨V33, g32, h⟩ := bd_spec h
                                              refine a_cVv (a := 1) (st := []) C dX4_perform_162 cv_RX4_221 (w_X1_setWish x2 x3 x4  V V33 g32) rfl rfl rfl rfl rfl ⟨Nat.le_of_ble_eq_true rfl, Nat.le_of_ble_eq_true rfl, Nat.le_of_ble_eq_true rfl, Nat.le_of_ble_eq_true rfl⟩ (Nat.le_of_ble_eq_true rfl) ?_
                                              refine a_goto (tgt := 191) C dX4_perform_165 (by decide) ?_
                                              obtain rfl := ret1 h
                                              exact a_vret C dX4_perform_191 rfl (by decide) rfl rfl
                                            · have h := it_f c31 h
                                              by_cases c34 : x1 = (120 : Int32)
                                              · have h := it_t c34 h
                                                refine a_tswIn (tgt := 132) (v := (120 : Int32)) C dX4_perform_1 c34 (by decide) (by decide) rfl (by decide) ?_
                                                refine a_aload_n (q := 0) C dX4_perform_132 rfl rfl ?_
                                                refine a_getr (a := 0) (t := 1) C dX4_perform_133 fl_RX4_10 rfl rfl ?_
                                                obtain ⟨r37, V36, g35, h⟩ := bw_spec h
                                                refine a_cVi (a := 1) (st := []) C dX4_perform_136 cv_RX4_187 (w_X1_stepBack   V r37 V36 g35) rfl rfl rfl rfl rfl ⟨Nat.le_of_ble_eq_true rfl, Nat.le_of_ble_eq_true rfl, Nat.le_of_ble_eq_true rfl, Nat.le_of_ble_eq_true rfl⟩ (Nat.le_of_ble_eq_true rfl) ?_
                                                refine a_pop C dX4_perform_139 rfl ?_
                                                refine a_goto (tgt := 191) C dX4_perform_140 (by decide) ?_
                                                obtain rfl := ret1 h
                                                exact a_vret C dX4_perform_191 rfl (by decide) rfl rfl
                                              · have h := it_f c34 h
                                                refine a_tswOut (tgt := 191) C dX4_perform_1 (by have q0 := lv_neT (a := 98) c1 rfl; have q1 := lv_neT (a := 99) c4 rfl; have q2 := lv_neT (a := 100) c5 rfl; have q3 := lv_neT (a := 101) c6 rfl; have q4 := lv_neT (a := 102) c7 rfl; have q5 := lv_neT (a := 103) c11 rfl; have q6 := lv_neT (a := 104) c12 rfl; have q7 := lv_neT (a := 105) c13 rfl; have q8 := lv_neT (a := 106) c14 rfl; have q9 := lv_neT (a := 107) c17 rfl; have q10 := lv_neT (a := 108) c18 rfl; have q11 := lv_neT (a := 109) c19 rfl; have q12 := lv_neT (a := 110) c20 rfl; have q13 := lv_neT (a := 111) c21 rfl; have q14 := lv_neT (a := 112) c22 rfl; have q15 := lv_neT (a := 113) c25 rfl; have q16 := lv_neT (a := 114) c26 rfl; have q17 := lv_neT (a := 115) c27 rfl; have q18 := lv_neT (a := 116) c28 rfl; have q19 := lv_neT (a := 117) c29 rfl; have q20 := lv_neT (a := 118) c30 rfl; have q21 := lv_neT (a := 119) c31 rfl; have q22 := lv_neT (a := 120) c34 rfl; omega) (by decide) ?_
                                                obtain rfl := ret1 h
                                                exact a_vret C dX4_perform_191 rfl (by decide) rfl rfl
set_option maxRecDepth 20000 in
set_option maxHeartbeats 4000000 in
theorem w_X4_carryOutAll_125 {p : Program} {l : Launch} {e : Env} {s : State} {m : MethodId} {args : Array Value} {below : List Frame} {meth : Method} {c : Code} {D : va_G} {cs : Nat → ClassId} {ad : Nat → Nat} {b0 : Nat} (C : Ctx p l s m args meth c D cs ad b0 RX4 cX4_carryOutAll 6 (some .int)) (hT : ∀ x ∈ c.exceptionTable.toList, False)    {r9 : Int32} {W9 : VT}     :
    ∀ (x1 : Int32) (V : VT), d_X4_carryOutAll_125 x1 V = some (r9, W9) → AW p l e (rmOf 10 0) s m args below meth c D cs ad b0 (QF below D cs ad b0 W9 ((rI r9) ad) args s 0) 6 0 V [(0, .ref (ad 0)), (1, .int x1)] [] 125 := by
  intro x1 V h
  unfold d_X4_carryOutAll_125 at h
  refine a_aload_n (q := 0) C dX4_carryOutAll_125 rfl rfl ?_
  refine a_getr (a := 0) (t := 28) C dX4_carryOutAll_126 fl_RX4_25 rfl rfl ?_
  refine a_aload_n (q := 0) C dX4_carryOutAll_129 rfl rfl ?_
  refine a_getr (a := 0) (t := 10) C dX4_carryOutAll_130 fl_RX4_16 rfl rfl ?_
  obtain ⟨V2, g1, h⟩ := bd_spec h
  refine a_cVv (a := 28) (st := []) C dX4_carryOutAll_133 cv_RX4_79 (w_X3_keep 10 rfl V V2 g1) rfl rfl rfl rfl rfl ⟨Nat.le_of_ble_eq_true rfl, Nat.le_of_ble_eq_true rfl, Nat.le_of_ble_eq_true rfl, Nat.le_of_ble_eq_true rfl⟩ (Nat.le_of_ble_eq_true rfl) ?_
  refine a_iload_n (q := 1) C dX4_carryOutAll_136 rfl rfl ?_
  obtain ⟨rfl, rfl⟩ := ret2 h
  exact a_iret C dX4_carryOutAll_137 rfl (by decide) rfl rfl
set_option maxRecDepth 20000 in
set_option maxHeartbeats 4000000 in
theorem w_X4_carryOutAll_21 {p : Program} {l : Launch} {e : Env} {s : State} {m : MethodId} {args : Array Value} {below : List Frame} {meth : Method} {c : Code} {D : va_G} {cs : Nat → ClassId} {ad : Nat → Nat} {b0 : Nat} (C : Ctx p l s m args meth c D cs ad b0 RX4 cX4_carryOutAll 6 (some .int)) (hT : ∀ x ∈ c.exceptionTable.toList, False)    {r9 : Int32} {W9 : VT}     :
    ∀ (x1 : Int32) (V : VT), d_X4_carryOutAll_21 x1 V = some (r9, W9) → AW p l e (rmOf 10 0) s m args below meth c D cs ad b0 (QF below D cs ad b0 W9 ((rI r9) ad) args s 0) 6 0 V [(0, .ref (ad 0)), (1, .int x1)] [] 21 := by
  refine lo1W_ind (P := fun x1 V => AW p l e (rmOf 10 0) s m args below meth c D cs ad b0 (QF below D cs ad b0 W9 ((rI r9) ad) args s 0) 6 0 V [(0, .ref (ad 0)), (1, .int x1)] [] 21) ?_ FU
  intro k21 hk21 x1 V h
  unfold d_X4_carryOutAll_21b at h
  refine a_iload_n (q := 1) C dX4_carryOutAll_21 rfl rfl ?_
  refine a_bipush (v := (60 : Int32)) C dX4_carryOutAll_22 rfl ?_
  refine a_icmp_ge (tgt := 125) C dX4_carryOutAll_24 (by decide) (fun c1 => ?_) (fun c1 => ?_)
  · have h := it_t c1 h
    refine a_sub (lv' := [(0, .ref (ad 0)), (1, .int x1)]) [0, 1] rfl ?_
    exact w_X4_carryOutAll_125 C hT x1 V h
  · have h := it_f c1 h
    refine a_aload_n (q := 0) C dX4_carryOutAll_27 rfl rfl ?_
    refine a_getr (a := 0) (t := 105) C dX4_carryOutAll_28 fl_RX4_39 rfl rfl ?_
    obtain ⟨r4, V3, g2, h⟩ := bw_spec h
    refine a_cVi (a := 105) (st := []) C dX4_carryOutAll_31 cv_RX4_379 (w_X2_takeOrder   V r4 V3 g2) rfl rfl rfl rfl rfl ⟨Nat.le_of_ble_eq_true rfl, Nat.le_of_ble_eq_true rfl, Nat.le_of_ble_eq_true rfl, Nat.le_of_ble_eq_true rfl⟩ (Nat.le_of_ble_eq_true rfl) ?_
    refine a_if_eq (tgt := 125) C dX4_carryOutAll_34 (by decide) (fun c5 => ?_) (fun c5 => ?_)
    · have h := it_t c5 h
      refine a_sub (lv' := [(0, .ref (ad 0)), (1, .int x1)]) [0, 1] rfl ?_
      exact w_X4_carryOutAll_125 C hT x1 V3 h
    · have h := it_f c5 h
      refine a_aload_n (q := 0) C dX4_carryOutAll_37 rfl rfl ?_
      refine a_getr (a := 0) (t := 105) C dX4_carryOutAll_38 fl_RX4_39 rfl rfl ?_
      refine a_getr (a := 105) (t := 107) C dX4_carryOutAll_41 fl_RX4_382 rfl rfl ?_
      refine a_iconst (v := (0 : Int32)) C dX4_carryOutAll_44 rfl ?_
      refine a_iald (a := 107) (x := (V3 107 0)) C dX4_carryOutAll_45 rfl (in_lit (by decide)) rfl ?_
      refine a_istore_n (lv' := [(2, .int (V3 107 0)), (0, .ref (ad 0)), (1, .int x1)]) C dX4_carryOutAll_46 rfl (by decide) rfl ?_
      refine a_aload_n (q := 1) C dX4_carryOutAll_47 rfl rfl ?_
      refine a_getr (a := 0) (t := 105) C dX4_carryOutAll_48 fl_RX4_39 rfl rfl ?_
      refine a_getr (a := 105) (t := 107) C dX4_carryOutAll_51 fl_RX4_382 rfl rfl ?_
      refine a_iconst (v := (1 : Int32)) C dX4_carryOutAll_54 rfl ?_
      refine a_iald (a := 107) (x := (V3 107 1)) C dX4_carryOutAll_55 rfl (in_lit (by decide)) rfl ?_
      refine a_istore_n (lv' := [(3, .int (V3 107 1)), (2, .int (V3 107 0)), (0, .ref (ad 0)), (1, .int x1)]) C dX4_carryOutAll_56 rfl (by decide) rfl ?_
      refine a_aload_n (q := 2) C dX4_carryOutAll_57 rfl rfl ?_
      refine a_getr (a := 0) (t := 105) C dX4_carryOutAll_58 fl_RX4_39 rfl rfl ?_
      refine a_getr (a := 105) (t := 107) C dX4_carryOutAll_61 fl_RX4_382 rfl rfl ?_
      refine a_iconst (v := (2 : Int32)) C dX4_carryOutAll_64 rfl ?_
      refine a_iald (a := 107) (x := (V3 107 2)) C dX4_carryOutAll_65 rfl (in_lit (by decide)) rfl ?_
      refine a_istore (lv' := [(4, .int (V3 107 2)), (3, .int (V3 107 1)), (2, .int (V3 107 0)), (0, .ref (ad 0)), (1, .int x1)]) C dX4_carryOutAll_66 (by decide) rfl ?_
      refine a_aload_n (q := 3) C dX4_carryOutAll_68 rfl rfl ?_
      refine a_aload_n (q := 3) C dX4_carryOutAll_69 rfl rfl ?_
      refine a_getr (a := 0) (t := 105) C dX4_carryOutAll_70 fl_RX4_39 rfl rfl ?_
      refine a_geti (a := 105) (x := (V3 105 3)) C dX4_carryOutAll_73 fl_RX4_385 rfl rfl rfl ?_
      refine a_iload_n (q := 2) C dX4_carryOutAll_76 rfl rfl ?_
      refine a_iload_n (q := 1) C dX4_carryOutAll_77 rfl rfl ?_
      refine a_iload (q := 0) C dX4_carryOutAll_78 rfl ?_
      obtain ⟨r8, V7, g6, h⟩ := bw_spec h
      refine a_cVi (a := 0) (st := []) C dX4_carryOutAll_80 cv_RX4_388 (w_X4_judge (V3 105 3) (V3 107 0) (V3 107 1) (V3 107 2)  V3 r8 V7 g6) rfl rfl rfl rfl rfl ⟨Nat.le_of_ble_eq_true rfl, Nat.le_of_ble_eq_true rfl, Nat.le_of_ble_eq_true rfl, Nat.le_of_ble_eq_true rfl⟩ (Nat.le_of_ble_eq_true rfl) ?_
      refine a_istore (lv' := [(5, .int r8), (4, .int (V3 107 2)), (3, .int (V3 107 1)), (2, .int (V3 107 0)), (0, .ref (ad 0)), (1, .int x1)]) C dX4_carryOutAll_83 (by decide) rfl ?_
      refine a_iload (q := 0) C dX4_carryOutAll_85 rfl ?_
      refine a_if_eq (tgt := 104) C dX4_carryOutAll_87 (by decide) (fun c9 => ?_) (fun c9 => ?_)
      · have h := it_t c9 h
        refine a_aload_n (q := 4) C dX4_carryOutAll_104 rfl rfl ?_
        refine a_aload_n (q := 4) C dX4_carryOutAll_105 rfl rfl ?_
        refine a_getr (a := 0) (t := 105) C dX4_carryOutAll_106 fl_RX4_39 rfl rfl ?_
        refine a_geti (a := 105) (x := (V7 105 3)) C dX4_carryOutAll_109 fl_RX4_385 rfl rfl rfl ?_
        refine a_iload_n (q := 3) C dX4_carryOutAll_112 rfl rfl ?_
        refine a_iload_n (q := 2) C dX4_carryOutAll_113 rfl rfl ?_
        refine a_iload (q := 1) C dX4_carryOutAll_114 rfl ?_
        obtain ⟨V11, g10, h⟩ := bd_spec h
        refine a_cVv (a := 0) (st := []) C dX4_carryOutAll_116 cv_RX4_392 (w_X4_perform (V7 105 3) (V3 107 0) (V3 107 1) (V3 107 2)  V7 V11 g10) rfl rfl rfl rfl rfl ⟨Nat.le_of_ble_eq_true rfl, Nat.le_of_ble_eq_true rfl, Nat.le_of_ble_eq_true rfl, Nat.le_of_ble_eq_true rfl⟩ (Nat.le_of_ble_eq_true rfl) ?_
        refine a_iinc (q := 5) (v := (x1 + (1 : Int32))) (lv' := [(1, .int (x1 + (1 : Int32))), (5, .int r8), (4, .int (V3 107 2)), (3, .int (V3 107 1)), (2, .int (V3 107 0)), (0, .ref (ad 0))]) C dX4_carryOutAll_119 rfl rfl (by decide) rfl ?_
        refine a_goto (tgt := 21) C dX4_carryOutAll_122 (by decide) ?_
        refine a_sub (lv' := [(0, .ref (ad 0)), (1, .int (x1 + (1 : Int32)))]) [5, 0] rfl ?_
        exact hk21 (x1 + (1 : Int32)) V11 h
      · have h := it_f c9 h
        refine a_aload_n (q := 4) C dX4_carryOutAll_90 rfl rfl ?_
        refine a_getr (a := 0) (t := 1) C dX4_carryOutAll_91 fl_RX4_10 rfl rfl ?_
        refine a_aload_n (q := 4) C dX4_carryOutAll_94 rfl rfl ?_
        refine a_getr (a := 0) (t := 10) C dX4_carryOutAll_95 fl_RX4_16 rfl rfl ?_
        obtain ⟨V13, g12, h⟩ := bd_spec h
        refine a_cVv (a := 1) (st := []) C dX4_carryOutAll_98 cv_RX4_352 (w_X1_copyFrom 1 10 rfl rfl V7 V13 g12) rfl rfl rfl rfl rfl ⟨Nat.le_of_ble_eq_true rfl, Nat.le_of_ble_eq_true rfl, Nat.le_of_ble_eq_true rfl, Nat.le_of_ble_eq_true rfl⟩ (Nat.le_of_ble_eq_true rfl) ?_
        refine a_iload (q := 0) C dX4_carryOutAll_101 rfl ?_
        obtain ⟨rfl, rfl⟩ := ret2 h
        exact a_iret C dX4_carryOutAll_103 rfl (by decide) rfl rfl
set_option maxRecDepth 20000 in
set_option maxHeartbeats 4000000 in
theorem w_X4_carryOutAll   (V : VT) (r9 : Int32) (W9 : VT) (h : d_X4_carryOutAll  V = some (r9, W9)) : AM 10 0 yX4_carryOutAll (.code yX4_carryOutAll cX4_carryOutAll 6 (some .int)) (fun ad => [.ref (ad 0)]) V W9 (rI r9) := by
  unfold d_X4_carryOutAll at h
  refine AM.of (by decide +kernel) (fun ad => Nat.le_of_ble_eq_true rfl) (fun {p l e s m args below meth c D cs ad b0} C hT => ?_)
  have C : Ctx p l s m args meth c D cs ad b0 RX4 cX4_carryOutAll 6 (some .int) := C
  refine a_sub (lv' := [(0, .ref (ad 0))]) [0] rfl ?_
  refine a_aload_n (q := 0) C dX4_carryOutAll_0 rfl rfl ?_
  refine a_getr (a := 0) (t := 10) C dX4_carryOutAll_1 fl_RX4_16 rfl rfl ?_
  refine a_aload_n (q := 0) C dX4_carryOutAll_4 rfl rfl ?_
  refine a_getr (a := 0) (t := 1) C dX4_carryOutAll_5 fl_RX4_10 rfl rfl ?_
  obtain ⟨V2, g1, h⟩ := bd_spec h
  refine a_cVv (a := 10) (st := []) C dX4_carryOutAll_8 cv_RX4_352 (w_X1_copyFrom 10 1 rfl rfl V V2 g1) rfl rfl rfl rfl rfl ⟨Nat.le_of_ble_eq_true rfl, Nat.le_of_ble_eq_true rfl, Nat.le_of_ble_eq_true rfl, Nat.le_of_ble_eq_true rfl⟩ (Nat.le_of_ble_eq_true rfl) ?_
  refine a_iconst (v := (0 : Int32)) C dX4_carryOutAll_11 rfl ?_
  refine a_istore_n (lv' := [(1, .int (0 : Int32)), (0, .ref (ad 0))]) C dX4_carryOutAll_12 rfl (by decide) rfl ?_
  refine a_aload_n (q := 1) C dX4_carryOutAll_13 rfl rfl ?_
  refine a_getr (a := 0) (t := 105) C dX4_carryOutAll_14 fl_RX4_39 rfl rfl ?_
  refine a_iconst (v := (0 : Int32)) C dX4_carryOutAll_17 rfl ?_
  refine a_puti (a := 105) C dX4_carryOutAll_18 fp_RX4_376 rfl rfl rfl rfl ?_
  refine a_sub (lv' := [(0, .ref (ad 0)), (1, .int (0 : Int32))]) [1, 0] rfl ?_
  exact w_X4_carryOutAll_21 C hT (0 : Int32) (up2 V2 105 2 (0 : Int32)) h
set_option maxRecDepth 20000 in
set_option maxHeartbeats 4000000 in
theorem w_X4_read_28 {p : Program} {l : Launch} {e : Env} {s : State} {m : MethodId} {args : Array Value} {below : List Frame} {meth : Method} {c : Code} {D : va_G} {cs : Nat → ClassId} {ad : Nat → Nat} {b0 : Nat} (C : Ctx p l s m args meth c D cs ad b0 RX4 cX4_read 2 (some .int)) (hT : ∀ x ∈ c.exceptionTable.toList, False)    {o9 : Int32 ⊕ String} {W9 : VT}     :
    ∀ (s0 : Int32) (V : VT), d_X4_read_28 s0 V = some (o9, W9) → AW p l e (rmOf 11 1) s m args below meth c D cs ad b0 (QF below D cs ad b0 W9 ((rX o9) ad) args s 1) 2 0 V [(0, .ref (ad 0))] [.int s0] 28 := by
  intro s0 V h
  unfold d_X4_read_28 at h
  refine a_istore_n (lv' := [(1, .int s0), (0, .ref (ad 0))]) C dX4_read_28 rfl (by decide) rfl ?_
  refine a_aload_n (q := 1) C dX4_read_29 rfl rfl ?_
  refine a_getr (a := 0) (t := 105) C dX4_read_30 fl_RX4_39 rfl rfl ?_
  refine a_iconst (v := (0 : Int32)) C dX4_read_33 rfl ?_
  refine a_puti (a := 105) C dX4_read_34 fp_RX4_277 rfl rfl rfl rfl ?_
  refine a_iload_n (q := 0) C dX4_read_37 rfl rfl ?_
  refine a_bipush (v := (-2 : Int32)) C dX4_read_38 rfl ?_
  refine a_icmp_ne (tgt := 54) C dX4_read_40 (by decide) (fun c1 => ?_) (fun c1 => ?_)
  · have h := it_f c1 h
    refine a_iload_n (q := 0) C dX4_read_54 rfl rfl ?_
    refine a_iconst (v := (-1 : Int32)) C dX4_read_55 rfl ?_
    refine a_icmp_ne (tgt := 70) C dX4_read_56 (by decide) (fun c2 => ?_) (fun c2 => ?_)
    · have h := it_f c2 h
      refine a_iload_n (q := 0) C dX4_read_70 rfl rfl ?_
      obtain ⟨rfl, rfl⟩ := ret2 h
      exact a_iret C dX4_read_71 rfl (by decide) rfl rfl
    · have h := it_t c2 h
      obtain ⟨rfl, rfl⟩ := ret2 h
      exact a_throwW (text := "an order is refused") C hT th_RX4_296_300 (by decide +kernel) dX4_read_59 dX4_read_62 dX4_read_63 dX4_read_66 dX4_read_69 ⟨by decide, by decide, by decide, by decide⟩ (by decide) rfl rfl
  · have h := it_t c1 h
    obtain ⟨rfl, rfl⟩ := ret2 h
    exact a_throwW (text := "the text has an error, or an order has a number out of range") C hT th_RX4_64_68 (by decide +kernel) dX4_read_43 dX4_read_46 dX4_read_47 dX4_read_50 dX4_read_53 ⟨by decide, by decide, by decide, by decide⟩ (by decide) rfl rfl
set_option maxRecDepth 20000 in
set_option maxHeartbeats 4000000 in
theorem w_X4_read   (V : VT) (o9 : Int32 ⊕ String) (W9 : VT) (h : d_X4_read  V = some (o9, W9)) : AM 11 1 yX4_read (.code yX4_read cX4_read 2 (some .int)) (fun ad => [.ref (ad 0)]) V W9 (rX o9) := by
  unfold d_X4_read at h
  refine AM.of (by decide +kernel) (fun ad => Nat.le_of_ble_eq_true rfl) (fun {p l e s m args below meth c D cs ad b0} C hT => ?_)
  have C : Ctx p l s m args meth c D cs ad b0 RX4 cX4_read 2 (some .int) := C
  refine a_sub (lv' := [(0, .ref (ad 0))]) [0] rfl ?_
  refine a_aload_n (q := 0) C dX4_read_0 rfl rfl ?_
  refine a_aload_n (q := 0) C dX4_read_1 rfl rfl ?_
  refine a_getr (a := 0) (t := 105) C dX4_read_2 fl_RX4_39 rfl rfl ?_
  obtain ⟨r3, V2, g1, h⟩ := bw_spec h
  refine a_cVi (a := 105) (st := [.ref (ad 0)]) C dX4_read_5 cv_RX4_288 (w_X2_findError   V r3 V2 g1) rfl rfl rfl rfl rfl ⟨Nat.le_of_ble_eq_true rfl, Nat.le_of_ble_eq_true rfl, Nat.le_of_ble_eq_true rfl, Nat.le_of_ble_eq_true rfl⟩ (Nat.le_of_ble_eq_true rfl) ?_
  refine a_puti (a := 0) C dX4_read_8 fp_RX4_55 rfl rfl rfl rfl ?_
  refine a_aload_n (q := 0) C dX4_read_11 rfl rfl ?_
  refine a_geti (a := 0) (x := r3) C dX4_read_12 fl_RX4_55 rfl rfl rfl ?_
  refine a_iconst (v := (-1 : Int32)) C dX4_read_15 rfl ?_
  refine a_icmp_ne (tgt := 26) C dX4_read_16 (by decide) (fun c4 => ?_) (fun c4 => ?_)
  · have h := it_f c4 h
    refine a_bipush (v := (-2 : Int32)) C dX4_read_26 rfl ?_
    refine a_sub (lv' := [(0, .ref (ad 0))]) [0] rfl ?_
    exact w_X4_read_28 C hT (-2 : Int32) (up2 V2 0 9 r3) h
  · have h := it_t c4 h
    refine a_aload_n (q := 0) C dX4_read_19 rfl rfl ?_
    obtain ⟨r7, V6, g5, h⟩ := bw_spec h
    refine a_cVi (a := 0) (st := []) C dX4_read_20 cv_RX4_291 (w_X4_carryOutAll   (up2 V2 0 9 r3) r7 V6 g5) rfl rfl rfl rfl rfl ⟨Nat.le_of_ble_eq_true rfl, Nat.le_of_ble_eq_true rfl, Nat.le_of_ble_eq_true rfl, Nat.le_of_ble_eq_true rfl⟩ (Nat.le_of_ble_eq_true rfl) ?_
    refine a_goto (tgt := 28) C dX4_read_23 (by decide) ?_
    refine a_sub (lv' := [(0, .ref (ad 0))]) [0] rfl ?_
    exact w_X4_read_28 C hT r7 V6 h
set_option maxRecDepth 20000 in
set_option maxHeartbeats 4000000 in
theorem w_X4_errorPosition   (V : VT) (r9 : Int32) (h : d_X4_errorPosition  V = some r9) : AM 2 0 yX4_errorPosition (.code yX4_errorPosition cX4_errorPosition 1 (some .int)) (fun ad => [.ref (ad 0)]) V V (rI r9) := by
  unfold d_X4_errorPosition at h
  refine AM.of (by decide +kernel) (fun ad => Nat.le_of_ble_eq_true rfl) (fun {p l e s m args below meth c D cs ad b0} C hT => ?_)
  have C : Ctx p l s m args meth c D cs ad b0 RX4 cX4_errorPosition 1 (some .int) := C
  refine a_sub (lv' := [(0, .ref (ad 0))]) [0] rfl ?_
  refine a_aload_n (q := 0) C dX4_errorPosition_0 rfl rfl ?_
  refine a_geti (a := 0) (x := (V 0 9)) C dX4_errorPosition_1 fl_RX4_55 rfl rfl rfl ?_
  obtain rfl := ret1 h
  exact a_iret C dX4_errorPosition_4 rfl (by decide) rfl rfl
set_option maxRecDepth 20000 in
set_option maxHeartbeats 4000000 in
theorem w_X4_refusal (x1 : Int32)  (V : VT) (o9 : Int32 ⊕ String) (W9 : VT) (h : d_X4_refusal x1 V = some (o9, W9)) : AM 6 1 yX4_refusal (.code yX4_refusal cX4_refusal 2 (some .int)) (fun ad => [.ref (ad 0), .int x1]) V W9 (rX o9) := by
  unfold d_X4_refusal at h
  refine AM.of (by decide +kernel) (fun ad => Nat.le_of_ble_eq_true rfl) (fun {p l e s m args below meth c D cs ad b0} C hT => ?_)
  have C : Ctx p l s m args meth c D cs ad b0 RX4 cX4_refusal 2 (some .int) := C
  refine a_sub (lv' := [(0, .ref (ad 0)), (1, .int x1)]) [0, 1] rfl ?_
  refine a_aload_n (q := 0) C dX4_refusal_0 rfl rfl ?_
  refine a_geti (a := 0) (x := (V 0 10)) C dX4_refusal_1 fl_RX4_58 rfl rfl rfl ?_
  refine a_if_ne (tgt := 18) C dX4_refusal_4 (by decide) (fun c1 => ?_) (fun c1 => ?_)
  · have h := it_f c1 h
    refine a_iload_n (q := 1) C dX4_refusal_18 rfl rfl ?_
    refine a_if_eq (tgt := 29) C dX4_refusal_19 (by decide) (fun c2 => ?_) (fun c2 => ?_)
    · have h := it_t c2 h
      refine a_aload_n (q := 0) C dX4_refusal_29 rfl rfl ?_
      refine a_geti (a := 0) (x := (V 0 10)) C dX4_refusal_30 fl_RX4_58 rfl rfl rfl ?_
      obtain ⟨rfl, rfl⟩ := ret2 h
      exact a_iret C dX4_refusal_33 rfl (by decide) rfl rfl
    · have h := it_f c2 h
      refine a_aload_n (q := 0) C dX4_refusal_22 rfl rfl ?_
      refine a_geti (a := 0) (x := (V 0 11)) C dX4_refusal_23 fl_RX4_61 rfl rfl rfl ?_
      refine a_goto (tgt := 33) C dX4_refusal_26 (by decide) ?_
      obtain ⟨rfl, rfl⟩ := ret2 h
      exact a_iret C dX4_refusal_33 rfl (by decide) rfl rfl
  · have h := it_t c1 h
    obtain ⟨rfl, rfl⟩ := ret2 h
    exact a_throwNW (text := "nothing was refused") C hT tn_RX4_193_197 (by decide +kernel) dX4_refusal_7 dX4_refusal_10 dX4_refusal_11 dX4_refusal_14 dX4_refusal_17 ⟨by decide, by decide, by decide, by decide⟩ (by decide) rfl rfl
set_option maxRecDepth 20000 in
set_option maxHeartbeats 4000000 in
theorem w_X1_countPainted   (V : VT) (r9 : Int32) (h : d_X1_countPainted  V = some r9) : AM 4 0 yX1_countPainted (.code yX1_countPainted cX1_countPainted 1 (some .int)) (fun ad => [.ref (ad 1)]) V V (rI r9) := by
  unfold d_X1_countPainted at h
  refine AM.of (by decide +kernel) (fun ad => Nat.le_of_ble_eq_true rfl) (fun {p l e s m args below meth c D cs ad b0} C hT => ?_)
  have C : Ctx p l s m args meth c D cs ad b0 RX1 cX1_countPainted 1 (some .int) := C
  refine a_sub (lv' := [(0, .ref (ad 1))]) [0] rfl ?_
  refine a_aload_n (q := 0) C dX1_countPainted_0 rfl rfl ?_
  refine a_geti (a := 1) (x := (V 1 8)) C dX1_countPainted_1 fl_RX1_36 rfl rfl rfl ?_
  refine a_aload_n (q := 0) C dX1_countPainted_4 rfl rfl ?_
  obtain ⟨r2, g1, h⟩ := bd_spec h
  refine a_cVi (a := 1) (st := [.int (V 1 8)]) C dX1_countPainted_5 cv_RX1_107 (w_X1_unpainted   V r2 g1) rfl rfl rfl rfl rfl ⟨Nat.le_of_ble_eq_true rfl, Nat.le_of_ble_eq_true rfl, Nat.le_of_ble_eq_true rfl, Nat.le_of_ble_eq_true rfl⟩ (Nat.le_of_ble_eq_true rfl) ?_
  obtain ⟨r4, g3, h⟩ := bd_spec h
  refine a_cSi (st := [.int (V 1 8)]) C dX1_countPainted_8 cv_RX1_96 (w_J6_bitCount_0f7a4 r2  V r4 g3) rfl rfl rfl ⟨Nat.le_of_ble_eq_true rfl, Nat.le_of_ble_eq_true rfl, Nat.le_of_ble_eq_true rfl, Nat.le_of_ble_eq_true rfl⟩ (Nat.le_of_ble_eq_true rfl) ?_
  refine a_isub C dX1_countPainted_11 ?_
  obtain rfl := ret1 h
  exact a_iret C dX1_countPainted_12 rfl (by decide) rfl rfl
set_option maxRecDepth 20000 in
set_option maxHeartbeats 4000000 in
theorem w_X1_countStuck_4 {p : Program} {l : Launch} {e : Env} {s : State} {m : MethodId} {args : Array Value} {below : List Frame} {meth : Method} {c : Code} {D : va_G} {cs : Nat → ClassId} {ad : Nat → Nat} {b0 : Nat} (C : Ctx p l s m args meth c D cs ad b0 RX1 cX1_countStuck 3 (some .int)) (hT : ∀ x ∈ c.exceptionTable.toList, False)   {V : VT} {r9 : Int32}     :
    ∀ (x1 x2 : Int32) , d_X1_countStuck_4 V x1 x2 = some r9 → AW p l e (rmOf 5 0) s m args below meth c D cs ad b0 (QF below D cs ad b0 V ((rI r9) ad) args s 0) 3 0 V [(0, .ref (ad 1)), (1, .int x1), (2, .int x2)] [] 4 := by
  refine lo2_ind (P := fun x1 x2 => AW p l e (rmOf 5 0) s m args below meth c D cs ad b0 (QF below D cs ad b0 V ((rI r9) ad) args s 0) 3 0 V [(0, .ref (ad 1)), (1, .int x1), (2, .int x2)] [] 4) ?_ FU
  intro k4 hk4 x1 x2 h
  unfold d_X1_countStuck_4b at h
  refine a_iload_n (q := 2) C dX1_countStuck_4 rfl rfl ?_
  refine a_aload_n (q := 0) C dX1_countStuck_5 rfl rfl ?_
  refine a_geti (a := 1) (x := (V 1 8)) C dX1_countStuck_6 fl_RX1_36 rfl rfl rfl ?_
  refine a_icmp_ge (tgt := 29) C dX1_countStuck_9 (by decide) (fun c1 => ?_) (fun c1 => ?_)
  · have h := it_t c1 h
    refine a_iload_n (q := 1) C dX1_countStuck_29 rfl rfl ?_
    obtain rfl := ret1 h
    exact a_iret C dX1_countStuck_30 rfl (by decide) rfl rfl
  · have h := it_f c1 h
    refine a_aload_n (q := 0) C dX1_countStuck_12 rfl rfl ?_
    refine a_iload_n (q := 2) C dX1_countStuck_13 rfl rfl ?_
    obtain ⟨r3, g2, h⟩ := bd_spec h
    refine a_cVi (a := 1) (st := []) C dX1_countStuck_14 cv_RX1_101 (w_X1_isStuck x2  V r3 g2) rfl rfl rfl rfl rfl ⟨Nat.le_of_ble_eq_true rfl, Nat.le_of_ble_eq_true rfl, Nat.le_of_ble_eq_true rfl, Nat.le_of_ble_eq_true rfl⟩ (Nat.le_of_ble_eq_true rfl) ?_
    refine a_if_eq (tgt := 23) C dX1_countStuck_17 (by decide) (fun c4 => ?_) (fun c4 => ?_)
    · have h := it_t c4 h
      refine a_iinc (q := 2) (v := (x2 + (1 : Int32))) (lv' := [(2, .int (x2 + (1 : Int32))), (0, .ref (ad 1)), (1, .int x1)]) C dX1_countStuck_23 rfl rfl (by decide) rfl ?_
      refine a_goto (tgt := 4) C dX1_countStuck_26 (by decide) ?_
      refine a_sub (lv' := [(0, .ref (ad 1)), (1, .int x1), (2, .int (x2 + (1 : Int32)))]) [1, 2, 0] rfl ?_
      exact hk4 x1 (x2 + (1 : Int32)) h
    · have h := it_f c4 h
      refine a_iinc (q := 1) (v := (x1 + (1 : Int32))) (lv' := [(1, .int (x1 + (1 : Int32))), (0, .ref (ad 1)), (2, .int x2)]) C dX1_countStuck_20 rfl rfl (by decide) rfl ?_
      refine a_iinc (q := 2) (v := (x2 + (1 : Int32))) (lv' := [(2, .int (x2 + (1 : Int32))), (1, .int (x1 + (1 : Int32))), (0, .ref (ad 1))]) C dX1_countStuck_23 rfl rfl (by decide) rfl ?_
      refine a_goto (tgt := 4) C dX1_countStuck_26 (by decide) ?_
      refine a_sub (lv' := [(0, .ref (ad 1)), (1, .int (x1 + (1 : Int32))), (2, .int (x2 + (1 : Int32)))]) [2, 1, 0] rfl ?_
      exact hk4 (x1 + (1 : Int32)) (x2 + (1 : Int32)) h
set_option maxRecDepth 20000 in
set_option maxHeartbeats 4000000 in
theorem w_X1_countStuck   (V : VT) (r9 : Int32) (h : d_X1_countStuck  V = some r9) : AM 5 0 yX1_countStuck (.code yX1_countStuck cX1_countStuck 3 (some .int)) (fun ad => [.ref (ad 1)]) V V (rI r9) := by
  unfold d_X1_countStuck at h
  refine AM.of (by decide +kernel) (fun ad => Nat.le_of_ble_eq_true rfl) (fun {p l e s m args below meth c D cs ad b0} C hT => ?_)
  have C : Ctx p l s m args meth c D cs ad b0 RX1 cX1_countStuck 3 (some .int) := C
  refine a_sub (lv' := [(0, .ref (ad 1))]) [0] rfl ?_
  refine a_iconst (v := (0 : Int32)) C dX1_countStuck_0 rfl ?_
  refine a_istore_n (lv' := [(1, .int (0 : Int32)), (0, .ref (ad 1))]) C dX1_countStuck_1 rfl (by decide) rfl ?_
  refine a_iconst (v := (0 : Int32)) C dX1_countStuck_2 rfl ?_
  refine a_istore_n (lv' := [(2, .int (0 : Int32)), (1, .int (0 : Int32)), (0, .ref (ad 1))]) C dX1_countStuck_3 rfl (by decide) rfl ?_
  refine a_sub (lv' := [(0, .ref (ad 1)), (1, .int (0 : Int32)), (2, .int (0 : Int32))]) [2, 1, 0] rfl ?_
  exact w_X1_countStuck_4 C hT (0 : Int32) (0 : Int32) h
set_option maxRecDepth 20000 in
set_option maxHeartbeats 4000000 in
theorem w_X4_sum_10 {p : Program} {l : Launch} {e : Env} {s : State} {m : MethodId} {args : Array Value} {below : List Frame} {meth : Method} {c : Code} {D : va_G} {cs : Nat → ClassId} {ad : Nat → Nat} {b0 : Nat} (C : Ctx p l s m args meth c D cs ad b0 RX4 cX4_sum 6 (some .int)) (hT : ∀ x ∈ c.exceptionTable.toList, False)  {a : Nat} {V : VT} {r9 : Int32}   (ha : isIA a = true)  :
    ∀ (x1 x3 x4 : Int32) , d_X4_sum_10 a V x1 x3 x4 = some r9 → AW p l e (rmOf 2 0) s m args below meth c D cs ad b0 (QF below D cs ad b0 V ((rI r9) ad) args s 0) 6 0 V [(1, .int x1), (2, .ref (ad a)), (3, .int x3), (4, .int x4)] [] 10 := by
  refine lo3_ind (P := fun x1 x3 x4 => AW p l e (rmOf 2 0) s m args below meth c D cs ad b0 (QF below D cs ad b0 V ((rI r9) ad) args s 0) 6 0 V [(1, .int x1), (2, .ref (ad a)), (3, .int x3), (4, .int x4)] [] 10) ?_ FU
  intro k10 hk10 x1 x3 x4 h
  unfold d_X4_sum_10b at h
  refine a_iload (q := 3) C dX4_sum_10 rfl ?_
  refine a_iload_n (q := 2) C dX4_sum_12 rfl rfl ?_
  refine a_icmp_ge (tgt := 33) C dX4_sum_13 (by decide) (fun c1 => ?_) (fun c1 => ?_)
  · have h := it_t c1 h
    refine a_iload_n (q := 0) C dX4_sum_33 rfl rfl ?_
    obtain rfl := ret1 h
    exact a_iret C dX4_sum_34 rfl (by decide) rfl rfl
  · have h := it_f c1 h
    refine a_aload_n (q := 1) C dX4_sum_16 rfl rfl ?_
    refine a_iload (q := 3) C dX4_sum_17 rfl ?_
    obtain ⟨z2, h⟩ := asr_spec h
    refine a_iald (a := a) (x := (V a x4.toNatClampNeg)) C dX4_sum_19 (isIA_sh ha) (inb_in z2) rfl ?_
    refine a_istore (lv' := [(5, .int (V a x4.toNatClampNeg)), (1, .int x1), (2, .ref (ad a)), (3, .int x3), (4, .int x4)]) C dX4_sum_20 (by decide) rfl ?_
    refine a_iload_n (q := 1) C dX4_sum_22 rfl rfl ?_
    refine a_iload (q := 0) C dX4_sum_23 rfl ?_
    refine a_iadd C dX4_sum_25 ?_
    refine a_istore_n (lv' := [(1, .int (x1 + (V a x4.toNatClampNeg))), (5, .int (V a x4.toNatClampNeg)), (2, .ref (ad a)), (3, .int x3), (4, .int x4)]) C dX4_sum_26 rfl (by decide) rfl ?_
    refine a_iinc (q := 4) (v := (x4 + (1 : Int32))) (lv' := [(4, .int (x4 + (1 : Int32))), (1, .int (x1 + (V a x4.toNatClampNeg))), (5, .int (V a x4.toNatClampNeg)), (2, .ref (ad a)), (3, .int x3)]) C dX4_sum_27 rfl rfl (by decide) rfl ?_
    refine a_goto (tgt := 10) C dX4_sum_30 (by decide) ?_
    refine a_sub (lv' := [(1, .int (x1 + (V a x4.toNatClampNeg))), (2, .ref (ad a)), (3, .int x3), (4, .int (x4 + (1 : Int32)))]) [1, 3, 4, 0] rfl ?_
    exact hk10 (x1 + (V a x4.toNatClampNeg)) x3 (x4 + (1 : Int32)) h
set_option maxRecDepth 20000 in
set_option maxHeartbeats 4000000 in
theorem w_X4_sum (a : Nat) (ha : isIA a = true) (V : VT) (r9 : Int32) (h : d_X4_sum a V = some r9) : AM 2 0 yX4_sum (.code yX4_sum cX4_sum 6 (some .int)) (fun ad => [.ref (ad a)]) V V (rI r9) := by
  unfold d_X4_sum at h
  refine AM.of (by decide +kernel) (fun ad => Nat.le_of_ble_eq_true rfl) (fun {p l e s m args below meth c D cs ad b0} C hT => ?_)
  have C : Ctx p l s m args meth c D cs ad b0 RX4 cX4_sum 6 (some .int) := C
  refine a_sub (lv' := [(0, .ref (ad a))]) [0] rfl ?_
  refine a_iconst (v := (0 : Int32)) C dX4_sum_0 rfl ?_
  refine a_istore_n (lv' := [(1, .int (0 : Int32)), (0, .ref (ad a))]) C dX4_sum_1 rfl (by decide) rfl ?_
  refine a_aload_n (q := 1) C dX4_sum_2 rfl rfl ?_
  refine a_astore_n (lv' := [(2, .ref (ad a)), (1, .int (0 : Int32)), (0, .ref (ad a))]) C dX4_sum_3 rfl (by decide) rfl ?_
  refine a_aload_n (q := 0) C dX4_sum_4 rfl rfl ?_
  refine a_alen (a := a) (v := (Int32.ofNat (alen a))) C dX4_sum_5 (isIA_sh ha) rfl ?_
  refine a_istore_n (lv' := [(3, .int (Int32.ofNat (alen a))), (2, .ref (ad a)), (1, .int (0 : Int32)), (0, .ref (ad a))]) C dX4_sum_6 rfl (by decide) rfl ?_
  refine a_iconst (v := (0 : Int32)) C dX4_sum_7 rfl ?_
  refine a_istore (lv' := [(4, .int (0 : Int32)), (3, .int (Int32.ofNat (alen a))), (2, .ref (ad a)), (1, .int (0 : Int32)), (0, .ref (ad a))]) C dX4_sum_8 (by decide) rfl ?_
  refine a_sub (lv' := [(1, .int (0 : Int32)), (2, .ref (ad a)), (3, .int (Int32.ofNat (alen a))), (4, .int (0 : Int32))]) [3, 2, 1, 0] rfl ?_
  exact w_X4_sum_10 C hT ha (0 : Int32) (Int32.ofNat (alen a)) (0 : Int32) h
set_option maxRecDepth 20000 in
set_option maxHeartbeats 4000000 in
theorem w_X1_countWishes_4 {p : Program} {l : Launch} {e : Env} {s : State} {m : MethodId} {args : Array Value} {below : List Frame} {meth : Method} {c : Code} {D : va_G} {cs : Nat → ClassId} {ad : Nat → Nat} {b0 : Nat} (C : Ctx p l s m args meth c D cs ad b0 RX1 cX1_countWishes 3 (some .int)) (hT : ∀ x ∈ c.exceptionTable.toList, False)   {V : VT} {r9 : Int32}     :
    ∀ (x1 x2 : Int32) , d_X1_countWishes_4 V x1 x2 = some r9 → AW p l e (rmOf 2 0) s m args below meth c D cs ad b0 (QF below D cs ad b0 V ((rI r9) ad) args s 0) 3 0 V [(0, .ref (ad 1)), (1, .int x1), (2, .int x2)] [] 4 := by
  refine lo2_ind (P := fun x1 x2 => AW p l e (rmOf 2 0) s m args below meth c D cs ad b0 (QF below D cs ad b0 V ((rI r9) ad) args s 0) 3 0 V [(0, .ref (ad 1)), (1, .int x1), (2, .int x2)] [] 4) ?_ FU
  intro k4 hk4 x1 x2 h
  unfold d_X1_countWishes_4b at h
  refine a_iload_n (q := 2) C dX1_countWishes_4 rfl rfl ?_
  refine a_aload_n (q := 0) C dX1_countWishes_5 rfl rfl ?_
  refine a_geti (a := 1) (x := (V 1 8)) C dX1_countWishes_6 fl_RX1_36 rfl rfl rfl ?_
  refine a_icmp_ge (tgt := 31) C dX1_countWishes_9 (by decide) (fun c1 => ?_) (fun c1 => ?_)
  · have h := it_t c1 h
    refine a_iload_n (q := 1) C dX1_countWishes_31 rfl rfl ?_
    obtain rfl := ret1 h
    exact a_iret C dX1_countWishes_32 rfl (by decide) rfl rfl
  · have h := it_f c1 h
    refine a_aload_n (q := 0) C dX1_countWishes_12 rfl rfl ?_
    refine a_getr (a := 1) (t := 4) C dX1_countWishes_13 fl_RX1_18 rfl rfl ?_
    refine a_iload_n (q := 2) C dX1_countWishes_16 rfl rfl ?_
    obtain ⟨z2, h⟩ := asr_spec h
    refine a_iald (a := 4) (x := (V 4 x2.toNatClampNeg)) C dX1_countWishes_17 rfl (inb_in z2) rfl ?_
    refine a_iconst (v := (-1 : Int32)) C dX1_countWishes_18 rfl ?_
    refine a_icmp_eq (tgt := 25) C dX1_countWishes_19 (by decide) (fun c3 => ?_) (fun c3 => ?_)
    · have h := it_t c3 h
      refine a_iinc (q := 2) (v := (x2 + (1 : Int32))) (lv' := [(2, .int (x2 + (1 : Int32))), (0, .ref (ad 1)), (1, .int x1)]) C dX1_countWishes_25 rfl rfl (by decide) rfl ?_
      refine a_goto (tgt := 4) C dX1_countWishes_28 (by decide) ?_
      refine a_sub (lv' := [(0, .ref (ad 1)), (1, .int x1), (2, .int (x2 + (1 : Int32)))]) [1, 2, 0] rfl ?_
      exact hk4 x1 (x2 + (1 : Int32)) h
    · have h := it_f c3 h
      refine a_iinc (q := 1) (v := (x1 + (1 : Int32))) (lv' := [(1, .int (x1 + (1 : Int32))), (0, .ref (ad 1)), (2, .int x2)]) C dX1_countWishes_22 rfl rfl (by decide) rfl ?_
      refine a_iinc (q := 2) (v := (x2 + (1 : Int32))) (lv' := [(2, .int (x2 + (1 : Int32))), (1, .int (x1 + (1 : Int32))), (0, .ref (ad 1))]) C dX1_countWishes_25 rfl rfl (by decide) rfl ?_
      refine a_goto (tgt := 4) C dX1_countWishes_28 (by decide) ?_
      refine a_sub (lv' := [(0, .ref (ad 1)), (1, .int (x1 + (1 : Int32))), (2, .int (x2 + (1 : Int32)))]) [2, 1, 0] rfl ?_
      exact hk4 (x1 + (1 : Int32)) (x2 + (1 : Int32)) h
set_option maxRecDepth 20000 in
set_option maxHeartbeats 4000000 in
theorem w_X1_countWishes   (V : VT) (r9 : Int32) (h : d_X1_countWishes  V = some r9) : AM 2 0 yX1_countWishes (.code yX1_countWishes cX1_countWishes 3 (some .int)) (fun ad => [.ref (ad 1)]) V V (rI r9) := by
  unfold d_X1_countWishes at h
  refine AM.of (by decide +kernel) (fun ad => Nat.le_of_ble_eq_true rfl) (fun {p l e s m args below meth c D cs ad b0} C hT => ?_)
  have C : Ctx p l s m args meth c D cs ad b0 RX1 cX1_countWishes 3 (some .int) := C
  refine a_sub (lv' := [(0, .ref (ad 1))]) [0] rfl ?_
  refine a_iconst (v := (0 : Int32)) C dX1_countWishes_0 rfl ?_
  refine a_istore_n (lv' := [(1, .int (0 : Int32)), (0, .ref (ad 1))]) C dX1_countWishes_1 rfl (by decide) rfl ?_
  refine a_iconst (v := (0 : Int32)) C dX1_countWishes_2 rfl ?_
  refine a_istore_n (lv' := [(2, .int (0 : Int32)), (1, .int (0 : Int32)), (0, .ref (ad 1))]) C dX1_countWishes_3 rfl (by decide) rfl ?_
  refine a_sub (lv' := [(0, .ref (ad 1)), (1, .int (0 : Int32)), (2, .int (0 : Int32))]) [2, 1, 0] rfl ?_
  exact w_X1_countWishes_4 C hT (0 : Int32) (0 : Int32) h
set_option maxRecDepth 20000 in
set_option maxHeartbeats 4000000 in
theorem w_X1_countFulfilled_4 {p : Program} {l : Launch} {e : Env} {s : State} {m : MethodId} {args : Array Value} {below : List Frame} {meth : Method} {c : Code} {D : va_G} {cs : Nat → ClassId} {ad : Nat → Nat} {b0 : Nat} (C : Ctx p l s m args meth c D cs ad b0 RX1 cX1_countFulfilled 3 (some .int)) (hT : ∀ x ∈ c.exceptionTable.toList, False)   {V : VT} {r9 : Int32}     :
    ∀ (x1 x2 : Int32) , d_X1_countFulfilled_4 V x1 x2 = some r9 → AW p l e (rmOf 4 0) s m args below meth c D cs ad b0 (QF below D cs ad b0 V ((rI r9) ad) args s 0) 3 0 V [(0, .ref (ad 1)), (1, .int x1), (2, .int x2)] [] 4 := by
  refine lo2_ind (P := fun x1 x2 => AW p l e (rmOf 4 0) s m args below meth c D cs ad b0 (QF below D cs ad b0 V ((rI r9) ad) args s 0) 3 0 V [(0, .ref (ad 1)), (1, .int x1), (2, .int x2)] [] 4) ?_ FU
  intro k4 hk4 x1 x2 h
  unfold d_X1_countFulfilled_4b at h
  refine a_iload_n (q := 2) C dX1_countFulfilled_4 rfl rfl ?_
  refine a_aload_n (q := 0) C dX1_countFulfilled_5 rfl rfl ?_
  refine a_geti (a := 1) (x := (V 1 8)) C dX1_countFulfilled_6 fl_RX1_36 rfl rfl rfl ?_
  refine a_icmp_ge (tgt := 29) C dX1_countFulfilled_9 (by decide) (fun c1 => ?_) (fun c1 => ?_)
  · have h := it_t c1 h
    refine a_iload_n (q := 1) C dX1_countFulfilled_29 rfl rfl ?_
    obtain rfl := ret1 h
    exact a_iret C dX1_countFulfilled_30 rfl (by decide) rfl rfl
  · have h := it_f c1 h
    refine a_aload_n (q := 0) C dX1_countFulfilled_12 rfl rfl ?_
    refine a_iload_n (q := 2) C dX1_countFulfilled_13 rfl rfl ?_
    obtain ⟨r3, g2, h⟩ := bd_spec h
    refine a_cVi (a := 1) (st := []) C dX1_countFulfilled_14 cv_RX1_116 (w_X1_isFulfilled x2  V r3 g2) rfl rfl rfl rfl rfl ⟨Nat.le_of_ble_eq_true rfl, Nat.le_of_ble_eq_true rfl, Nat.le_of_ble_eq_true rfl, Nat.le_of_ble_eq_true rfl⟩ (Nat.le_of_ble_eq_true rfl) ?_
    refine a_if_eq (tgt := 23) C dX1_countFulfilled_17 (by decide) (fun c4 => ?_) (fun c4 => ?_)
    · have h := it_t c4 h
      refine a_iinc (q := 2) (v := (x2 + (1 : Int32))) (lv' := [(2, .int (x2 + (1 : Int32))), (0, .ref (ad 1)), (1, .int x1)]) C dX1_countFulfilled_23 rfl rfl (by decide) rfl ?_
      refine a_goto (tgt := 4) C dX1_countFulfilled_26 (by decide) ?_
      refine a_sub (lv' := [(0, .ref (ad 1)), (1, .int x1), (2, .int (x2 + (1 : Int32)))]) [1, 2, 0] rfl ?_
      exact hk4 x1 (x2 + (1 : Int32)) h
    · have h := it_f c4 h
      refine a_iinc (q := 1) (v := (x1 + (1 : Int32))) (lv' := [(1, .int (x1 + (1 : Int32))), (0, .ref (ad 1)), (2, .int x2)]) C dX1_countFulfilled_20 rfl rfl (by decide) rfl ?_
      refine a_iinc (q := 2) (v := (x2 + (1 : Int32))) (lv' := [(2, .int (x2 + (1 : Int32))), (1, .int (x1 + (1 : Int32))), (0, .ref (ad 1))]) C dX1_countFulfilled_23 rfl rfl (by decide) rfl ?_
      refine a_goto (tgt := 4) C dX1_countFulfilled_26 (by decide) ?_
      refine a_sub (lv' := [(0, .ref (ad 1)), (1, .int (x1 + (1 : Int32))), (2, .int (x2 + (1 : Int32)))]) [2, 1, 0] rfl ?_
      exact hk4 (x1 + (1 : Int32)) (x2 + (1 : Int32)) h
set_option maxRecDepth 20000 in
set_option maxHeartbeats 4000000 in
theorem w_X1_countFulfilled   (V : VT) (r9 : Int32) (h : d_X1_countFulfilled  V = some r9) : AM 4 0 yX1_countFulfilled (.code yX1_countFulfilled cX1_countFulfilled 3 (some .int)) (fun ad => [.ref (ad 1)]) V V (rI r9) := by
  unfold d_X1_countFulfilled at h
  refine AM.of (by decide +kernel) (fun ad => Nat.le_of_ble_eq_true rfl) (fun {p l e s m args below meth c D cs ad b0} C hT => ?_)
  have C : Ctx p l s m args meth c D cs ad b0 RX1 cX1_countFulfilled 3 (some .int) := C
  refine a_sub (lv' := [(0, .ref (ad 1))]) [0] rfl ?_
  refine a_iconst (v := (0 : Int32)) C dX1_countFulfilled_0 rfl ?_
  refine a_istore_n (lv' := [(1, .int (0 : Int32)), (0, .ref (ad 1))]) C dX1_countFulfilled_1 rfl (by decide) rfl ?_
  refine a_iconst (v := (0 : Int32)) C dX1_countFulfilled_2 rfl ?_
  refine a_istore_n (lv' := [(2, .int (0 : Int32)), (1, .int (0 : Int32)), (0, .ref (ad 1))]) C dX1_countFulfilled_3 rfl (by decide) rfl ?_
  refine a_sub (lv' := [(0, .ref (ad 1)), (1, .int (0 : Int32)), (2, .int (0 : Int32))]) [2, 1, 0] rfl ?_
  exact w_X1_countFulfilled_4 C hT (0 : Int32) (0 : Int32) h
set_option maxRecDepth 20000 in
set_option maxHeartbeats 4000000 in
theorem w_X4_account (x1 : Int32)  (V : VT) (o9 : Int32 ⊕ String) (W9 : VT) (h : d_X4_account x1 V = some (o9, W9)) : AM 6 1 yX4_account (.code yX4_account cX4_account 2 (some .int)) (fun ad => [.ref (ad 0), .int x1]) V W9 (rX o9) := by
  unfold d_X4_account at h
  refine AM.of (by decide +kernel) (fun ad => Nat.le_of_ble_eq_true rfl) (fun {p l e s m args below meth c D cs ad b0} C hT => ?_)
  have C : Ctx p l s m args meth c D cs ad b0 RX4 cX4_account 2 (some .int) := C
  refine a_sub (lv' := [(0, .ref (ad 0)), (1, .int x1)]) [0, 1] rfl ?_
  refine a_iload_n (q := 1) C dX4_account_0 rfl rfl ?_
  by_cases c1 : x1 = (0 : Int32)
  · have h := it_t c1 h
    refine a_tswIn (tgt := 68) (v := (0 : Int32)) C dX4_account_1 c1 (by decide) (by decide) rfl (by decide) ?_
    refine a_aload_n (q := 0) C dX4_account_68 rfl rfl ?_
    refine a_getr (a := 0) (t := 1) C dX4_account_69 fl_RX4_10 rfl rfl ?_
    refine a_geti (a := 1) (x := (V 1 8)) C dX4_account_72 fl_RX4_303 rfl rfl rfl ?_
    obtain ⟨rfl, rfl⟩ := ret2 h
    exact a_iret C dX4_account_75 rfl (by decide) rfl rfl
  · have h := it_f c1 h
    by_cases c2 : x1 = (1 : Int32)
    · have h := it_t c2 h
      refine a_tswIn (tgt := 76) (v := (1 : Int32)) C dX4_account_1 c2 (by decide) (by decide) rfl (by decide) ?_
      refine a_aload_n (q := 0) C dX4_account_76 rfl rfl ?_
      refine a_getr (a := 0) (t := 1) C dX4_account_77 fl_RX4_10 rfl rfl ?_
      obtain ⟨r4, g3, h⟩ := bd_spec h
      refine a_cVi (a := 1) (st := []) C dX4_account_80 cv_RX4_99 (w_X1_countBorders   V r4 g3) rfl rfl rfl rfl rfl ⟨Nat.le_of_ble_eq_true rfl, Nat.le_of_ble_eq_true rfl, Nat.le_of_ble_eq_true rfl, Nat.le_of_ble_eq_true rfl⟩ (Nat.le_of_ble_eq_true rfl) ?_
      obtain ⟨rfl, rfl⟩ := ret2 h
      exact a_iret C dX4_account_83 rfl (by decide) rfl rfl
    · have h := it_f c2 h
      by_cases c5 : x1 = (2 : Int32)
      · have h := it_t c5 h
        refine a_tswIn (tgt := 84) (v := (2 : Int32)) C dX4_account_1 c5 (by decide) (by decide) rfl (by decide) ?_
        refine a_aload_n (q := 0) C dX4_account_84 rfl rfl ?_
        refine a_getr (a := 0) (t := 1) C dX4_account_85 fl_RX4_10 rfl rfl ?_
        refine a_geti (a := 1) (x := (V 1 9)) C dX4_account_88 fl_RX4_150 rfl rfl rfl ?_
        obtain ⟨rfl, rfl⟩ := ret2 h
        exact a_iret C dX4_account_91 rfl (by decide) rfl rfl
      · have h := it_f c5 h
        by_cases c6 : x1 = (3 : Int32)
        · have h := it_t c6 h
          refine a_tswIn (tgt := 92) (v := (3 : Int32)) C dX4_account_1 c6 (by decide) (by decide) rfl (by decide) ?_
          refine a_aload_n (q := 0) C dX4_account_92 rfl rfl ?_
          refine a_getr (a := 0) (t := 1) C dX4_account_93 fl_RX4_10 rfl rfl ?_
          obtain ⟨r8, g7, h⟩ := bd_spec h
          refine a_cVi (a := 1) (st := []) C dX4_account_96 cv_RX4_306 (w_X1_countPainted   V r8 g7) rfl rfl rfl rfl rfl ⟨Nat.le_of_ble_eq_true rfl, Nat.le_of_ble_eq_true rfl, Nat.le_of_ble_eq_true rfl, Nat.le_of_ble_eq_true rfl⟩ (Nat.le_of_ble_eq_true rfl) ?_
          obtain ⟨rfl, rfl⟩ := ret2 h
          exact a_iret C dX4_account_99 rfl (by decide) rfl rfl
        · have h := it_f c6 h
          by_cases c9 : x1 = (4 : Int32)
          · have h := it_t c9 h
            refine a_tswIn (tgt := 100) (v := (4 : Int32)) C dX4_account_1 c9 (by decide) (by decide) rfl (by decide) ?_
            refine a_aload_n (q := 0) C dX4_account_100 rfl rfl ?_
            refine a_getr (a := 0) (t := 1) C dX4_account_101 fl_RX4_10 rfl rfl ?_
            obtain ⟨r11, g10, h⟩ := bd_spec h
            refine a_cVi (a := 1) (st := []) C dX4_account_104 cv_RX4_309 (w_X1_countStuck   V r11 g10) rfl rfl rfl rfl rfl ⟨Nat.le_of_ble_eq_true rfl, Nat.le_of_ble_eq_true rfl, Nat.le_of_ble_eq_true rfl, Nat.le_of_ble_eq_true rfl⟩ (Nat.le_of_ble_eq_true rfl) ?_
            obtain ⟨rfl, rfl⟩ := ret2 h
            exact a_iret C dX4_account_107 rfl (by decide) rfl rfl
          · have h := it_f c9 h
            by_cases c12 : x1 = (5 : Int32)
            · have h := it_t c12 h
              refine a_tswIn (tgt := 108) (v := (5 : Int32)) C dX4_account_1 c12 (by decide) (by decide) rfl (by decide) ?_
              refine a_aload_n (q := 0) C dX4_account_108 rfl rfl ?_
              refine a_getr (a := 0) (t := 1) C dX4_account_109 fl_RX4_10 rfl rfl ?_
              refine a_geti (a := 1) (x := (V 1 10)) C dX4_account_112 fl_RX4_181 rfl rfl rfl ?_
              obtain ⟨rfl, rfl⟩ := ret2 h
              exact a_iret C dX4_account_115 rfl (by decide) rfl rfl
            · have h := it_f c12 h
              by_cases c13 : x1 = (6 : Int32)
              · have h := it_t c13 h
                refine a_tswIn (tgt := 116) (v := (6 : Int32)) C dX4_account_1 c13 (by decide) (by decide) rfl (by decide) ?_
                refine a_aload_n (q := 0) C dX4_account_116 rfl rfl ?_
                refine a_getr (a := 0) (t := 1) C dX4_account_117 fl_RX4_10 rfl rfl ?_
                refine a_getr (a := 1) (t := 8) C dX4_account_120 fl_RX4_164 rfl rfl ?_
                obtain ⟨r15, g14, h⟩ := bd_spec h
                refine a_cSi (st := []) C dX4_account_123 cv_RX4_312 (w_X4_sum 8 rfl V r15 g14) rfl rfl rfl ⟨Nat.le_of_ble_eq_true rfl, Nat.le_of_ble_eq_true rfl, Nat.le_of_ble_eq_true rfl, Nat.le_of_ble_eq_true rfl⟩ (Nat.le_of_ble_eq_true rfl) ?_
                obtain ⟨rfl, rfl⟩ := ret2 h
                exact a_iret C dX4_account_126 rfl (by decide) rfl rfl
              · have h := it_f c13 h
                by_cases c16 : x1 = (7 : Int32)
                · have h := it_t c16 h
                  refine a_tswIn (tgt := 127) (v := (7 : Int32)) C dX4_account_1 c16 (by decide) (by decide) rfl (by decide) ?_
                  refine a_aload_n (q := 0) C dX4_account_127 rfl rfl ?_
                  refine a_getr (a := 0) (t := 1) C dX4_account_128 fl_RX4_10 rfl rfl ?_
                  refine a_getr (a := 1) (t := 9) C dX4_account_131 fl_RX4_170 rfl rfl ?_
                  obtain ⟨r18, g17, h⟩ := bd_spec h
                  refine a_cSi (st := []) C dX4_account_134 cv_RX4_312 (w_X4_sum 9 rfl V r18 g17) rfl rfl rfl ⟨Nat.le_of_ble_eq_true rfl, Nat.le_of_ble_eq_true rfl, Nat.le_of_ble_eq_true rfl, Nat.le_of_ble_eq_true rfl⟩ (Nat.le_of_ble_eq_true rfl) ?_
                  obtain ⟨rfl, rfl⟩ := ret2 h
                  exact a_iret C dX4_account_137 rfl (by decide) rfl rfl
                · have h := it_f c16 h
                  by_cases c19 : x1 = (8 : Int32)
                  · have h := it_t c19 h
                    refine a_tswIn (tgt := 138) (v := (8 : Int32)) C dX4_account_1 c19 (by decide) (by decide) rfl (by decide) ?_
                    refine a_aload_n (q := 0) C dX4_account_138 rfl rfl ?_
                    refine a_getr (a := 0) (t := 1) C dX4_account_139 fl_RX4_10 rfl rfl ?_
                    refine a_geti (a := 1) (x := (V 1 11)) C dX4_account_142 fl_RX4_316 rfl rfl rfl ?_
                    obtain ⟨rfl, rfl⟩ := ret2 h
                    exact a_iret C dX4_account_145 rfl (by decide) rfl rfl
                  · have h := it_f c19 h
                    by_cases c20 : x1 = (9 : Int32)
                    · have h := it_t c20 h
                      refine a_tswIn (tgt := 146) (v := (9 : Int32)) C dX4_account_1 c20 (by decide) (by decide) rfl (by decide) ?_
                      refine a_aload_n (q := 0) C dX4_account_146 rfl rfl ?_
                      refine a_getr (a := 0) (t := 1) C dX4_account_147 fl_RX4_10 rfl rfl ?_
                      obtain ⟨r22, g21, h⟩ := bd_spec h
                      refine a_cVi (a := 1) (st := []) C dX4_account_150 cv_RX4_319 (w_X1_countWishes   V r22 g21) rfl rfl rfl rfl rfl ⟨Nat.le_of_ble_eq_true rfl, Nat.le_of_ble_eq_true rfl, Nat.le_of_ble_eq_true rfl, Nat.le_of_ble_eq_true rfl⟩ (Nat.le_of_ble_eq_true rfl) ?_
                      obtain ⟨rfl, rfl⟩ := ret2 h
                      exact a_iret C dX4_account_153 rfl (by decide) rfl rfl
                    · have h := it_f c20 h
                      by_cases c23 : x1 = (10 : Int32)
                      · have h := it_t c23 h
                        refine a_tswIn (tgt := 154) (v := (10 : Int32)) C dX4_account_1 c23 (by decide) (by decide) rfl (by decide) ?_
                        refine a_aload_n (q := 0) C dX4_account_154 rfl rfl ?_
                        refine a_getr (a := 0) (t := 1) C dX4_account_155 fl_RX4_10 rfl rfl ?_
                        obtain ⟨r25, g24, h⟩ := bd_spec h
                        refine a_cVi (a := 1) (st := []) C dX4_account_158 cv_RX4_322 (w_X1_countFulfilled   V r25 g24) rfl rfl rfl rfl rfl ⟨Nat.le_of_ble_eq_true rfl, Nat.le_of_ble_eq_true rfl, Nat.le_of_ble_eq_true rfl, Nat.le_of_ble_eq_true rfl⟩ (Nat.le_of_ble_eq_true rfl) ?_
                        obtain ⟨rfl, rfl⟩ := ret2 h
                        exact a_iret C dX4_account_161 rfl (by decide) rfl rfl
                      · have h := it_f c23 h
                        by_cases c26 : x1 = (11 : Int32)
                        · have h := it_t c26 h
                          refine a_tswIn (tgt := 162) (v := (11 : Int32)) C dX4_account_1 c26 (by decide) (by decide) rfl (by decide) ?_
                          refine a_aload_n (q := 0) C dX4_account_162 rfl rfl ?_
                          refine a_getr (a := 0) (t := 105) C dX4_account_163 fl_RX4_39 rfl rfl ?_
                          refine a_geti (a := 105) (x := (V 105 1)) C dX4_account_166 fl_RX4_277 rfl rfl rfl ?_
                          obtain ⟨rfl, rfl⟩ := ret2 h
                          exact a_iret C dX4_account_169 rfl (by decide) rfl rfl
                        · have h := it_f c26 h
                          by_cases c27 : x1 = (12 : Int32)
                          · have h := it_t c27 h
                            refine a_tswIn (tgt := 170) (v := (12 : Int32)) C dX4_account_1 c27 (by decide) (by decide) rfl (by decide) ?_
                            refine a_aload_n (q := 0) C dX4_account_170 rfl rfl ?_
                            refine a_getr (a := 0) (t := 28) C dX4_account_171 fl_RX4_25 rfl rfl ?_
                            refine a_geti (a := 28) (x := (V 28 2)) C dX4_account_174 fl_RX4_325 rfl rfl rfl ?_
                            obtain ⟨rfl, rfl⟩ := ret2 h
                            exact a_iret C dX4_account_177 rfl (by decide) rfl rfl
                          · have h := it_f c27 h
                            refine a_tswOut (tgt := 178) C dX4_account_1 (by have q0 := lv_neT (a := 0) c1 rfl; have q1 := lv_neT (a := 1) c2 rfl; have q2 := lv_neT (a := 2) c5 rfl; have q3 := lv_neT (a := 3) c6 rfl; have q4 := lv_neT (a := 4) c9 rfl; have q5 := lv_neT (a := 5) c12 rfl; have q6 := lv_neT (a := 6) c13 rfl; have q7 := lv_neT (a := 7) c16 rfl; have q8 := lv_neT (a := 8) c19 rfl; have q9 := lv_neT (a := 9) c20 rfl; have q10 := lv_neT (a := 10) c23 rfl; have q11 := lv_neT (a := 11) c26 rfl; have q12 := lv_neT (a := 12) c27 rfl; omega) (by decide) ?_
                            obtain ⟨rfl, rfl⟩ := ret2 h
                            exact a_throwW (text := "what is from 0 to 12") C hT th_RX4_64_68 (by decide +kernel) dX4_account_178 dX4_account_181 dX4_account_182 dX4_account_185 dX4_account_188 ⟨by decide, by decide, by decide, by decide⟩ (by decide) rfl rfl
set_option maxRecDepth 20000 in
set_option maxHeartbeats 4000000 in
theorem w_X1_noBorderInOneHue_12 {p : Program} {l : Launch} {e : Env} {s : State} {m : MethodId} {args : Array Value} {below : List Frame} {meth : Method} {c : Code} {D : va_G} {cs : Nat → ClassId} {ad : Nat → Nat} {b0 : Nat} (C : Ctx p l s m args meth c D cs ad b0 RX1 cX1_noBorderInOneHue 3 (some .boolean)) (hT : ∀ x ∈ c.exceptionTable.toList, False)   {V : VT} {r9 : Int32} {k2 : Int32 → Option Int32}   (hk2 : ∀ (x1 : Int32) , k2 x1 = some r9 → AW p l e (rmOf 3 0) s m args below meth c D cs ad b0 (QF below D cs ad b0 V ((rI r9) ad) args s 0) 3 0 V [(0, .ref (ad 1)), (1, .int x1)] [] 2) :
    ∀ (x1 x2 : Int32) , d_X1_noBorderInOneHue_12 V k2 x1 x2 = some r9 → AW p l e (rmOf 3 0) s m args below meth c D cs ad b0 (QF below D cs ad b0 V ((rI r9) ad) args s 0) 3 0 V [(0, .ref (ad 1)), (1, .int x1), (2, .int x2)] [] 12 := by
  refine lo2_ind (P := fun x1 x2 => AW p l e (rmOf 3 0) s m args below meth c D cs ad b0 (QF below D cs ad b0 V ((rI r9) ad) args s 0) 3 0 V [(0, .ref (ad 1)), (1, .int x1), (2, .int x2)] [] 12) ?_ FU
  intro k12 hk12 x1 x2 h
  unfold d_X1_noBorderInOneHue_12b at h
  refine a_iload_n (q := 2) C dX1_noBorderInOneHue_12 rfl rfl ?_
  refine a_iload_n (q := 1) C dX1_noBorderInOneHue_13 rfl rfl ?_
  refine a_icmp_ge (tgt := 57) C dX1_noBorderInOneHue_14 (by decide) (fun c1 => ?_) (fun c1 => ?_)
  · have h := it_t c1 h
    refine a_iinc (q := 1) (v := (x1 + (1 : Int32))) (lv' := [(1, .int (x1 + (1 : Int32))), (0, .ref (ad 1)), (2, .int x2)]) C dX1_noBorderInOneHue_57 rfl rfl (by decide) rfl ?_
    refine a_goto (tgt := 2) C dX1_noBorderInOneHue_60 (by decide) ?_
    refine a_sub (lv' := [(0, .ref (ad 1)), (1, .int (x1 + (1 : Int32)))]) [1, 0] rfl ?_
    exact hk2 (x1 + (1 : Int32)) h
  · have h := it_f c1 h
    refine a_aload_n (q := 0) C dX1_noBorderInOneHue_17 rfl rfl ?_
    refine a_iload_n (q := 1) C dX1_noBorderInOneHue_18 rfl rfl ?_
    refine a_iload_n (q := 2) C dX1_noBorderInOneHue_19 rfl rfl ?_
    obtain ⟨r3, g2, h⟩ := bd_spec h
    refine a_cVi (a := 1) (st := []) C dX1_noBorderInOneHue_20 cv_RX1_55 (w_X1_areNeighbours x1 x2  V r3 g2) rfl rfl rfl rfl rfl ⟨Nat.le_of_ble_eq_true rfl, Nat.le_of_ble_eq_true rfl, Nat.le_of_ble_eq_true rfl, Nat.le_of_ble_eq_true rfl⟩ (Nat.le_of_ble_eq_true rfl) ?_
    refine a_if_eq (tgt := 51) C dX1_noBorderInOneHue_23 (by decide) (fun c4 => ?_) (fun c4 => ?_)
    · have h := it_t c4 h
      refine a_iinc (q := 2) (v := (x2 + (1 : Int32))) (lv' := [(2, .int (x2 + (1 : Int32))), (0, .ref (ad 1)), (1, .int x1)]) C dX1_noBorderInOneHue_51 rfl rfl (by decide) rfl ?_
      refine a_goto (tgt := 12) C dX1_noBorderInOneHue_54 (by decide) ?_
      refine a_sub (lv' := [(0, .ref (ad 1)), (1, .int x1), (2, .int (x2 + (1 : Int32)))]) [1, 2, 0] rfl ?_
      exact hk12 x1 (x2 + (1 : Int32)) h
    · have h := it_f c4 h
      refine a_aload_n (q := 0) C dX1_noBorderInOneHue_26 rfl rfl ?_
      refine a_iload_n (q := 1) C dX1_noBorderInOneHue_27 rfl rfl ?_
      obtain ⟨r6, g5, h⟩ := bd_spec h
      refine a_cVi (a := 1) (st := []) C dX1_noBorderInOneHue_28 cv_RX1_59 (w_X1_isPainted x1  V r6 g5) rfl rfl rfl rfl rfl ⟨Nat.le_of_ble_eq_true rfl, Nat.le_of_ble_eq_true rfl, Nat.le_of_ble_eq_true rfl, Nat.le_of_ble_eq_true rfl⟩ (Nat.le_of_ble_eq_true rfl) ?_
      refine a_if_eq (tgt := 51) C dX1_noBorderInOneHue_31 (by decide) (fun c7 => ?_) (fun c7 => ?_)
      · have h := it_t c7 h
        refine a_iinc (q := 2) (v := (x2 + (1 : Int32))) (lv' := [(2, .int (x2 + (1 : Int32))), (0, .ref (ad 1)), (1, .int x1)]) C dX1_noBorderInOneHue_51 rfl rfl (by decide) rfl ?_
        refine a_goto (tgt := 12) C dX1_noBorderInOneHue_54 (by decide) ?_
        refine a_sub (lv' := [(0, .ref (ad 1)), (1, .int x1), (2, .int (x2 + (1 : Int32)))]) [1, 2, 0] rfl ?_
        exact hk12 x1 (x2 + (1 : Int32)) h
      · have h := it_f c7 h
        refine a_aload_n (q := 0) C dX1_noBorderInOneHue_34 rfl rfl ?_
        refine a_getr (a := 1) (t := 3) C dX1_noBorderInOneHue_35 fl_RX1_15 rfl rfl ?_
        refine a_iload_n (q := 1) C dX1_noBorderInOneHue_38 rfl rfl ?_
        obtain ⟨z8, h⟩ := asr_spec h
        refine a_iald (a := 3) (x := (V 3 x1.toNatClampNeg)) C dX1_noBorderInOneHue_39 rfl (inb_in z8) rfl ?_
        refine a_aload_n (q := 0) C dX1_noBorderInOneHue_40 rfl rfl ?_
        refine a_getr (a := 1) (t := 3) C dX1_noBorderInOneHue_41 fl_RX1_15 rfl rfl ?_
        refine a_iload_n (q := 2) C dX1_noBorderInOneHue_44 rfl rfl ?_
        obtain ⟨z9, h⟩ := asr_spec h
        refine a_iald (a := 3) (x := (V 3 x2.toNatClampNeg)) C dX1_noBorderInOneHue_45 rfl (inb_in z9) rfl ?_
        refine a_icmp_ne (tgt := 51) C dX1_noBorderInOneHue_46 (by decide) (fun c10 => ?_) (fun c10 => ?_)
        · have h := it_f c10 h
          refine a_iinc (q := 2) (v := (x2 + (1 : Int32))) (lv' := [(2, .int (x2 + (1 : Int32))), (0, .ref (ad 1)), (1, .int x1)]) C dX1_noBorderInOneHue_51 rfl rfl (by decide) rfl ?_
          refine a_goto (tgt := 12) C dX1_noBorderInOneHue_54 (by decide) ?_
          refine a_sub (lv' := [(0, .ref (ad 1)), (1, .int x1), (2, .int (x2 + (1 : Int32)))]) [1, 2, 0] rfl ?_
          exact hk12 x1 (x2 + (1 : Int32)) h
        · have h := it_t c10 h
          refine a_iconst (v := (0 : Int32)) C dX1_noBorderInOneHue_49 rfl ?_
          obtain rfl := ret1 h
          exact a_zret C dX1_noBorderInOneHue_50 rfl rfl (by decide) rfl rfl
set_option maxRecDepth 20000 in
set_option maxHeartbeats 4000000 in
theorem w_X1_noBorderInOneHue_2 {p : Program} {l : Launch} {e : Env} {s : State} {m : MethodId} {args : Array Value} {below : List Frame} {meth : Method} {c : Code} {D : va_G} {cs : Nat → ClassId} {ad : Nat → Nat} {b0 : Nat} (C : Ctx p l s m args meth c D cs ad b0 RX1 cX1_noBorderInOneHue 3 (some .boolean)) (hT : ∀ x ∈ c.exceptionTable.toList, False)   {V : VT} {r9 : Int32}     :
    ∀ (x1 : Int32) , d_X1_noBorderInOneHue_2 V x1 = some r9 → AW p l e (rmOf 3 0) s m args below meth c D cs ad b0 (QF below D cs ad b0 V ((rI r9) ad) args s 0) 3 0 V [(0, .ref (ad 1)), (1, .int x1)] [] 2 := by
  refine lo1_ind (P := fun x1 => AW p l e (rmOf 3 0) s m args below meth c D cs ad b0 (QF below D cs ad b0 V ((rI r9) ad) args s 0) 3 0 V [(0, .ref (ad 1)), (1, .int x1)] [] 2) ?_ FU
  intro k2 hk2 x1 h
  unfold d_X1_noBorderInOneHue_2b at h
  refine a_iload_n (q := 1) C dX1_noBorderInOneHue_2 rfl rfl ?_
  refine a_aload_n (q := 0) C dX1_noBorderInOneHue_3 rfl rfl ?_
  refine a_geti (a := 1) (x := (V 1 8)) C dX1_noBorderInOneHue_4 fl_RX1_36 rfl rfl rfl ?_
  refine a_icmp_ge (tgt := 63) C dX1_noBorderInOneHue_7 (by decide) (fun c1 => ?_) (fun c1 => ?_)
  · have h := it_t c1 h
    refine a_iconst (v := (1 : Int32)) C dX1_noBorderInOneHue_63 rfl ?_
    obtain rfl := ret1 h
    exact a_zret C dX1_noBorderInOneHue_64 rfl rfl (by decide) rfl rfl
  · have h := it_f c1 h
    refine a_iconst (v := (0 : Int32)) C dX1_noBorderInOneHue_10 rfl ?_
    refine a_istore_n (lv' := [(2, .int (0 : Int32)), (0, .ref (ad 1)), (1, .int x1)]) C dX1_noBorderInOneHue_11 rfl (by decide) rfl ?_
    refine a_sub (lv' := [(0, .ref (ad 1)), (1, .int x1), (2, .int (0 : Int32))]) [1, 2, 0] rfl ?_
    exact w_X1_noBorderInOneHue_12 C hT hk2 x1 (0 : Int32) h
set_option maxRecDepth 20000 in
set_option maxHeartbeats 4000000 in
theorem w_X1_noBorderInOneHue   (V : VT) (r9 : Int32) (h : d_X1_noBorderInOneHue  V = some r9) : AM 3 0 yX1_noBorderInOneHue (.code yX1_noBorderInOneHue cX1_noBorderInOneHue 3 (some .boolean)) (fun ad => [.ref (ad 1)]) V V (rI r9) := by
  unfold d_X1_noBorderInOneHue at h
  refine AM.of (by decide +kernel) (fun ad => Nat.le_of_ble_eq_true rfl) (fun {p l e s m args below meth c D cs ad b0} C hT => ?_)
  have C : Ctx p l s m args meth c D cs ad b0 RX1 cX1_noBorderInOneHue 3 (some .boolean) := C
  refine a_sub (lv' := [(0, .ref (ad 1))]) [0] rfl ?_
  refine a_iconst (v := (0 : Int32)) C dX1_noBorderInOneHue_0 rfl ?_
  refine a_istore_n (lv' := [(1, .int (0 : Int32)), (0, .ref (ad 1))]) C dX1_noBorderInOneHue_1 rfl (by decide) rfl ?_
  refine a_sub (lv' := [(0, .ref (ad 1)), (1, .int (0 : Int32))]) [1, 0] rfl ?_
  exact w_X1_noBorderInOneHue_2 C hT (0 : Int32) h
set_option maxRecDepth 20000 in
set_option maxHeartbeats 4000000 in
theorem w_X1_stepsAreThePainted_4 {p : Program} {l : Launch} {e : Env} {s : State} {m : MethodId} {args : Array Value} {below : List Frame} {meth : Method} {c : Code} {D : va_G} {cs : Nat → ClassId} {ad : Nat → Nat} {b0 : Nat} (C : Ctx p l s m args meth c D cs ad b0 RX1 cX1_stepsAreThePainted 3 (some .boolean)) (hT : ∀ x ∈ c.exceptionTable.toList, False)   {V : VT} {r9 : Int32}     :
    ∀ (x1 x2 : Int32) , d_X1_stepsAreThePainted_4 V x1 x2 = some r9 → AW p l e (rmOf 5 0) s m args below meth c D cs ad b0 (QF below D cs ad b0 V ((rI r9) ad) args s 0) 3 0 V [(0, .ref (ad 1)), (1, .int x1), (2, .int x2)] [] 4 := by
  refine lo2_ind (P := fun x1 x2 => AW p l e (rmOf 5 0) s m args below meth c D cs ad b0 (QF below D cs ad b0 V ((rI r9) ad) args s 0) 3 0 V [(0, .ref (ad 1)), (1, .int x1), (2, .int x2)] [] 4) ?_ FU
  intro k4 hk4 x1 x2 h
  unfold d_X1_stepsAreThePainted_4b at h
  refine a_iload_n (q := 2) C dX1_stepsAreThePainted_4 rfl rfl ?_
  refine a_aload_n (q := 0) C dX1_stepsAreThePainted_5 rfl rfl ?_
  refine a_geti (a := 1) (x := (V 1 10)) C dX1_stepsAreThePainted_6 fl_RX1_43 rfl rfl rfl ?_
  refine a_icmp_ge (tgt := 29) C dX1_stepsAreThePainted_9 (by decide) (fun c1 => ?_) (fun c1 => ?_)
  · have h := it_t c1 h
    refine a_aload_n (q := 0) C dX1_stepsAreThePainted_29 rfl rfl ?_
    refine a_geti (a := 1) (x := (V 1 10)) C dX1_stepsAreThePainted_30 fl_RX1_43 rfl rfl rfl ?_
    refine a_aload_n (q := 0) C dX1_stepsAreThePainted_33 rfl rfl ?_
    obtain ⟨r3, g2, h⟩ := bd_spec h
    refine a_cVi (a := 1) (st := [.int (V 1 10)]) C dX1_stepsAreThePainted_34 cv_RX1_122 (w_X1_countPainted   V r3 g2) rfl rfl rfl rfl rfl ⟨Nat.le_of_ble_eq_true rfl, Nat.le_of_ble_eq_true rfl, Nat.le_of_ble_eq_true rfl, Nat.le_of_ble_eq_true rfl⟩ (Nat.le_of_ble_eq_true rfl) ?_
    refine a_icmp_ne (tgt := 61) C dX1_stepsAreThePainted_37 (by decide) (fun c4 => ?_) (fun c4 => ?_)
    · have h := it_f c4 h
      refine a_iconst (v := (0 : Int32)) C dX1_stepsAreThePainted_61 rfl ?_
      obtain rfl := ret1 h
      exact a_zret C dX1_stepsAreThePainted_62 rfl rfl (by decide) rfl rfl
    · have h := it_t c4 h
      refine a_iload_n (q := 1) C dX1_stepsAreThePainted_40 rfl rfl ?_
      refine a_aload_n (q := 0) C dX1_stepsAreThePainted_41 rfl rfl ?_
      obtain ⟨r6, g5, h⟩ := bd_spec h
      refine a_cVi (a := 1) (st := [.int x1]) C dX1_stepsAreThePainted_42 cv_RX1_107 (w_X1_unpainted   V r6 g5) rfl rfl rfl rfl rfl ⟨Nat.le_of_ble_eq_true rfl, Nat.le_of_ble_eq_true rfl, Nat.le_of_ble_eq_true rfl, Nat.le_of_ble_eq_true rfl⟩ (Nat.le_of_ble_eq_true rfl) ?_
      refine a_ixor C dX1_stepsAreThePainted_45 ?_
      refine a_iconst (v := (1 : Int32)) C dX1_stepsAreThePainted_46 rfl ?_
      refine a_aload_n (q := 0) C dX1_stepsAreThePainted_47 rfl rfl ?_
      refine a_geti (a := 1) (x := (V 1 8)) C dX1_stepsAreThePainted_48 fl_RX1_36 rfl rfl rfl ?_
      refine a_ishl C dX1_stepsAreThePainted_51 ?_
      refine a_iconst (v := (1 : Int32)) C dX1_stepsAreThePainted_52 rfl ?_
      refine a_isub C dX1_stepsAreThePainted_53 ?_
      refine a_icmp_ne (tgt := 61) C dX1_stepsAreThePainted_54 (by decide) (fun c7 => ?_) (fun c7 => ?_)
      · have h := it_f c7 h
        refine a_iconst (v := (0 : Int32)) C dX1_stepsAreThePainted_61 rfl ?_
        obtain rfl := ret1 h
        exact a_zret C dX1_stepsAreThePainted_62 rfl rfl (by decide) rfl rfl
      · have h := it_t c7 h
        refine a_iconst (v := (1 : Int32)) C dX1_stepsAreThePainted_57 rfl ?_
        refine a_goto (tgt := 62) C dX1_stepsAreThePainted_58 (by decide) ?_
        obtain rfl := ret1 h
        exact a_zret C dX1_stepsAreThePainted_62 rfl rfl (by decide) rfl rfl
  · have h := it_f c1 h
    refine a_iload_n (q := 1) C dX1_stepsAreThePainted_12 rfl rfl ?_
    refine a_iconst (v := (1 : Int32)) C dX1_stepsAreThePainted_13 rfl ?_
    refine a_aload_n (q := 0) C dX1_stepsAreThePainted_14 rfl rfl ?_
    refine a_getr (a := 1) (t := 7) C dX1_stepsAreThePainted_15 fl_RX1_27 rfl rfl ?_
    refine a_iload_n (q := 2) C dX1_stepsAreThePainted_18 rfl rfl ?_
    obtain ⟨z8, h⟩ := asr_spec h
    refine a_iald (a := 7) (x := (V 7 x2.toNatClampNeg)) C dX1_stepsAreThePainted_19 rfl (inb_in z8) rfl ?_
    refine a_ishl C dX1_stepsAreThePainted_20 ?_
    refine a_ior C dX1_stepsAreThePainted_21 ?_
    refine a_istore_n (lv' := [(1, .int (x1 ||| ((1 : Int32) <<< ((V 7 x2.toNatClampNeg) &&& 31)))), (0, .ref (ad 1)), (2, .int x2)]) C dX1_stepsAreThePainted_22 rfl (by decide) rfl ?_
    refine a_iinc (q := 2) (v := (x2 + (1 : Int32))) (lv' := [(2, .int (x2 + (1 : Int32))), (1, .int (x1 ||| ((1 : Int32) <<< ((V 7 x2.toNatClampNeg) &&& 31)))), (0, .ref (ad 1))]) C dX1_stepsAreThePainted_23 rfl rfl (by decide) rfl ?_
    refine a_goto (tgt := 4) C dX1_stepsAreThePainted_26 (by decide) ?_
    refine a_sub (lv' := [(0, .ref (ad 1)), (1, .int (x1 ||| ((1 : Int32) <<< ((V 7 x2.toNatClampNeg) &&& 31)))), (2, .int (x2 + (1 : Int32)))]) [2, 1, 0] rfl ?_
    exact hk4 (x1 ||| ((1 : Int32) <<< ((V 7 x2.toNatClampNeg) &&& 31))) (x2 + (1 : Int32)) h
set_option maxRecDepth 20000 in
set_option maxHeartbeats 4000000 in
theorem w_X1_stepsAreThePainted   (V : VT) (r9 : Int32) (h : d_X1_stepsAreThePainted  V = some r9) : AM 5 0 yX1_stepsAreThePainted (.code yX1_stepsAreThePainted cX1_stepsAreThePainted 3 (some .boolean)) (fun ad => [.ref (ad 1)]) V V (rI r9) := by
  unfold d_X1_stepsAreThePainted at h
  refine AM.of (by decide +kernel) (fun ad => Nat.le_of_ble_eq_true rfl) (fun {p l e s m args below meth c D cs ad b0} C hT => ?_)
  have C : Ctx p l s m args meth c D cs ad b0 RX1 cX1_stepsAreThePainted 3 (some .boolean) := C
  refine a_sub (lv' := [(0, .ref (ad 1))]) [0] rfl ?_
  refine a_iconst (v := (0 : Int32)) C dX1_stepsAreThePainted_0 rfl ?_
  refine a_istore_n (lv' := [(1, .int (0 : Int32)), (0, .ref (ad 1))]) C dX1_stepsAreThePainted_1 rfl (by decide) rfl ?_
  refine a_iconst (v := (0 : Int32)) C dX1_stepsAreThePainted_2 rfl ?_
  refine a_istore_n (lv' := [(2, .int (0 : Int32)), (1, .int (0 : Int32)), (0, .ref (ad 1))]) C dX1_stepsAreThePainted_3 rfl (by decide) rfl ?_
  refine a_sub (lv' := [(0, .ref (ad 1)), (1, .int (0 : Int32)), (2, .int (0 : Int32))]) [2, 1, 0] rfl ?_
  exact w_X1_stepsAreThePainted_4 C hT (0 : Int32) (0 : Int32) h
set_option maxRecDepth 20000 in
set_option maxHeartbeats 4000000 in
theorem w_X4_isWell   (V : VT) (r9 : Int32) (h : d_X4_isWell  V = some r9) : AM 6 0 yX4_isWell (.code yX4_isWell cX4_isWell 1 (some .boolean)) (fun ad => [.ref (ad 0)]) V V (rI r9) := by
  unfold d_X4_isWell at h
  refine AM.of (by decide +kernel) (fun ad => Nat.le_of_ble_eq_true rfl) (fun {p l e s m args below meth c D cs ad b0} C hT => ?_)
  have C : Ctx p l s m args meth c D cs ad b0 RX4 cX4_isWell 1 (some .boolean) := C
  refine a_sub (lv' := [(0, .ref (ad 0))]) [0] rfl ?_
  refine a_aload_n (q := 0) C dX4_isWell_0 rfl rfl ?_
  refine a_getr (a := 0) (t := 1) C dX4_isWell_1 fl_RX4_10 rfl rfl ?_
  obtain ⟨r2, g1, h⟩ := bd_spec h
  refine a_cVi (a := 1) (st := []) C dX4_isWell_4 cv_RX4_330 (w_X1_noBorderInOneHue   V r2 g1) rfl rfl rfl rfl rfl ⟨Nat.le_of_ble_eq_true rfl, Nat.le_of_ble_eq_true rfl, Nat.le_of_ble_eq_true rfl, Nat.le_of_ble_eq_true rfl⟩ (Nat.le_of_ble_eq_true rfl) ?_
  refine a_if_eq (tgt := 24) C dX4_isWell_7 (by decide) (fun c3 => ?_) (fun c3 => ?_)
  · have h := it_t c3 h
    refine a_iconst (v := (0 : Int32)) C dX4_isWell_24 rfl ?_
    obtain rfl := ret1 h
    exact a_zret C dX4_isWell_25 rfl rfl (by decide) rfl rfl
  · have h := it_f c3 h
    refine a_aload_n (q := 0) C dX4_isWell_10 rfl rfl ?_
    refine a_getr (a := 0) (t := 1) C dX4_isWell_11 fl_RX4_10 rfl rfl ?_
    obtain ⟨r5, g4, h⟩ := bd_spec h
    refine a_cVi (a := 1) (st := []) C dX4_isWell_14 cv_RX4_334 (w_X1_stepsAreThePainted   V r5 g4) rfl rfl rfl rfl rfl ⟨Nat.le_of_ble_eq_true rfl, Nat.le_of_ble_eq_true rfl, Nat.le_of_ble_eq_true rfl, Nat.le_of_ble_eq_true rfl⟩ (Nat.le_of_ble_eq_true rfl) ?_
    refine a_if_eq (tgt := 24) C dX4_isWell_17 (by decide) (fun c6 => ?_) (fun c6 => ?_)
    · have h := it_t c6 h
      refine a_iconst (v := (0 : Int32)) C dX4_isWell_24 rfl ?_
      obtain rfl := ret1 h
      exact a_zret C dX4_isWell_25 rfl rfl (by decide) rfl rfl
    · have h := it_f c6 h
      refine a_iconst (v := (1 : Int32)) C dX4_isWell_20 rfl ?_
      refine a_goto (tgt := 25) C dX4_isWell_21 (by decide) ?_
      obtain rfl := ret1 h
      exact a_zret C dX4_isWell_25 rfl rfl (by decide) rfl rfl
set_option maxRecDepth 20000 in
set_option maxHeartbeats 4000000 in
theorem w_X1_sumPaintedSizes_4 {p : Program} {l : Launch} {e : Env} {s : State} {m : MethodId} {args : Array Value} {below : List Frame} {meth : Method} {c : Code} {D : va_G} {cs : Nat → ClassId} {ad : Nat → Nat} {b0 : Nat} (C : Ctx p l s m args meth c D cs ad b0 RX1 cX1_sumPaintedSizes 3 (some .int)) (hT : ∀ x ∈ c.exceptionTable.toList, False)   {V : VT} {r9 : Int32}     :
    ∀ (x1 x2 : Int32) , d_X1_sumPaintedSizes_4 V x1 x2 = some r9 → AW p l e (rmOf 3 0) s m args below meth c D cs ad b0 (QF below D cs ad b0 V ((rI r9) ad) args s 0) 3 0 V [(0, .ref (ad 1)), (1, .int x1), (2, .int x2)] [] 4 := by
  refine lo2_ind (P := fun x1 x2 => AW p l e (rmOf 3 0) s m args below meth c D cs ad b0 (QF below D cs ad b0 V ((rI r9) ad) args s 0) 3 0 V [(0, .ref (ad 1)), (1, .int x1), (2, .int x2)] [] 4) ?_ FU
  intro k4 hk4 x1 x2 h
  unfold d_X1_sumPaintedSizes_4b at h
  refine a_iload_n (q := 2) C dX1_sumPaintedSizes_4 rfl rfl ?_
  refine a_aload_n (q := 0) C dX1_sumPaintedSizes_5 rfl rfl ?_
  refine a_geti (a := 1) (x := (V 1 8)) C dX1_sumPaintedSizes_6 fl_RX1_36 rfl rfl rfl ?_
  refine a_icmp_ge (tgt := 35) C dX1_sumPaintedSizes_9 (by decide) (fun c1 => ?_) (fun c1 => ?_)
  · have h := it_t c1 h
    refine a_iload_n (q := 1) C dX1_sumPaintedSizes_35 rfl rfl ?_
    obtain rfl := ret1 h
    exact a_iret C dX1_sumPaintedSizes_36 rfl (by decide) rfl rfl
  · have h := it_f c1 h
    refine a_aload_n (q := 0) C dX1_sumPaintedSizes_12 rfl rfl ?_
    refine a_iload_n (q := 2) C dX1_sumPaintedSizes_13 rfl rfl ?_
    obtain ⟨r3, g2, h⟩ := bd_spec h
    refine a_cVi (a := 1) (st := []) C dX1_sumPaintedSizes_14 cv_RX1_59 (w_X1_isPainted x2  V r3 g2) rfl rfl rfl rfl rfl ⟨Nat.le_of_ble_eq_true rfl, Nat.le_of_ble_eq_true rfl, Nat.le_of_ble_eq_true rfl, Nat.le_of_ble_eq_true rfl⟩ (Nat.le_of_ble_eq_true rfl) ?_
    refine a_if_eq (tgt := 29) C dX1_sumPaintedSizes_17 (by decide) (fun c4 => ?_) (fun c4 => ?_)
    · have h := it_t c4 h
      refine a_iinc (q := 2) (v := (x2 + (1 : Int32))) (lv' := [(2, .int (x2 + (1 : Int32))), (0, .ref (ad 1)), (1, .int x1)]) C dX1_sumPaintedSizes_29 rfl rfl (by decide) rfl ?_
      refine a_goto (tgt := 4) C dX1_sumPaintedSizes_32 (by decide) ?_
      refine a_sub (lv' := [(0, .ref (ad 1)), (1, .int x1), (2, .int (x2 + (1 : Int32)))]) [1, 2, 0] rfl ?_
      exact hk4 x1 (x2 + (1 : Int32)) h
    · have h := it_f c4 h
      refine a_iload_n (q := 1) C dX1_sumPaintedSizes_20 rfl rfl ?_
      refine a_aload_n (q := 0) C dX1_sumPaintedSizes_21 rfl rfl ?_
      refine a_getr (a := 1) (t := 2) C dX1_sumPaintedSizes_22 fl_RX1_9 rfl rfl ?_
      refine a_iload_n (q := 2) C dX1_sumPaintedSizes_25 rfl rfl ?_
      obtain ⟨z5, h⟩ := asr_spec h
      refine a_iald (a := 2) (x := (V 2 x2.toNatClampNeg)) C dX1_sumPaintedSizes_26 rfl (inb_in z5) rfl ?_
      refine a_iadd C dX1_sumPaintedSizes_27 ?_
      refine a_istore_n (lv' := [(1, .int (x1 + (V 2 x2.toNatClampNeg))), (0, .ref (ad 1)), (2, .int x2)]) C dX1_sumPaintedSizes_28 rfl (by decide) rfl ?_
      refine a_iinc (q := 2) (v := (x2 + (1 : Int32))) (lv' := [(2, .int (x2 + (1 : Int32))), (1, .int (x1 + (V 2 x2.toNatClampNeg))), (0, .ref (ad 1))]) C dX1_sumPaintedSizes_29 rfl rfl (by decide) rfl ?_
      refine a_goto (tgt := 4) C dX1_sumPaintedSizes_32 (by decide) ?_
      refine a_sub (lv' := [(0, .ref (ad 1)), (1, .int (x1 + (V 2 x2.toNatClampNeg))), (2, .int (x2 + (1 : Int32)))]) [2, 1, 0] rfl ?_
      exact hk4 (x1 + (V 2 x2.toNatClampNeg)) (x2 + (1 : Int32)) h
set_option maxRecDepth 20000 in
set_option maxHeartbeats 4000000 in
theorem w_X1_sumPaintedSizes   (V : VT) (r9 : Int32) (h : d_X1_sumPaintedSizes  V = some r9) : AM 3 0 yX1_sumPaintedSizes (.code yX1_sumPaintedSizes cX1_sumPaintedSizes 3 (some .int)) (fun ad => [.ref (ad 1)]) V V (rI r9) := by
  unfold d_X1_sumPaintedSizes at h
  refine AM.of (by decide +kernel) (fun ad => Nat.le_of_ble_eq_true rfl) (fun {p l e s m args below meth c D cs ad b0} C hT => ?_)
  have C : Ctx p l s m args meth c D cs ad b0 RX1 cX1_sumPaintedSizes 3 (some .int) := C
  refine a_sub (lv' := [(0, .ref (ad 1))]) [0] rfl ?_
  refine a_iconst (v := (0 : Int32)) C dX1_sumPaintedSizes_0 rfl ?_
  refine a_istore_n (lv' := [(1, .int (0 : Int32)), (0, .ref (ad 1))]) C dX1_sumPaintedSizes_1 rfl (by decide) rfl ?_
  refine a_iconst (v := (0 : Int32)) C dX1_sumPaintedSizes_2 rfl ?_
  refine a_istore_n (lv' := [(2, .int (0 : Int32)), (1, .int (0 : Int32)), (0, .ref (ad 1))]) C dX1_sumPaintedSizes_3 rfl (by decide) rfl ?_
  refine a_sub (lv' := [(0, .ref (ad 1)), (1, .int (0 : Int32)), (2, .int (0 : Int32))]) [2, 1, 0] rfl ?_
  exact w_X1_sumPaintedSizes_4 C hT (0 : Int32) (0 : Int32) h
set_option maxRecDepth 20000 in
set_option maxHeartbeats 4000000 in
theorem w_X4_meanSize   (V : VT) (o9 : UInt64 ⊕ String) (W9 : VT) (h : d_X4_meanSize  V = some (o9, W9)) : AM 6 1 yX4_meanSize (.code yX4_meanSize cX4_meanSize 2 (some .double)) (fun ad => [.ref (ad 0)]) V W9 (rXD o9) := by
  unfold d_X4_meanSize at h
  refine AM.of (by decide +kernel) (fun ad => Nat.le_of_ble_eq_true rfl) (fun {p l e s m args below meth c D cs ad b0} C hT => ?_)
  have C : Ctx p l s m args meth c D cs ad b0 RX4 cX4_meanSize 2 (some .double) := C
  refine a_sub (lv' := [(0, .ref (ad 0))]) [0] rfl ?_
  refine a_aload_n (q := 0) C dX4_meanSize_0 rfl rfl ?_
  refine a_getr (a := 0) (t := 1) C dX4_meanSize_1 fl_RX4_10 rfl rfl ?_
  obtain ⟨r2, g1, h⟩ := bd_spec h
  refine a_cVi (a := 1) (st := []) C dX4_meanSize_4 cv_RX4_306 (w_X1_countPainted   V r2 g1) rfl rfl rfl rfl rfl ⟨Nat.le_of_ble_eq_true rfl, Nat.le_of_ble_eq_true rfl, Nat.le_of_ble_eq_true rfl, Nat.le_of_ble_eq_true rfl⟩ (Nat.le_of_ble_eq_true rfl) ?_
  refine a_istore_n (lv' := [(1, .int r2), (0, .ref (ad 0))]) C dX4_meanSize_7 rfl (by decide) rfl ?_
  refine a_iload_n (q := 0) C dX4_meanSize_8 rfl rfl ?_
  refine a_if_ne (tgt := 23) C dX4_meanSize_9 (by decide) (fun c3 => ?_) (fun c3 => ?_)
  · have h := it_f c3 h
    refine a_aload_n (q := 1) C dX4_meanSize_23 rfl rfl ?_
    refine a_getr (a := 0) (t := 1) C dX4_meanSize_24 fl_RX4_10 rfl rfl ?_
    obtain ⟨r5, g4, h⟩ := bd_spec h
    refine a_cVi (a := 1) (st := []) C dX4_meanSize_27 cv_RX4_342 (w_X1_sumPaintedSizes   V r5 g4) rfl rfl rfl rfl rfl ⟨Nat.le_of_ble_eq_true rfl, Nat.le_of_ble_eq_true rfl, Nat.le_of_ble_eq_true rfl, Nat.le_of_ble_eq_true rfl⟩ (Nat.le_of_ble_eq_true rfl) ?_
    refine a_i2d C dX4_meanSize_30 ?_
    refine a_iload_n (q := 0) C dX4_meanSize_31 rfl rfl ?_
    refine a_i2d C dX4_meanSize_32 ?_
    obtain ⟨z6, h⟩ := asr_spec h
    refine a_ddiv C dX4_meanSize_33 (n64ok_of z6) ?_
    obtain ⟨rfl, rfl⟩ := ret2 h
    exact a_dret C dX4_meanSize_34 rfl (by decide) rfl rfl
  · have h := it_t c3 h
    obtain ⟨rfl, rfl⟩ := ret2 h
    exact a_throwW (text := "no country is painted") C hT th_RX4_337_341 (by decide +kernel) dX4_meanSize_12 dX4_meanSize_15 dX4_meanSize_16 dX4_meanSize_19 dX4_meanSize_22 ⟨by decide, by decide, by decide, by decide⟩ (by decide) rfl rfl
set_option maxRecDepth 20000 in
set_option maxHeartbeats 4000000 in
theorem w_X4_painted   (V : VT) (o9 : UInt32 ⊕ String) (W9 : VT) (h : d_X4_painted  V = some (o9, W9)) : AM 6 1 yX4_painted (.code yX4_painted cX4_painted 1 (some .float)) (fun ad => [.ref (ad 0)]) V W9 (rXF o9) := by
  unfold d_X4_painted at h
  refine AM.of (by decide +kernel) (fun ad => Nat.le_of_ble_eq_true rfl) (fun {p l e s m args below meth c D cs ad b0} C hT => ?_)
  have C : Ctx p l s m args meth c D cs ad b0 RX4 cX4_painted 1 (some .float) := C
  refine a_sub (lv' := [(0, .ref (ad 0))]) [0] rfl ?_
  refine a_aload_n (q := 0) C dX4_painted_0 rfl rfl ?_
  refine a_getr (a := 0) (t := 1) C dX4_painted_1 fl_RX4_10 rfl rfl ?_
  refine a_geti (a := 1) (x := (V 1 8)) C dX4_painted_4 fl_RX4_303 rfl rfl rfl ?_
  refine a_if_ne (tgt := 21) C dX4_painted_7 (by decide) (fun c1 => ?_) (fun c1 => ?_)
  · have h := it_f c1 h
    refine a_aload_n (q := 0) C dX4_painted_21 rfl rfl ?_
    refine a_getr (a := 0) (t := 1) C dX4_painted_22 fl_RX4_10 rfl rfl ?_
    obtain ⟨r3, g2, h⟩ := bd_spec h
    refine a_cVi (a := 1) (st := []) C dX4_painted_25 cv_RX4_306 (w_X1_countPainted   V r3 g2) rfl rfl rfl rfl rfl ⟨Nat.le_of_ble_eq_true rfl, Nat.le_of_ble_eq_true rfl, Nat.le_of_ble_eq_true rfl, Nat.le_of_ble_eq_true rfl⟩ (Nat.le_of_ble_eq_true rfl) ?_
    refine a_i2f C dX4_painted_28 ?_
    refine a_aload_n (q := 0) C dX4_painted_29 rfl rfl ?_
    refine a_getr (a := 0) (t := 1) C dX4_painted_30 fl_RX4_10 rfl rfl ?_
    refine a_geti (a := 1) (x := (V 1 8)) C dX4_painted_33 fl_RX4_303 rfl rfl rfl ?_
    refine a_i2f C dX4_painted_36 ?_
    obtain ⟨z4, h⟩ := asr_spec h
    refine a_fdiv C dX4_painted_37 (n32ok_of z4) ?_
    obtain ⟨rfl, rfl⟩ := ret2 h
    exact a_fret C dX4_painted_38 rfl (by decide) rfl rfl
  · have h := it_t c1 h
    obtain ⟨rfl, rfl⟩ := ret2 h
    exact a_throwW (text := "there are no countries") C hT th_RX4_337_341 (by decide +kernel) dX4_painted_10 dX4_painted_13 dX4_painted_14 dX4_painted_17 dX4_painted_20 ⟨by decide, by decide, by decide, by decide⟩ (by decide) rfl rfl
set_option maxRecDepth 20000 in
set_option maxHeartbeats 4000000 in
theorem w_X3_takeLatest   (V : VT) (W9 : VT) (h : d_X3_takeLatest  V = some W9) : AM 4 0 yX3_takeLatest (.code yX3_takeLatest cX3_takeLatest 2 (none)) (fun ad => [.ref (ad 28), .ref (ad 1)]) V W9 (rV) := by
  unfold d_X3_takeLatest at h
  refine AM.of (by decide +kernel) (fun ad => Nat.le_of_ble_eq_true rfl) (fun {p l e s m args below meth c D cs ad b0} C hT => ?_)
  have C : Ctx p l s m args meth c D cs ad b0 RX3 cX3_takeLatest 2 (none) := C
  refine a_sub (lv' := [(0, .ref (ad 28)), (1, .ref (ad 1))]) [0, 1] rfl ?_
  refine a_aload_n (q := 0) C dX3_takeLatest_0 rfl rfl ?_
  refine a_geti (a := 28) (x := (V 28 2)) C dX3_takeLatest_1 fl_RX3_21 rfl rfl rfl ?_
  refine a_if_le (tgt := 34) C dX3_takeLatest_4 (by decide) (fun c1 => ?_) (fun c1 => ?_)
  · have h := it_t c1 h
    obtain rfl := ret1 h
    exact a_vret C dX3_takeLatest_34 rfl (by decide) rfl rfl
  · have h := it_f c1 h
    refine a_aload_n (q := 0) C dX3_takeLatest_7 rfl rfl ?_
    refine a_dup C dX3_takeLatest_8 rfl ?_
    refine a_geti (a := 28) (x := (V 28 2)) C dX3_takeLatest_9 fl_RX3_21 rfl rfl rfl ?_
    refine a_iconst (v := (1 : Int32)) C dX3_takeLatest_12 rfl ?_
    refine a_isub C dX3_takeLatest_13 ?_
    refine a_puti (a := 28) C dX3_takeLatest_14 fp_RX3_21 rfl rfl rfl rfl ?_
    refine a_aload_n (q := 1) C dX3_takeLatest_17 rfl rfl ?_
    refine a_aload_n (q := 0) C dX3_takeLatest_18 rfl rfl ?_
    refine a_getr (a := 28) (t := 29) C dX3_takeLatest_19 fl_RX3_11 rfl rfl ?_
    refine a_aload_n (q := 0) C dX3_takeLatest_22 rfl rfl ?_
    refine a_aload_n (q := 0) C dX3_takeLatest_23 rfl rfl ?_
    refine a_geti (a := 28) (x := ((V 28 2) - (1 : Int32))) C dX3_takeLatest_24 fl_RX3_21 rfl rfl rfl ?_
    obtain ⟨r3, g2, h⟩ := bd_spec h
    refine a_cVi (a := 28) (st := [.ref (ad 29), .ref (ad 1)]) C dX3_takeLatest_27 cv_RX3_25 (w_X3_placeAfter ((V 28 2) - (1 : Int32))  (up2 V 28 2 ((V 28 2) - (1 : Int32))) r3 g2) rfl rfl rfl rfl rfl ⟨Nat.le_of_ble_eq_true rfl, Nat.le_of_ble_eq_true rfl, Nat.le_of_ble_eq_true rfl, Nat.le_of_ble_eq_true rfl⟩ (Nat.le_of_ble_eq_true rfl) ?_
    obtain ⟨z4, h⟩ := asr_spec h
    refine a_aald (a := 29) (t := (30 + 9 * r3.toNatClampNeg)) C dX3_takeLatest_30 rfl (inb_in z4) (kept_at (inb_in z4)) ?_
    obtain ⟨V6, g5, h⟩ := bd_spec h
    refine a_cVv (a := 1) (st := []) C dX3_takeLatest_31 cv_RX3_29 (w_X1_copyFrom 1 (30 + 9 * r3.toNatClampNeg) rfl (kept_land (inb_in z4)) (up2 V 28 2 ((V 28 2) - (1 : Int32))) V6 g5) rfl rfl rfl rfl rfl ⟨Nat.le_of_ble_eq_true rfl, Nat.le_of_ble_eq_true rfl, Nat.le_of_ble_eq_true rfl, Nat.le_of_ble_eq_true rfl⟩ (Nat.le_of_ble_eq_true rfl) ?_
    obtain rfl := ret1 h
    exact a_vret C dX3_takeLatest_34 rfl (by decide) rfl rfl
set_option maxRecDepth 20000 in
set_option maxHeartbeats 4000000 in
theorem w_X4_undo   (V : VT) (o9 : Int32 ⊕ String) (W9 : VT) (h : d_X4_undo  V = some (o9, W9)) : AM 6 1 yX4_undo (.code yX4_undo cX4_undo 1 (some .int)) (fun ad => [.ref (ad 0)]) V W9 (rX o9) := by
  unfold d_X4_undo at h
  refine AM.of (by decide +kernel) (fun ad => Nat.le_of_ble_eq_true rfl) (fun {p l e s m args below meth c D cs ad b0} C hT => ?_)
  have C : Ctx p l s m args meth c D cs ad b0 RX4 cX4_undo 1 (some .int) := C
  refine a_sub (lv' := [(0, .ref (ad 0))]) [0] rfl ?_
  refine a_aload_n (q := 0) C dX4_undo_0 rfl rfl ?_
  refine a_getr (a := 0) (t := 28) C dX4_undo_1 fl_RX4_25 rfl rfl ?_
  refine a_geti (a := 28) (x := (V 28 2)) C dX4_undo_4 fl_RX4_325 rfl rfl rfl ?_
  refine a_if_ne (tgt := 21) C dX4_undo_7 (by decide) (fun c1 => ?_) (fun c1 => ?_)
  · have h := it_f c1 h
    refine a_aload_n (q := 0) C dX4_undo_21 rfl rfl ?_
    refine a_getr (a := 0) (t := 28) C dX4_undo_22 fl_RX4_25 rfl rfl ?_
    refine a_aload_n (q := 0) C dX4_undo_25 rfl rfl ?_
    refine a_getr (a := 0) (t := 1) C dX4_undo_26 fl_RX4_10 rfl rfl ?_
    obtain ⟨V3, g2, h⟩ := bd_spec h
    refine a_cVv (a := 28) (st := []) C dX4_undo_29 cv_RX4_349 (w_X3_takeLatest   V V3 g2) rfl rfl rfl rfl rfl ⟨Nat.le_of_ble_eq_true rfl, Nat.le_of_ble_eq_true rfl, Nat.le_of_ble_eq_true rfl, Nat.le_of_ble_eq_true rfl⟩ (Nat.le_of_ble_eq_true rfl) ?_
    refine a_aload_n (q := 0) C dX4_undo_32 rfl rfl ?_
    refine a_getr (a := 0) (t := 28) C dX4_undo_33 fl_RX4_25 rfl rfl ?_
    refine a_geti (a := 28) (x := (V3 28 2)) C dX4_undo_36 fl_RX4_325 rfl rfl rfl ?_
    obtain ⟨rfl, rfl⟩ := ret2 h
    exact a_iret C dX4_undo_39 rfl (by decide) rfl rfl
  · have h := it_t c1 h
    obtain ⟨rfl, rfl⟩ := ret2 h
    exact a_throwW (text := "no change can be undone") C hT th_RX4_280_284 (by decide +kernel) dX4_undo_10 dX4_undo_13 dX4_undo_14 dX4_undo_17 dX4_undo_20 ⟨by decide, by decide, by decide, by decide⟩ (by decide) rfl rfl
set_option maxRecDepth 20000 in
set_option maxHeartbeats 4000000 in
theorem w_X4_save   (V : VT) (r9 : Int32) (W9 : VT) (h : d_X4_save  V = some (r9, W9)) : AM 3 0 yX4_save (.code yX4_save cX4_save 1 (some .int)) (fun ad => [.ref (ad 0)]) V W9 (rI r9) := by
  unfold d_X4_save at h
  refine AM.of (by decide +kernel) (fun ad => Nat.le_of_ble_eq_true rfl) (fun {p l e s m args below meth c D cs ad b0} C hT => ?_)
  have C : Ctx p l s m args meth c D cs ad b0 RX4 cX4_save 1 (some .int) := C
  refine a_sub (lv' := [(0, .ref (ad 0))]) [0] rfl ?_
  refine a_aload_n (q := 0) C dX4_save_0 rfl rfl ?_
  refine a_getr (a := 0) (t := 19) C dX4_save_1 fl_RX4_19 rfl rfl ?_
  refine a_aload_n (q := 0) C dX4_save_4 rfl rfl ?_
  refine a_getr (a := 0) (t := 1) C dX4_save_5 fl_RX4_10 rfl rfl ?_
  obtain ⟨V2, g1, h⟩ := bd_spec h
  refine a_cVv (a := 19) (st := []) C dX4_save_8 cv_RX4_352 (w_X1_copyFrom 19 1 rfl rfl V V2 g1) rfl rfl rfl rfl rfl ⟨Nat.le_of_ble_eq_true rfl, Nat.le_of_ble_eq_true rfl, Nat.le_of_ble_eq_true rfl, Nat.le_of_ble_eq_true rfl⟩ (Nat.le_of_ble_eq_true rfl) ?_
  refine a_aload_n (q := 0) C dX4_save_11 rfl rfl ?_
  refine a_iconst (v := (1 : Int32)) C dX4_save_12 rfl ?_
  refine a_puti (a := 0) C dX4_save_13 fp_RX4_51 rfl rfl rfl rfl ?_
  refine a_aload_n (q := 0) C dX4_save_16 rfl rfl ?_
  refine a_getr (a := 0) (t := 1) C dX4_save_17 fl_RX4_10 rfl rfl ?_
  refine a_geti (a := 1) (x := (V2 1 8)) C dX4_save_20 fl_RX4_303 rfl rfl rfl ?_
  obtain ⟨rfl, rfl⟩ := ret2 h
  exact a_iret C dX4_save_23 rfl (by decide) rfl rfl
set_option maxRecDepth 20000 in
set_option maxHeartbeats 4000000 in
theorem w_X4_restore   (V : VT) (o9 : Int32 ⊕ String) (W9 : VT) (h : d_X4_restore  V = some (o9, W9)) : AM 6 1 yX4_restore (.code yX4_restore cX4_restore 1 (some .int)) (fun ad => [.ref (ad 0)]) V W9 (rX o9) := by
  unfold d_X4_restore at h
  refine AM.of (by decide +kernel) (fun ad => Nat.le_of_ble_eq_true rfl) (fun {p l e s m args below meth c D cs ad b0} C hT => ?_)
  have C : Ctx p l s m args meth c D cs ad b0 RX4 cX4_restore 1 (some .int) := C
  refine a_sub (lv' := [(0, .ref (ad 0))]) [0] rfl ?_
  refine a_aload_n (q := 0) C dX4_restore_0 rfl rfl ?_
  refine a_geti (a := 0) (x := (V 0 8)) C dX4_restore_1 fl_RX4_51 rfl rfl rfl ?_
  refine a_if_ne (tgt := 18) C dX4_restore_4 (by decide) (fun c1 => ?_) (fun c1 => ?_)
  · have h := it_f c1 h
    refine a_aload_n (q := 0) C dX4_restore_18 rfl rfl ?_
    refine a_getr (a := 0) (t := 1) C dX4_restore_19 fl_RX4_10 rfl rfl ?_
    refine a_aload_n (q := 0) C dX4_restore_22 rfl rfl ?_
    refine a_getr (a := 0) (t := 19) C dX4_restore_23 fl_RX4_19 rfl rfl ?_
    obtain ⟨V3, g2, h⟩ := bd_spec h
    refine a_cVv (a := 1) (st := []) C dX4_restore_26 cv_RX4_352 (w_X1_copyFrom 1 19 rfl rfl V V3 g2) rfl rfl rfl rfl rfl ⟨Nat.le_of_ble_eq_true rfl, Nat.le_of_ble_eq_true rfl, Nat.le_of_ble_eq_true rfl, Nat.le_of_ble_eq_true rfl⟩ (Nat.le_of_ble_eq_true rfl) ?_
    refine a_aload_n (q := 0) C dX4_restore_29 rfl rfl ?_
    refine a_getr (a := 0) (t := 28) C dX4_restore_30 fl_RX4_25 rfl rfl ?_
    refine a_iconst (v := (0 : Int32)) C dX4_restore_33 rfl ?_
    refine a_puti (a := 28) C dX4_restore_34 fp_RX4_325 rfl rfl rfl rfl ?_
    refine a_aload_n (q := 0) C dX4_restore_37 rfl rfl ?_
    refine a_getr (a := 0) (t := 1) C dX4_restore_38 fl_RX4_10 rfl rfl ?_
    refine a_geti (a := 1) (x := (V3 1 8)) C dX4_restore_41 fl_RX4_303 rfl rfl rfl ?_
    obtain ⟨rfl, rfl⟩ := ret2 h
    exact a_iret C dX4_restore_44 rfl (by decide) rfl rfl
  · have h := it_t c1 h
    obtain ⟨rfl, rfl⟩ := ret2 h
    exact a_throwW (text := "there is no snapshot") C hT th_RX4_280_284 (by decide +kernel) dX4_restore_7 dX4_restore_10 dX4_restore_11 dX4_restore_14 dX4_restore_17 ⟨by decide, by decide, by decide, by decide⟩ (by decide) rfl rfl
