/-! walks, by program out of the bytecode (wip/whole/gen) -/
set_option maxRecDepth 20000 in
set_option maxHeartbeats 4000000 in
theorem w_L_country (x1 : Int32)  (V : VT) (r9 : Int32) (W9 : VT) (h : d_L_country x1 V = some (r9, W9)) : AM 8 2 yL_country (.codeWith yL_country cL_country 4 (some .int) [(0, 9, 12, 13), (0, 9, 15, 15)]) (fun ad => [.ref (ad 0), .int x1, .ref (ad 118)]) V W9 (rI r9) := by
  unfold d_L_country at h
  refine AMX.of (by decide +kernel) (fun ad => Nat.le_of_ble_eq_true rfl) (fun {p l e s m args below meth c D cs ad b0} C hT => ?_)
  have C : Ctx p l s m args meth c D cs ad b0 RL cL_country 4 (some .int) := C
  refine a_sub (lv' := [(0, .ref (ad 0)), (1, .int x1), (2, .ref (ad 118))]) [0, 1, 2] rfl ?_
  refine a_aload_n (q := 2) C dL_country_0 rfl rfl ?_
  refine a_iconst (v := (0 : Int32)) C dL_country_1 rfl ?_
  refine a_aload_n (q := 0) C dL_country_2 rfl rfl ?_
  refine a_iload_n (q := 1) C dL_country_3 rfl rfl ?_
  obtain ⟨o2, V3, g1, n4, t5⟩ := bh_spec h
  refine a_cVxi (a := 0) (st := [.int (0 : Int32), .ref (ad 118)]) (k' := 2) C dL_country_4 cv_RL_7 (w_X4_country x1  V o2 V3 g1) rfl rfl rfl rfl rfl ⟨Nat.le_of_ble_eq_true rfl, Nat.le_of_ble_eq_true rfl, Nat.le_of_ble_eq_true rfl, Nat.le_of_ble_eq_true rfl⟩ (Nat.le_of_ble_eq_true rfl) (fun r6 e9 => ?_) (fun E9 e9 => ?_)
  · have h := n4 r6 e9
    refine a_i2l (v := (r6).toInt64) C dL_country_7 rfl ?_
    refine a_last (a := 118) (x := r6) C dL_country_8 rfl (in_lit (by decide)) rfl ?_
    refine a_goto (tgt := 18) C dL_country_9 (by decide) ?_
    refine a_iconst (v := (0 : Int32)) C dL_country_18 rfl ?_
    obtain ⟨rfl, rfl⟩ := ret2 h
    exact a_iret C dL_country_19 rfl (by decide) rfl rfl
  · have h := t5 E9 e9
    by_cases c7 : E9 = "java/lang/IllegalArgumentException"
    · have h := it_t c7 h
      subst c7
      refine a_catch0 C hT rfl (by decide) (uw_in 409 (by decide +kernel) rfl) (bw_in 417 (by decide +kernel) rfl) (fun q9 => ?_)
      refine a_astore_n (lv' := [(3, .ref q9), (0, .ref (ad 0)), (1, .int x1), (2, .ref (ad 118))]) C dL_country_12 rfl (by decide) rfl ?_
      refine a_iconst (v := (1 : Int32)) C dL_country_13 rfl ?_
      obtain ⟨rfl, rfl⟩ := ret2 h
      exact a_iret C dL_country_14 rfl (by decide) rfl rfl
    · have h := it_f c7 h
      by_cases c8 : E9 = "java/lang/UnsupportedOperationException"
      · have h := it_t c8 h
        subst c8
        refine a_catch1 (nm := "java/lang/IllegalArgumentException") C hT rfl (by decide) (uw_in 410 (by decide +kernel) rfl) (bw_in 513 (by decide +kernel) rfl) (by decide) (uw_in 409 (by decide +kernel) rfl) (by decide +kernel) (fun q9 => ?_)
        refine a_astore_n (lv' := [(3, .ref q9), (0, .ref (ad 0)), (1, .int x1), (2, .ref (ad 118))]) C dL_country_15 rfl (by decide) rfl ?_
        refine a_iconst (v := (2 : Int32)) C dL_country_16 rfl ?_
        obtain ⟨rfl, rfl⟩ := ret2 h
        exact a_iret C dL_country_17 rfl (by decide) rfl rfl
      · have h := it_f c8 h
        cases h
set_option maxRecDepth 20000 in
set_option maxHeartbeats 4000000 in
theorem w_L_border (x1 : Int32) (x2 : Int32)  (V : VT) (r9 : Int32) (W9 : VT) (h : d_L_border x1 x2 V = some (r9, W9)) : AM 8 3 yL_border (.codeWith yL_border cL_border 5 (some .int) [(0, 10, 13, 21), (0, 10, 17, 15)]) (fun ad => [.ref (ad 0), .int x1, .int x2, .ref (ad 118)]) V W9 (rI r9) := by
  unfold d_L_border at h
  refine AMX.of (by decide +kernel) (fun ad => Nat.le_of_ble_eq_true rfl) (fun {p l e s m args below meth c D cs ad b0} C hT => ?_)
  have C : Ctx p l s m args meth c D cs ad b0 RL cL_border 5 (some .int) := C
  refine a_sub (lv' := [(0, .ref (ad 0)), (1, .int x1), (2, .int x2), (3, .ref (ad 118))]) [0, 1, 2, 3] rfl ?_
  refine a_aload_n (q := 3) C dL_border_0 rfl rfl ?_
  refine a_iconst (v := (0 : Int32)) C dL_border_1 rfl ?_
  refine a_aload_n (q := 0) C dL_border_2 rfl rfl ?_
  refine a_iload_n (q := 1) C dL_border_3 rfl rfl ?_
  refine a_iload_n (q := 2) C dL_border_4 rfl rfl ?_
  obtain ⟨o2, V3, g1, n4, t5⟩ := bh_spec h
  refine a_cVxi (a := 0) (st := [.int (0 : Int32), .ref (ad 118)]) (k' := 3) C dL_border_5 cv_RL_17 (w_X4_border x1 x2  V o2 V3 g1) rfl rfl rfl rfl rfl ⟨Nat.le_of_ble_eq_true rfl, Nat.le_of_ble_eq_true rfl, Nat.le_of_ble_eq_true rfl, Nat.le_of_ble_eq_true rfl⟩ (Nat.le_of_ble_eq_true rfl) (fun r6 e9 => ?_) (fun E9 e9 => ?_)
  · have h := n4 r6 e9
    refine a_i2l (v := (r6).toInt64) C dL_border_8 rfl ?_
    refine a_last (a := 118) (x := r6) C dL_border_9 rfl (in_lit (by decide)) rfl ?_
    refine a_goto (tgt := 21) C dL_border_10 (by decide) ?_
    refine a_iconst (v := (0 : Int32)) C dL_border_21 rfl ?_
    obtain ⟨rfl, rfl⟩ := ret2 h
    exact a_iret C dL_border_22 rfl (by decide) rfl rfl
  · have h := t5 E9 e9
    by_cases c7 : E9 = "java/lang/IndexOutOfBoundsException"
    · have h := it_t c7 h
      subst c7
      refine a_catch0 C hT rfl (by decide) (uw_in 534 (by decide +kernel) rfl) (bw_in 572 (by decide +kernel) rfl) (fun q9 => ?_)
      refine a_astore (lv' := [(4, .ref q9), (0, .ref (ad 0)), (1, .int x1), (2, .int x2), (3, .ref (ad 118))]) C dL_border_13 (by decide) rfl ?_
      refine a_iconst (v := (1 : Int32)) C dL_border_15 rfl ?_
      obtain ⟨rfl, rfl⟩ := ret2 h
      exact a_iret C dL_border_16 rfl (by decide) rfl rfl
    · have h := it_f c7 h
      by_cases c8 : E9 = "java/lang/UnsupportedOperationException"
      · have h := it_t c8 h
        subst c8
        refine a_catch1 (nm := "java/lang/IndexOutOfBoundsException") C hT rfl (by decide) (uw_in 410 (by decide +kernel) rfl) (bw_in 513 (by decide +kernel) rfl) (by decide) (uw_in 534 (by decide +kernel) rfl) (by decide +kernel) (fun q9 => ?_)
        refine a_astore (lv' := [(4, .ref q9), (0, .ref (ad 0)), (1, .int x1), (2, .int x2), (3, .ref (ad 118))]) C dL_border_17 (by decide) rfl ?_
        refine a_iconst (v := (2 : Int32)) C dL_border_19 rfl ?_
        obtain ⟨rfl, rfl⟩ := ret2 h
        exact a_iret C dL_border_20 rfl (by decide) rfl rfl
      · have h := it_f c8 h
        cases h
set_option maxRecDepth 20000 in
set_option maxHeartbeats 4000000 in
theorem w_L_erase (x1 : Int32) (x2 : Int32)  (V : VT) (r9 : Int32) (W9 : VT) (h : d_L_erase x1 x2 V = some (r9, W9)) : AM 8 3 yL_erase (.codeWith yL_erase cL_erase 5 (some .int) [(0, 10, 13, 21), (0, 10, 17, 15)]) (fun ad => [.ref (ad 0), .int x1, .int x2, .ref (ad 118)]) V W9 (rI r9) := by
  unfold d_L_erase at h
  refine AMX.of (by decide +kernel) (fun ad => Nat.le_of_ble_eq_true rfl) (fun {p l e s m args below meth c D cs ad b0} C hT => ?_)
  have C : Ctx p l s m args meth c D cs ad b0 RL cL_erase 5 (some .int) := C
  refine a_sub (lv' := [(0, .ref (ad 0)), (1, .int x1), (2, .int x2), (3, .ref (ad 118))]) [0, 1, 2, 3] rfl ?_
  refine a_aload_n (q := 3) C dL_erase_0 rfl rfl ?_
  refine a_iconst (v := (0 : Int32)) C dL_erase_1 rfl ?_
  refine a_aload_n (q := 0) C dL_erase_2 rfl rfl ?_
  refine a_iload_n (q := 1) C dL_erase_3 rfl rfl ?_
  refine a_iload_n (q := 2) C dL_erase_4 rfl rfl ?_
  obtain ⟨o2, V3, g1, n4, t5⟩ := bh_spec h
  refine a_cVxi (a := 0) (st := [.int (0 : Int32), .ref (ad 118)]) (k' := 3) C dL_erase_5 cv_RL_23 (w_X4_erase x1 x2  V o2 V3 g1) rfl rfl rfl rfl rfl ⟨Nat.le_of_ble_eq_true rfl, Nat.le_of_ble_eq_true rfl, Nat.le_of_ble_eq_true rfl, Nat.le_of_ble_eq_true rfl⟩ (Nat.le_of_ble_eq_true rfl) (fun r6 e9 => ?_) (fun E9 e9 => ?_)
  · have h := n4 r6 e9
    refine a_i2l (v := (r6).toInt64) C dL_erase_8 rfl ?_
    refine a_last (a := 118) (x := r6) C dL_erase_9 rfl (in_lit (by decide)) rfl ?_
    refine a_goto (tgt := 21) C dL_erase_10 (by decide) ?_
    refine a_iconst (v := (0 : Int32)) C dL_erase_21 rfl ?_
    obtain ⟨rfl, rfl⟩ := ret2 h
    exact a_iret C dL_erase_22 rfl (by decide) rfl rfl
  · have h := t5 E9 e9
    by_cases c7 : E9 = "java/lang/IndexOutOfBoundsException"
    · have h := it_t c7 h
      subst c7
      refine a_catch0 C hT rfl (by decide) (uw_in 534 (by decide +kernel) rfl) (bw_in 572 (by decide +kernel) rfl) (fun q9 => ?_)
      refine a_astore (lv' := [(4, .ref q9), (0, .ref (ad 0)), (1, .int x1), (2, .int x2), (3, .ref (ad 118))]) C dL_erase_13 (by decide) rfl ?_
      refine a_iconst (v := (1 : Int32)) C dL_erase_15 rfl ?_
      obtain ⟨rfl, rfl⟩ := ret2 h
      exact a_iret C dL_erase_16 rfl (by decide) rfl rfl
    · have h := it_f c7 h
      by_cases c8 : E9 = "java/lang/UnsupportedOperationException"
      · have h := it_t c8 h
        subst c8
        refine a_catch1 (nm := "java/lang/IndexOutOfBoundsException") C hT rfl (by decide) (uw_in 410 (by decide +kernel) rfl) (bw_in 513 (by decide +kernel) rfl) (by decide) (uw_in 534 (by decide +kernel) rfl) (by decide +kernel) (fun q9 => ?_)
        refine a_astore (lv' := [(4, .ref q9), (0, .ref (ad 0)), (1, .int x1), (2, .int x2), (3, .ref (ad 118))]) C dL_erase_17 (by decide) rfl ?_
        refine a_iconst (v := (2 : Int32)) C dL_erase_19 rfl ?_
        obtain ⟨rfl, rfl⟩ := ret2 h
        exact a_iret C dL_erase_20 rfl (by decide) rfl rfl
      · have h := it_f c8 h
        cases h
set_option maxRecDepth 20000 in
set_option maxHeartbeats 4000000 in
theorem w_L_hasBorder (x1 : Int32) (x2 : Int32)  (V : VT) (r9 : Int32) (W9 : VT) (h : d_L_hasBorder x1 x2 V = some (r9, W9)) : AM 8 2 yL_hasBorder (.codeWith yL_hasBorder cL_hasBorder 5 (some .int) [(0, 17, 20, 21)]) (fun ad => [.ref (ad 0), .int x1, .int x2, .ref (ad 118)]) V W9 (rI r9) := by
  unfold d_L_hasBorder at h
  refine AMX.of (by decide +kernel) (fun ad => Nat.le_of_ble_eq_true rfl) (fun {p l e s m args below meth c D cs ad b0} C hT => ?_)
  have C : Ctx p l s m args meth c D cs ad b0 RL cL_hasBorder 5 (some .int) := C
  refine a_sub (lv' := [(0, .ref (ad 0)), (1, .int x1), (2, .int x2), (3, .ref (ad 118))]) [0, 1, 2, 3] rfl ?_
  refine a_aload_n (q := 3) C dL_hasBorder_0 rfl rfl ?_
  refine a_iconst (v := (0 : Int32)) C dL_hasBorder_1 rfl ?_
  refine a_aload_n (q := 0) C dL_hasBorder_2 rfl rfl ?_
  refine a_iload_n (q := 1) C dL_hasBorder_3 rfl rfl ?_
  refine a_iload_n (q := 2) C dL_hasBorder_4 rfl rfl ?_
  obtain ⟨o2, V3, g1, n4, t5⟩ := bh_spec h
  refine a_cVxi (a := 0) (st := [.int (0 : Int32), .ref (ad 118)]) (k' := 2) C dL_hasBorder_5 cv_RL_26 (w_X4_hasBorder x1 x2  V o2 V3 g1) rfl rfl rfl rfl rfl ⟨Nat.le_of_ble_eq_true rfl, Nat.le_of_ble_eq_true rfl, Nat.le_of_ble_eq_true rfl, Nat.le_of_ble_eq_true rfl⟩ (Nat.le_of_ble_eq_true rfl) (fun r6 e9 => ?_) (fun E9 e9 => ?_)
  · have h := n4 r6 e9
    refine a_if_eq (tgt := 15) C dL_hasBorder_8 (by decide) (fun c7 => ?_) (fun c7 => ?_)
    · have h := it_t c7 h
      refine a_lconst (v := ((0 : Int32)).toInt64) C dL_hasBorder_15 rfl ?_
      refine a_last (a := 118) (x := (0 : Int32)) C dL_hasBorder_16 rfl (in_lit (by decide)) rfl ?_
      refine a_goto (tgt := 24) C dL_hasBorder_17 (by decide) ?_
      refine a_iconst (v := (0 : Int32)) C dL_hasBorder_24 rfl ?_
      obtain ⟨rfl, rfl⟩ := ret2 h
      exact a_iret C dL_hasBorder_25 rfl (by decide) rfl rfl
    · have h := it_f c7 h
      refine a_lconst (v := ((1 : Int32)).toInt64) C dL_hasBorder_11 rfl ?_
      refine a_goto (tgt := 16) C dL_hasBorder_12 (by decide) ?_
      refine a_last (a := 118) (x := (1 : Int32)) C dL_hasBorder_16 rfl (in_lit (by decide)) rfl ?_
      refine a_goto (tgt := 24) C dL_hasBorder_17 (by decide) ?_
      refine a_iconst (v := (0 : Int32)) C dL_hasBorder_24 rfl ?_
      obtain ⟨rfl, rfl⟩ := ret2 h
      exact a_iret C dL_hasBorder_25 rfl (by decide) rfl rfl
  · have h := t5 E9 e9
    by_cases c8 : E9 = "java/lang/IndexOutOfBoundsException"
    · have h := it_t c8 h
      subst c8
      refine a_catch0 C hT rfl (by decide) (uw_in 534 (by decide +kernel) rfl) (bw_in 572 (by decide +kernel) rfl) (fun q9 => ?_)
      refine a_astore (lv' := [(4, .ref q9), (0, .ref (ad 0)), (1, .int x1), (2, .int x2), (3, .ref (ad 118))]) C dL_hasBorder_20 (by decide) rfl ?_
      refine a_iconst (v := (1 : Int32)) C dL_hasBorder_22 rfl ?_
      obtain ⟨rfl, rfl⟩ := ret2 h
      exact a_iret C dL_hasBorder_23 rfl (by decide) rfl rfl
    · have h := it_f c8 h
      cases h
set_option maxRecDepth 20000 in
set_option maxHeartbeats 4000000 in
theorem w_L_countryOf (x1 : Int32) (x2 : Int32)  (V : VT) (r9 : Int32) (W9 : VT) (h : d_L_countryOf x1 x2 V = some (r9, W9)) : AM 8 2 yL_countryOf (.codeWith yL_countryOf cL_countryOf 5 (some .int) [(0, 10, 13, 21), (0, 10, 17, 13)]) (fun ad => [.ref (ad 0), .int x1, .int x2, .ref (ad 118)]) V W9 (rI r9) := by
  unfold d_L_countryOf at h
  refine AMX.of (by decide +kernel) (fun ad => Nat.le_of_ble_eq_true rfl) (fun {p l e s m args below meth c D cs ad b0} C hT => ?_)
  have C : Ctx p l s m args meth c D cs ad b0 RL cL_countryOf 5 (some .int) := C
  refine a_sub (lv' := [(0, .ref (ad 0)), (1, .int x1), (2, .int x2), (3, .ref (ad 118))]) [0, 1, 2, 3] rfl ?_
  refine a_aload_n (q := 3) C dL_countryOf_0 rfl rfl ?_
  refine a_iconst (v := (0 : Int32)) C dL_countryOf_1 rfl ?_
  refine a_aload_n (q := 0) C dL_countryOf_2 rfl rfl ?_
  refine a_iload_n (q := 1) C dL_countryOf_3 rfl rfl ?_
  refine a_iload_n (q := 2) C dL_countryOf_4 rfl rfl ?_
  obtain ⟨o2, V3, g1, n4, t5⟩ := bh_spec h
  refine a_cVxi (a := 0) (st := [.int (0 : Int32), .ref (ad 118)]) (k' := 2) C dL_countryOf_5 cv_RL_30 (w_X4_countryOf x1 x2  V o2 V3 g1) rfl rfl rfl rfl rfl ⟨Nat.le_of_ble_eq_true rfl, Nat.le_of_ble_eq_true rfl, Nat.le_of_ble_eq_true rfl, Nat.le_of_ble_eq_true rfl⟩ (Nat.le_of_ble_eq_true rfl) (fun r6 e9 => ?_) (fun E9 e9 => ?_)
  · have h := n4 r6 e9
    refine a_i2l (v := (r6).toInt64) C dL_countryOf_8 rfl ?_
    refine a_last (a := 118) (x := r6) C dL_countryOf_9 rfl (in_lit (by decide)) rfl ?_
    refine a_goto (tgt := 21) C dL_countryOf_10 (by decide) ?_
    refine a_iconst (v := (0 : Int32)) C dL_countryOf_21 rfl ?_
    obtain ⟨rfl, rfl⟩ := ret2 h
    exact a_iret C dL_countryOf_22 rfl (by decide) rfl rfl
  · have h := t5 E9 e9
    by_cases c7 : E9 = "java/lang/IndexOutOfBoundsException"
    · have h := it_t c7 h
      subst c7
      refine a_catch0 C hT rfl (by decide) (uw_in 534 (by decide +kernel) rfl) (bw_in 572 (by decide +kernel) rfl) (fun q9 => ?_)
      refine a_astore (lv' := [(4, .ref q9), (0, .ref (ad 0)), (1, .int x1), (2, .int x2), (3, .ref (ad 118))]) C dL_countryOf_13 (by decide) rfl ?_
      refine a_iconst (v := (1 : Int32)) C dL_countryOf_15 rfl ?_
      obtain ⟨rfl, rfl⟩ := ret2 h
      exact a_iret C dL_countryOf_16 rfl (by decide) rfl rfl
    · have h := it_f c7 h
      by_cases c8 : E9 = "java/lang/IllegalArgumentException"
      · have h := it_t c8 h
        subst c8
        refine a_catch1 (nm := "java/lang/IndexOutOfBoundsException") C hT rfl (by decide) (uw_in 409 (by decide +kernel) rfl) (bw_in 417 (by decide +kernel) rfl) (by decide) (uw_in 534 (by decide +kernel) rfl) (by decide +kernel) (fun q9 => ?_)
        refine a_astore (lv' := [(4, .ref q9), (0, .ref (ad 0)), (1, .int x1), (2, .int x2), (3, .ref (ad 118))]) C dL_countryOf_17 (by decide) rfl ?_
        refine a_iconst (v := (2 : Int32)) C dL_countryOf_19 rfl ?_
        obtain ⟨rfl, rfl⟩ := ret2 h
        exact a_iret C dL_countryOf_20 rfl (by decide) rfl rfl
      · have h := it_f c8 h
        cases h
set_option maxRecDepth 20000 in
set_option maxHeartbeats 4000000 in
theorem w_L_hues (x1 : Int32)  (V : VT) (r9 : Int32) (W9 : VT) (h : d_L_hues x1 V = some (r9, W9)) : AM 8 2 yL_hues (.codeWith yL_hues cL_hues 4 (some .int) [(0, 9, 12, 13), (0, 9, 15, 15)]) (fun ad => [.ref (ad 0), .int x1, .ref (ad 118)]) V W9 (rI r9) := by
  unfold d_L_hues at h
  refine AMX.of (by decide +kernel) (fun ad => Nat.le_of_ble_eq_true rfl) (fun {p l e s m args below meth c D cs ad b0} C hT => ?_)
  have C : Ctx p l s m args meth c D cs ad b0 RL cL_hues 4 (some .int) := C
  refine a_sub (lv' := [(0, .ref (ad 0)), (1, .int x1), (2, .ref (ad 118))]) [0, 1, 2] rfl ?_
  refine a_aload_n (q := 2) C dL_hues_0 rfl rfl ?_
  refine a_iconst (v := (0 : Int32)) C dL_hues_1 rfl ?_
  refine a_aload_n (q := 0) C dL_hues_2 rfl rfl ?_
  refine a_iload_n (q := 1) C dL_hues_3 rfl rfl ?_
  obtain ⟨o2, V3, g1, n4, t5⟩ := bh_spec h
  refine a_cVxi (a := 0) (st := [.int (0 : Int32), .ref (ad 118)]) (k' := 2) C dL_hues_4 cv_RL_33 (w_X4_hues x1  V o2 V3 g1) rfl rfl rfl rfl rfl ⟨Nat.le_of_ble_eq_true rfl, Nat.le_of_ble_eq_true rfl, Nat.le_of_ble_eq_true rfl, Nat.le_of_ble_eq_true rfl⟩ (Nat.le_of_ble_eq_true rfl) (fun r6 e9 => ?_) (fun E9 e9 => ?_)
  · have h := n4 r6 e9
    refine a_i2l (v := (r6).toInt64) C dL_hues_7 rfl ?_
    refine a_last (a := 118) (x := r6) C dL_hues_8 rfl (in_lit (by decide)) rfl ?_
    refine a_goto (tgt := 18) C dL_hues_9 (by decide) ?_
    refine a_iconst (v := (0 : Int32)) C dL_hues_18 rfl ?_
    obtain ⟨rfl, rfl⟩ := ret2 h
    exact a_iret C dL_hues_19 rfl (by decide) rfl rfl
  · have h := t5 E9 e9
    by_cases c7 : E9 = "java/lang/IllegalArgumentException"
    · have h := it_t c7 h
      subst c7
      refine a_catch0 C hT rfl (by decide) (uw_in 409 (by decide +kernel) rfl) (bw_in 417 (by decide +kernel) rfl) (fun q9 => ?_)
      refine a_astore_n (lv' := [(3, .ref q9), (0, .ref (ad 0)), (1, .int x1), (2, .ref (ad 118))]) C dL_hues_12 rfl (by decide) rfl ?_
      refine a_iconst (v := (1 : Int32)) C dL_hues_13 rfl ?_
      obtain ⟨rfl, rfl⟩ := ret2 h
      exact a_iret C dL_hues_14 rfl (by decide) rfl rfl
    · have h := it_f c7 h
      by_cases c8 : E9 = "java/lang/UnsupportedOperationException"
      · have h := it_t c8 h
        subst c8
        refine a_catch1 (nm := "java/lang/IllegalArgumentException") C hT rfl (by decide) (uw_in 410 (by decide +kernel) rfl) (bw_in 513 (by decide +kernel) rfl) (by decide) (uw_in 409 (by decide +kernel) rfl) (by decide +kernel) (fun q9 => ?_)
        refine a_astore_n (lv' := [(3, .ref q9), (0, .ref (ad 0)), (1, .int x1), (2, .ref (ad 118))]) C dL_hues_15 rfl (by decide) rfl ?_
        refine a_iconst (v := (2 : Int32)) C dL_hues_16 rfl ?_
        obtain ⟨rfl, rfl⟩ := ret2 h
        exact a_iret C dL_hues_17 rfl (by decide) rfl rfl
      · have h := it_f c8 h
        cases h
set_option maxRecDepth 20000 in
set_option maxHeartbeats 4000000 in
theorem w_L_pots (x1 : Int32) (x2 : Int32)  (V : VT) (r9 : Int32) (W9 : VT) (h : d_L_pots x1 x2 V = some (r9, W9)) : AM 8 2 yL_pots (.codeWith yL_pots cL_pots 5 (some .int) [(0, 10, 13, 21), (0, 10, 17, 13)]) (fun ad => [.ref (ad 0), .int x1, .int x2, .ref (ad 118)]) V W9 (rI r9) := by
  unfold d_L_pots at h
  refine AMX.of (by decide +kernel) (fun ad => Nat.le_of_ble_eq_true rfl) (fun {p l e s m args below meth c D cs ad b0} C hT => ?_)
  have C : Ctx p l s m args meth c D cs ad b0 RL cL_pots 5 (some .int) := C
  refine a_sub (lv' := [(0, .ref (ad 0)), (1, .int x1), (2, .int x2), (3, .ref (ad 118))]) [0, 1, 2, 3] rfl ?_
  refine a_aload_n (q := 3) C dL_pots_0 rfl rfl ?_
  refine a_iconst (v := (0 : Int32)) C dL_pots_1 rfl ?_
  refine a_aload_n (q := 0) C dL_pots_2 rfl rfl ?_
  refine a_iload_n (q := 1) C dL_pots_3 rfl rfl ?_
  refine a_iload_n (q := 2) C dL_pots_4 rfl rfl ?_
  obtain ⟨o2, V3, g1, n4, t5⟩ := bh_spec h
  refine a_cVxi (a := 0) (st := [.int (0 : Int32), .ref (ad 118)]) (k' := 2) C dL_pots_5 cv_RL_36 (w_X4_pots x1 x2  V o2 V3 g1) rfl rfl rfl rfl rfl ⟨Nat.le_of_ble_eq_true rfl, Nat.le_of_ble_eq_true rfl, Nat.le_of_ble_eq_true rfl, Nat.le_of_ble_eq_true rfl⟩ (Nat.le_of_ble_eq_true rfl) (fun r6 e9 => ?_) (fun E9 e9 => ?_)
  · have h := n4 r6 e9
    refine a_i2l (v := (r6).toInt64) C dL_pots_8 rfl ?_
    refine a_last (a := 118) (x := r6) C dL_pots_9 rfl (in_lit (by decide)) rfl ?_
    refine a_goto (tgt := 21) C dL_pots_10 (by decide) ?_
    refine a_iconst (v := (0 : Int32)) C dL_pots_21 rfl ?_
    obtain ⟨rfl, rfl⟩ := ret2 h
    exact a_iret C dL_pots_22 rfl (by decide) rfl rfl
  · have h := t5 E9 e9
    by_cases c7 : E9 = "java/lang/IndexOutOfBoundsException"
    · have h := it_t c7 h
      subst c7
      refine a_catch0 C hT rfl (by decide) (uw_in 534 (by decide +kernel) rfl) (bw_in 572 (by decide +kernel) rfl) (fun q9 => ?_)
      refine a_astore (lv' := [(4, .ref q9), (0, .ref (ad 0)), (1, .int x1), (2, .int x2), (3, .ref (ad 118))]) C dL_pots_13 (by decide) rfl ?_
      refine a_iconst (v := (1 : Int32)) C dL_pots_15 rfl ?_
      obtain ⟨rfl, rfl⟩ := ret2 h
      exact a_iret C dL_pots_16 rfl (by decide) rfl rfl
    · have h := it_f c7 h
      by_cases c8 : E9 = "java/lang/IllegalArgumentException"
      · have h := it_t c8 h
        subst c8
        refine a_catch1 (nm := "java/lang/IndexOutOfBoundsException") C hT rfl (by decide) (uw_in 409 (by decide +kernel) rfl) (bw_in 417 (by decide +kernel) rfl) (by decide) (uw_in 534 (by decide +kernel) rfl) (by decide +kernel) (fun q9 => ?_)
        refine a_astore (lv' := [(4, .ref q9), (0, .ref (ad 0)), (1, .int x1), (2, .int x2), (3, .ref (ad 118))]) C dL_pots_17 (by decide) rfl ?_
        refine a_iconst (v := (2 : Int32)) C dL_pots_19 rfl ?_
        obtain ⟨rfl, rfl⟩ := ret2 h
        exact a_iret C dL_pots_20 rfl (by decide) rfl rfl
      · have h := it_f c8 h
        cases h
set_option maxRecDepth 20000 in
set_option maxHeartbeats 4000000 in
theorem w_L_hueOf (x1 : Int32) (x2 : Int32)  (V : VT) (r9 : Int32) (W9 : VT) (h : d_L_hueOf x1 x2 V = some (r9, W9)) : AM 8 2 yL_hueOf (.codeWith yL_hueOf cL_hueOf 5 (some .int) [(0, 10, 13, 21), (0, 10, 17, 13)]) (fun ad => [.ref (ad 0), .int x1, .int x2, .ref (ad 118)]) V W9 (rI r9) := by
  unfold d_L_hueOf at h
  refine AMX.of (by decide +kernel) (fun ad => Nat.le_of_ble_eq_true rfl) (fun {p l e s m args below meth c D cs ad b0} C hT => ?_)
  have C : Ctx p l s m args meth c D cs ad b0 RL cL_hueOf 5 (some .int) := C
  refine a_sub (lv' := [(0, .ref (ad 0)), (1, .int x1), (2, .int x2), (3, .ref (ad 118))]) [0, 1, 2, 3] rfl ?_
  refine a_aload_n (q := 3) C dL_hueOf_0 rfl rfl ?_
  refine a_iconst (v := (0 : Int32)) C dL_hueOf_1 rfl ?_
  refine a_aload_n (q := 0) C dL_hueOf_2 rfl rfl ?_
  refine a_iload_n (q := 1) C dL_hueOf_3 rfl rfl ?_
  refine a_iload_n (q := 2) C dL_hueOf_4 rfl rfl ?_
  obtain ⟨o2, V3, g1, n4, t5⟩ := bh_spec h
  refine a_cVxi (a := 0) (st := [.int (0 : Int32), .ref (ad 118)]) (k' := 2) C dL_hueOf_5 cv_RL_39 (w_X4_hueOf x1 x2  V o2 V3 g1) rfl rfl rfl rfl rfl ⟨Nat.le_of_ble_eq_true rfl, Nat.le_of_ble_eq_true rfl, Nat.le_of_ble_eq_true rfl, Nat.le_of_ble_eq_true rfl⟩ (Nat.le_of_ble_eq_true rfl) (fun r6 e9 => ?_) (fun E9 e9 => ?_)
  · have h := n4 r6 e9
    refine a_i2l (v := (r6).toInt64) C dL_hueOf_8 rfl ?_
    refine a_last (a := 118) (x := r6) C dL_hueOf_9 rfl (in_lit (by decide)) rfl ?_
    refine a_goto (tgt := 21) C dL_hueOf_10 (by decide) ?_
    refine a_iconst (v := (0 : Int32)) C dL_hueOf_21 rfl ?_
    obtain ⟨rfl, rfl⟩ := ret2 h
    exact a_iret C dL_hueOf_22 rfl (by decide) rfl rfl
  · have h := t5 E9 e9
    by_cases c7 : E9 = "java/lang/IndexOutOfBoundsException"
    · have h := it_t c7 h
      subst c7
      refine a_catch0 C hT rfl (by decide) (uw_in 534 (by decide +kernel) rfl) (bw_in 572 (by decide +kernel) rfl) (fun q9 => ?_)
      refine a_astore (lv' := [(4, .ref q9), (0, .ref (ad 0)), (1, .int x1), (2, .int x2), (3, .ref (ad 118))]) C dL_hueOf_13 (by decide) rfl ?_
      refine a_iconst (v := (1 : Int32)) C dL_hueOf_15 rfl ?_
      obtain ⟨rfl, rfl⟩ := ret2 h
      exact a_iret C dL_hueOf_16 rfl (by decide) rfl rfl
    · have h := it_f c7 h
      by_cases c8 : E9 = "java/lang/IllegalArgumentException"
      · have h := it_t c8 h
        subst c8
        refine a_catch1 (nm := "java/lang/IndexOutOfBoundsException") C hT rfl (by decide) (uw_in 409 (by decide +kernel) rfl) (bw_in 417 (by decide +kernel) rfl) (by decide) (uw_in 534 (by decide +kernel) rfl) (by decide +kernel) (fun q9 => ?_)
        refine a_astore (lv' := [(4, .ref q9), (0, .ref (ad 0)), (1, .int x1), (2, .int x2), (3, .ref (ad 118))]) C dL_hueOf_17 (by decide) rfl ?_
        refine a_iconst (v := (2 : Int32)) C dL_hueOf_19 rfl ?_
        obtain ⟨rfl, rfl⟩ := ret2 h
        exact a_iret C dL_hueOf_20 rfl (by decide) rfl rfl
      · have h := it_f c8 h
        cases h
set_option maxRecDepth 20000 in
set_option maxHeartbeats 4000000 in
theorem w_L_paint (x1 : Int32) (x2 : Int32)  (V : VT) (r9 : Int32) (W9 : VT) (h : d_L_paint x1 x2 V = some (r9, W9)) : AM 8 3 yL_paint (.codeWith yL_paint cL_paint 5 (some .int) [(0, 10, 13, 21), (0, 10, 17, 15)]) (fun ad => [.ref (ad 0), .int x1, .int x2, .ref (ad 118)]) V W9 (rI r9) := by
  unfold d_L_paint at h
  refine AMX.of (by decide +kernel) (fun ad => Nat.le_of_ble_eq_true rfl) (fun {p l e s m args below meth c D cs ad b0} C hT => ?_)
  have C : Ctx p l s m args meth c D cs ad b0 RL cL_paint 5 (some .int) := C
  refine a_sub (lv' := [(0, .ref (ad 0)), (1, .int x1), (2, .int x2), (3, .ref (ad 118))]) [0, 1, 2, 3] rfl ?_
  refine a_aload_n (q := 3) C dL_paint_0 rfl rfl ?_
  refine a_iconst (v := (0 : Int32)) C dL_paint_1 rfl ?_
  refine a_aload_n (q := 0) C dL_paint_2 rfl rfl ?_
  refine a_iload_n (q := 1) C dL_paint_3 rfl rfl ?_
  refine a_iload_n (q := 2) C dL_paint_4 rfl rfl ?_
  obtain ⟨o2, V3, g1, n4, t5⟩ := bh_spec h
  refine a_cVxi (a := 0) (st := [.int (0 : Int32), .ref (ad 118)]) (k' := 3) C dL_paint_5 cv_RL_42 (w_X4_paint x1 x2  V o2 V3 g1) rfl rfl rfl rfl rfl ⟨Nat.le_of_ble_eq_true rfl, Nat.le_of_ble_eq_true rfl, Nat.le_of_ble_eq_true rfl, Nat.le_of_ble_eq_true rfl⟩ (Nat.le_of_ble_eq_true rfl) (fun r6 e9 => ?_) (fun E9 e9 => ?_)
  · have h := n4 r6 e9
    refine a_i2l (v := (r6).toInt64) C dL_paint_8 rfl ?_
    refine a_last (a := 118) (x := r6) C dL_paint_9 rfl (in_lit (by decide)) rfl ?_
    refine a_goto (tgt := 21) C dL_paint_10 (by decide) ?_
    refine a_iconst (v := (0 : Int32)) C dL_paint_21 rfl ?_
    obtain ⟨rfl, rfl⟩ := ret2 h
    exact a_iret C dL_paint_22 rfl (by decide) rfl rfl
  · have h := t5 E9 e9
    by_cases c7 : E9 = "java/lang/IndexOutOfBoundsException"
    · have h := it_t c7 h
      subst c7
      refine a_catch0 C hT rfl (by decide) (uw_in 534 (by decide +kernel) rfl) (bw_in 572 (by decide +kernel) rfl) (fun q9 => ?_)
      refine a_astore (lv' := [(4, .ref q9), (0, .ref (ad 0)), (1, .int x1), (2, .int x2), (3, .ref (ad 118))]) C dL_paint_13 (by decide) rfl ?_
      refine a_iconst (v := (1 : Int32)) C dL_paint_15 rfl ?_
      obtain ⟨rfl, rfl⟩ := ret2 h
      exact a_iret C dL_paint_16 rfl (by decide) rfl rfl
    · have h := it_f c7 h
      by_cases c8 : E9 = "java/lang/UnsupportedOperationException"
      · have h := it_t c8 h
        subst c8
        refine a_catch1 (nm := "java/lang/IndexOutOfBoundsException") C hT rfl (by decide) (uw_in 410 (by decide +kernel) rfl) (bw_in 513 (by decide +kernel) rfl) (by decide) (uw_in 534 (by decide +kernel) rfl) (by decide +kernel) (fun q9 => ?_)
        refine a_astore (lv' := [(4, .ref q9), (0, .ref (ad 0)), (1, .int x1), (2, .int x2), (3, .ref (ad 118))]) C dL_paint_17 (by decide) rfl ?_
        refine a_iconst (v := (2 : Int32)) C dL_paint_19 rfl ?_
        obtain ⟨rfl, rfl⟩ := ret2 h
        exact a_iret C dL_paint_20 rfl (by decide) rfl rfl
      · have h := it_f c8 h
        cases h
set_option maxRecDepth 20000 in
set_option maxHeartbeats 4000000 in
theorem w_L_bars (x1 : Int32) (x2 : Int32)  (V : VT) (r9 : Int32) (W9 : VT) (h : d_L_bars x1 x2 V = some (r9, W9)) : AM 8 2 yL_bars (.codeWith yL_bars cL_bars 5 (some .int) [(0, 10, 13, 21)]) (fun ad => [.ref (ad 0), .int x1, .int x2, .ref (ad 118)]) V W9 (rI r9) := by
  unfold d_L_bars at h
  refine AMX.of (by decide +kernel) (fun ad => Nat.le_of_ble_eq_true rfl) (fun {p l e s m args below meth c D cs ad b0} C hT => ?_)
  have C : Ctx p l s m args meth c D cs ad b0 RL cL_bars 5 (some .int) := C
  refine a_sub (lv' := [(0, .ref (ad 0)), (1, .int x1), (2, .int x2), (3, .ref (ad 118))]) [0, 1, 2, 3] rfl ?_
  refine a_aload_n (q := 3) C dL_bars_0 rfl rfl ?_
  refine a_iconst (v := (0 : Int32)) C dL_bars_1 rfl ?_
  refine a_aload_n (q := 0) C dL_bars_2 rfl rfl ?_
  refine a_iload_n (q := 1) C dL_bars_3 rfl rfl ?_
  refine a_iload_n (q := 2) C dL_bars_4 rfl rfl ?_
  obtain ⟨o2, V3, g1, n4, t5⟩ := bh_spec h
  refine a_cVxi (a := 0) (st := [.int (0 : Int32), .ref (ad 118)]) (k' := 2) C dL_bars_5 cv_RL_45 (w_X4_bars x1 x2  V o2 V3 g1) rfl rfl rfl rfl rfl ⟨Nat.le_of_ble_eq_true rfl, Nat.le_of_ble_eq_true rfl, Nat.le_of_ble_eq_true rfl, Nat.le_of_ble_eq_true rfl⟩ (Nat.le_of_ble_eq_true rfl) (fun r6 e9 => ?_) (fun E9 e9 => ?_)
  · have h := n4 r6 e9
    refine a_i2l (v := (r6).toInt64) C dL_bars_8 rfl ?_
    refine a_last (a := 118) (x := r6) C dL_bars_9 rfl (in_lit (by decide)) rfl ?_
    refine a_goto (tgt := 17) C dL_bars_10 (by decide) ?_
    refine a_iconst (v := (0 : Int32)) C dL_bars_17 rfl ?_
    obtain ⟨rfl, rfl⟩ := ret2 h
    exact a_iret C dL_bars_18 rfl (by decide) rfl rfl
  · have h := t5 E9 e9
    by_cases c7 : E9 = "java/lang/IndexOutOfBoundsException"
    · have h := it_t c7 h
      subst c7
      refine a_catch0 C hT rfl (by decide) (uw_in 534 (by decide +kernel) rfl) (bw_in 572 (by decide +kernel) rfl) (fun q9 => ?_)
      refine a_astore (lv' := [(4, .ref q9), (0, .ref (ad 0)), (1, .int x1), (2, .int x2), (3, .ref (ad 118))]) C dL_bars_13 (by decide) rfl ?_
      refine a_iconst (v := (1 : Int32)) C dL_bars_15 rfl ?_
      obtain ⟨rfl, rfl⟩ := ret2 h
      exact a_iret C dL_bars_16 rfl (by decide) rfl rfl
    · have h := it_f c7 h
      cases h
set_option maxRecDepth 20000 in
set_option maxHeartbeats 4000000 in
theorem w_L_back   (V : VT) (r9 : Int32) (W9 : VT) (h : d_L_back  V = some (r9, W9)) : AM 8 1 yL_back (.codeWith yL_back cL_back 3 (some .int) [(0, 8, 11, 15)]) (fun ad => [.ref (ad 0), .ref (ad 118)]) V W9 (rI r9) := by
  unfold d_L_back at h
  refine AMX.of (by decide +kernel) (fun ad => Nat.le_of_ble_eq_true rfl) (fun {p l e s m args below meth c D cs ad b0} C hT => ?_)
  have C : Ctx p l s m args meth c D cs ad b0 RL cL_back 3 (some .int) := C
  refine a_sub (lv' := [(0, .ref (ad 0)), (1, .ref (ad 118))]) [0, 1] rfl ?_
  refine a_aload_n (q := 1) C dL_back_0 rfl rfl ?_
  refine a_iconst (v := (0 : Int32)) C dL_back_1 rfl ?_
  refine a_aload_n (q := 0) C dL_back_2 rfl rfl ?_
  obtain ⟨o2, V3, g1, n4, t5⟩ := bh_spec h
  refine a_cVxi (a := 0) (st := [.int (0 : Int32), .ref (ad 118)]) (k' := 1) C dL_back_3 cv_RL_48 (w_X4_back   V o2 V3 g1) rfl rfl rfl rfl rfl ⟨Nat.le_of_ble_eq_true rfl, Nat.le_of_ble_eq_true rfl, Nat.le_of_ble_eq_true rfl, Nat.le_of_ble_eq_true rfl⟩ (Nat.le_of_ble_eq_true rfl) (fun r6 e9 => ?_) (fun E9 e9 => ?_)
  · have h := n4 r6 e9
    refine a_i2l (v := (r6).toInt64) C dL_back_6 rfl ?_
    refine a_last (a := 118) (x := r6) C dL_back_7 rfl (in_lit (by decide)) rfl ?_
    refine a_goto (tgt := 14) C dL_back_8 (by decide) ?_
    refine a_iconst (v := (0 : Int32)) C dL_back_14 rfl ?_
    obtain ⟨rfl, rfl⟩ := ret2 h
    exact a_iret C dL_back_15 rfl (by decide) rfl rfl
  · have h := t5 E9 e9
    by_cases c7 : E9 = "java/lang/UnsupportedOperationException"
    · have h := it_t c7 h
      subst c7
      refine a_catch0 C hT rfl (by decide) (uw_in 410 (by decide +kernel) rfl) (bw_in 513 (by decide +kernel) rfl) (fun q9 => ?_)
      refine a_astore_n (lv' := [(2, .ref q9), (0, .ref (ad 0)), (1, .ref (ad 118))]) C dL_back_11 rfl (by decide) rfl ?_
      refine a_iconst (v := (1 : Int32)) C dL_back_12 rfl ?_
      obtain ⟨rfl, rfl⟩ := ret2 h
      exact a_iret C dL_back_13 rfl (by decide) rfl rfl
    · have h := it_f c7 h
      cases h
set_option maxRecDepth 20000 in
set_option maxHeartbeats 4000000 in
theorem w_L_step (x1 : Int32)  (V : VT) (r9 : Int32) (W9 : VT) (h : d_L_step x1 V = some (r9, W9)) : AM 7 1 yL_step (.codeWith yL_step cL_step 4 (some .int) [(0, 9, 12, 55)]) (fun ad => [.ref (ad 0), .int x1, .ref (ad 118)]) V W9 (rI r9) := by
  unfold d_L_step at h
  refine AMX.of (by decide +kernel) (fun ad => Nat.le_of_ble_eq_true rfl) (fun {p l e s m args below meth c D cs ad b0} C hT => ?_)
  have C : Ctx p l s m args meth c D cs ad b0 RL cL_step 4 (some .int) := C
  refine a_sub (lv' := [(0, .ref (ad 0)), (1, .int x1), (2, .ref (ad 118))]) [0, 1, 2] rfl ?_
  refine a_aload_n (q := 2) C dL_step_0 rfl rfl ?_
  refine a_iconst (v := (0 : Int32)) C dL_step_1 rfl ?_
  refine a_aload_n (q := 0) C dL_step_2 rfl rfl ?_
  refine a_iload_n (q := 1) C dL_step_3 rfl rfl ?_
  obtain ⟨o2, V3, g1, n4, t5⟩ := bh_spec h
  refine a_cVxi (a := 0) (st := [.int (0 : Int32), .ref (ad 118)]) (k' := 1) C dL_step_4 cv_RL_52 (w_X4_step x1  V o2 V3 g1) rfl rfl rfl rfl rfl ⟨Nat.le_of_ble_eq_true rfl, Nat.le_of_ble_eq_true rfl, Nat.le_of_ble_eq_true rfl, Nat.le_of_ble_eq_true rfl⟩ (Nat.le_of_ble_eq_true rfl) (fun r6 e9 => ?_) (fun E9 e9 => ?_)
  · have h := n4 r6 e9
    refine a_i2l (v := (r6).toInt64) C dL_step_7 rfl ?_
    refine a_last (a := 118) (x := r6) C dL_step_8 rfl (in_lit (by decide)) rfl ?_
    refine a_goto (tgt := 15) C dL_step_9 (by decide) ?_
    refine a_iconst (v := (0 : Int32)) C dL_step_15 rfl ?_
    obtain ⟨rfl, rfl⟩ := ret2 h
    exact a_iret C dL_step_16 rfl (by decide) rfl rfl
  · have h := t5 E9 e9
    by_cases c7 : E9 = "java/util/NoSuchElementException"
    · have h := it_t c7 h
      subst c7
      refine a_catch0 C hT rfl (by decide) (uw_in 727 (by decide +kernel) rfl) (bw_in 734 (by decide +kernel) rfl) (fun q9 => ?_)
      refine a_astore_n (lv' := [(3, .ref q9), (0, .ref (ad 0)), (1, .int x1), (2, .ref (ad 118))]) C dL_step_12 rfl (by decide) rfl ?_
      refine a_iconst (v := (1 : Int32)) C dL_step_13 rfl ?_
      obtain ⟨rfl, rfl⟩ := ret2 h
      exact a_iret C dL_step_14 rfl (by decide) rfl rfl
    · have h := it_f c7 h
      cases h
set_option maxRecDepth 20000 in
set_option maxHeartbeats 4000000 in
theorem w_L_stuck   (V : VT) (r9 : Int32) (W9 : VT) (h : d_L_stuck  V = some (r9, W9)) : AM 7 1 yL_stuck (.codeWith yL_stuck cL_stuck 3 (some .int) [(0, 8, 11, 55)]) (fun ad => [.ref (ad 0), .ref (ad 118)]) V W9 (rI r9) := by
  unfold d_L_stuck at h
  refine AMX.of (by decide +kernel) (fun ad => Nat.le_of_ble_eq_true rfl) (fun {p l e s m args below meth c D cs ad b0} C hT => ?_)
  have C : Ctx p l s m args meth c D cs ad b0 RL cL_stuck 3 (some .int) := C
  refine a_sub (lv' := [(0, .ref (ad 0)), (1, .ref (ad 118))]) [0, 1] rfl ?_
  refine a_aload_n (q := 1) C dL_stuck_0 rfl rfl ?_
  refine a_iconst (v := (0 : Int32)) C dL_stuck_1 rfl ?_
  refine a_aload_n (q := 0) C dL_stuck_2 rfl rfl ?_
  obtain ⟨o2, V3, g1, n4, t5⟩ := bh_spec h
  refine a_cVxi (a := 0) (st := [.int (0 : Int32), .ref (ad 118)]) (k' := 1) C dL_stuck_3 cv_RL_57 (w_X4_stuck   V o2 V3 g1) rfl rfl rfl rfl rfl ⟨Nat.le_of_ble_eq_true rfl, Nat.le_of_ble_eq_true rfl, Nat.le_of_ble_eq_true rfl, Nat.le_of_ble_eq_true rfl⟩ (Nat.le_of_ble_eq_true rfl) (fun r6 e9 => ?_) (fun E9 e9 => ?_)
  · have h := n4 r6 e9
    refine a_i2l (v := (r6).toInt64) C dL_stuck_6 rfl ?_
    refine a_last (a := 118) (x := r6) C dL_stuck_7 rfl (in_lit (by decide)) rfl ?_
    refine a_goto (tgt := 14) C dL_stuck_8 (by decide) ?_
    refine a_iconst (v := (0 : Int32)) C dL_stuck_14 rfl ?_
    obtain ⟨rfl, rfl⟩ := ret2 h
    exact a_iret C dL_stuck_15 rfl (by decide) rfl rfl
  · have h := t5 E9 e9
    by_cases c7 : E9 = "java/util/NoSuchElementException"
    · have h := it_t c7 h
      subst c7
      refine a_catch0 C hT rfl (by decide) (uw_in 727 (by decide +kernel) rfl) (bw_in 734 (by decide +kernel) rfl) (fun q9 => ?_)
      refine a_astore_n (lv' := [(2, .ref q9), (0, .ref (ad 0)), (1, .ref (ad 118))]) C dL_stuck_11 rfl (by decide) rfl ?_
      refine a_iconst (v := (1 : Int32)) C dL_stuck_12 rfl ?_
      obtain ⟨rfl, rfl⟩ := ret2 h
      exact a_iret C dL_stuck_13 rfl (by decide) rfl rfl
    · have h := it_f c7 h
      cases h
set_option maxRecDepth 20000 in
set_option maxHeartbeats 4000000 in
theorem w_L_next   (V : VT) (r9 : Int32) (W9 : VT) (h : d_L_next  V = some (r9, W9)) : AM 7 1 yL_next (.codeWith yL_next cL_next 3 (some .int) [(0, 8, 11, 55)]) (fun ad => [.ref (ad 0), .ref (ad 118)]) V W9 (rI r9) := by
  unfold d_L_next at h
  refine AMX.of (by decide +kernel) (fun ad => Nat.le_of_ble_eq_true rfl) (fun {p l e s m args below meth c D cs ad b0} C hT => ?_)
  have C : Ctx p l s m args meth c D cs ad b0 RL cL_next 3 (some .int) := C
  refine a_sub (lv' := [(0, .ref (ad 0)), (1, .ref (ad 118))]) [0, 1] rfl ?_
  refine a_aload_n (q := 1) C dL_next_0 rfl rfl ?_
  refine a_iconst (v := (0 : Int32)) C dL_next_1 rfl ?_
  refine a_aload_n (q := 0) C dL_next_2 rfl rfl ?_
  obtain ⟨o2, V3, g1, n4, t5⟩ := bh_spec h
  refine a_cVxi (a := 0) (st := [.int (0 : Int32), .ref (ad 118)]) (k' := 1) C dL_next_3 cv_RL_60 (w_X4_next   V o2 V3 g1) rfl rfl rfl rfl rfl ⟨Nat.le_of_ble_eq_true rfl, Nat.le_of_ble_eq_true rfl, Nat.le_of_ble_eq_true rfl, Nat.le_of_ble_eq_true rfl⟩ (Nat.le_of_ble_eq_true rfl) (fun r6 e9 => ?_) (fun E9 e9 => ?_)
  · have h := n4 r6 e9
    refine a_i2l (v := (r6).toInt64) C dL_next_6 rfl ?_
    refine a_last (a := 118) (x := r6) C dL_next_7 rfl (in_lit (by decide)) rfl ?_
    refine a_goto (tgt := 14) C dL_next_8 (by decide) ?_
    refine a_iconst (v := (0 : Int32)) C dL_next_14 rfl ?_
    obtain ⟨rfl, rfl⟩ := ret2 h
    exact a_iret C dL_next_15 rfl (by decide) rfl rfl
  · have h := t5 E9 e9
    by_cases c7 : E9 = "java/util/NoSuchElementException"
    · have h := it_t c7 h
      subst c7
      refine a_catch0 C hT rfl (by decide) (uw_in 727 (by decide +kernel) rfl) (bw_in 734 (by decide +kernel) rfl) (fun q9 => ?_)
      refine a_astore_n (lv' := [(2, .ref q9), (0, .ref (ad 0)), (1, .ref (ad 118))]) C dL_next_11 rfl (by decide) rfl ?_
      refine a_iconst (v := (1 : Int32)) C dL_next_12 rfl ?_
      obtain ⟨rfl, rfl⟩ := ret2 h
      exact a_iret C dL_next_13 rfl (by decide) rfl rfl
    · have h := it_f c7 h
      cases h
set_option maxRecDepth 20000 in
set_option maxHeartbeats 4000000 in
theorem w_L_gentle (x1 : Int32)  (V : VT) (r9 : Int32) (W9 : VT) (h : d_L_gentle x1 V = some (r9, W9)) : AM 8 2 yL_gentle (.codeWith yL_gentle cL_gentle 4 (some .int) [(0, 9, 12, 21), (0, 9, 15, 55)]) (fun ad => [.ref (ad 0), .int x1, .ref (ad 118)]) V W9 (rI r9) := by
  unfold d_L_gentle at h
  refine AMX.of (by decide +kernel) (fun ad => Nat.le_of_ble_eq_true rfl) (fun {p l e s m args below meth c D cs ad b0} C hT => ?_)
  have C : Ctx p l s m args meth c D cs ad b0 RL cL_gentle 4 (some .int) := C
  refine a_sub (lv' := [(0, .ref (ad 0)), (1, .int x1), (2, .ref (ad 118))]) [0, 1, 2] rfl ?_
  refine a_aload_n (q := 2) C dL_gentle_0 rfl rfl ?_
  refine a_iconst (v := (0 : Int32)) C dL_gentle_1 rfl ?_
  refine a_aload_n (q := 0) C dL_gentle_2 rfl rfl ?_
  refine a_iload_n (q := 1) C dL_gentle_3 rfl rfl ?_
  obtain ⟨o2, V3, g1, n4, t5⟩ := bh_spec h
  refine a_cVxi (a := 0) (st := [.int (0 : Int32), .ref (ad 118)]) (k' := 2) C dL_gentle_4 cv_RL_63 (w_X4_gentle x1  V o2 V3 g1) rfl rfl rfl rfl rfl ⟨Nat.le_of_ble_eq_true rfl, Nat.le_of_ble_eq_true rfl, Nat.le_of_ble_eq_true rfl, Nat.le_of_ble_eq_true rfl⟩ (Nat.le_of_ble_eq_true rfl) (fun r6 e9 => ?_) (fun E9 e9 => ?_)
  · have h := n4 r6 e9
    refine a_i2l (v := (r6).toInt64) C dL_gentle_7 rfl ?_
    refine a_last (a := 118) (x := r6) C dL_gentle_8 rfl (in_lit (by decide)) rfl ?_
    refine a_goto (tgt := 18) C dL_gentle_9 (by decide) ?_
    refine a_iconst (v := (0 : Int32)) C dL_gentle_18 rfl ?_
    obtain ⟨rfl, rfl⟩ := ret2 h
    exact a_iret C dL_gentle_19 rfl (by decide) rfl rfl
  · have h := t5 E9 e9
    by_cases c7 : E9 = "java/lang/IndexOutOfBoundsException"
    · have h := it_t c7 h
      subst c7
      refine a_catch0 C hT rfl (by decide) (uw_in 534 (by decide +kernel) rfl) (bw_in 572 (by decide +kernel) rfl) (fun q9 => ?_)
      refine a_astore_n (lv' := [(3, .ref q9), (0, .ref (ad 0)), (1, .int x1), (2, .ref (ad 118))]) C dL_gentle_12 rfl (by decide) rfl ?_
      refine a_iconst (v := (1 : Int32)) C dL_gentle_13 rfl ?_
      obtain ⟨rfl, rfl⟩ := ret2 h
      exact a_iret C dL_gentle_14 rfl (by decide) rfl rfl
    · have h := it_f c7 h
      by_cases c8 : E9 = "java/util/NoSuchElementException"
      · have h := it_t c8 h
        subst c8
        refine a_catch1 (nm := "java/lang/IndexOutOfBoundsException") C hT rfl (by decide) (uw_in 727 (by decide +kernel) rfl) (bw_in 734 (by decide +kernel) rfl) (by decide) (uw_in 534 (by decide +kernel) rfl) (by decide +kernel) (fun q9 => ?_)
        refine a_astore_n (lv' := [(3, .ref q9), (0, .ref (ad 0)), (1, .int x1), (2, .ref (ad 118))]) C dL_gentle_15 rfl (by decide) rfl ?_
        refine a_iconst (v := (2 : Int32)) C dL_gentle_16 rfl ?_
        obtain ⟨rfl, rfl⟩ := ret2 h
        exact a_iret C dL_gentle_17 rfl (by decide) rfl rfl
      · have h := it_f c8 h
        cases h
set_option maxRecDepth 20000 in
set_option maxHeartbeats 4000000 in
theorem w_L_wish (x1 : Int32) (x2 : Int32) (x3 : Int32)  (V : VT) (r9 : Int32) (W9 : VT) (h : d_L_wish x1 x2 x3 V = some (r9, W9)) : AM 8 3 yL_wish (.codeWith yL_wish cL_wish 6 (some .int) [(0, 12, 15, 21), (0, 12, 19, 13)]) (fun ad => [.ref (ad 0), .int x1, .int x2, .int x3, .ref (ad 118)]) V W9 (rI r9) := by
  unfold d_L_wish at h
  refine AMX.of (by decide +kernel) (fun ad => Nat.le_of_ble_eq_true rfl) (fun {p l e s m args below meth c D cs ad b0} C hT => ?_)
  have C : Ctx p l s m args meth c D cs ad b0 RL cL_wish 6 (some .int) := C
  refine a_sub (lv' := [(0, .ref (ad 0)), (1, .int x1), (2, .int x2), (3, .int x3), (4, .ref (ad 118))]) [0, 1, 2, 3, 4] rfl ?_
  refine a_aload (q := 4) C dL_wish_0 rfl ?_
  refine a_iconst (v := (0 : Int32)) C dL_wish_2 rfl ?_
  refine a_aload_n (q := 0) C dL_wish_3 rfl rfl ?_
  refine a_iload_n (q := 1) C dL_wish_4 rfl rfl ?_
  refine a_iload_n (q := 2) C dL_wish_5 rfl rfl ?_
  refine a_iload_n (q := 3) C dL_wish_6 rfl rfl ?_
  obtain ⟨o2, V3, g1, n4, t5⟩ := bh_spec h
  refine a_cVxi (a := 0) (st := [.int (0 : Int32), .ref (ad 118)]) (k' := 3) C dL_wish_7 cv_RL_66 (w_X4_wish x1 x2 x3  V o2 V3 g1) rfl rfl rfl rfl rfl ⟨Nat.le_of_ble_eq_true rfl, Nat.le_of_ble_eq_true rfl, Nat.le_of_ble_eq_true rfl, Nat.le_of_ble_eq_true rfl⟩ (Nat.le_of_ble_eq_true rfl) (fun r6 e9 => ?_) (fun E9 e9 => ?_)
  · have h := n4 r6 e9
    refine a_i2l (v := (r6).toInt64) C dL_wish_10 rfl ?_
    refine a_last (a := 118) (x := r6) C dL_wish_11 rfl (in_lit (by decide)) rfl ?_
    refine a_goto (tgt := 23) C dL_wish_12 (by decide) ?_
    refine a_iconst (v := (0 : Int32)) C dL_wish_23 rfl ?_
    obtain ⟨rfl, rfl⟩ := ret2 h
    exact a_iret C dL_wish_24 rfl (by decide) rfl rfl
  · have h := t5 E9 e9
    by_cases c7 : E9 = "java/lang/IndexOutOfBoundsException"
    · have h := it_t c7 h
      subst c7
      refine a_catch0 C hT rfl (by decide) (uw_in 534 (by decide +kernel) rfl) (bw_in 572 (by decide +kernel) rfl) (fun q9 => ?_)
      refine a_astore (lv' := [(5, .ref q9), (0, .ref (ad 0)), (1, .int x1), (2, .int x2), (3, .int x3), (4, .ref (ad 118))]) C dL_wish_15 (by decide) rfl ?_
      refine a_iconst (v := (1 : Int32)) C dL_wish_17 rfl ?_
      obtain ⟨rfl, rfl⟩ := ret2 h
      exact a_iret C dL_wish_18 rfl (by decide) rfl rfl
    · have h := it_f c7 h
      by_cases c8 : E9 = "java/lang/IllegalArgumentException"
      · have h := it_t c8 h
        subst c8
        refine a_catch1 (nm := "java/lang/IndexOutOfBoundsException") C hT rfl (by decide) (uw_in 409 (by decide +kernel) rfl) (bw_in 417 (by decide +kernel) rfl) (by decide) (uw_in 534 (by decide +kernel) rfl) (by decide +kernel) (fun q9 => ?_)
        refine a_astore (lv' := [(5, .ref q9), (0, .ref (ad 0)), (1, .int x1), (2, .int x2), (3, .int x3), (4, .ref (ad 118))]) C dL_wish_19 (by decide) rfl ?_
        refine a_iconst (v := (2 : Int32)) C dL_wish_21 rfl ?_
        obtain ⟨rfl, rfl⟩ := ret2 h
        exact a_iret C dL_wish_22 rfl (by decide) rfl rfl
      · have h := it_f c8 h
        cases h
set_option maxRecDepth 20000 in
set_option maxHeartbeats 4000000 in
theorem w_L_waysFor (x1 : Int32)  (V : VT) (r9 : Int32) (W9 : VT) (h : d_L_waysFor x1 V = some (r9, W9)) : AM 19 2 yL_waysFor (.codeWith yL_waysFor cL_waysFor 4 (some .int) [(0, 9, 12, 21), (0, 9, 15, 55)]) (fun ad => [.ref (ad 0), .int x1, .ref (ad 118)]) V W9 (rI r9) := by
  unfold d_L_waysFor at h
  refine AMX.of (by decide +kernel) (fun ad => Nat.le_of_ble_eq_true rfl) (fun {p l e s m args below meth c D cs ad b0} C hT => ?_)
  have C : Ctx p l s m args meth c D cs ad b0 RL cL_waysFor 4 (some .int) := C
  refine a_sub (lv' := [(0, .ref (ad 0)), (1, .int x1), (2, .ref (ad 118))]) [0, 1, 2] rfl ?_
  refine a_aload_n (q := 2) C dL_waysFor_0 rfl rfl ?_
  refine a_iconst (v := (0 : Int32)) C dL_waysFor_1 rfl ?_
  refine a_aload_n (q := 0) C dL_waysFor_2 rfl rfl ?_
  refine a_iload_n (q := 1) C dL_waysFor_3 rfl rfl ?_
  obtain ⟨o2, V3, g1, n4, t5⟩ := bh_spec h
  refine a_cVxi (a := 0) (st := [.int (0 : Int32), .ref (ad 118)]) (k' := 2) C dL_waysFor_4 cv_RL_70 (w_X4_waysFor x1  V o2 V3 g1) rfl rfl rfl rfl rfl ⟨Nat.le_of_ble_eq_true rfl, Nat.le_of_ble_eq_true rfl, Nat.le_of_ble_eq_true rfl, Nat.le_of_ble_eq_true rfl⟩ (Nat.le_of_ble_eq_true rfl) (fun r6 e9 => ?_) (fun E9 e9 => ?_)
  · have h := n4 r6 e9
    refine a_i2l (v := (r6).toInt64) C dL_waysFor_7 rfl ?_
    refine a_last (a := 118) (x := r6) C dL_waysFor_8 rfl (in_lit (by decide)) rfl ?_
    refine a_goto (tgt := 18) C dL_waysFor_9 (by decide) ?_
    refine a_iconst (v := (0 : Int32)) C dL_waysFor_18 rfl ?_
    obtain ⟨rfl, rfl⟩ := ret2 h
    exact a_iret C dL_waysFor_19 rfl (by decide) rfl rfl
  · have h := t5 E9 e9
    by_cases c7 : E9 = "java/lang/IndexOutOfBoundsException"
    · have h := it_t c7 h
      subst c7
      refine a_catch0 C hT rfl (by decide) (uw_in 534 (by decide +kernel) rfl) (bw_in 572 (by decide +kernel) rfl) (fun q9 => ?_)
      refine a_astore_n (lv' := [(3, .ref q9), (0, .ref (ad 0)), (1, .int x1), (2, .ref (ad 118))]) C dL_waysFor_12 rfl (by decide) rfl ?_
      refine a_iconst (v := (1 : Int32)) C dL_waysFor_13 rfl ?_
      obtain ⟨rfl, rfl⟩ := ret2 h
      exact a_iret C dL_waysFor_14 rfl (by decide) rfl rfl
    · have h := it_f c7 h
      by_cases c8 : E9 = "java/util/NoSuchElementException"
      · have h := it_t c8 h
        subst c8
        refine a_catch1 (nm := "java/lang/IndexOutOfBoundsException") C hT rfl (by decide) (uw_in 727 (by decide +kernel) rfl) (bw_in 734 (by decide +kernel) rfl) (by decide) (uw_in 534 (by decide +kernel) rfl) (by decide +kernel) (fun q9 => ?_)
        refine a_astore_n (lv' := [(3, .ref q9), (0, .ref (ad 0)), (1, .int x1), (2, .ref (ad 118))]) C dL_waysFor_15 rfl (by decide) rfl ?_
        refine a_iconst (v := (2 : Int32)) C dL_waysFor_16 rfl ?_
        obtain ⟨rfl, rfl⟩ := ret2 h
        exact a_iret C dL_waysFor_17 rfl (by decide) rfl rfl
      · have h := it_f c8 h
        cases h
set_option maxRecDepth 20000 in
set_option maxHeartbeats 4000000 in
theorem w_L_fewest   (V : VT) (r9 : Int32) (W9 : VT) (h : d_L_fewest  V = some (r9, W9)) : AM 18 1 yL_fewest (.codeWith yL_fewest cL_fewest 3 (some .int) [(0, 8, 11, 55)]) (fun ad => [.ref (ad 0), .ref (ad 118)]) V W9 (rI r9) := by
  unfold d_L_fewest at h
  refine AMX.of (by decide +kernel) (fun ad => Nat.le_of_ble_eq_true rfl) (fun {p l e s m args below meth c D cs ad b0} C hT => ?_)
  have C : Ctx p l s m args meth c D cs ad b0 RL cL_fewest 3 (some .int) := C
  refine a_sub (lv' := [(0, .ref (ad 0)), (1, .ref (ad 118))]) [0, 1] rfl ?_
  refine a_aload_n (q := 1) C dL_fewest_0 rfl rfl ?_
  refine a_iconst (v := (0 : Int32)) C dL_fewest_1 rfl ?_
  refine a_aload_n (q := 0) C dL_fewest_2 rfl rfl ?_
  obtain ⟨o2, V3, g1, n4, t5⟩ := bh_spec h
  refine a_cVxi (a := 0) (st := [.int (0 : Int32), .ref (ad 118)]) (k' := 1) C dL_fewest_3 cv_RL_73 (w_X4_fewest   V o2 V3 g1) rfl rfl rfl rfl rfl ⟨Nat.le_of_ble_eq_true rfl, Nat.le_of_ble_eq_true rfl, Nat.le_of_ble_eq_true rfl, Nat.le_of_ble_eq_true rfl⟩ (Nat.le_of_ble_eq_true rfl) (fun r6 e9 => ?_) (fun E9 e9 => ?_)
  · have h := n4 r6 e9
    refine a_i2l (v := (r6).toInt64) C dL_fewest_6 rfl ?_
    refine a_last (a := 118) (x := r6) C dL_fewest_7 rfl (in_lit (by decide)) rfl ?_
    refine a_goto (tgt := 14) C dL_fewest_8 (by decide) ?_
    refine a_iconst (v := (0 : Int32)) C dL_fewest_14 rfl ?_
    obtain ⟨rfl, rfl⟩ := ret2 h
    exact a_iret C dL_fewest_15 rfl (by decide) rfl rfl
  · have h := t5 E9 e9
    by_cases c7 : E9 = "java/util/NoSuchElementException"
    · have h := it_t c7 h
      subst c7
      refine a_catch0 C hT rfl (by decide) (uw_in 727 (by decide +kernel) rfl) (bw_in 734 (by decide +kernel) rfl) (fun q9 => ?_)
      refine a_astore_n (lv' := [(2, .ref q9), (0, .ref (ad 0)), (1, .ref (ad 118))]) C dL_fewest_11 rfl (by decide) rfl ?_
      refine a_iconst (v := (1 : Int32)) C dL_fewest_12 rfl ?_
      obtain ⟨rfl, rfl⟩ := ret2 h
      exact a_iret C dL_fewest_13 rfl (by decide) rfl rfl
    · have h := it_f c7 h
      cases h
set_option maxRecDepth 20000 in
set_option maxHeartbeats 4000000 in
theorem w_L_line (x1 : Int32)  (V : VT) (r9 : Int32) (W9 : VT) (h : d_L_line x1 V = some (r9, W9)) : AM 8 1 yL_line (.codeWith yL_line cL_line 4 (some .int) [(0, 9, 12, 21)]) (fun ad => [.ref (ad 0), .int x1, .ref (ad 118)]) V W9 (rI r9) := by
  unfold d_L_line at h
  refine AMX.of (by decide +kernel) (fun ad => Nat.le_of_ble_eq_true rfl) (fun {p l e s m args below meth c D cs ad b0} C hT => ?_)
  have C : Ctx p l s m args meth c D cs ad b0 RL cL_line 4 (some .int) := C
  refine a_sub (lv' := [(0, .ref (ad 0)), (1, .int x1), (2, .ref (ad 118))]) [0, 1, 2] rfl ?_
  refine a_aload_n (q := 2) C dL_line_0 rfl rfl ?_
  refine a_iconst (v := (0 : Int32)) C dL_line_1 rfl ?_
  refine a_aload_n (q := 0) C dL_line_2 rfl rfl ?_
  refine a_iload_n (q := 1) C dL_line_3 rfl rfl ?_
  obtain ⟨o2, V3, g1, n4, t5⟩ := bh_spec h
  refine a_cVxi (a := 0) (st := [.int (0 : Int32), .ref (ad 118)]) (k' := 1) C dL_line_4 cv_RL_76 (w_X4_line x1  V o2 V3 g1) rfl rfl rfl rfl rfl ⟨Nat.le_of_ble_eq_true rfl, Nat.le_of_ble_eq_true rfl, Nat.le_of_ble_eq_true rfl, Nat.le_of_ble_eq_true rfl⟩ (Nat.le_of_ble_eq_true rfl) (fun r6 e9 => ?_) (fun E9 e9 => ?_)
  · have h := n4 r6 e9
    refine a_i2l (v := (r6).toInt64) C dL_line_7 rfl ?_
    refine a_last (a := 118) (x := r6) C dL_line_8 rfl (in_lit (by decide)) rfl ?_
    refine a_goto (tgt := 15) C dL_line_9 (by decide) ?_
    refine a_iconst (v := (0 : Int32)) C dL_line_15 rfl ?_
    obtain ⟨rfl, rfl⟩ := ret2 h
    exact a_iret C dL_line_16 rfl (by decide) rfl rfl
  · have h := t5 E9 e9
    by_cases c7 : E9 = "java/lang/IndexOutOfBoundsException"
    · have h := it_t c7 h
      subst c7
      refine a_catch0 C hT rfl (by decide) (uw_in 534 (by decide +kernel) rfl) (bw_in 572 (by decide +kernel) rfl) (fun q9 => ?_)
      refine a_astore_n (lv' := [(3, .ref q9), (0, .ref (ad 0)), (1, .int x1), (2, .ref (ad 118))]) C dL_line_12 rfl (by decide) rfl ?_
      refine a_iconst (v := (1 : Int32)) C dL_line_13 rfl ?_
      obtain ⟨rfl, rfl⟩ := ret2 h
      exact a_iret C dL_line_14 rfl (by decide) rfl rfl
    · have h := it_f c7 h
      cases h
set_option maxRecDepth 20000 in
set_option maxHeartbeats 4000000 in
theorem w_L_character (x1 : Int32)  (V : VT) (r9 : Int32) (W9 : VT) (h : d_L_character x1 V = some (r9, W9)) : AM 7 1 yL_character (.codeWith yL_character cL_character 4 (some .int) [(0, 9, 12, 21)]) (fun ad => [.ref (ad 0), .int x1, .ref (ad 118)]) V W9 (rI r9) := by
  unfold d_L_character at h
  refine AMX.of (by decide +kernel) (fun ad => Nat.le_of_ble_eq_true rfl) (fun {p l e s m args below meth c D cs ad b0} C hT => ?_)
  have C : Ctx p l s m args meth c D cs ad b0 RL cL_character 4 (some .int) := C
  refine a_sub (lv' := [(0, .ref (ad 0)), (1, .int x1), (2, .ref (ad 118))]) [0, 1, 2] rfl ?_
  refine a_aload_n (q := 2) C dL_character_0 rfl rfl ?_
  refine a_iconst (v := (0 : Int32)) C dL_character_1 rfl ?_
  refine a_aload_n (q := 0) C dL_character_2 rfl rfl ?_
  refine a_iload_n (q := 1) C dL_character_3 rfl rfl ?_
  obtain ⟨o2, V3, g1, n4, t5⟩ := bh_spec h
  refine a_cVxi (a := 0) (st := [.int (0 : Int32), .ref (ad 118)]) (k' := 1) C dL_character_4 cv_RL_79 (w_X4_character x1  V o2 V3 g1) rfl rfl rfl rfl rfl ⟨Nat.le_of_ble_eq_true rfl, Nat.le_of_ble_eq_true rfl, Nat.le_of_ble_eq_true rfl, Nat.le_of_ble_eq_true rfl⟩ (Nat.le_of_ble_eq_true rfl) (fun r6 e9 => ?_) (fun E9 e9 => ?_)
  · have h := n4 r6 e9
    refine a_i2l (v := (r6).toInt64) C dL_character_7 rfl ?_
    refine a_last (a := 118) (x := r6) C dL_character_8 rfl (in_lit (by decide)) rfl ?_
    refine a_goto (tgt := 15) C dL_character_9 (by decide) ?_
    refine a_iconst (v := (0 : Int32)) C dL_character_15 rfl ?_
    obtain ⟨rfl, rfl⟩ := ret2 h
    exact a_iret C dL_character_16 rfl (by decide) rfl rfl
  · have h := t5 E9 e9
    by_cases c7 : E9 = "java/lang/IndexOutOfBoundsException"
    · have h := it_t c7 h
      subst c7
      refine a_catch0 C hT rfl (by decide) (uw_in 534 (by decide +kernel) rfl) (bw_in 572 (by decide +kernel) rfl) (fun q9 => ?_)
      refine a_astore_n (lv' := [(3, .ref q9), (0, .ref (ad 0)), (1, .int x1), (2, .ref (ad 118))]) C dL_character_12 rfl (by decide) rfl ?_
      refine a_iconst (v := (1 : Int32)) C dL_character_13 rfl ?_
      obtain ⟨rfl, rfl⟩ := ret2 h
      exact a_iret C dL_character_14 rfl (by decide) rfl rfl
    · have h := it_f c7 h
      cases h
set_option maxRecDepth 20000 in
set_option maxHeartbeats 4000000 in
theorem w_L_append (x1 : Int32)  (V : VT) (r9 : Int32) (W9 : VT) (h : d_L_append x1 V = some (r9, W9)) : AM 7 1 yL_append (.codeWith yL_append cL_append 4 (some .int) [(0, 9, 12, 87)]) (fun ad => [.ref (ad 0), .int x1, .ref (ad 118)]) V W9 (rI r9) := by
  unfold d_L_append at h
  refine AMX.of (by decide +kernel) (fun ad => Nat.le_of_ble_eq_true rfl) (fun {p l e s m args below meth c D cs ad b0} C hT => ?_)
  have C : Ctx p l s m args meth c D cs ad b0 RL cL_append 4 (some .int) := C
  refine a_sub (lv' := [(0, .ref (ad 0)), (1, .int x1), (2, .ref (ad 118))]) [0, 1, 2] rfl ?_
  refine a_aload_n (q := 2) C dL_append_0 rfl rfl ?_
  refine a_iconst (v := (0 : Int32)) C dL_append_1 rfl ?_
  refine a_aload_n (q := 0) C dL_append_2 rfl rfl ?_
  refine a_iload_n (q := 1) C dL_append_3 rfl rfl ?_
  obtain ⟨o2, V3, g1, n4, t5⟩ := bh_spec h
  refine a_cVxi (a := 0) (st := [.int (0 : Int32), .ref (ad 118)]) (k' := 1) C dL_append_4 cv_RL_83 (w_X4_append x1  V o2 V3 g1) rfl rfl rfl rfl rfl ⟨Nat.le_of_ble_eq_true rfl, Nat.le_of_ble_eq_true rfl, Nat.le_of_ble_eq_true rfl, Nat.le_of_ble_eq_true rfl⟩ (Nat.le_of_ble_eq_true rfl) (fun r6 e9 => ?_) (fun E9 e9 => ?_)
  · have h := n4 r6 e9
    refine a_i2l (v := (r6).toInt64) C dL_append_7 rfl ?_
    refine a_last (a := 118) (x := r6) C dL_append_8 rfl (in_lit (by decide)) rfl ?_
    refine a_goto (tgt := 15) C dL_append_9 (by decide) ?_
    refine a_iconst (v := (0 : Int32)) C dL_append_15 rfl ?_
    obtain ⟨rfl, rfl⟩ := ret2 h
    exact a_iret C dL_append_16 rfl (by decide) rfl rfl
  · have h := t5 E9 e9
    by_cases c7 : E9 = "java/lang/IllegalStateException"
    · have h := it_t c7 h
      subst c7
      refine a_catch0 C hT rfl (by decide) (uw_in 870 (by decide +kernel) rfl) (bw_in 877 (by decide +kernel) rfl) (fun q9 => ?_)
      refine a_astore_n (lv' := [(3, .ref q9), (0, .ref (ad 0)), (1, .int x1), (2, .ref (ad 118))]) C dL_append_12 rfl (by decide) rfl ?_
      refine a_iconst (v := (1 : Int32)) C dL_append_13 rfl ?_
      obtain ⟨rfl, rfl⟩ := ret2 h
      exact a_iret C dL_append_14 rfl (by decide) rfl rfl
    · have h := it_f c7 h
      cases h
set_option maxRecDepth 20000 in
set_option maxHeartbeats 4000000 in
theorem w_L_read   (V : VT) (r9 : Int32) (W9 : VT) (h : d_L_read  V = some (r9, W9)) : AM 12 1 yL_read (.codeWith yL_read cL_read 3 (some .int) [(0, 8, 11, 13), (0, 8, 14, 15)]) (fun ad => [.ref (ad 0), .ref (ad 118)]) V W9 (rI r9) := by
  unfold d_L_read at h
  refine AMX.of (by decide +kernel) (fun ad => Nat.le_of_ble_eq_true rfl) (fun {p l e s m args below meth c D cs ad b0} C hT => ?_)
  have C : Ctx p l s m args meth c D cs ad b0 RL cL_read 3 (some .int) := C
  refine a_sub (lv' := [(0, .ref (ad 0)), (1, .ref (ad 118))]) [0, 1] rfl ?_
  refine a_aload_n (q := 1) C dL_read_0 rfl rfl ?_
  refine a_iconst (v := (0 : Int32)) C dL_read_1 rfl ?_
  refine a_aload_n (q := 0) C dL_read_2 rfl rfl ?_
  obtain ⟨o2, V3, g1, n4, t5⟩ := bh_spec h
  refine a_cVxi (a := 0) (st := [.int (0 : Int32), .ref (ad 118)]) (k' := 1) C dL_read_3 cv_RL_89 (w_X4_read   V o2 V3 g1) rfl rfl rfl rfl rfl ⟨Nat.le_of_ble_eq_true rfl, Nat.le_of_ble_eq_true rfl, Nat.le_of_ble_eq_true rfl, Nat.le_of_ble_eq_true rfl⟩ (Nat.le_of_ble_eq_true rfl) (fun r6 e9 => ?_) (fun E9 e9 => ?_)
  · have h := n4 r6 e9
    refine a_i2l (v := (r6).toInt64) C dL_read_6 rfl ?_
    refine a_last (a := 118) (x := r6) C dL_read_7 rfl (in_lit (by decide)) rfl ?_
    refine a_goto (tgt := 17) C dL_read_8 (by decide) ?_
    refine a_iconst (v := (0 : Int32)) C dL_read_17 rfl ?_
    obtain ⟨rfl, rfl⟩ := ret2 h
    exact a_iret C dL_read_18 rfl (by decide) rfl rfl
  · have h := t5 E9 e9
    by_cases c7 : E9 = "java/lang/IllegalArgumentException"
    · have h := it_t c7 h
      subst c7
      refine a_catch0 C hT rfl (by decide) (uw_in 409 (by decide +kernel) rfl) (bw_in 417 (by decide +kernel) rfl) (fun q9 => ?_)
      refine a_astore_n (lv' := [(2, .ref q9), (0, .ref (ad 0)), (1, .ref (ad 118))]) C dL_read_11 rfl (by decide) rfl ?_
      refine a_iconst (v := (1 : Int32)) C dL_read_12 rfl ?_
      obtain ⟨rfl, rfl⟩ := ret2 h
      exact a_iret C dL_read_13 rfl (by decide) rfl rfl
    · have h := it_f c7 h
      by_cases c8 : E9 = "java/lang/UnsupportedOperationException"
      · have h := it_t c8 h
        subst c8
        refine a_catch1 (nm := "java/lang/IllegalArgumentException") C hT rfl (by decide) (uw_in 410 (by decide +kernel) rfl) (bw_in 513 (by decide +kernel) rfl) (by decide) (uw_in 409 (by decide +kernel) rfl) (by decide +kernel) (fun q9 => ?_)
        refine a_astore_n (lv' := [(2, .ref q9), (0, .ref (ad 0)), (1, .ref (ad 118))]) C dL_read_14 rfl (by decide) rfl ?_
        refine a_iconst (v := (2 : Int32)) C dL_read_15 rfl ?_
        obtain ⟨rfl, rfl⟩ := ret2 h
        exact a_iret C dL_read_16 rfl (by decide) rfl rfl
      · have h := it_f c8 h
        cases h
set_option maxRecDepth 20000 in
set_option maxHeartbeats 4000000 in
theorem w_L_refusal (x1 : Int32)  (V : VT) (r9 : Int32) (W9 : VT) (h : d_L_refusal x1 V = some (r9, W9)) : AM 7 1 yL_refusal (.codeWith yL_refusal cL_refusal 4 (some .int) [(0, 9, 12, 55)]) (fun ad => [.ref (ad 0), .int x1, .ref (ad 118)]) V W9 (rI r9) := by
  unfold d_L_refusal at h
  refine AMX.of (by decide +kernel) (fun ad => Nat.le_of_ble_eq_true rfl) (fun {p l e s m args below meth c D cs ad b0} C hT => ?_)
  have C : Ctx p l s m args meth c D cs ad b0 RL cL_refusal 4 (some .int) := C
  refine a_sub (lv' := [(0, .ref (ad 0)), (1, .int x1), (2, .ref (ad 118))]) [0, 1, 2] rfl ?_
  refine a_aload_n (q := 2) C dL_refusal_0 rfl rfl ?_
  refine a_iconst (v := (0 : Int32)) C dL_refusal_1 rfl ?_
  refine a_aload_n (q := 0) C dL_refusal_2 rfl rfl ?_
  refine a_iload_n (q := 1) C dL_refusal_3 rfl rfl ?_
  obtain ⟨o2, V3, g1, n4, t5⟩ := bh_spec h
  refine a_cVxi (a := 0) (st := [.int (0 : Int32), .ref (ad 118)]) (k' := 1) C dL_refusal_4 cv_RL_92 (w_X4_refusal x1  V o2 V3 g1) rfl rfl rfl rfl rfl ⟨Nat.le_of_ble_eq_true rfl, Nat.le_of_ble_eq_true rfl, Nat.le_of_ble_eq_true rfl, Nat.le_of_ble_eq_true rfl⟩ (Nat.le_of_ble_eq_true rfl) (fun r6 e9 => ?_) (fun E9 e9 => ?_)
  · have h := n4 r6 e9
    refine a_i2l (v := (r6).toInt64) C dL_refusal_7 rfl ?_
    refine a_last (a := 118) (x := r6) C dL_refusal_8 rfl (in_lit (by decide)) rfl ?_
    refine a_goto (tgt := 15) C dL_refusal_9 (by decide) ?_
    refine a_iconst (v := (0 : Int32)) C dL_refusal_15 rfl ?_
    obtain ⟨rfl, rfl⟩ := ret2 h
    exact a_iret C dL_refusal_16 rfl (by decide) rfl rfl
  · have h := t5 E9 e9
    by_cases c7 : E9 = "java/util/NoSuchElementException"
    · have h := it_t c7 h
      subst c7
      refine a_catch0 C hT rfl (by decide) (uw_in 727 (by decide +kernel) rfl) (bw_in 734 (by decide +kernel) rfl) (fun q9 => ?_)
      refine a_astore_n (lv' := [(3, .ref q9), (0, .ref (ad 0)), (1, .int x1), (2, .ref (ad 118))]) C dL_refusal_12 rfl (by decide) rfl ?_
      refine a_iconst (v := (1 : Int32)) C dL_refusal_13 rfl ?_
      obtain ⟨rfl, rfl⟩ := ret2 h
      exact a_iret C dL_refusal_14 rfl (by decide) rfl rfl
    · have h := it_f c7 h
      cases h
set_option maxRecDepth 20000 in
set_option maxHeartbeats 4000000 in
theorem w_L_account (x1 : Int32)  (V : VT) (r9 : Int32) (W9 : VT) (h : d_L_account x1 V = some (r9, W9)) : AM 7 1 yL_account (.codeWith yL_account cL_account 4 (some .int) [(0, 9, 12, 13)]) (fun ad => [.ref (ad 0), .int x1, .ref (ad 118)]) V W9 (rI r9) := by
  unfold d_L_account at h
  refine AMX.of (by decide +kernel) (fun ad => Nat.le_of_ble_eq_true rfl) (fun {p l e s m args below meth c D cs ad b0} C hT => ?_)
  have C : Ctx p l s m args meth c D cs ad b0 RL cL_account 4 (some .int) := C
  refine a_sub (lv' := [(0, .ref (ad 0)), (1, .int x1), (2, .ref (ad 118))]) [0, 1, 2] rfl ?_
  refine a_aload_n (q := 2) C dL_account_0 rfl rfl ?_
  refine a_iconst (v := (0 : Int32)) C dL_account_1 rfl ?_
  refine a_aload_n (q := 0) C dL_account_2 rfl rfl ?_
  refine a_iload_n (q := 1) C dL_account_3 rfl rfl ?_
  obtain ⟨o2, V3, g1, n4, t5⟩ := bh_spec h
  refine a_cVxi (a := 0) (st := [.int (0 : Int32), .ref (ad 118)]) (k' := 1) C dL_account_4 cv_RL_96 (w_X4_account x1  V o2 V3 g1) rfl rfl rfl rfl rfl ⟨Nat.le_of_ble_eq_true rfl, Nat.le_of_ble_eq_true rfl, Nat.le_of_ble_eq_true rfl, Nat.le_of_ble_eq_true rfl⟩ (Nat.le_of_ble_eq_true rfl) (fun r6 e9 => ?_) (fun E9 e9 => ?_)
  · have h := n4 r6 e9
    refine a_i2l (v := (r6).toInt64) C dL_account_7 rfl ?_
    refine a_last (a := 118) (x := r6) C dL_account_8 rfl (in_lit (by decide)) rfl ?_
    refine a_goto (tgt := 15) C dL_account_9 (by decide) ?_
    refine a_iconst (v := (0 : Int32)) C dL_account_15 rfl ?_
    obtain ⟨rfl, rfl⟩ := ret2 h
    exact a_iret C dL_account_16 rfl (by decide) rfl rfl
  · have h := t5 E9 e9
    by_cases c7 : E9 = "java/lang/IllegalArgumentException"
    · have h := it_t c7 h
      subst c7
      refine a_catch0 C hT rfl (by decide) (uw_in 409 (by decide +kernel) rfl) (bw_in 417 (by decide +kernel) rfl) (fun q9 => ?_)
      refine a_astore_n (lv' := [(3, .ref q9), (0, .ref (ad 0)), (1, .int x1), (2, .ref (ad 118))]) C dL_account_12 rfl (by decide) rfl ?_
      refine a_iconst (v := (1 : Int32)) C dL_account_13 rfl ?_
      obtain ⟨rfl, rfl⟩ := ret2 h
      exact a_iret C dL_account_14 rfl (by decide) rfl rfl
    · have h := it_f c7 h
      cases h
set_option maxRecDepth 20000 in
set_option maxHeartbeats 4000000 in
theorem w_L_meanSize   (V : VT) (r9 : Int32) (W9 : VT) (h : d_L_meanSize  V = some (r9, W9)) : AM 7 1 yL_meanSize (.codeWith yL_meanSize cL_meanSize 3 (some .int) [(0, 7, 10, 103)]) (fun ad => [.ref (ad 0), .ref (ad 119)]) V W9 (rI r9) := by
  unfold d_L_meanSize at h
  refine AMX.of (by decide +kernel) (fun ad => Nat.le_of_ble_eq_true rfl) (fun {p l e s m args below meth c D cs ad b0} C hT => ?_)
  have C : Ctx p l s m args meth c D cs ad b0 RL cL_meanSize 3 (some .int) := C
  refine a_sub (lv' := [(0, .ref (ad 0)), (1, .ref (ad 119))]) [0, 1] rfl ?_
  refine a_aload_n (q := 1) C dL_meanSize_0 rfl rfl ?_
  refine a_iconst (v := (0 : Int32)) C dL_meanSize_1 rfl ?_
  refine a_aload_n (q := 0) C dL_meanSize_2 rfl rfl ?_
  obtain ⟨o2, V3, g1, n4, t5⟩ := bh_spec h
  refine a_cVxd (a := 0) (st := [.int (0 : Int32), .ref (ad 119)]) (k' := 1) C dL_meanSize_3 cv_RL_99 (w_X4_meanSize   V o2 V3 g1) rfl rfl rfl rfl rfl ⟨Nat.le_of_ble_eq_true rfl, Nat.le_of_ble_eq_true rfl, Nat.le_of_ble_eq_true rfl, Nat.le_of_ble_eq_true rfl⟩ (Nat.le_of_ble_eq_true rfl) (fun r6 e9 => ?_) (fun E9 e9 => ?_)
  · have h := n4 r6 e9
    refine a_dast (a := 119) C dL_meanSize_6 rfl ?_
    refine a_goto (tgt := 13) C dL_meanSize_7 (by decide) ?_
    refine a_iconst (v := (0 : Int32)) C dL_meanSize_13 rfl ?_
    obtain ⟨rfl, rfl⟩ := ret2 h
    exact a_iret C dL_meanSize_14 rfl (by decide) rfl rfl
  · have h := t5 E9 e9
    by_cases c7 : E9 = "java/lang/ArithmeticException"
    · have h := it_t c7 h
      subst c7
      refine a_catch0 C hT rfl (by decide) (uw_in 1036 (by decide +kernel) rfl) (bw_in 1048 (by decide +kernel) rfl) (fun q9 => ?_)
      refine a_astore_n (lv' := [(2, .ref q9), (0, .ref (ad 0)), (1, .ref (ad 119))]) C dL_meanSize_10 rfl (by decide) rfl ?_
      refine a_iconst (v := (1 : Int32)) C dL_meanSize_11 rfl ?_
      obtain ⟨rfl, rfl⟩ := ret2 h
      exact a_iret C dL_meanSize_12 rfl (by decide) rfl rfl
    · have h := it_f c7 h
      cases h
set_option maxRecDepth 20000 in
set_option maxHeartbeats 4000000 in
theorem w_L_painted   (V : VT) (r9 : Int32) (W9 : VT) (h : d_L_painted  V = some (r9, W9)) : AM 7 1 yL_painted (.codeWith yL_painted cL_painted 3 (some .int) [(0, 8, 11, 103)]) (fun ad => [.ref (ad 0), .ref (ad 119)]) V W9 (rI r9) := by
  unfold d_L_painted at h
  refine AMX.of (by decide +kernel) (fun ad => Nat.le_of_ble_eq_true rfl) (fun {p l e s m args below meth c D cs ad b0} C hT => ?_)
  have C : Ctx p l s m args meth c D cs ad b0 RL cL_painted 3 (some .int) := C
  refine a_sub (lv' := [(0, .ref (ad 0)), (1, .ref (ad 119))]) [0, 1] rfl ?_
  refine a_aload_n (q := 1) C dL_painted_0 rfl rfl ?_
  refine a_iconst (v := (0 : Int32)) C dL_painted_1 rfl ?_
  refine a_aload_n (q := 0) C dL_painted_2 rfl rfl ?_
  obtain ⟨o2, V3, g1, n4, t5⟩ := bh_spec h
  refine a_cVxf (a := 0) (st := [.int (0 : Int32), .ref (ad 119)]) (k' := 1) C dL_painted_3 cv_RL_105 (w_X4_painted   V o2 V3 g1) rfl rfl rfl rfl rfl ⟨Nat.le_of_ble_eq_true rfl, Nat.le_of_ble_eq_true rfl, Nat.le_of_ble_eq_true rfl, Nat.le_of_ble_eq_true rfl⟩ (Nat.le_of_ble_eq_true rfl) (fun r6 e9 => ?_) (fun E9 e9 => ?_)
  · have h := n4 r6 e9
    obtain ⟨z7, h⟩ := asr_spec h
    refine a_f2d C dL_painted_6 (n64ok_of z7) ?_
    refine a_dast (a := 119) C dL_painted_7 rfl ?_
    refine a_goto (tgt := 14) C dL_painted_8 (by decide) ?_
    refine a_iconst (v := (0 : Int32)) C dL_painted_14 rfl ?_
    obtain ⟨rfl, rfl⟩ := ret2 h
    exact a_iret C dL_painted_15 rfl (by decide) rfl rfl
  · have h := t5 E9 e9
    by_cases c8 : E9 = "java/lang/ArithmeticException"
    · have h := it_t c8 h
      subst c8
      refine a_catch0 C hT rfl (by decide) (uw_in 1036 (by decide +kernel) rfl) (bw_in 1048 (by decide +kernel) rfl) (fun q9 => ?_)
      refine a_astore_n (lv' := [(2, .ref q9), (0, .ref (ad 0)), (1, .ref (ad 119))]) C dL_painted_11 rfl (by decide) rfl ?_
      refine a_iconst (v := (1 : Int32)) C dL_painted_12 rfl ?_
      obtain ⟨rfl, rfl⟩ := ret2 h
      exact a_iret C dL_painted_13 rfl (by decide) rfl rfl
    · have h := it_f c8 h
      cases h
set_option maxRecDepth 20000 in
set_option maxHeartbeats 4000000 in
theorem w_L_undo   (V : VT) (r9 : Int32) (W9 : VT) (h : d_L_undo  V = some (r9, W9)) : AM 7 1 yL_undo (.codeWith yL_undo cL_undo 3 (some .int) [(0, 8, 11, 87)]) (fun ad => [.ref (ad 0), .ref (ad 118)]) V W9 (rI r9) := by
  unfold d_L_undo at h
  refine AMX.of (by decide +kernel) (fun ad => Nat.le_of_ble_eq_true rfl) (fun {p l e s m args below meth c D cs ad b0} C hT => ?_)
  have C : Ctx p l s m args meth c D cs ad b0 RL cL_undo 3 (some .int) := C
  refine a_sub (lv' := [(0, .ref (ad 0)), (1, .ref (ad 118))]) [0, 1] rfl ?_
  refine a_aload_n (q := 1) C dL_undo_0 rfl rfl ?_
  refine a_iconst (v := (0 : Int32)) C dL_undo_1 rfl ?_
  refine a_aload_n (q := 0) C dL_undo_2 rfl rfl ?_
  obtain ⟨o2, V3, g1, n4, t5⟩ := bh_spec h
  refine a_cVxi (a := 0) (st := [.int (0 : Int32), .ref (ad 118)]) (k' := 1) C dL_undo_3 cv_RL_109 (w_X4_undo   V o2 V3 g1) rfl rfl rfl rfl rfl ⟨Nat.le_of_ble_eq_true rfl, Nat.le_of_ble_eq_true rfl, Nat.le_of_ble_eq_true rfl, Nat.le_of_ble_eq_true rfl⟩ (Nat.le_of_ble_eq_true rfl) (fun r6 e9 => ?_) (fun E9 e9 => ?_)
  · have h := n4 r6 e9
    refine a_i2l (v := (r6).toInt64) C dL_undo_6 rfl ?_
    refine a_last (a := 118) (x := r6) C dL_undo_7 rfl (in_lit (by decide)) rfl ?_
    refine a_goto (tgt := 14) C dL_undo_8 (by decide) ?_
    refine a_iconst (v := (0 : Int32)) C dL_undo_14 rfl ?_
    obtain ⟨rfl, rfl⟩ := ret2 h
    exact a_iret C dL_undo_15 rfl (by decide) rfl rfl
  · have h := t5 E9 e9
    by_cases c7 : E9 = "java/lang/IllegalStateException"
    · have h := it_t c7 h
      subst c7
      refine a_catch0 C hT rfl (by decide) (uw_in 870 (by decide +kernel) rfl) (bw_in 877 (by decide +kernel) rfl) (fun q9 => ?_)
      refine a_astore_n (lv' := [(2, .ref q9), (0, .ref (ad 0)), (1, .ref (ad 118))]) C dL_undo_11 rfl (by decide) rfl ?_
      refine a_iconst (v := (1 : Int32)) C dL_undo_12 rfl ?_
      obtain ⟨rfl, rfl⟩ := ret2 h
      exact a_iret C dL_undo_13 rfl (by decide) rfl rfl
    · have h := it_f c7 h
      cases h
set_option maxRecDepth 20000 in
set_option maxHeartbeats 4000000 in
theorem w_L_restore   (V : VT) (r9 : Int32) (W9 : VT) (h : d_L_restore  V = some (r9, W9)) : AM 7 1 yL_restore (.codeWith yL_restore cL_restore 3 (some .int) [(0, 8, 11, 87)]) (fun ad => [.ref (ad 0), .ref (ad 118)]) V W9 (rI r9) := by
  unfold d_L_restore at h
  refine AMX.of (by decide +kernel) (fun ad => Nat.le_of_ble_eq_true rfl) (fun {p l e s m args below meth c D cs ad b0} C hT => ?_)
  have C : Ctx p l s m args meth c D cs ad b0 RL cL_restore 3 (some .int) := C
  refine a_sub (lv' := [(0, .ref (ad 0)), (1, .ref (ad 118))]) [0, 1] rfl ?_
  refine a_aload_n (q := 1) C dL_restore_0 rfl rfl ?_
  refine a_iconst (v := (0 : Int32)) C dL_restore_1 rfl ?_
  refine a_aload_n (q := 0) C dL_restore_2 rfl rfl ?_
  obtain ⟨o2, V3, g1, n4, t5⟩ := bh_spec h
  refine a_cVxi (a := 0) (st := [.int (0 : Int32), .ref (ad 118)]) (k' := 1) C dL_restore_3 cv_RL_112 (w_X4_restore   V o2 V3 g1) rfl rfl rfl rfl rfl ⟨Nat.le_of_ble_eq_true rfl, Nat.le_of_ble_eq_true rfl, Nat.le_of_ble_eq_true rfl, Nat.le_of_ble_eq_true rfl⟩ (Nat.le_of_ble_eq_true rfl) (fun r6 e9 => ?_) (fun E9 e9 => ?_)
  · have h := n4 r6 e9
    refine a_i2l (v := (r6).toInt64) C dL_restore_6 rfl ?_
    refine a_last (a := 118) (x := r6) C dL_restore_7 rfl (in_lit (by decide)) rfl ?_
    refine a_goto (tgt := 14) C dL_restore_8 (by decide) ?_
    refine a_iconst (v := (0 : Int32)) C dL_restore_14 rfl ?_
    obtain ⟨rfl, rfl⟩ := ret2 h
    exact a_iret C dL_restore_15 rfl (by decide) rfl rfl
  · have h := t5 E9 e9
    by_cases c7 : E9 = "java/lang/IllegalStateException"
    · have h := it_t c7 h
      subst c7
      refine a_catch0 C hT rfl (by decide) (uw_in 870 (by decide +kernel) rfl) (bw_in 877 (by decide +kernel) rfl) (fun q9 => ?_)
      refine a_astore_n (lv' := [(2, .ref q9), (0, .ref (ad 0)), (1, .ref (ad 118))]) C dL_restore_11 rfl (by decide) rfl ?_
      refine a_iconst (v := (1 : Int32)) C dL_restore_12 rfl ?_
      obtain ⟨rfl, rfl⟩ := ret2 h
      exact a_iret C dL_restore_13 rfl (by decide) rfl rfl
    · have h := it_f c7 h
      cases h
