/-! walks, by program out of the bytecode (wip/whole/gen) -/
set_option maxRecDepth 20000 in
set_option maxHeartbeats 4000000 in
theorem w_X5_thrown   (V : VT) (r9 : Int32) (h : d_X5_thrown  V = some r9) : AM 2 0 yX5_thrown (.code yX5_thrown cX5_thrown 1 (some .int)) (fun ad => [.ref (ad 109)]) V V (rI r9) := by
  unfold d_X5_thrown at h
  refine AM.of (by decide +kernel) (fun ad => Nat.le_of_ble_eq_true rfl) (fun {p l e s m args below meth c D cs ad b0} C hT => ?_)
  have C : Ctx p l s m args meth c D cs ad b0 RX5 cX5_thrown 1 (some .int) := C
  refine a_sub (lv' := [(0, .ref (ad 109))]) [0] rfl ?_
  refine a_aload_n (q := 0) C dX5_thrown_0 rfl rfl ?_
  refine a_geti (a := 109) (x := (V 109 7)) C dX5_thrown_1 fl_RX5_39 rfl rfl rfl ?_
  obtain rfl := ret1 h
  exact a_iret C dX5_thrown_4 rfl (by decide) rfl rfl
set_option maxRecDepth 20000 in
set_option maxHeartbeats 4000000 in
theorem w_X5_fails (x1 : Int32)  (V : VT) (r9 : Int32) (W9 : VT) (h : d_X5_fails x1 V = some (r9, W9)) : AM 2 0 yX5_fails (.code yX5_fails cX5_fails 2 (some .boolean)) (fun ad => [.ref (ad 109), .int x1]) V W9 (rI r9) := by
  unfold d_X5_fails at h
  refine AM.of (by decide +kernel) (fun ad => Nat.le_of_ble_eq_true rfl) (fun {p l e s m args below meth c D cs ad b0} C hT => ?_)
  have C : Ctx p l s m args meth c D cs ad b0 RX5 cX5_fails 2 (some .boolean) := C
  refine a_sub (lv' := [(0, .ref (ad 109)), (1, .int x1)]) [0, 1] rfl ?_
  refine a_aload_n (q := 0) C dX5_fails_0 rfl rfl ?_
  refine a_iload_n (q := 1) C dX5_fails_1 rfl rfl ?_
  refine a_puti (a := 109) C dX5_fails_2 fp_RX5_39 rfl rfl rfl rfl ?_
  refine a_iload_n (q := 1) C dX5_fails_5 rfl rfl ?_
  refine a_if_le (tgt := 13) C dX5_fails_6 (by decide) (fun c1 => ?_) (fun c1 => ?_)
  · have h := it_t c1 h
    refine a_iconst (v := (0 : Int32)) C dX5_fails_13 rfl ?_
    obtain ⟨rfl, rfl⟩ := ret2 h
    exact a_zret C dX5_fails_14 rfl rfl (by decide) rfl rfl
  · have h := it_f c1 h
    refine a_iconst (v := (1 : Int32)) C dX5_fails_9 rfl ?_
    refine a_goto (tgt := 14) C dX5_fails_10 (by decide) ?_
    obtain ⟨rfl, rfl⟩ := ret2 h
    exact a_zret C dX5_fails_14 rfl rfl (by decide) rfl rfl
set_option maxRecDepth 20000 in
set_option maxHeartbeats 4000000 in
theorem w_X5_refuses (x1 : Int32) (x2 : Int32) (x3 : Int32)  (V : VT) (r9 : Int32) (W9 : VT) (h : d_X5_refuses x1 x2 x3 V = some (r9, W9)) : AM 2 0 yX5_refuses (.code yX5_refuses cX5_refuses 4 (some .int)) (fun ad => [.ref (ad 109), .int x1, .int x2, .int x3]) V W9 (rI r9) := by
  unfold d_X5_refuses at h
  refine AM.of (by decide +kernel) (fun ad => Nat.le_of_ble_eq_true rfl) (fun {p l e s m args below meth c D cs ad b0} C hT => ?_)
  have C : Ctx p l s m args meth c D cs ad b0 RX5 cX5_refuses 4 (some .int) := C
  refine a_sub (lv' := [(0, .ref (ad 109)), (1, .int x1), (2, .int x2), (3, .int x3)]) [0, 1, 2, 3] rfl ?_
  refine a_aload_n (q := 0) C dX5_refuses_0 rfl rfl ?_
  refine a_iload_n (q := 1) C dX5_refuses_1 rfl rfl ?_
  refine a_puti (a := 109) C dX5_refuses_2 fp_RX5_39 rfl rfl rfl rfl ?_
  refine a_aload_n (q := 0) C dX5_refuses_5 rfl rfl ?_
  refine a_iload_n (q := 2) C dX5_refuses_6 rfl rfl ?_
  refine a_puti (a := 109) C dX5_refuses_7 fp_RX5_42 rfl rfl rfl rfl ?_
  refine a_aload_n (q := 0) C dX5_refuses_10 rfl rfl ?_
  refine a_iload_n (q := 3) C dX5_refuses_11 rfl rfl ?_
  refine a_puti (a := 109) C dX5_refuses_12 fp_RX5_45 rfl rfl rfl rfl ?_
  refine a_iconst (v := (0 : Int32)) C dX5_refuses_15 rfl ?_
  obtain ⟨rfl, rfl⟩ := ret2 h
  exact a_iret C dX5_refuses_16 rfl (by decide) rfl rfl
set_option maxRecDepth 20000 in
set_option maxHeartbeats 4000000 in
theorem w_X5_in (x0 : Int32) (x1 : Int32) (x2 : Int32)  (V : VT) (r9 : Int32) (h : d_X5_in x0 x1 x2 V = some r9) : AM 2 0 yX5_in (.code yX5_in cX5_in 3 (some .boolean)) (fun ad => [.int x0, .int x1, .int x2]) V V (rI r9) := by
  unfold d_X5_in at h
  refine AM.of (by decide +kernel) (fun ad => Nat.le_of_ble_eq_true rfl) (fun {p l e s m args below meth c D cs ad b0} C hT => ?_)
  have C : Ctx p l s m args meth c D cs ad b0 RX5 cX5_in 3 (some .boolean) := C
  refine a_sub (lv' := [(0, .int x0), (1, .int x1), (2, .int x2)]) [0, 1, 2] rfl ?_
  refine a_iload_n (q := 0) C dX5_in_0 rfl rfl ?_
  refine a_iload_n (q := 1) C dX5_in_1 rfl rfl ?_
  refine a_icmp_lt (tgt := 14) C dX5_in_2 (by decide) (fun c1 => ?_) (fun c1 => ?_)
  · have h := it_t c1 h
    refine a_iconst (v := (0 : Int32)) C dX5_in_14 rfl ?_
    obtain rfl := ret1 h
    exact a_zret C dX5_in_15 rfl rfl (by decide) rfl rfl
  · have h := it_f c1 h
    refine a_iload_n (q := 0) C dX5_in_5 rfl rfl ?_
    refine a_iload_n (q := 2) C dX5_in_6 rfl rfl ?_
    refine a_icmp_gt (tgt := 14) C dX5_in_7 (by decide) (fun c2 => ?_) (fun c2 => ?_)
    · have h := it_t c2 h
      refine a_iconst (v := (0 : Int32)) C dX5_in_14 rfl ?_
      obtain rfl := ret1 h
      exact a_zret C dX5_in_15 rfl rfl (by decide) rfl rfl
    · have h := it_f c2 h
      refine a_iconst (v := (1 : Int32)) C dX5_in_10 rfl ?_
      refine a_goto (tgt := 15) C dX5_in_11 (by decide) ?_
      obtain rfl := ret1 h
      exact a_zret C dX5_in_15 rfl rfl (by decide) rfl rfl
set_option maxRecDepth 20000 in
set_option maxHeartbeats 4000000 in
theorem w_X5_less (x0 : Int32) (x1 : Int32)  (V : VT) (r9 : Int32) (h : d_X5_less x0 x1 V = some r9) : AM 2 0 yX5_less (.code yX5_less cX5_less 2 (some .int)) (fun ad => [.int x0, .int x1]) V V (rI r9) := by
  unfold d_X5_less at h
  refine AM.of (by decide +kernel) (fun ad => Nat.le_of_ble_eq_true rfl) (fun {p l e s m args below meth c D cs ad b0} C hT => ?_)
  have C : Ctx p l s m args meth c D cs ad b0 RX5 cX5_less 2 (some .int) := C
  refine a_sub (lv' := [(0, .int x0), (1, .int x1)]) [0, 1] rfl ?_
  refine a_iload_n (q := 0) C dX5_less_0 rfl rfl ?_
  refine a_iload_n (q := 1) C dX5_less_1 rfl rfl ?_
  refine a_icmp_ge (tgt := 9) C dX5_less_2 (by decide) (fun c1 => ?_) (fun c1 => ?_)
  · have h := it_t c1 h
    refine a_iload_n (q := 1) C dX5_less_9 rfl rfl ?_
    obtain rfl := ret1 h
    exact a_iret C dX5_less_10 rfl (by decide) rfl rfl
  · have h := it_f c1 h
    refine a_iload_n (q := 0) C dX5_less_5 rfl rfl ?_
    refine a_goto (tgt := 10) C dX5_less_6 (by decide) ?_
    obtain rfl := ret1 h
    exact a_iret C dX5_less_10 rfl (by decide) rfl rfl
set_option maxRecDepth 20000 in
set_option maxHeartbeats 4000000 in
theorem w_X5_more (x0 : Int32) (x1 : Int32)  (V : VT) (r9 : Int32) (h : d_X5_more x0 x1 V = some r9) : AM 2 0 yX5_more (.code yX5_more cX5_more 2 (some .int)) (fun ad => [.int x0, .int x1]) V V (rI r9) := by
  unfold d_X5_more at h
  refine AM.of (by decide +kernel) (fun ad => Nat.le_of_ble_eq_true rfl) (fun {p l e s m args below meth c D cs ad b0} C hT => ?_)
  have C : Ctx p l s m args meth c D cs ad b0 RX5 cX5_more 2 (some .int) := C
  refine a_sub (lv' := [(0, .int x0), (1, .int x1)]) [0, 1] rfl ?_
  refine a_iload_n (q := 0) C dX5_more_0 rfl rfl ?_
  refine a_iload_n (q := 1) C dX5_more_1 rfl rfl ?_
  refine a_icmp_le (tgt := 9) C dX5_more_2 (by decide) (fun c1 => ?_) (fun c1 => ?_)
  · have h := it_t c1 h
    refine a_iload_n (q := 1) C dX5_more_9 rfl rfl ?_
    obtain rfl := ret1 h
    exact a_iret C dX5_more_10 rfl (by decide) rfl rfl
  · have h := it_f c1 h
    refine a_iload_n (q := 0) C dX5_more_5 rfl rfl ?_
    refine a_goto (tgt := 10) C dX5_more_6 (by decide) ?_
    obtain rfl := ret1 h
    exact a_iret C dX5_more_10 rfl (by decide) rfl rfl
set_option maxRecDepth 20000 in
set_option maxHeartbeats 4000000 in
theorem w_X5_copies_3 {p : Program} {l : Launch} {e : Env} {s : State} {m : MethodId} {args : Array Value} {below : List Frame} {meth : Method} {c : Code} {D : va_G} {cs : Nat → ClassId} {ad : Nat → Nat} {b0 : Nat} (C : Ctx p l s m args meth c D cs ad b0 RX5 cX5_copies 5 (none)) (hT : ∀ x ∈ c.exceptionTable.toList, False)  {a : Nat} {b : Nat}  {W9 : VT}   (ha : isIA a = true) (hb : isIA b = true)  :
    ∀ (x1 x3 x4 : Int32) (V : VT), d_X5_copies_3 a b x1 x3 x4 V = some W9 → AW p l e (rmOf 2 0) s m args below meth c D cs ad b0 (QF below D cs ad b0 W9 ((rV) ad) args s 0) 5 0 V [(0, .ref (ad a)), (1, .int x1), (2, .ref (ad b)), (3, .int x3), (4, .int x4)] [] 3 := by
  refine lo3W_ind (P := fun x1 x3 x4 V => AW p l e (rmOf 2 0) s m args below meth c D cs ad b0 (QF below D cs ad b0 W9 ((rV) ad) args s 0) 5 0 V [(0, .ref (ad a)), (1, .int x1), (2, .ref (ad b)), (3, .int x3), (4, .int x4)] [] 3) ?_ FU
  intro k3 hk3 x1 x3 x4 V h
  unfold d_X5_copies_3b at h
  refine a_iload (q := 4) C dX5_copies_3 rfl ?_
  refine a_bipush (v := (56 : Int32)) C dX5_copies_5 rfl ?_
  refine a_icmp_ge (tgt := 28) C dX5_copies_7 (by decide) (fun c1 => ?_) (fun c1 => ?_)
  · have h := it_t c1 h
    obtain rfl := ret1 h
    exact a_vret C dX5_copies_28 rfl (by decide) rfl rfl
  · have h := it_f c1 h
    refine a_aload_n (q := 2) C dX5_copies_10 rfl rfl ?_
    refine a_iload_n (q := 3) C dX5_copies_11 rfl rfl ?_
    refine a_iload (q := 4) C dX5_copies_12 rfl ?_
    refine a_iadd C dX5_copies_14 ?_
    refine a_aload_n (q := 0) C dX5_copies_15 rfl rfl ?_
    refine a_iload_n (q := 1) C dX5_copies_16 rfl rfl ?_
    refine a_iload (q := 4) C dX5_copies_17 rfl ?_
    refine a_iadd C dX5_copies_19 ?_
    obtain ⟨z2, h⟩ := asr_spec h
    refine a_iald (a := a) (x := (V a (x1 + x4).toNatClampNeg)) C dX5_copies_20 (isIA_sh ha) (inb_in z2) rfl ?_
    obtain ⟨z3, h⟩ := asr_spec h
    refine a_iast (a := b) C dX5_copies_21 (isIA_sh hb) (inb_in z3) ?_
    refine a_iinc (q := 4) (v := (x4 + (1 : Int32))) (lv' := [(4, .int (x4 + (1 : Int32))), (0, .ref (ad a)), (1, .int x1), (2, .ref (ad b)), (3, .int x3)]) C dX5_copies_22 rfl rfl (by decide) rfl ?_
    refine a_goto (tgt := 3) C dX5_copies_25 (by decide) ?_
    refine a_sub (lv' := [(0, .ref (ad a)), (1, .int x1), (2, .ref (ad b)), (3, .int x3), (4, .int (x4 + (1 : Int32)))]) [1, 2, 3, 4, 0] rfl ?_
    exact hk3 x1 x3 (x4 + (1 : Int32)) (up2 V b (x3 + x4).toNatClampNeg (V a (x1 + x4).toNatClampNeg)) h
set_option maxRecDepth 20000 in
set_option maxHeartbeats 4000000 in
theorem w_X5_copies (a : Nat) (x1 : Int32) (b : Nat) (x3 : Int32) (ha : isIA a = true) (hb : isIA b = true) (V : VT) (W9 : VT) (h : d_X5_copies a x1 b x3 V = some W9) : AM 2 0 yX5_copies (.code yX5_copies cX5_copies 5 (none)) (fun ad => [.ref (ad a), .int x1, .ref (ad b), .int x3]) V W9 (rV) := by
  unfold d_X5_copies at h
  refine AM.of (by decide +kernel) (fun ad => Nat.le_of_ble_eq_true rfl) (fun {p l e s m args below meth c D cs ad b0} C hT => ?_)
  have C : Ctx p l s m args meth c D cs ad b0 RX5 cX5_copies 5 (none) := C
  refine a_sub (lv' := [(0, .ref (ad a)), (1, .int x1), (2, .ref (ad b)), (3, .int x3)]) [0, 1, 2, 3] rfl ?_
  refine a_iconst (v := (0 : Int32)) C dX5_copies_0 rfl ?_
  refine a_istore (lv' := [(4, .int (0 : Int32)), (0, .ref (ad a)), (1, .int x1), (2, .ref (ad b)), (3, .int x3)]) C dX5_copies_1 (by decide) rfl ?_
  refine a_sub (lv' := [(0, .ref (ad a)), (1, .int x1), (2, .ref (ad b)), (3, .int x3), (4, .int (0 : Int32))]) [1, 2, 3, 4, 0] rfl ?_
  exact w_X5_copies_3 C hT ha hb x1 x3 (0 : Int32) V h
set_option maxRecDepth 20000 in
set_option maxHeartbeats 4000000 in
theorem w_X5_keeps_57 {p : Program} {l : Launch} {e : Env} {s : State} {m : MethodId} {args : Array Value} {below : List Frame} {meth : Method} {c : Code} {D : va_G} {cs : Nat → ClassId} {ad : Nat → Nat} {b0 : Nat} (C : Ctx p l s m args meth c D cs ad b0 RX5 cX5_keeps 3 (none)) (hT : ∀ x ∈ c.exceptionTable.toList, False)  {a : Nat}  {W9 : VT}   (ha : isIA a = true)  :
    ∀ (V : VT), d_X5_keeps_57 a V = some W9 → AW p l e (rmOf 3 0) s m args below meth c D cs ad b0 (QF below D cs ad b0 W9 ((rV) ad) args s 0) 3 0 V [(0, .ref (ad 109)), (1, .ref (ad a))] [] 57 := by
  intro V h
  unfold d_X5_keeps_57 at h
  refine a_aload_n (q := 1) C dX5_keeps_57 rfl rfl ?_
  refine a_iconst (v := (0 : Int32)) C dX5_keeps_58 rfl ?_
  refine a_aload_n (q := 0) C dX5_keeps_59 rfl rfl ?_
  refine a_getr (a := 109) (t := 111) C dX5_keeps_60 fl_RX5_13 rfl rfl ?_
  refine a_bipush (v := (56 : Int32)) C dX5_keeps_63 rfl ?_
  refine a_aload_n (q := 0) C dX5_keeps_65 rfl rfl ?_
  refine a_geti (a := 109) (x := (V 109 5)) C dX5_keeps_66 fl_RX5_52 rfl rfl rfl ?_
  refine a_imul C dX5_keeps_69 ?_
  obtain ⟨V2, g1, h⟩ := bd_spec h
  refine a_cSv (st := []) C dX5_keeps_70 cv_RX5_55 (w_X5_copies a (0 : Int32) 111 ((56 : Int32) * (V 109 5)) ha rfl V V2 g1) rfl rfl rfl ⟨Nat.le_of_ble_eq_true rfl, Nat.le_of_ble_eq_true rfl, Nat.le_of_ble_eq_true rfl, Nat.le_of_ble_eq_true rfl⟩ (Nat.le_of_ble_eq_true rfl) ?_
  refine a_aload_n (q := 0) C dX5_keeps_73 rfl rfl ?_
  refine a_dup C dX5_keeps_74 rfl ?_
  refine a_geti (a := 109) (x := (V2 109 5)) C dX5_keeps_75 fl_RX5_52 rfl rfl rfl ?_
  refine a_iconst (v := (1 : Int32)) C dX5_keeps_78 rfl ?_
  refine a_iadd C dX5_keeps_79 ?_
  refine a_puti (a := 109) C dX5_keeps_80 fp_RX5_52 rfl rfl rfl rfl ?_
  obtain rfl := ret1 h
  exact a_vret C dX5_keeps_83 rfl (by decide) rfl rfl
set_option maxRecDepth 20000 in
set_option maxHeartbeats 4000000 in
theorem w_X5_keeps_19 {p : Program} {l : Launch} {e : Env} {s : State} {m : MethodId} {args : Array Value} {below : List Frame} {meth : Method} {c : Code} {D : va_G} {cs : Nat → ClassId} {ad : Nat → Nat} {b0 : Nat} (C : Ctx p l s m args meth c D cs ad b0 RX5 cX5_keeps 3 (none)) (hT : ∀ x ∈ c.exceptionTable.toList, False)  {a : Nat}  {W9 : VT}   (ha : isIA a = true)  :
    ∀ (x2 : Int32) (V : VT), d_X5_keeps_19 a x2 V = some W9 → AW p l e (rmOf 3 0) s m args below meth c D cs ad b0 (QF below D cs ad b0 W9 ((rV) ad) args s 0) 3 0 V [(0, .ref (ad 109)), (1, .ref (ad a)), (2, .int x2)] [] 19 := by
  refine lo1W_ind (P := fun x2 V => AW p l e (rmOf 3 0) s m args below meth c D cs ad b0 (QF below D cs ad b0 W9 ((rV) ad) args s 0) 3 0 V [(0, .ref (ad 109)), (1, .ref (ad a)), (2, .int x2)] [] 19) ?_ FU
  intro k19 hk19 x2 V h
  unfold d_X5_keeps_19b at h
  refine a_iload_n (q := 2) C dX5_keeps_19 rfl rfl ?_
  refine a_sipush (v := (392 : Int32)) C dX5_keeps_20 rfl ?_
  refine a_icmp_ge (tgt := 47) C dX5_keeps_23 (by decide) (fun c1 => ?_) (fun c1 => ?_)
  · have h := it_t c1 h
    refine a_aload_n (q := 0) C dX5_keeps_47 rfl rfl ?_
    refine a_dup C dX5_keeps_48 rfl ?_
    refine a_geti (a := 109) (x := (V 109 5)) C dX5_keeps_49 fl_RX5_52 rfl rfl rfl ?_
    refine a_iconst (v := (1 : Int32)) C dX5_keeps_52 rfl ?_
    refine a_isub C dX5_keeps_53 ?_
    refine a_puti (a := 109) C dX5_keeps_54 fp_RX5_52 rfl rfl rfl rfl ?_
    refine a_sub (lv' := [(0, .ref (ad 109)), (1, .ref (ad a))]) [0, 1] rfl ?_
    exact w_X5_keeps_57 C hT ha (up2 V 109 5 ((V 109 5) - (1 : Int32))) h
  · have h := it_f c1 h
    refine a_aload_n (q := 0) C dX5_keeps_26 rfl rfl ?_
    refine a_getr (a := 109) (t := 111) C dX5_keeps_27 fl_RX5_13 rfl rfl ?_
    refine a_iload_n (q := 2) C dX5_keeps_30 rfl rfl ?_
    refine a_aload_n (q := 0) C dX5_keeps_31 rfl rfl ?_
    refine a_getr (a := 109) (t := 111) C dX5_keeps_32 fl_RX5_13 rfl rfl ?_
    refine a_iload_n (q := 2) C dX5_keeps_35 rfl rfl ?_
    refine a_bipush (v := (56 : Int32)) C dX5_keeps_36 rfl ?_
    refine a_iadd C dX5_keeps_38 ?_
    obtain ⟨z2, h⟩ := asr_spec h
    refine a_iald (a := 111) (x := (V 111 (x2 + (56 : Int32)).toNatClampNeg)) C dX5_keeps_39 rfl (inb_in z2) rfl ?_
    obtain ⟨z3, h⟩ := asr_spec h
    refine a_iast (a := 111) C dX5_keeps_40 rfl (inb_in z3) ?_
    refine a_iinc (q := 2) (v := (x2 + (1 : Int32))) (lv' := [(2, .int (x2 + (1 : Int32))), (0, .ref (ad 109)), (1, .ref (ad a))]) C dX5_keeps_41 rfl rfl (by decide) rfl ?_
    refine a_goto (tgt := 19) C dX5_keeps_44 (by decide) ?_
    refine a_sub (lv' := [(0, .ref (ad 109)), (1, .ref (ad a)), (2, .int (x2 + (1 : Int32)))]) [1, 2, 0] rfl ?_
    exact hk19 (x2 + (1 : Int32)) (up2 V 111 x2.toNatClampNeg (V 111 (x2 + (56 : Int32)).toNatClampNeg)) h
set_option maxRecDepth 20000 in
set_option maxHeartbeats 4000000 in
theorem w_X5_keeps (a : Nat) (ha : isIA a = true) (V : VT) (W9 : VT) (h : d_X5_keeps a V = some W9) : AM 3 0 yX5_keeps (.code yX5_keeps cX5_keeps 3 (none)) (fun ad => [.ref (ad 109), .ref (ad a)]) V W9 (rV) := by
  unfold d_X5_keeps at h
  refine AM.of (by decide +kernel) (fun ad => Nat.le_of_ble_eq_true rfl) (fun {p l e s m args below meth c D cs ad b0} C hT => ?_)
  have C : Ctx p l s m args meth c D cs ad b0 RX5 cX5_keeps 3 (none) := C
  refine a_sub (lv' := [(0, .ref (ad 109)), (1, .ref (ad a))]) [0, 1] rfl ?_
  refine a_aload_n (q := 0) C dX5_keeps_0 rfl rfl ?_
  refine a_geti (a := 109) (x := (V 109 6)) C dX5_keeps_1 fl_RX5_48 rfl rfl rfl ?_
  refine a_if_eq (tgt := 8) C dX5_keeps_4 (by decide) (fun c1 => ?_) (fun c1 => ?_)
  · have h := it_t c1 h
    refine a_aload_n (q := 0) C dX5_keeps_8 rfl rfl ?_
    refine a_geti (a := 109) (x := (V 109 5)) C dX5_keeps_9 fl_RX5_52 rfl rfl rfl ?_
    refine a_bipush (v := (8 : Int32)) C dX5_keeps_12 rfl ?_
    refine a_icmp_ne (tgt := 57) C dX5_keeps_14 (by decide) (fun c2 => ?_) (fun c2 => ?_)
    · have h := it_f c2 h
      refine a_sub (lv' := [(0, .ref (ad 109)), (1, .ref (ad a))]) [0, 1] rfl ?_
      exact w_X5_keeps_57 C hT ha V h
    · have h := it_t c2 h
      refine a_iconst (v := (0 : Int32)) C dX5_keeps_17 rfl ?_
      refine a_istore_n (lv' := [(2, .int (0 : Int32)), (0, .ref (ad 109)), (1, .ref (ad a))]) C dX5_keeps_18 rfl (by decide) rfl ?_
      refine a_sub (lv' := [(0, .ref (ad 109)), (1, .ref (ad a)), (2, .int (0 : Int32))]) [1, 2, 0] rfl ?_
      exact w_X5_keeps_19 C hT ha (0 : Int32) V h
  · have h := it_f c1 h
    obtain rfl := ret1 h
    exact a_vret C dX5_keeps_7 rfl (by decide) rfl rfl
set_option maxRecDepth 20000 in
set_option maxHeartbeats 4000000 in
theorem w_X5_isCountry (x1 : Int32)  (V : VT) (r9 : Int32) (h : d_X5_isCountry x1 V = some r9) : AM 3 0 yX5_isCountry (.code yX5_isCountry cX5_isCountry 2 (some .boolean)) (fun ad => [.ref (ad 109), .int x1]) V V (rI r9) := by
  unfold d_X5_isCountry at h
  refine AM.of (by decide +kernel) (fun ad => Nat.le_of_ble_eq_true rfl) (fun {p l e s m args below meth c D cs ad b0} C hT => ?_)
  have C : Ctx p l s m args meth c D cs ad b0 RX5 cX5_isCountry 2 (some .boolean) := C
  refine a_sub (lv' := [(0, .ref (ad 109)), (1, .int x1)]) [0, 1] rfl ?_
  refine a_iload_n (q := 1) C dX5_isCountry_0 rfl rfl ?_
  refine a_iconst (v := (0 : Int32)) C dX5_isCountry_1 rfl ?_
  refine a_aload_n (q := 0) C dX5_isCountry_2 rfl rfl ?_
  refine a_getr (a := 109) (t := 110) C dX5_isCountry_3 fl_RX5_7 rfl rfl ?_
  refine a_iconst (v := (0 : Int32)) C dX5_isCountry_6 rfl ?_
  refine a_iald (a := 110) (x := (V 110 0)) C dX5_isCountry_7 rfl (in_lit (by decide)) rfl ?_
  refine a_iconst (v := (1 : Int32)) C dX5_isCountry_8 rfl ?_
  refine a_isub C dX5_isCountry_9 ?_
  obtain ⟨r2, g1, h⟩ := bd_spec h
  refine a_cSi (st := []) C dX5_isCountry_10 cv_RX5_59 (w_X5_in x1 (0 : Int32) ((V 110 0) - (1 : Int32))  V r2 g1) rfl rfl rfl ⟨Nat.le_of_ble_eq_true rfl, Nat.le_of_ble_eq_true rfl, Nat.le_of_ble_eq_true rfl, Nat.le_of_ble_eq_true rfl⟩ (Nat.le_of_ble_eq_true rfl) ?_
  obtain ⟨z3, h⟩ := asr_spec h
  obtain rfl := ret1 h
  exact a_zret C dX5_isCountry_13 rfl (zok_n z3) (by decide) rfl rfl
set_option maxRecDepth 20000 in
set_option maxHeartbeats 4000000 in
theorem w_X5_isHue (x0 : Int32)  (V : VT) (r9 : Int32) (h : d_X5_isHue x0 V = some r9) : AM 3 0 yX5_isHue (.code yX5_isHue cX5_isHue 1 (some .boolean)) (fun ad => [.int x0]) V V (rI r9) := by
  unfold d_X5_isHue at h
  refine AM.of (by decide +kernel) (fun ad => Nat.le_of_ble_eq_true rfl) (fun {p l e s m args below meth c D cs ad b0} C hT => ?_)
  have C : Ctx p l s m args meth c D cs ad b0 RX5 cX5_isHue 1 (some .boolean) := C
  refine a_sub (lv' := [(0, .int x0)]) [0] rfl ?_
  refine a_iload_n (q := 0) C dX5_isHue_0 rfl rfl ?_
  refine a_iconst (v := (0 : Int32)) C dX5_isHue_1 rfl ?_
  refine a_iconst (v := (4 : Int32)) C dX5_isHue_2 rfl ?_
  obtain ⟨r2, g1, h⟩ := bd_spec h
  refine a_cSi (st := []) C dX5_isHue_3 cv_RX5_59 (w_X5_in x0 (0 : Int32) (4 : Int32)  V r2 g1) rfl rfl rfl ⟨Nat.le_of_ble_eq_true rfl, Nat.le_of_ble_eq_true rfl, Nat.le_of_ble_eq_true rfl, Nat.le_of_ble_eq_true rfl⟩ (Nat.le_of_ble_eq_true rfl) ?_
  obtain ⟨z3, h⟩ := asr_spec h
  obtain rfl := ret1 h
  exact a_zret C dX5_isHue_6 rfl (zok_n z3) (by decide) rfl rfl
set_option maxRecDepth 20000 in
set_option maxHeartbeats 4000000 in
theorem w_X5_of (x1 : Int32) (x2 : Int32)  (V : VT) (r9 : Int32) (h : d_X5_of x1 x2 V = some r9) : AM 2 0 yX5_of (.code yX5_of cX5_of 3 (some .int)) (fun ad => [.ref (ad 109), .int x1, .int x2]) V V (rI r9) := by
  unfold d_X5_of at h
  refine AM.of (by decide +kernel) (fun ad => Nat.le_of_ble_eq_true rfl) (fun {p l e s m args below meth c D cs ad b0} C hT => ?_)
  have C : Ctx p l s m args meth c D cs ad b0 RX5 cX5_of 3 (some .int) := C
  refine a_sub (lv' := [(0, .ref (ad 109)), (1, .int x1), (2, .int x2)]) [0, 1, 2] rfl ?_
  refine a_aload_n (q := 0) C dX5_of_0 rfl rfl ?_
  refine a_getr (a := 109) (t := 110) C dX5_of_1 fl_RX5_7 rfl rfl ?_
  refine a_iconst (v := (1 : Int32)) C dX5_of_4 rfl ?_
  refine a_iconst (v := (4 : Int32)) C dX5_of_5 rfl ?_
  refine a_iload_n (q := 1) C dX5_of_6 rfl rfl ?_
  refine a_imul C dX5_of_7 ?_
  refine a_iadd C dX5_of_8 ?_
  refine a_iload_n (q := 2) C dX5_of_9 rfl rfl ?_
  refine a_iadd C dX5_of_10 ?_
  obtain ⟨z1, h⟩ := asr_spec h
  refine a_iald (a := 110) (x := (V 110 (((1 : Int32) + ((4 : Int32) * x1)) + x2).toNatClampNeg)) C dX5_of_11 rfl (inb_in z1) rfl ?_
  obtain rfl := ret1 h
  exact a_iret C dX5_of_12 rfl (by decide) rfl rfl
set_option maxRecDepth 20000 in
set_option maxHeartbeats 4000000 in
theorem w_X5_lays (x1 : Int32) (x2 : Int32) (x3 : Int32)  (V : VT) (W9 : VT) (h : d_X5_lays x1 x2 x3 V = some W9) : AM 2 0 yX5_lays (.code yX5_lays cX5_lays 4 (none)) (fun ad => [.ref (ad 109), .int x1, .int x2, .int x3]) V W9 (rV) := by
  unfold d_X5_lays at h
  refine AM.of (by decide +kernel) (fun ad => Nat.le_of_ble_eq_true rfl) (fun {p l e s m args below meth c D cs ad b0} C hT => ?_)
  have C : Ctx p l s m args meth c D cs ad b0 RX5 cX5_lays 4 (none) := C
  refine a_sub (lv' := [(0, .ref (ad 109)), (1, .int x1), (2, .int x2), (3, .int x3)]) [0, 1, 2, 3] rfl ?_
  refine a_aload_n (q := 0) C dX5_lays_0 rfl rfl ?_
  refine a_getr (a := 109) (t := 110) C dX5_lays_1 fl_RX5_7 rfl rfl ?_
  refine a_iconst (v := (1 : Int32)) C dX5_lays_4 rfl ?_
  refine a_iconst (v := (4 : Int32)) C dX5_lays_5 rfl ?_
  refine a_iload_n (q := 1) C dX5_lays_6 rfl rfl ?_
  refine a_imul C dX5_lays_7 ?_
  refine a_iadd C dX5_lays_8 ?_
  refine a_iload_n (q := 2) C dX5_lays_9 rfl rfl ?_
  refine a_iadd C dX5_lays_10 ?_
  refine a_iload_n (q := 3) C dX5_lays_11 rfl rfl ?_
  obtain ⟨z1, h⟩ := asr_spec h
  refine a_iast (a := 110) C dX5_lays_12 rfl (inb_in z1) ?_
  obtain rfl := ret1 h
  exact a_vret C dX5_lays_13 rfl (by decide) rfl rfl
set_option maxRecDepth 20000 in
set_option maxHeartbeats 4000000 in
theorem w_X5_isPainted (x1 : Int32)  (V : VT) (r9 : Int32) (h : d_X5_isPainted x1 V = some r9) : AM 3 0 yX5_isPainted (.code yX5_isPainted cX5_isPainted 2 (some .boolean)) (fun ad => [.ref (ad 109), .int x1]) V V (rI r9) := by
  unfold d_X5_isPainted at h
  refine AM.of (by decide +kernel) (fun ad => Nat.le_of_ble_eq_true rfl) (fun {p l e s m args below meth c D cs ad b0} C hT => ?_)
  have C : Ctx p l s m args meth c D cs ad b0 RX5 cX5_isPainted 2 (some .boolean) := C
  refine a_sub (lv' := [(0, .ref (ad 109)), (1, .int x1)]) [0, 1] rfl ?_
  refine a_aload_n (q := 0) C dX5_isPainted_0 rfl rfl ?_
  refine a_iload_n (q := 1) C dX5_isPainted_1 rfl rfl ?_
  refine a_iconst (v := (1 : Int32)) C dX5_isPainted_2 rfl ?_
  obtain ⟨r2, g1, h⟩ := bd_spec h
  refine a_cVi (a := 109) (st := []) C dX5_isPainted_3 cv_RX5_63 (w_X5_of x1 (1 : Int32)  V r2 g1) rfl rfl rfl rfl rfl ⟨Nat.le_of_ble_eq_true rfl, Nat.le_of_ble_eq_true rfl, Nat.le_of_ble_eq_true rfl, Nat.le_of_ble_eq_true rfl⟩ (Nat.le_of_ble_eq_true rfl) ?_
  refine a_if_lt (tgt := 13) C dX5_isPainted_6 (by decide) (fun c3 => ?_) (fun c3 => ?_)
  · have h := it_t c3 h
    refine a_iconst (v := (0 : Int32)) C dX5_isPainted_13 rfl ?_
    obtain rfl := ret1 h
    exact a_zret C dX5_isPainted_14 rfl rfl (by decide) rfl rfl
  · have h := it_f c3 h
    refine a_iconst (v := (1 : Int32)) C dX5_isPainted_9 rfl ?_
    refine a_goto (tgt := 14) C dX5_isPainted_10 (by decide) ?_
    obtain rfl := ret1 h
    exact a_zret C dX5_isPainted_14 rfl rfl (by decide) rfl rfl
set_option maxRecDepth 20000 in
set_option maxHeartbeats 4000000 in
theorem w_X5_touches (x1 : Int32) (x2 : Int32)  (V : VT) (r9 : Int32) (h : d_X5_touches x1 x2 V = some r9) : AM 2 0 yX5_touches (.code yX5_touches cX5_touches 3 (some .boolean)) (fun ad => [.ref (ad 109), .int x1, .int x2]) V V (rI r9) := by
  unfold d_X5_touches at h
  refine AM.of (by decide +kernel) (fun ad => Nat.le_of_ble_eq_true rfl) (fun {p l e s m args below meth c D cs ad b0} C hT => ?_)
  have C : Ctx p l s m args meth c D cs ad b0 RX5 cX5_touches 3 (some .boolean) := C
  refine a_sub (lv' := [(0, .ref (ad 109)), (1, .int x1), (2, .int x2)]) [0, 1, 2] rfl ?_
  refine a_aload_n (q := 0) C dX5_touches_0 rfl rfl ?_
  refine a_getr (a := 109) (t := 110) C dX5_touches_1 fl_RX5_7 rfl rfl ?_
  refine a_bipush (v := (29 : Int32)) C dX5_touches_4 rfl ?_
  refine a_iload_n (q := 1) C dX5_touches_6 rfl rfl ?_
  refine a_iadd C dX5_touches_7 ?_
  obtain ⟨z1, h⟩ := asr_spec h
  refine a_iald (a := 110) (x := (V 110 ((29 : Int32) + x1).toNatClampNeg)) C dX5_touches_8 rfl (inb_in z1) rfl ?_
  refine a_iload_n (q := 2) C dX5_touches_9 rfl rfl ?_
  refine a_ishr C dX5_touches_10 ?_
  refine a_iconst (v := (1 : Int32)) C dX5_touches_11 rfl ?_
  refine a_iand C dX5_touches_12 ?_
  refine a_iconst (v := (1 : Int32)) C dX5_touches_13 rfl ?_
  refine a_icmp_ne (tgt := 21) C dX5_touches_14 (by decide) (fun c2 => ?_) (fun c2 => ?_)
  · have h := it_f c2 h
    refine a_iconst (v := (0 : Int32)) C dX5_touches_21 rfl ?_
    obtain rfl := ret1 h
    exact a_zret C dX5_touches_22 rfl rfl (by decide) rfl rfl
  · have h := it_t c2 h
    refine a_iconst (v := (1 : Int32)) C dX5_touches_17 rfl ?_
    refine a_goto (tgt := 22) C dX5_touches_18 (by decide) ?_
    obtain rfl := ret1 h
    exact a_zret C dX5_touches_22 rfl rfl (by decide) rfl rfl
set_option maxRecDepth 20000 in
set_option maxHeartbeats 4000000 in
theorem w_X5_borders_16 {p : Program} {l : Launch} {e : Env} {s : State} {m : MethodId} {args : Array Value} {below : List Frame} {meth : Method} {c : Code} {D : va_G} {cs : Nat → ClassId} {ad : Nat → Nat} {b0 : Nat} (C : Ctx p l s m args meth c D cs ad b0 RX5 cX5_borders 4 (some .int)) (hT : ∀ x ∈ c.exceptionTable.toList, False)   {V : VT} {r9 : Int32} {k4 : Int32 → Int32 → Option Int32}   (hk4 : ∀ (x1 x2 : Int32) , k4 x1 x2 = some r9 → AW p l e (rmOf 3 0) s m args below meth c D cs ad b0 (QF below D cs ad b0 V ((rI r9) ad) args s 0) 4 0 V [(0, .ref (ad 109)), (1, .int x1), (2, .int x2)] [] 4) :
    ∀ (x1 x2 x3 : Int32) , d_X5_borders_16 V k4 x1 x2 x3 = some r9 → AW p l e (rmOf 3 0) s m args below meth c D cs ad b0 (QF below D cs ad b0 V ((rI r9) ad) args s 0) 4 0 V [(0, .ref (ad 109)), (1, .int x1), (2, .int x2), (3, .int x3)] [] 16 := by
  refine lo3_ind (P := fun x1 x2 x3 => AW p l e (rmOf 3 0) s m args below meth c D cs ad b0 (QF below D cs ad b0 V ((rI r9) ad) args s 0) 4 0 V [(0, .ref (ad 109)), (1, .int x1), (2, .int x2), (3, .int x3)] [] 16) ?_ FU
  intro k16 hk16 x1 x2 x3 h
  unfold d_X5_borders_16b at h
  refine a_iload_n (q := 3) C dX5_borders_16 rfl rfl ?_
  refine a_iload_n (q := 2) C dX5_borders_17 rfl rfl ?_
  refine a_icmp_ge (tgt := 44) C dX5_borders_18 (by decide) (fun c1 => ?_) (fun c1 => ?_)
  · have h := it_t c1 h
    refine a_iinc (q := 2) (v := (x2 + (1 : Int32))) (lv' := [(2, .int (x2 + (1 : Int32))), (0, .ref (ad 109)), (1, .int x1), (3, .int x3)]) C dX5_borders_44 rfl rfl (by decide) rfl ?_
    refine a_goto (tgt := 4) C dX5_borders_47 (by decide) ?_
    refine a_sub (lv' := [(0, .ref (ad 109)), (1, .int x1), (2, .int (x2 + (1 : Int32)))]) [1, 2, 0] rfl ?_
    exact hk4 x1 (x2 + (1 : Int32)) h
  · have h := it_f c1 h
    refine a_iload_n (q := 1) C dX5_borders_21 rfl rfl ?_
    refine a_aload_n (q := 0) C dX5_borders_22 rfl rfl ?_
    refine a_iload_n (q := 2) C dX5_borders_23 rfl rfl ?_
    refine a_iload_n (q := 3) C dX5_borders_24 rfl rfl ?_
    obtain ⟨r3, g2, h⟩ := bd_spec h
    refine a_cVi (a := 109) (st := [.int x1]) C dX5_borders_25 cv_RX5_67 (w_X5_touches x2 x3  V r3 g2) rfl rfl rfl rfl rfl ⟨Nat.le_of_ble_eq_true rfl, Nat.le_of_ble_eq_true rfl, Nat.le_of_ble_eq_true rfl, Nat.le_of_ble_eq_true rfl⟩ (Nat.le_of_ble_eq_true rfl) ?_
    refine a_if_eq (tgt := 35) C dX5_borders_28 (by decide) (fun c4 => ?_) (fun c4 => ?_)
    · have h := it_t c4 h
      refine a_iconst (v := (0 : Int32)) C dX5_borders_35 rfl ?_
      refine a_iadd C dX5_borders_36 ?_
      refine a_istore_n (lv' := [(1, .int (x1 + (0 : Int32))), (0, .ref (ad 109)), (2, .int x2), (3, .int x3)]) C dX5_borders_37 rfl (by decide) rfl ?_
      refine a_iinc (q := 3) (v := (x3 + (1 : Int32))) (lv' := [(3, .int (x3 + (1 : Int32))), (1, .int (x1 + (0 : Int32))), (0, .ref (ad 109)), (2, .int x2)]) C dX5_borders_38 rfl rfl (by decide) rfl ?_
      refine a_goto (tgt := 16) C dX5_borders_41 (by decide) ?_
      refine a_sub (lv' := [(0, .ref (ad 109)), (1, .int (x1 + (0 : Int32))), (2, .int x2), (3, .int (x3 + (1 : Int32)))]) [2, 1, 3, 0] rfl ?_
      exact hk16 (x1 + (0 : Int32)) x2 (x3 + (1 : Int32)) h
    · have h := it_f c4 h
      refine a_iconst (v := (1 : Int32)) C dX5_borders_31 rfl ?_
      refine a_goto (tgt := 36) C dX5_borders_32 (by decide) ?_
      refine a_iadd C dX5_borders_36 ?_
      refine a_istore_n (lv' := [(1, .int (x1 + (1 : Int32))), (0, .ref (ad 109)), (2, .int x2), (3, .int x3)]) C dX5_borders_37 rfl (by decide) rfl ?_
      refine a_iinc (q := 3) (v := (x3 + (1 : Int32))) (lv' := [(3, .int (x3 + (1 : Int32))), (1, .int (x1 + (1 : Int32))), (0, .ref (ad 109)), (2, .int x2)]) C dX5_borders_38 rfl rfl (by decide) rfl ?_
      refine a_goto (tgt := 16) C dX5_borders_41 (by decide) ?_
      refine a_sub (lv' := [(0, .ref (ad 109)), (1, .int (x1 + (1 : Int32))), (2, .int x2), (3, .int (x3 + (1 : Int32)))]) [2, 1, 3, 0] rfl ?_
      exact hk16 (x1 + (1 : Int32)) x2 (x3 + (1 : Int32)) h
set_option maxRecDepth 20000 in
set_option maxHeartbeats 4000000 in
theorem w_X5_borders_4 {p : Program} {l : Launch} {e : Env} {s : State} {m : MethodId} {args : Array Value} {below : List Frame} {meth : Method} {c : Code} {D : va_G} {cs : Nat → ClassId} {ad : Nat → Nat} {b0 : Nat} (C : Ctx p l s m args meth c D cs ad b0 RX5 cX5_borders 4 (some .int)) (hT : ∀ x ∈ c.exceptionTable.toList, False)   {V : VT} {r9 : Int32}     :
    ∀ (x1 x2 : Int32) , d_X5_borders_4 V x1 x2 = some r9 → AW p l e (rmOf 3 0) s m args below meth c D cs ad b0 (QF below D cs ad b0 V ((rI r9) ad) args s 0) 4 0 V [(0, .ref (ad 109)), (1, .int x1), (2, .int x2)] [] 4 := by
  refine lo2_ind (P := fun x1 x2 => AW p l e (rmOf 3 0) s m args below meth c D cs ad b0 (QF below D cs ad b0 V ((rI r9) ad) args s 0) 4 0 V [(0, .ref (ad 109)), (1, .int x1), (2, .int x2)] [] 4) ?_ FU
  intro k4 hk4 x1 x2 h
  unfold d_X5_borders_4b at h
  refine a_iload_n (q := 2) C dX5_borders_4 rfl rfl ?_
  refine a_aload_n (q := 0) C dX5_borders_5 rfl rfl ?_
  refine a_getr (a := 109) (t := 110) C dX5_borders_6 fl_RX5_7 rfl rfl ?_
  refine a_iconst (v := (0 : Int32)) C dX5_borders_9 rfl ?_
  refine a_iald (a := 110) (x := (V 110 0)) C dX5_borders_10 rfl (in_lit (by decide)) rfl ?_
  refine a_icmp_ge (tgt := 50) C dX5_borders_11 (by decide) (fun c1 => ?_) (fun c1 => ?_)
  · have h := it_t c1 h
    refine a_iload_n (q := 1) C dX5_borders_50 rfl rfl ?_
    obtain rfl := ret1 h
    exact a_iret C dX5_borders_51 rfl (by decide) rfl rfl
  · have h := it_f c1 h
    refine a_iconst (v := (0 : Int32)) C dX5_borders_14 rfl ?_
    refine a_istore_n (lv' := [(3, .int (0 : Int32)), (0, .ref (ad 109)), (1, .int x1), (2, .int x2)]) C dX5_borders_15 rfl (by decide) rfl ?_
    refine a_sub (lv' := [(0, .ref (ad 109)), (1, .int x1), (2, .int x2), (3, .int (0 : Int32))]) [1, 2, 3, 0] rfl ?_
    exact w_X5_borders_16 C hT hk4 x1 x2 (0 : Int32) h
set_option maxRecDepth 20000 in
set_option maxHeartbeats 4000000 in
theorem w_X5_borders   (V : VT) (r9 : Int32) (h : d_X5_borders  V = some r9) : AM 3 0 yX5_borders (.code yX5_borders cX5_borders 4 (some .int)) (fun ad => [.ref (ad 109)]) V V (rI r9) := by
  unfold d_X5_borders at h
  refine AM.of (by decide +kernel) (fun ad => Nat.le_of_ble_eq_true rfl) (fun {p l e s m args below meth c D cs ad b0} C hT => ?_)
  have C : Ctx p l s m args meth c D cs ad b0 RX5 cX5_borders 4 (some .int) := C
  refine a_sub (lv' := [(0, .ref (ad 109))]) [0] rfl ?_
  refine a_iconst (v := (0 : Int32)) C dX5_borders_0 rfl ?_
  refine a_istore_n (lv' := [(1, .int (0 : Int32)), (0, .ref (ad 109))]) C dX5_borders_1 rfl (by decide) rfl ?_
  refine a_iconst (v := (0 : Int32)) C dX5_borders_2 rfl ?_
  refine a_istore_n (lv' := [(2, .int (0 : Int32)), (1, .int (0 : Int32)), (0, .ref (ad 109))]) C dX5_borders_3 rfl (by decide) rfl ?_
  refine a_sub (lv' := [(0, .ref (ad 109)), (1, .int (0 : Int32)), (2, .int (0 : Int32))]) [2, 1, 0] rfl ?_
  exact w_X5_borders_4 C hT (0 : Int32) (0 : Int32) h
set_option maxRecDepth 20000 in
set_option maxHeartbeats 4000000 in
theorem w_X5_country_16 {p : Program} {l : Launch} {e : Env} {s : State} {m : MethodId} {args : Array Value} {below : List Frame} {meth : Method} {c : Code} {D : va_G} {cs : Nat → ClassId} {ad : Nat → Nat} {b0 : Nat} (C : Ctx p l s m args meth c D cs ad b0 RX5 cX5_country 3 (some .int)) (hT : ∀ x ∈ c.exceptionTable.toList, False)    {r9 : Int32} {W9 : VT}     :
    ∀ (x1 s0 : Int32) (V : VT), d_X5_country_16 x1 s0 V = some (r9, W9) → AW p l e (rmOf 4 0) s m args below meth c D cs ad b0 (QF below D cs ad b0 W9 ((rI r9) ad) args s 0) 3 0 V [(0, .ref (ad 109)), (1, .int x1)] [.int s0, .ref (ad 109)] 16 := by
  intro x1 s0 V h
  unfold d_X5_country_16 at h
  obtain ⟨r3, V2, g1, h⟩ := bw_spec h
  refine a_cVi (a := 109) (st := []) C dX5_country_16 cv_RX5_71 (w_X5_fails s0  V r3 V2 g1) rfl rfl rfl rfl rfl ⟨Nat.le_of_ble_eq_true rfl, Nat.le_of_ble_eq_true rfl, Nat.le_of_ble_eq_true rfl, Nat.le_of_ble_eq_true rfl⟩ (Nat.le_of_ble_eq_true rfl) ?_
  refine a_if_eq (tgt := 24) C dX5_country_19 (by decide) (fun c4 => ?_) (fun c4 => ?_)
  · have h := it_t c4 h
    refine a_aload_n (q := 0) C dX5_country_24 rfl rfl ?_
    refine a_getr (a := 109) (t := 110) C dX5_country_25 fl_RX5_7 rfl rfl ?_
    refine a_iconst (v := (0 : Int32)) C dX5_country_28 rfl ?_
    refine a_iald (a := 110) (x := (V2 110 0)) C dX5_country_29 rfl (in_lit (by decide)) rfl ?_
    refine a_bipush (v := (7 : Int32)) C dX5_country_30 rfl ?_
    refine a_icmp_ne (tgt := 44) C dX5_country_32 (by decide) (fun c5 => ?_) (fun c5 => ?_)
    · have h := it_f c5 h
      refine a_aload_n (q := 0) C dX5_country_44 rfl rfl ?_
      refine a_aload_n (q := 0) C dX5_country_45 rfl rfl ?_
      refine a_getr (a := 109) (t := 110) C dX5_country_46 fl_RX5_7 rfl rfl ?_
      obtain ⟨V7, g6, h⟩ := bd_spec h
      refine a_cVv (a := 109) (st := []) C dX5_country_49 cv_RX5_79 (w_X5_keeps 110 rfl V2 V7 g6) rfl rfl rfl rfl rfl ⟨Nat.le_of_ble_eq_true rfl, Nat.le_of_ble_eq_true rfl, Nat.le_of_ble_eq_true rfl, Nat.le_of_ble_eq_true rfl⟩ (Nat.le_of_ble_eq_true rfl) ?_
      refine a_aload_n (q := 0) C dX5_country_52 rfl rfl ?_
      refine a_getr (a := 109) (t := 110) C dX5_country_53 fl_RX5_7 rfl rfl ?_
      refine a_iconst (v := (0 : Int32)) C dX5_country_56 rfl ?_
      refine a_iald (a := 110) (x := (V7 110 0)) C dX5_country_57 rfl (in_lit (by decide)) rfl ?_
      refine a_istore_n (lv' := [(2, .int (V7 110 0)), (0, .ref (ad 109)), (1, .int x1)]) C dX5_country_58 rfl (by decide) rfl ?_
      refine a_aload_n (q := 1) C dX5_country_59 rfl rfl ?_
      refine a_getr (a := 109) (t := 110) C dX5_country_60 fl_RX5_7 rfl rfl ?_
      refine a_iconst (v := (0 : Int32)) C dX5_country_63 rfl ?_
      refine a_dup2 C dX5_country_64 rfl rfl ?_
      refine a_iald (a := 110) (x := (V7 110 0)) C dX5_country_65 rfl (in_lit (by decide)) rfl ?_
      refine a_iconst (v := (1 : Int32)) C dX5_country_66 rfl ?_
      refine a_iadd C dX5_country_67 ?_
      refine a_iast (a := 110) C dX5_country_68 rfl (in_lit (by decide)) ?_
      refine a_aload_n (q := 1) C dX5_country_69 rfl rfl ?_
      refine a_iload_n (q := 0) C dX5_country_70 rfl rfl ?_
      refine a_iconst (v := (0 : Int32)) C dX5_country_71 rfl ?_
      refine a_iload_n (q := 2) C dX5_country_72 rfl rfl ?_
      obtain ⟨V9, g8, h⟩ := bd_spec h
      refine a_cVv (a := 109) (st := []) C dX5_country_73 cv_RX5_83 (w_X5_lays (V7 110 0) (0 : Int32) x1  (up2 V7 110 0 ((V7 110 0) + (1 : Int32))) V9 g8) rfl rfl rfl rfl rfl ⟨Nat.le_of_ble_eq_true rfl, Nat.le_of_ble_eq_true rfl, Nat.le_of_ble_eq_true rfl, Nat.le_of_ble_eq_true rfl⟩ (Nat.le_of_ble_eq_true rfl) ?_
      refine a_aload_n (q := 1) C dX5_country_76 rfl rfl ?_
      refine a_iload_n (q := 0) C dX5_country_77 rfl rfl ?_
      refine a_iconst (v := (1 : Int32)) C dX5_country_78 rfl ?_
      refine a_iconst (v := (-1 : Int32)) C dX5_country_79 rfl ?_
      obtain ⟨V11, g10, h⟩ := bd_spec h
      refine a_cVv (a := 109) (st := []) C dX5_country_80 cv_RX5_83 (w_X5_lays (V7 110 0) (1 : Int32) (-1 : Int32)  V9 V11 g10) rfl rfl rfl rfl rfl ⟨Nat.le_of_ble_eq_true rfl, Nat.le_of_ble_eq_true rfl, Nat.le_of_ble_eq_true rfl, Nat.le_of_ble_eq_true rfl⟩ (Nat.le_of_ble_eq_true rfl) ?_
      refine a_aload_n (q := 1) C dX5_country_83 rfl rfl ?_
      refine a_iload_n (q := 0) C dX5_country_84 rfl rfl ?_
      refine a_iconst (v := (2 : Int32)) C dX5_country_85 rfl ?_
      refine a_iconst (v := (-1 : Int32)) C dX5_country_86 rfl ?_
      obtain ⟨V13, g12, h⟩ := bd_spec h
      refine a_cVv (a := 109) (st := []) C dX5_country_87 cv_RX5_83 (w_X5_lays (V7 110 0) (2 : Int32) (-1 : Int32)  V11 V13 g12) rfl rfl rfl rfl rfl ⟨Nat.le_of_ble_eq_true rfl, Nat.le_of_ble_eq_true rfl, Nat.le_of_ble_eq_true rfl, Nat.le_of_ble_eq_true rfl⟩ (Nat.le_of_ble_eq_true rfl) ?_
      refine a_aload_n (q := 1) C dX5_country_90 rfl rfl ?_
      refine a_iload_n (q := 0) C dX5_country_91 rfl rfl ?_
      refine a_iconst (v := (3 : Int32)) C dX5_country_92 rfl ?_
      refine a_iconst (v := (0 : Int32)) C dX5_country_93 rfl ?_
      obtain ⟨V15, g14, h⟩ := bd_spec h
      refine a_cVv (a := 109) (st := []) C dX5_country_94 cv_RX5_83 (w_X5_lays (V7 110 0) (3 : Int32) (0 : Int32)  V13 V15 g14) rfl rfl rfl rfl rfl ⟨Nat.le_of_ble_eq_true rfl, Nat.le_of_ble_eq_true rfl, Nat.le_of_ble_eq_true rfl, Nat.le_of_ble_eq_true rfl⟩ (Nat.le_of_ble_eq_true rfl) ?_
      refine a_aload_n (q := 1) C dX5_country_97 rfl rfl ?_
      refine a_getr (a := 109) (t := 110) C dX5_country_98 fl_RX5_7 rfl rfl ?_
      refine a_bipush (v := (29 : Int32)) C dX5_country_101 rfl ?_
      refine a_iload_n (q := 0) C dX5_country_103 rfl rfl ?_
      refine a_iadd C dX5_country_104 ?_
      refine a_iconst (v := (0 : Int32)) C dX5_country_105 rfl ?_
      obtain ⟨z16, h⟩ := asr_spec h
      refine a_iast (a := 110) C dX5_country_106 rfl (inb_in z16) ?_
      refine a_iload_n (q := 0) C dX5_country_107 rfl rfl ?_
      obtain ⟨rfl, rfl⟩ := ret2 h
      exact a_iret C dX5_country_108 rfl (by decide) rfl rfl
    · have h := it_t c5 h
      refine a_aload_n (q := 0) C dX5_country_35 rfl rfl ?_
      refine a_iconst (v := (2 : Int32)) C dX5_country_36 rfl ?_
      refine a_iconst (v := (1 : Int32)) C dX5_country_37 rfl ?_
      refine a_bipush (v := (7 : Int32)) C dX5_country_38 rfl ?_
      obtain ⟨r19, V18, g17, h⟩ := bw_spec h
      refine a_cVi (a := 109) (st := []) C dX5_country_40 cv_RX5_75 (w_X5_refuses (2 : Int32) (1 : Int32) (7 : Int32)  V2 r19 V18 g17) rfl rfl rfl rfl rfl ⟨Nat.le_of_ble_eq_true rfl, Nat.le_of_ble_eq_true rfl, Nat.le_of_ble_eq_true rfl, Nat.le_of_ble_eq_true rfl⟩ (Nat.le_of_ble_eq_true rfl) ?_
      obtain ⟨rfl, rfl⟩ := ret2 h
      exact a_iret C dX5_country_43 rfl (by decide) rfl rfl
  · have h := it_f c4 h
    refine a_iconst (v := (0 : Int32)) C dX5_country_22 rfl ?_
    obtain ⟨rfl, rfl⟩ := ret2 h
    exact a_iret C dX5_country_23 rfl (by decide) rfl rfl
set_option maxRecDepth 20000 in
set_option maxHeartbeats 4000000 in
theorem w_X5_country (x1 : Int32)  (V : VT) (r9 : Int32) (W9 : VT) (h : d_X5_country x1 V = some (r9, W9)) : AM 4 0 yX5_country (.code yX5_country cX5_country 3 (some .int)) (fun ad => [.ref (ad 109), .int x1]) V W9 (rI r9) := by
  unfold d_X5_country at h
  refine AM.of (by decide +kernel) (fun ad => Nat.le_of_ble_eq_true rfl) (fun {p l e s m args below meth c D cs ad b0} C hT => ?_)
  have C : Ctx p l s m args meth c D cs ad b0 RX5 cX5_country 3 (some .int) := C
  refine a_sub (lv' := [(0, .ref (ad 109)), (1, .int x1)]) [0, 1] rfl ?_
  refine a_aload_n (q := 0) C dX5_country_0 rfl rfl ?_
  refine a_iload_n (q := 1) C dX5_country_1 rfl rfl ?_
  refine a_iconst (v := (1 : Int32)) C dX5_country_2 rfl ?_
  refine a_bipush (v := (9 : Int32)) C dX5_country_3 rfl ?_
  obtain ⟨r2, g1, h⟩ := bd_spec h
  refine a_cSi (st := [.ref (ad 109)]) C dX5_country_5 cv_RX5_59 (w_X5_in x1 (1 : Int32) (9 : Int32)  V r2 g1) rfl rfl rfl ⟨Nat.le_of_ble_eq_true rfl, Nat.le_of_ble_eq_true rfl, Nat.le_of_ble_eq_true rfl, Nat.le_of_ble_eq_true rfl⟩ (Nat.le_of_ble_eq_true rfl) ?_
  refine a_if_eq (tgt := 15) C dX5_country_8 (by decide) (fun c3 => ?_) (fun c3 => ?_)
  · have h := it_t c3 h
    refine a_iconst (v := (1 : Int32)) C dX5_country_15 rfl ?_
    refine a_sub (lv' := [(0, .ref (ad 109)), (1, .int x1)]) [0, 1] rfl ?_
    exact w_X5_country_16 C hT x1 (1 : Int32) V h
  · have h := it_f c3 h
    refine a_iconst (v := (0 : Int32)) C dX5_country_11 rfl ?_
    refine a_goto (tgt := 16) C dX5_country_12 (by decide) ?_
    refine a_sub (lv' := [(0, .ref (ad 109)), (1, .int x1)]) [0, 1] rfl ?_
    exact w_X5_country_16 C hT x1 (0 : Int32) V h
set_option maxRecDepth 20000 in
set_option maxHeartbeats 4000000 in
theorem w_X5_border_98 {p : Program} {l : Launch} {e : Env} {s : State} {m : MethodId} {args : Array Value} {below : List Frame} {meth : Method} {c : Code} {D : va_G} {cs : Nat → ClassId} {ad : Nat → Nat} {b0 : Nat} (C : Ctx p l s m args meth c D cs ad b0 RX5 cX5_border 3 (some .int)) (hT : ∀ x ∈ c.exceptionTable.toList, False)    {r9 : Int32} {W9 : VT}     :
    ∀ (x1 x2 : Int32) (V : VT), d_X5_border_98 x1 x2 V = some (r9, W9) → AW p l e (rmOf 4 0) s m args below meth c D cs ad b0 (QF below D cs ad b0 W9 ((rI r9) ad) args s 0) 3 0 V [(0, .ref (ad 109)), (1, .int x1), (2, .int x2)] [] 98 := by
  intro x1 x2 V h
  unfold d_X5_border_98 at h
  refine a_aload_n (q := 0) C dX5_border_98 rfl rfl ?_
  refine a_aload_n (q := 0) C dX5_border_99 rfl rfl ?_
  refine a_getr (a := 109) (t := 110) C dX5_border_100 fl_RX5_7 rfl rfl ?_
  obtain ⟨V2, g1, h⟩ := bd_spec h
  refine a_cVv (a := 109) (st := []) C dX5_border_103 cv_RX5_79 (w_X5_keeps 110 rfl V V2 g1) rfl rfl rfl rfl rfl ⟨Nat.le_of_ble_eq_true rfl, Nat.le_of_ble_eq_true rfl, Nat.le_of_ble_eq_true rfl, Nat.le_of_ble_eq_true rfl⟩ (Nat.le_of_ble_eq_true rfl) ?_
  refine a_aload_n (q := 0) C dX5_border_106 rfl rfl ?_
  refine a_getr (a := 109) (t := 110) C dX5_border_107 fl_RX5_7 rfl rfl ?_
  refine a_bipush (v := (29 : Int32)) C dX5_border_110 rfl ?_
  refine a_iload_n (q := 1) C dX5_border_112 rfl rfl ?_
  refine a_iadd C dX5_border_113 ?_
  refine a_dup2 C dX5_border_114 rfl rfl ?_
  obtain ⟨z3, h⟩ := asr_spec h
  refine a_iald (a := 110) (x := (V2 110 ((29 : Int32) + x1).toNatClampNeg)) C dX5_border_115 rfl (inb_in z3) rfl ?_
  refine a_iconst (v := (1 : Int32)) C dX5_border_116 rfl ?_
  refine a_iload_n (q := 2) C dX5_border_117 rfl rfl ?_
  refine a_ishl C dX5_border_118 ?_
  refine a_ior C dX5_border_119 ?_
  obtain ⟨z4, h⟩ := asr_spec h
  refine a_iast (a := 110) C dX5_border_120 rfl (inb_in z4) ?_
  refine a_aload_n (q := 0) C dX5_border_121 rfl rfl ?_
  refine a_getr (a := 109) (t := 110) C dX5_border_122 fl_RX5_7 rfl rfl ?_
  refine a_bipush (v := (29 : Int32)) C dX5_border_125 rfl ?_
  refine a_iload_n (q := 2) C dX5_border_127 rfl rfl ?_
  refine a_iadd C dX5_border_128 ?_
  refine a_dup2 C dX5_border_129 rfl rfl ?_
  obtain ⟨z5, h⟩ := asr_spec h
  refine a_iald (a := 110) (x := ((up2 V2 110 ((29 : Int32) + x1).toNatClampNeg ((V2 110 ((29 : Int32) + x1).toNatClampNeg) ||| ((1 : Int32) <<< (x2 &&& 31)))) 110 ((29 : Int32) + x2).toNatClampNeg)) C dX5_border_130 rfl (inb_in z5) rfl ?_
  refine a_iconst (v := (1 : Int32)) C dX5_border_131 rfl ?_
  refine a_iload_n (q := 1) C dX5_border_132 rfl rfl ?_
  refine a_ishl C dX5_border_133 ?_
  refine a_ior C dX5_border_134 ?_
  obtain ⟨z6, h⟩ := asr_spec h
  refine a_iast (a := 110) C dX5_border_135 rfl (inb_in z6) ?_
  refine a_aload_n (q := 0) C dX5_border_136 rfl rfl ?_
  obtain ⟨r8, g7, h⟩ := bd_spec h
  refine a_cVi (a := 109) (st := []) C dX5_border_137 cv_RX5_93 (w_X5_borders   (up2 (up2 V2 110 ((29 : Int32) + x1).toNatClampNeg ((V2 110 ((29 : Int32) + x1).toNatClampNeg) ||| ((1 : Int32) <<< (x2 &&& 31)))) 110 ((29 : Int32) + x2).toNatClampNeg (((up2 V2 110 ((29 : Int32) + x1).toNatClampNeg ((V2 110 ((29 : Int32) + x1).toNatClampNeg) ||| ((1 : Int32) <<< (x2 &&& 31)))) 110 ((29 : Int32) + x2).toNatClampNeg) ||| ((1 : Int32) <<< (x1 &&& 31)))) r8 g7) rfl rfl rfl rfl rfl ⟨Nat.le_of_ble_eq_true rfl, Nat.le_of_ble_eq_true rfl, Nat.le_of_ble_eq_true rfl, Nat.le_of_ble_eq_true rfl⟩ (Nat.le_of_ble_eq_true rfl) ?_
  obtain ⟨rfl, rfl⟩ := ret2 h
  exact a_iret C dX5_border_140 rfl (by decide) rfl rfl
set_option maxRecDepth 20000 in
set_option maxHeartbeats 4000000 in
theorem w_X5_border_22 {p : Program} {l : Launch} {e : Env} {s : State} {m : MethodId} {args : Array Value} {below : List Frame} {meth : Method} {c : Code} {D : va_G} {cs : Nat → ClassId} {ad : Nat → Nat} {b0 : Nat} (C : Ctx p l s m args meth c D cs ad b0 RX5 cX5_border 3 (some .int)) (hT : ∀ x ∈ c.exceptionTable.toList, False)    {r9 : Int32} {W9 : VT}     :
    ∀ (x1 x2 s0 : Int32) (V : VT), d_X5_border_22 x1 x2 s0 V = some (r9, W9) → AW p l e (rmOf 4 0) s m args below meth c D cs ad b0 (QF below D cs ad b0 W9 ((rI r9) ad) args s 0) 3 0 V [(0, .ref (ad 109)), (1, .int x1), (2, .int x2)] [.int s0, .ref (ad 109)] 22 := by
  intro x1 x2 s0 V h
  unfold d_X5_border_22 at h
  obtain ⟨r3, V2, g1, h⟩ := bw_spec h
  refine a_cVi (a := 109) (st := []) C dX5_border_22 cv_RX5_71 (w_X5_fails s0  V r3 V2 g1) rfl rfl rfl rfl rfl ⟨Nat.le_of_ble_eq_true rfl, Nat.le_of_ble_eq_true rfl, Nat.le_of_ble_eq_true rfl, Nat.le_of_ble_eq_true rfl⟩ (Nat.le_of_ble_eq_true rfl) ?_
  refine a_if_eq (tgt := 30) C dX5_border_25 (by decide) (fun c4 => ?_) (fun c4 => ?_)
  · have h := it_t c4 h
    refine a_iload_n (q := 1) C dX5_border_30 rfl rfl ?_
    refine a_iload_n (q := 2) C dX5_border_31 rfl rfl ?_
    refine a_icmp_ne (tgt := 43) C dX5_border_32 (by decide) (fun c5 => ?_) (fun c5 => ?_)
    · have h := it_f c5 h
      refine a_aload_n (q := 0) C dX5_border_43 rfl rfl ?_
      refine a_iload_n (q := 1) C dX5_border_44 rfl rfl ?_
      refine a_iload_n (q := 2) C dX5_border_45 rfl rfl ?_
      obtain ⟨r7, g6, h⟩ := bd_spec h
      refine a_cVi (a := 109) (st := []) C dX5_border_46 cv_RX5_67 (w_X5_touches x1 x2  V2 r7 g6) rfl rfl rfl rfl rfl ⟨Nat.le_of_ble_eq_true rfl, Nat.le_of_ble_eq_true rfl, Nat.le_of_ble_eq_true rfl, Nat.le_of_ble_eq_true rfl⟩ (Nat.le_of_ble_eq_true rfl) ?_
      refine a_if_eq (tgt := 61) C dX5_border_49 (by decide) (fun c8 => ?_) (fun c8 => ?_)
      · have h := it_t c8 h
        refine a_aload_n (q := 0) C dX5_border_61 rfl rfl ?_
        refine a_iload_n (q := 1) C dX5_border_62 rfl rfl ?_
        obtain ⟨r10, g9, h⟩ := bd_spec h
        refine a_cVi (a := 109) (st := []) C dX5_border_63 cv_RX5_90 (w_X5_isPainted x1  V2 r10 g9) rfl rfl rfl rfl rfl ⟨Nat.le_of_ble_eq_true rfl, Nat.le_of_ble_eq_true rfl, Nat.le_of_ble_eq_true rfl, Nat.le_of_ble_eq_true rfl⟩ (Nat.le_of_ble_eq_true rfl) ?_
        refine a_if_eq (tgt := 98) C dX5_border_66 (by decide) (fun c11 => ?_) (fun c11 => ?_)
        · have h := it_t c11 h
          refine a_sub (lv' := [(0, .ref (ad 109)), (1, .int x1), (2, .int x2)]) [0, 1, 2] rfl ?_
          exact w_X5_border_98 C hT x1 x2 V2 h
        · have h := it_f c11 h
          refine a_aload_n (q := 0) C dX5_border_69 rfl rfl ?_
          refine a_iload_n (q := 1) C dX5_border_70 rfl rfl ?_
          refine a_iconst (v := (1 : Int32)) C dX5_border_71 rfl ?_
          obtain ⟨r13, g12, h⟩ := bd_spec h
          refine a_cVi (a := 109) (st := []) C dX5_border_72 cv_RX5_63 (w_X5_of x1 (1 : Int32)  V2 r13 g12) rfl rfl rfl rfl rfl ⟨Nat.le_of_ble_eq_true rfl, Nat.le_of_ble_eq_true rfl, Nat.le_of_ble_eq_true rfl, Nat.le_of_ble_eq_true rfl⟩ (Nat.le_of_ble_eq_true rfl) ?_
          refine a_aload_n (q := 0) C dX5_border_75 rfl rfl ?_
          refine a_iload_n (q := 2) C dX5_border_76 rfl rfl ?_
          refine a_iconst (v := (1 : Int32)) C dX5_border_77 rfl ?_
          obtain ⟨r15, g14, h⟩ := bd_spec h
          refine a_cVi (a := 109) (st := [.int r13]) C dX5_border_78 cv_RX5_63 (w_X5_of x2 (1 : Int32)  V2 r15 g14) rfl rfl rfl rfl rfl ⟨Nat.le_of_ble_eq_true rfl, Nat.le_of_ble_eq_true rfl, Nat.le_of_ble_eq_true rfl, Nat.le_of_ble_eq_true rfl⟩ (Nat.le_of_ble_eq_true rfl) ?_
          refine a_icmp_ne (tgt := 98) C dX5_border_81 (by decide) (fun c16 => ?_) (fun c16 => ?_)
          · have h := it_f c16 h
            refine a_sub (lv' := [(0, .ref (ad 109)), (1, .int x1), (2, .int x2)]) [0, 1, 2] rfl ?_
            exact w_X5_border_98 C hT x1 x2 V2 h
          · have h := it_t c16 h
            refine a_aload_n (q := 0) C dX5_border_84 rfl rfl ?_
            refine a_iconst (v := (2 : Int32)) C dX5_border_85 rfl ?_
            refine a_bipush (v := (7 : Int32)) C dX5_border_86 rfl ?_
            refine a_aload_n (q := 0) C dX5_border_88 rfl rfl ?_
            refine a_iload_n (q := 1) C dX5_border_89 rfl rfl ?_
            refine a_iconst (v := (1 : Int32)) C dX5_border_90 rfl ?_
            obtain ⟨r18, g17, h⟩ := bd_spec h
            refine a_cVi (a := 109) (st := [.int (7 : Int32), .int (2 : Int32), .ref (ad 109)]) C dX5_border_91 cv_RX5_63 (w_X5_of x1 (1 : Int32)  V2 r18 g17) rfl rfl rfl rfl rfl ⟨Nat.le_of_ble_eq_true rfl, Nat.le_of_ble_eq_true rfl, Nat.le_of_ble_eq_true rfl, Nat.le_of_ble_eq_true rfl⟩ (Nat.le_of_ble_eq_true rfl) ?_
            obtain ⟨r21, V20, g19, h⟩ := bw_spec h
            refine a_cVi (a := 109) (st := []) C dX5_border_94 cv_RX5_75 (w_X5_refuses (2 : Int32) (7 : Int32) r18  V2 r21 V20 g19) rfl rfl rfl rfl rfl ⟨Nat.le_of_ble_eq_true rfl, Nat.le_of_ble_eq_true rfl, Nat.le_of_ble_eq_true rfl, Nat.le_of_ble_eq_true rfl⟩ (Nat.le_of_ble_eq_true rfl) ?_
            obtain ⟨rfl, rfl⟩ := ret2 h
            exact a_iret C dX5_border_97 rfl (by decide) rfl rfl
      · have h := it_f c8 h
        refine a_aload_n (q := 0) C dX5_border_52 rfl rfl ?_
        refine a_iconst (v := (2 : Int32)) C dX5_border_53 rfl ?_
        refine a_bipush (v := (6 : Int32)) C dX5_border_54 rfl ?_
        refine a_iload_n (q := 2) C dX5_border_56 rfl rfl ?_
        obtain ⟨r24, V23, g22, h⟩ := bw_spec h
        refine a_cVi (a := 109) (st := []) C dX5_border_57 cv_RX5_75 (w_X5_refuses (2 : Int32) (6 : Int32) x2  V2 r24 V23 g22) rfl rfl rfl rfl rfl ⟨Nat.le_of_ble_eq_true rfl, Nat.le_of_ble_eq_true rfl, Nat.le_of_ble_eq_true rfl, Nat.le_of_ble_eq_true rfl⟩ (Nat.le_of_ble_eq_true rfl) ?_
        obtain ⟨rfl, rfl⟩ := ret2 h
        exact a_iret C dX5_border_60 rfl (by decide) rfl rfl
    · have h := it_t c5 h
      refine a_aload_n (q := 0) C dX5_border_35 rfl rfl ?_
      refine a_iconst (v := (2 : Int32)) C dX5_border_36 rfl ?_
      refine a_iconst (v := (5 : Int32)) C dX5_border_37 rfl ?_
      refine a_iload_n (q := 1) C dX5_border_38 rfl rfl ?_
      obtain ⟨r27, V26, g25, h⟩ := bw_spec h
      refine a_cVi (a := 109) (st := []) C dX5_border_39 cv_RX5_75 (w_X5_refuses (2 : Int32) (5 : Int32) x1  V2 r27 V26 g25) rfl rfl rfl rfl rfl ⟨Nat.le_of_ble_eq_true rfl, Nat.le_of_ble_eq_true rfl, Nat.le_of_ble_eq_true rfl, Nat.le_of_ble_eq_true rfl⟩ (Nat.le_of_ble_eq_true rfl) ?_
      obtain ⟨rfl, rfl⟩ := ret2 h
      exact a_iret C dX5_border_42 rfl (by decide) rfl rfl
  · have h := it_f c4 h
    refine a_iconst (v := (0 : Int32)) C dX5_border_28 rfl ?_
    obtain ⟨rfl, rfl⟩ := ret2 h
    exact a_iret C dX5_border_29 rfl (by decide) rfl rfl
set_option maxRecDepth 20000 in
set_option maxHeartbeats 4000000 in
theorem w_X5_border_21 {p : Program} {l : Launch} {e : Env} {s : State} {m : MethodId} {args : Array Value} {below : List Frame} {meth : Method} {c : Code} {D : va_G} {cs : Nat → ClassId} {ad : Nat → Nat} {b0 : Nat} (C : Ctx p l s m args meth c D cs ad b0 RX5 cX5_border 3 (some .int)) (hT : ∀ x ∈ c.exceptionTable.toList, False)    {r9 : Int32} {W9 : VT}     :
    ∀ (x1 x2 : Int32) (V : VT), d_X5_border_21 x1 x2 V = some (r9, W9) → AW p l e (rmOf 4 0) s m args below meth c D cs ad b0 (QF below D cs ad b0 W9 ((rI r9) ad) args s 0) 3 0 V [(0, .ref (ad 109)), (1, .int x1), (2, .int x2)] [.ref (ad 109)] 21 := by
  intro x1 x2 V h
  unfold d_X5_border_21 at h
  refine a_iconst (v := (1 : Int32)) C dX5_border_21 rfl ?_
  refine a_sub (lv' := [(0, .ref (ad 109)), (1, .int x1), (2, .int x2)]) [0, 1, 2] rfl ?_
  exact w_X5_border_22 C hT x1 x2 (1 : Int32) V h
set_option maxRecDepth 20000 in
set_option maxHeartbeats 4000000 in
theorem w_X5_border (x1 : Int32) (x2 : Int32)  (V : VT) (r9 : Int32) (W9 : VT) (h : d_X5_border x1 x2 V = some (r9, W9)) : AM 4 0 yX5_border (.code yX5_border cX5_border 3 (some .int)) (fun ad => [.ref (ad 109), .int x1, .int x2]) V W9 (rI r9) := by
  unfold d_X5_border at h
  refine AM.of (by decide +kernel) (fun ad => Nat.le_of_ble_eq_true rfl) (fun {p l e s m args below meth c D cs ad b0} C hT => ?_)
  have C : Ctx p l s m args meth c D cs ad b0 RX5 cX5_border 3 (some .int) := C
  refine a_sub (lv' := [(0, .ref (ad 109)), (1, .int x1), (2, .int x2)]) [0, 1, 2] rfl ?_
  refine a_aload_n (q := 0) C dX5_border_0 rfl rfl ?_
  refine a_aload_n (q := 0) C dX5_border_1 rfl rfl ?_
  refine a_iload_n (q := 1) C dX5_border_2 rfl rfl ?_
  obtain ⟨r2, g1, h⟩ := bd_spec h
  refine a_cVi (a := 109) (st := [.ref (ad 109)]) C dX5_border_3 cv_RX5_87 (w_X5_isCountry x1  V r2 g1) rfl rfl rfl rfl rfl ⟨Nat.le_of_ble_eq_true rfl, Nat.le_of_ble_eq_true rfl, Nat.le_of_ble_eq_true rfl, Nat.le_of_ble_eq_true rfl⟩ (Nat.le_of_ble_eq_true rfl) ?_
  refine a_if_eq (tgt := 21) C dX5_border_6 (by decide) (fun c3 => ?_) (fun c3 => ?_)
  · have h := it_t c3 h
    refine a_sub (lv' := [(0, .ref (ad 109)), (1, .int x1), (2, .int x2)]) [0, 1, 2] rfl ?_
    exact w_X5_border_21 C hT x1 x2 V h
  · have h := it_f c3 h
    refine a_aload_n (q := 0) C dX5_border_9 rfl rfl ?_
    refine a_iload_n (q := 2) C dX5_border_10 rfl rfl ?_
    obtain ⟨r5, g4, h⟩ := bd_spec h
    refine a_cVi (a := 109) (st := [.ref (ad 109)]) C dX5_border_11 cv_RX5_87 (w_X5_isCountry x2  V r5 g4) rfl rfl rfl rfl rfl ⟨Nat.le_of_ble_eq_true rfl, Nat.le_of_ble_eq_true rfl, Nat.le_of_ble_eq_true rfl, Nat.le_of_ble_eq_true rfl⟩ (Nat.le_of_ble_eq_true rfl) ?_
    refine a_if_eq (tgt := 21) C dX5_border_14 (by decide) (fun c6 => ?_) (fun c6 => ?_)
    · have h := it_t c6 h
      refine a_sub (lv' := [(0, .ref (ad 109)), (1, .int x1), (2, .int x2)]) [0, 1, 2] rfl ?_
      exact w_X5_border_21 C hT x1 x2 V h
    · have h := it_f c6 h
      refine a_iconst (v := (0 : Int32)) C dX5_border_17 rfl ?_
      refine a_goto (tgt := 22) C dX5_border_18 (by decide) ?_
      refine a_sub (lv' := [(0, .ref (ad 109)), (1, .int x1), (2, .int x2)]) [0, 1, 2] rfl ?_
      exact w_X5_border_22 C hT x1 x2 (0 : Int32) V h
set_option maxRecDepth 20000 in
set_option maxHeartbeats 4000000 in
theorem w_X5_erase_22 {p : Program} {l : Launch} {e : Env} {s : State} {m : MethodId} {args : Array Value} {below : List Frame} {meth : Method} {c : Code} {D : va_G} {cs : Nat → ClassId} {ad : Nat → Nat} {b0 : Nat} (C : Ctx p l s m args meth c D cs ad b0 RX5 cX5_erase 3 (some .int)) (hT : ∀ x ∈ c.exceptionTable.toList, False)    {r9 : Int32} {W9 : VT}     :
    ∀ (x1 x2 s0 : Int32) (V : VT), d_X5_erase_22 x1 x2 s0 V = some (r9, W9) → AW p l e (rmOf 4 0) s m args below meth c D cs ad b0 (QF below D cs ad b0 W9 ((rI r9) ad) args s 0) 3 0 V [(0, .ref (ad 109)), (1, .int x1), (2, .int x2)] [.int s0, .ref (ad 109)] 22 := by
  intro x1 x2 s0 V h
  unfold d_X5_erase_22 at h
  obtain ⟨r3, V2, g1, h⟩ := bw_spec h
  refine a_cVi (a := 109) (st := []) C dX5_erase_22 cv_RX5_71 (w_X5_fails s0  V r3 V2 g1) rfl rfl rfl rfl rfl ⟨Nat.le_of_ble_eq_true rfl, Nat.le_of_ble_eq_true rfl, Nat.le_of_ble_eq_true rfl, Nat.le_of_ble_eq_true rfl⟩ (Nat.le_of_ble_eq_true rfl) ?_
  refine a_if_eq (tgt := 30) C dX5_erase_25 (by decide) (fun c4 => ?_) (fun c4 => ?_)
  · have h := it_t c4 h
    refine a_iload_n (q := 1) C dX5_erase_30 rfl rfl ?_
    refine a_iload_n (q := 2) C dX5_erase_31 rfl rfl ?_
    refine a_icmp_ne (tgt := 43) C dX5_erase_32 (by decide) (fun c5 => ?_) (fun c5 => ?_)
    · have h := it_f c5 h
      refine a_aload_n (q := 0) C dX5_erase_43 rfl rfl ?_
      refine a_iload_n (q := 1) C dX5_erase_44 rfl rfl ?_
      refine a_iload_n (q := 2) C dX5_erase_45 rfl rfl ?_
      obtain ⟨r7, g6, h⟩ := bd_spec h
      refine a_cVi (a := 109) (st := []) C dX5_erase_46 cv_RX5_67 (w_X5_touches x1 x2  V2 r7 g6) rfl rfl rfl rfl rfl ⟨Nat.le_of_ble_eq_true rfl, Nat.le_of_ble_eq_true rfl, Nat.le_of_ble_eq_true rfl, Nat.le_of_ble_eq_true rfl⟩ (Nat.le_of_ble_eq_true rfl) ?_
      refine a_if_ne (tgt := 61) C dX5_erase_49 (by decide) (fun c8 => ?_) (fun c8 => ?_)
      · have h := it_f c8 h
        refine a_aload_n (q := 0) C dX5_erase_61 rfl rfl ?_
        refine a_aload_n (q := 0) C dX5_erase_62 rfl rfl ?_
        refine a_getr (a := 109) (t := 110) C dX5_erase_63 fl_RX5_7 rfl rfl ?_
        obtain ⟨V10, g9, h⟩ := bd_spec h
        refine a_cVv (a := 109) (st := []) C dX5_erase_66 cv_RX5_79 (w_X5_keeps 110 rfl V2 V10 g9) rfl rfl rfl rfl rfl ⟨Nat.le_of_ble_eq_true rfl, Nat.le_of_ble_eq_true rfl, Nat.le_of_ble_eq_true rfl, Nat.le_of_ble_eq_true rfl⟩ (Nat.le_of_ble_eq_true rfl) ?_
        refine a_aload_n (q := 0) C dX5_erase_69 rfl rfl ?_
        refine a_getr (a := 109) (t := 110) C dX5_erase_70 fl_RX5_7 rfl rfl ?_
        refine a_bipush (v := (29 : Int32)) C dX5_erase_73 rfl ?_
        refine a_iload_n (q := 1) C dX5_erase_75 rfl rfl ?_
        refine a_iadd C dX5_erase_76 ?_
        refine a_dup2 C dX5_erase_77 rfl rfl ?_
        obtain ⟨z11, h⟩ := asr_spec h
        refine a_iald (a := 110) (x := (V10 110 ((29 : Int32) + x1).toNatClampNeg)) C dX5_erase_78 rfl (inb_in z11) rfl ?_
        refine a_iconst (v := (1 : Int32)) C dX5_erase_79 rfl ?_
        refine a_iload_n (q := 2) C dX5_erase_80 rfl rfl ?_
        refine a_ishl C dX5_erase_81 ?_
        refine a_iconst (v := (-1 : Int32)) C dX5_erase_82 rfl ?_
        refine a_ixor C dX5_erase_83 ?_
        refine a_iand C dX5_erase_84 ?_
        obtain ⟨z12, h⟩ := asr_spec h
        refine a_iast (a := 110) C dX5_erase_85 rfl (inb_in z12) ?_
        refine a_aload_n (q := 0) C dX5_erase_86 rfl rfl ?_
        refine a_getr (a := 109) (t := 110) C dX5_erase_87 fl_RX5_7 rfl rfl ?_
        refine a_bipush (v := (29 : Int32)) C dX5_erase_90 rfl ?_
        refine a_iload_n (q := 2) C dX5_erase_92 rfl rfl ?_
        refine a_iadd C dX5_erase_93 ?_
        refine a_dup2 C dX5_erase_94 rfl rfl ?_
        obtain ⟨z13, h⟩ := asr_spec h
        refine a_iald (a := 110) (x := ((up2 V10 110 ((29 : Int32) + x1).toNatClampNeg ((V10 110 ((29 : Int32) + x1).toNatClampNeg) &&& (((1 : Int32) <<< (x2 &&& 31)) ^^^ (-1 : Int32)))) 110 ((29 : Int32) + x2).toNatClampNeg)) C dX5_erase_95 rfl (inb_in z13) rfl ?_
        refine a_iconst (v := (1 : Int32)) C dX5_erase_96 rfl ?_
        refine a_iload_n (q := 1) C dX5_erase_97 rfl rfl ?_
        refine a_ishl C dX5_erase_98 ?_
        refine a_iconst (v := (-1 : Int32)) C dX5_erase_99 rfl ?_
        refine a_ixor C dX5_erase_100 ?_
        refine a_iand C dX5_erase_101 ?_
        obtain ⟨z14, h⟩ := asr_spec h
        refine a_iast (a := 110) C dX5_erase_102 rfl (inb_in z14) ?_
        refine a_aload_n (q := 0) C dX5_erase_103 rfl rfl ?_
        obtain ⟨r16, g15, h⟩ := bd_spec h
        refine a_cVi (a := 109) (st := []) C dX5_erase_104 cv_RX5_93 (w_X5_borders   (up2 (up2 V10 110 ((29 : Int32) + x1).toNatClampNeg ((V10 110 ((29 : Int32) + x1).toNatClampNeg) &&& (((1 : Int32) <<< (x2 &&& 31)) ^^^ (-1 : Int32)))) 110 ((29 : Int32) + x2).toNatClampNeg (((up2 V10 110 ((29 : Int32) + x1).toNatClampNeg ((V10 110 ((29 : Int32) + x1).toNatClampNeg) &&& (((1 : Int32) <<< (x2 &&& 31)) ^^^ (-1 : Int32)))) 110 ((29 : Int32) + x2).toNatClampNeg) &&& (((1 : Int32) <<< (x1 &&& 31)) ^^^ (-1 : Int32)))) r16 g15) rfl rfl rfl rfl rfl ⟨Nat.le_of_ble_eq_true rfl, Nat.le_of_ble_eq_true rfl, Nat.le_of_ble_eq_true rfl, Nat.le_of_ble_eq_true rfl⟩ (Nat.le_of_ble_eq_true rfl) ?_
        obtain ⟨rfl, rfl⟩ := ret2 h
        exact a_iret C dX5_erase_107 rfl (by decide) rfl rfl
      · have h := it_t c8 h
        refine a_aload_n (q := 0) C dX5_erase_52 rfl rfl ?_
        refine a_iconst (v := (2 : Int32)) C dX5_erase_53 rfl ?_
        refine a_bipush (v := (6 : Int32)) C dX5_erase_54 rfl ?_
        refine a_iload_n (q := 2) C dX5_erase_56 rfl rfl ?_
        obtain ⟨r19, V18, g17, h⟩ := bw_spec h
        refine a_cVi (a := 109) (st := []) C dX5_erase_57 cv_RX5_75 (w_X5_refuses (2 : Int32) (6 : Int32) x2  V2 r19 V18 g17) rfl rfl rfl rfl rfl ⟨Nat.le_of_ble_eq_true rfl, Nat.le_of_ble_eq_true rfl, Nat.le_of_ble_eq_true rfl, Nat.le_of_ble_eq_true rfl⟩ (Nat.le_of_ble_eq_true rfl) ?_
        obtain ⟨rfl, rfl⟩ := ret2 h
        exact a_iret C dX5_erase_60 rfl (by decide) rfl rfl
    · have h := it_t c5 h
      refine a_aload_n (q := 0) C dX5_erase_35 rfl rfl ?_
      refine a_iconst (v := (2 : Int32)) C dX5_erase_36 rfl ?_
      refine a_iconst (v := (5 : Int32)) C dX5_erase_37 rfl ?_
      refine a_iload_n (q := 1) C dX5_erase_38 rfl rfl ?_
      obtain ⟨r22, V21, g20, h⟩ := bw_spec h
      refine a_cVi (a := 109) (st := []) C dX5_erase_39 cv_RX5_75 (w_X5_refuses (2 : Int32) (5 : Int32) x1  V2 r22 V21 g20) rfl rfl rfl rfl rfl ⟨Nat.le_of_ble_eq_true rfl, Nat.le_of_ble_eq_true rfl, Nat.le_of_ble_eq_true rfl, Nat.le_of_ble_eq_true rfl⟩ (Nat.le_of_ble_eq_true rfl) ?_
      obtain ⟨rfl, rfl⟩ := ret2 h
      exact a_iret C dX5_erase_42 rfl (by decide) rfl rfl
  · have h := it_f c4 h
    refine a_iconst (v := (0 : Int32)) C dX5_erase_28 rfl ?_
    obtain ⟨rfl, rfl⟩ := ret2 h
    exact a_iret C dX5_erase_29 rfl (by decide) rfl rfl
set_option maxRecDepth 20000 in
set_option maxHeartbeats 4000000 in
theorem w_X5_erase_21 {p : Program} {l : Launch} {e : Env} {s : State} {m : MethodId} {args : Array Value} {below : List Frame} {meth : Method} {c : Code} {D : va_G} {cs : Nat → ClassId} {ad : Nat → Nat} {b0 : Nat} (C : Ctx p l s m args meth c D cs ad b0 RX5 cX5_erase 3 (some .int)) (hT : ∀ x ∈ c.exceptionTable.toList, False)    {r9 : Int32} {W9 : VT}     :
    ∀ (x1 x2 : Int32) (V : VT), d_X5_erase_21 x1 x2 V = some (r9, W9) → AW p l e (rmOf 4 0) s m args below meth c D cs ad b0 (QF below D cs ad b0 W9 ((rI r9) ad) args s 0) 3 0 V [(0, .ref (ad 109)), (1, .int x1), (2, .int x2)] [.ref (ad 109)] 21 := by
  intro x1 x2 V h
  unfold d_X5_erase_21 at h
  refine a_iconst (v := (1 : Int32)) C dX5_erase_21 rfl ?_
  refine a_sub (lv' := [(0, .ref (ad 109)), (1, .int x1), (2, .int x2)]) [0, 1, 2] rfl ?_
  exact w_X5_erase_22 C hT x1 x2 (1 : Int32) V h
set_option maxRecDepth 20000 in
set_option maxHeartbeats 4000000 in
theorem w_X5_erase (x1 : Int32) (x2 : Int32)  (V : VT) (r9 : Int32) (W9 : VT) (h : d_X5_erase x1 x2 V = some (r9, W9)) : AM 4 0 yX5_erase (.code yX5_erase cX5_erase 3 (some .int)) (fun ad => [.ref (ad 109), .int x1, .int x2]) V W9 (rI r9) := by
  unfold d_X5_erase at h
  refine AM.of (by decide +kernel) (fun ad => Nat.le_of_ble_eq_true rfl) (fun {p l e s m args below meth c D cs ad b0} C hT => ?_)
  have C : Ctx p l s m args meth c D cs ad b0 RX5 cX5_erase 3 (some .int) := C
  refine a_sub (lv' := [(0, .ref (ad 109)), (1, .int x1), (2, .int x2)]) [0, 1, 2] rfl ?_
  refine a_aload_n (q := 0) C dX5_erase_0 rfl rfl ?_
  refine a_aload_n (q := 0) C dX5_erase_1 rfl rfl ?_
  refine a_iload_n (q := 1) C dX5_erase_2 rfl rfl ?_
  obtain ⟨r2, g1, h⟩ := bd_spec h
  refine a_cVi (a := 109) (st := [.ref (ad 109)]) C dX5_erase_3 cv_RX5_87 (w_X5_isCountry x1  V r2 g1) rfl rfl rfl rfl rfl ⟨Nat.le_of_ble_eq_true rfl, Nat.le_of_ble_eq_true rfl, Nat.le_of_ble_eq_true rfl, Nat.le_of_ble_eq_true rfl⟩ (Nat.le_of_ble_eq_true rfl) ?_
  refine a_if_eq (tgt := 21) C dX5_erase_6 (by decide) (fun c3 => ?_) (fun c3 => ?_)
  · have h := it_t c3 h
    refine a_sub (lv' := [(0, .ref (ad 109)), (1, .int x1), (2, .int x2)]) [0, 1, 2] rfl ?_
    exact w_X5_erase_21 C hT x1 x2 V h
  · have h := it_f c3 h
    refine a_aload_n (q := 0) C dX5_erase_9 rfl rfl ?_
    refine a_iload_n (q := 2) C dX5_erase_10 rfl rfl ?_
    obtain ⟨r5, g4, h⟩ := bd_spec h
    refine a_cVi (a := 109) (st := [.ref (ad 109)]) C dX5_erase_11 cv_RX5_87 (w_X5_isCountry x2  V r5 g4) rfl rfl rfl rfl rfl ⟨Nat.le_of_ble_eq_true rfl, Nat.le_of_ble_eq_true rfl, Nat.le_of_ble_eq_true rfl, Nat.le_of_ble_eq_true rfl⟩ (Nat.le_of_ble_eq_true rfl) ?_
    refine a_if_eq (tgt := 21) C dX5_erase_14 (by decide) (fun c6 => ?_) (fun c6 => ?_)
    · have h := it_t c6 h
      refine a_sub (lv' := [(0, .ref (ad 109)), (1, .int x1), (2, .int x2)]) [0, 1, 2] rfl ?_
      exact w_X5_erase_21 C hT x1 x2 V h
    · have h := it_f c6 h
      refine a_iconst (v := (0 : Int32)) C dX5_erase_17 rfl ?_
      refine a_goto (tgt := 22) C dX5_erase_18 (by decide) ?_
      refine a_sub (lv' := [(0, .ref (ad 109)), (1, .int x1), (2, .int x2)]) [0, 1, 2] rfl ?_
      exact w_X5_erase_22 C hT x1 x2 (0 : Int32) V h
set_option maxRecDepth 20000 in
set_option maxHeartbeats 4000000 in
theorem w_X5_hasBorder_22 {p : Program} {l : Launch} {e : Env} {s : State} {m : MethodId} {args : Array Value} {below : List Frame} {meth : Method} {c : Code} {D : va_G} {cs : Nat → ClassId} {ad : Nat → Nat} {b0 : Nat} (C : Ctx p l s m args meth c D cs ad b0 RX5 cX5_hasBorder 3 (some .boolean)) (hT : ∀ x ∈ c.exceptionTable.toList, False)    {r9 : Int32} {W9 : VT}     :
    ∀ (x1 x2 s0 : Int32) (V : VT), d_X5_hasBorder_22 x1 x2 s0 V = some (r9, W9) → AW p l e (rmOf 4 0) s m args below meth c D cs ad b0 (QF below D cs ad b0 W9 ((rI r9) ad) args s 0) 3 0 V [(0, .ref (ad 109)), (1, .int x1), (2, .int x2)] [.int s0, .ref (ad 109)] 22 := by
  intro x1 x2 s0 V h
  unfold d_X5_hasBorder_22 at h
  obtain ⟨r3, V2, g1, h⟩ := bw_spec h
  refine a_cVi (a := 109) (st := []) C dX5_hasBorder_22 cv_RX5_71 (w_X5_fails s0  V r3 V2 g1) rfl rfl rfl rfl rfl ⟨Nat.le_of_ble_eq_true rfl, Nat.le_of_ble_eq_true rfl, Nat.le_of_ble_eq_true rfl, Nat.le_of_ble_eq_true rfl⟩ (Nat.le_of_ble_eq_true rfl) ?_
  refine a_if_ne (tgt := 41) C dX5_hasBorder_25 (by decide) (fun c4 => ?_) (fun c4 => ?_)
  · have h := it_f c4 h
    refine a_iconst (v := (0 : Int32)) C dX5_hasBorder_41 rfl ?_
    obtain ⟨rfl, rfl⟩ := ret2 h
    exact a_zret C dX5_hasBorder_42 rfl rfl (by decide) rfl rfl
  · have h := it_t c4 h
    refine a_aload_n (q := 0) C dX5_hasBorder_28 rfl rfl ?_
    refine a_iload_n (q := 1) C dX5_hasBorder_29 rfl rfl ?_
    refine a_iload_n (q := 2) C dX5_hasBorder_30 rfl rfl ?_
    obtain ⟨r6, g5, h⟩ := bd_spec h
    refine a_cVi (a := 109) (st := []) C dX5_hasBorder_31 cv_RX5_67 (w_X5_touches x1 x2  V2 r6 g5) rfl rfl rfl rfl rfl ⟨Nat.le_of_ble_eq_true rfl, Nat.le_of_ble_eq_true rfl, Nat.le_of_ble_eq_true rfl, Nat.le_of_ble_eq_true rfl⟩ (Nat.le_of_ble_eq_true rfl) ?_
    refine a_if_eq (tgt := 41) C dX5_hasBorder_34 (by decide) (fun c7 => ?_) (fun c7 => ?_)
    · have h := it_t c7 h
      refine a_iconst (v := (0 : Int32)) C dX5_hasBorder_41 rfl ?_
      obtain ⟨rfl, rfl⟩ := ret2 h
      exact a_zret C dX5_hasBorder_42 rfl rfl (by decide) rfl rfl
    · have h := it_f c7 h
      refine a_iconst (v := (1 : Int32)) C dX5_hasBorder_37 rfl ?_
      refine a_goto (tgt := 42) C dX5_hasBorder_38 (by decide) ?_
      obtain ⟨rfl, rfl⟩ := ret2 h
      exact a_zret C dX5_hasBorder_42 rfl rfl (by decide) rfl rfl
set_option maxRecDepth 20000 in
set_option maxHeartbeats 4000000 in
theorem w_X5_hasBorder_21 {p : Program} {l : Launch} {e : Env} {s : State} {m : MethodId} {args : Array Value} {below : List Frame} {meth : Method} {c : Code} {D : va_G} {cs : Nat → ClassId} {ad : Nat → Nat} {b0 : Nat} (C : Ctx p l s m args meth c D cs ad b0 RX5 cX5_hasBorder 3 (some .boolean)) (hT : ∀ x ∈ c.exceptionTable.toList, False)    {r9 : Int32} {W9 : VT}     :
    ∀ (x1 x2 : Int32) (V : VT), d_X5_hasBorder_21 x1 x2 V = some (r9, W9) → AW p l e (rmOf 4 0) s m args below meth c D cs ad b0 (QF below D cs ad b0 W9 ((rI r9) ad) args s 0) 3 0 V [(0, .ref (ad 109)), (1, .int x1), (2, .int x2)] [.ref (ad 109)] 21 := by
  intro x1 x2 V h
  unfold d_X5_hasBorder_21 at h
  refine a_iconst (v := (1 : Int32)) C dX5_hasBorder_21 rfl ?_
  refine a_sub (lv' := [(0, .ref (ad 109)), (1, .int x1), (2, .int x2)]) [0, 1, 2] rfl ?_
  exact w_X5_hasBorder_22 C hT x1 x2 (1 : Int32) V h
set_option maxRecDepth 20000 in
set_option maxHeartbeats 4000000 in
theorem w_X5_hasBorder (x1 : Int32) (x2 : Int32)  (V : VT) (r9 : Int32) (W9 : VT) (h : d_X5_hasBorder x1 x2 V = some (r9, W9)) : AM 4 0 yX5_hasBorder (.code yX5_hasBorder cX5_hasBorder 3 (some .boolean)) (fun ad => [.ref (ad 109), .int x1, .int x2]) V W9 (rI r9) := by
  unfold d_X5_hasBorder at h
  refine AM.of (by decide +kernel) (fun ad => Nat.le_of_ble_eq_true rfl) (fun {p l e s m args below meth c D cs ad b0} C hT => ?_)
  have C : Ctx p l s m args meth c D cs ad b0 RX5 cX5_hasBorder 3 (some .boolean) := C
  refine a_sub (lv' := [(0, .ref (ad 109)), (1, .int x1), (2, .int x2)]) [0, 1, 2] rfl ?_
  refine a_aload_n (q := 0) C dX5_hasBorder_0 rfl rfl ?_
  refine a_aload_n (q := 0) C dX5_hasBorder_1 rfl rfl ?_
  refine a_iload_n (q := 1) C dX5_hasBorder_2 rfl rfl ?_
  obtain ⟨r2, g1, h⟩ := bd_spec h
  refine a_cVi (a := 109) (st := [.ref (ad 109)]) C dX5_hasBorder_3 cv_RX5_87 (w_X5_isCountry x1  V r2 g1) rfl rfl rfl rfl rfl ⟨Nat.le_of_ble_eq_true rfl, Nat.le_of_ble_eq_true rfl, Nat.le_of_ble_eq_true rfl, Nat.le_of_ble_eq_true rfl⟩ (Nat.le_of_ble_eq_true rfl) ?_
  refine a_if_eq (tgt := 21) C dX5_hasBorder_6 (by decide) (fun c3 => ?_) (fun c3 => ?_)
  · have h := it_t c3 h
    refine a_sub (lv' := [(0, .ref (ad 109)), (1, .int x1), (2, .int x2)]) [0, 1, 2] rfl ?_
    exact w_X5_hasBorder_21 C hT x1 x2 V h
  · have h := it_f c3 h
    refine a_aload_n (q := 0) C dX5_hasBorder_9 rfl rfl ?_
    refine a_iload_n (q := 2) C dX5_hasBorder_10 rfl rfl ?_
    obtain ⟨r5, g4, h⟩ := bd_spec h
    refine a_cVi (a := 109) (st := [.ref (ad 109)]) C dX5_hasBorder_11 cv_RX5_87 (w_X5_isCountry x2  V r5 g4) rfl rfl rfl rfl rfl ⟨Nat.le_of_ble_eq_true rfl, Nat.le_of_ble_eq_true rfl, Nat.le_of_ble_eq_true rfl, Nat.le_of_ble_eq_true rfl⟩ (Nat.le_of_ble_eq_true rfl) ?_
    refine a_if_eq (tgt := 21) C dX5_hasBorder_14 (by decide) (fun c6 => ?_) (fun c6 => ?_)
    · have h := it_t c6 h
      refine a_sub (lv' := [(0, .ref (ad 109)), (1, .int x1), (2, .int x2)]) [0, 1, 2] rfl ?_
      exact w_X5_hasBorder_21 C hT x1 x2 V h
    · have h := it_f c6 h
      refine a_iconst (v := (0 : Int32)) C dX5_hasBorder_17 rfl ?_
      refine a_goto (tgt := 22) C dX5_hasBorder_18 (by decide) ?_
      refine a_sub (lv' := [(0, .ref (ad 109)), (1, .int x1), (2, .int x2)]) [0, 1, 2] rfl ?_
      exact w_X5_hasBorder_22 C hT x1 x2 (0 : Int32) V h
set_option maxRecDepth 20000 in
set_option maxHeartbeats 4000000 in
theorem w_X5_neighbourIn_2 {p : Program} {l : Launch} {e : Env} {s : State} {m : MethodId} {args : Array Value} {below : List Frame} {meth : Method} {c : Code} {D : va_G} {cs : Nat → ClassId} {ad : Nat → Nat} {b0 : Nat} (C : Ctx p l s m args meth c D cs ad b0 RX5 cX5_neighbourIn 4 (some .int)) (hT : ∀ x ∈ c.exceptionTable.toList, False)   {V : VT} {r9 : Int32}     :
    ∀ (x1 x2 x3 : Int32) , d_X5_neighbourIn_2 V x1 x2 x3 = some r9 → AW p l e (rmOf 3 0) s m args below meth c D cs ad b0 (QF below D cs ad b0 V ((rI r9) ad) args s 0) 4 0 V [(0, .ref (ad 109)), (1, .int x1), (2, .int x2), (3, .int x3)] [] 2 := by
  refine lo3_ind (P := fun x1 x2 x3 => AW p l e (rmOf 3 0) s m args below meth c D cs ad b0 (QF below D cs ad b0 V ((rI r9) ad) args s 0) 4 0 V [(0, .ref (ad 109)), (1, .int x1), (2, .int x2), (3, .int x3)] [] 2) ?_ FU
  intro k2 hk2 x1 x2 x3 h
  unfold d_X5_neighbourIn_2b at h
  refine a_iload_n (q := 3) C dX5_neighbourIn_2 rfl rfl ?_
  refine a_aload_n (q := 0) C dX5_neighbourIn_3 rfl rfl ?_
  refine a_getr (a := 109) (t := 110) C dX5_neighbourIn_4 fl_RX5_7 rfl rfl ?_
  refine a_iconst (v := (0 : Int32)) C dX5_neighbourIn_7 rfl ?_
  refine a_iald (a := 110) (x := (V 110 0)) C dX5_neighbourIn_8 rfl (in_lit (by decide)) rfl ?_
  refine a_icmp_ge (tgt := 39) C dX5_neighbourIn_9 (by decide) (fun c1 => ?_) (fun c1 => ?_)
  · have h := it_t c1 h
    refine a_iconst (v := (-1 : Int32)) C dX5_neighbourIn_39 rfl ?_
    obtain rfl := ret1 h
    exact a_iret C dX5_neighbourIn_40 rfl (by decide) rfl rfl
  · have h := it_f c1 h
    refine a_aload_n (q := 0) C dX5_neighbourIn_12 rfl rfl ?_
    refine a_iload_n (q := 1) C dX5_neighbourIn_13 rfl rfl ?_
    refine a_iload_n (q := 3) C dX5_neighbourIn_14 rfl rfl ?_
    obtain ⟨r3, g2, h⟩ := bd_spec h
    refine a_cVi (a := 109) (st := []) C dX5_neighbourIn_15 cv_RX5_67 (w_X5_touches x1 x3  V r3 g2) rfl rfl rfl rfl rfl ⟨Nat.le_of_ble_eq_true rfl, Nat.le_of_ble_eq_true rfl, Nat.le_of_ble_eq_true rfl, Nat.le_of_ble_eq_true rfl⟩ (Nat.le_of_ble_eq_true rfl) ?_
    refine a_if_eq (tgt := 33) C dX5_neighbourIn_18 (by decide) (fun c4 => ?_) (fun c4 => ?_)
    · have h := it_t c4 h
      refine a_iinc (q := 3) (v := (x3 + (1 : Int32))) (lv' := [(3, .int (x3 + (1 : Int32))), (0, .ref (ad 109)), (1, .int x1), (2, .int x2)]) C dX5_neighbourIn_33 rfl rfl (by decide) rfl ?_
      refine a_goto (tgt := 2) C dX5_neighbourIn_36 (by decide) ?_
      refine a_sub (lv' := [(0, .ref (ad 109)), (1, .int x1), (2, .int x2), (3, .int (x3 + (1 : Int32)))]) [1, 2, 3, 0] rfl ?_
      exact hk2 x1 x2 (x3 + (1 : Int32)) h
    · have h := it_f c4 h
      refine a_aload_n (q := 0) C dX5_neighbourIn_21 rfl rfl ?_
      refine a_iload_n (q := 3) C dX5_neighbourIn_22 rfl rfl ?_
      refine a_iconst (v := (1 : Int32)) C dX5_neighbourIn_23 rfl ?_
      obtain ⟨r6, g5, h⟩ := bd_spec h
      refine a_cVi (a := 109) (st := []) C dX5_neighbourIn_24 cv_RX5_63 (w_X5_of x3 (1 : Int32)  V r6 g5) rfl rfl rfl rfl rfl ⟨Nat.le_of_ble_eq_true rfl, Nat.le_of_ble_eq_true rfl, Nat.le_of_ble_eq_true rfl, Nat.le_of_ble_eq_true rfl⟩ (Nat.le_of_ble_eq_true rfl) ?_
      refine a_iload_n (q := 2) C dX5_neighbourIn_27 rfl rfl ?_
      refine a_icmp_ne (tgt := 33) C dX5_neighbourIn_28 (by decide) (fun c7 => ?_) (fun c7 => ?_)
      · have h := it_f c7 h
        refine a_iinc (q := 3) (v := (x3 + (1 : Int32))) (lv' := [(3, .int (x3 + (1 : Int32))), (0, .ref (ad 109)), (1, .int x1), (2, .int x2)]) C dX5_neighbourIn_33 rfl rfl (by decide) rfl ?_
        refine a_goto (tgt := 2) C dX5_neighbourIn_36 (by decide) ?_
        refine a_sub (lv' := [(0, .ref (ad 109)), (1, .int x1), (2, .int x2), (3, .int (x3 + (1 : Int32)))]) [1, 2, 3, 0] rfl ?_
        exact hk2 x1 x2 (x3 + (1 : Int32)) h
      · have h := it_t c7 h
        refine a_iload_n (q := 3) C dX5_neighbourIn_31 rfl rfl ?_
        obtain rfl := ret1 h
        exact a_iret C dX5_neighbourIn_32 rfl (by decide) rfl rfl
set_option maxRecDepth 20000 in
set_option maxHeartbeats 4000000 in
theorem w_X5_neighbourIn (x1 : Int32) (x2 : Int32)  (V : VT) (r9 : Int32) (h : d_X5_neighbourIn x1 x2 V = some r9) : AM 3 0 yX5_neighbourIn (.code yX5_neighbourIn cX5_neighbourIn 4 (some .int)) (fun ad => [.ref (ad 109), .int x1, .int x2]) V V (rI r9) := by
  unfold d_X5_neighbourIn at h
  refine AM.of (by decide +kernel) (fun ad => Nat.le_of_ble_eq_true rfl) (fun {p l e s m args below meth c D cs ad b0} C hT => ?_)
  have C : Ctx p l s m args meth c D cs ad b0 RX5 cX5_neighbourIn 4 (some .int) := C
  refine a_sub (lv' := [(0, .ref (ad 109)), (1, .int x1), (2, .int x2)]) [0, 1, 2] rfl ?_
  refine a_iconst (v := (0 : Int32)) C dX5_neighbourIn_0 rfl ?_
  refine a_istore_n (lv' := [(3, .int (0 : Int32)), (0, .ref (ad 109)), (1, .int x1), (2, .int x2)]) C dX5_neighbourIn_1 rfl (by decide) rfl ?_
  refine a_sub (lv' := [(0, .ref (ad 109)), (1, .int x1), (2, .int x2), (3, .int (0 : Int32))]) [1, 2, 3, 0] rfl ?_
  exact w_X5_neighbourIn_2 C hT x1 x2 (0 : Int32) h
set_option maxRecDepth 20000 in
set_option maxHeartbeats 4000000 in
theorem w_X5_isFree (x1 : Int32) (x2 : Int32)  (V : VT) (r9 : Int32) (h : d_X5_isFree x1 x2 V = some r9) : AM 4 0 yX5_isFree (.code yX5_isFree cX5_isFree 3 (some .boolean)) (fun ad => [.ref (ad 109), .int x1, .int x2]) V V (rI r9) := by
  unfold d_X5_isFree at h
  refine AM.of (by decide +kernel) (fun ad => Nat.le_of_ble_eq_true rfl) (fun {p l e s m args below meth c D cs ad b0} C hT => ?_)
  have C : Ctx p l s m args meth c D cs ad b0 RX5 cX5_isFree 3 (some .boolean) := C
  refine a_sub (lv' := [(0, .ref (ad 109)), (1, .int x1), (2, .int x2)]) [0, 1, 2] rfl ?_
  refine a_aload_n (q := 0) C dX5_isFree_0 rfl rfl ?_
  refine a_iload_n (q := 1) C dX5_isFree_1 rfl rfl ?_
  obtain ⟨r2, g1, h⟩ := bd_spec h
  refine a_cVi (a := 109) (st := []) C dX5_isFree_2 cv_RX5_90 (w_X5_isPainted x1  V r2 g1) rfl rfl rfl rfl rfl ⟨Nat.le_of_ble_eq_true rfl, Nat.le_of_ble_eq_true rfl, Nat.le_of_ble_eq_true rfl, Nat.le_of_ble_eq_true rfl⟩ (Nat.le_of_ble_eq_true rfl) ?_
  refine a_if_ne (tgt := 50) C dX5_isFree_5 (by decide) (fun c3 => ?_) (fun c3 => ?_)
  · have h := it_f c3 h
    refine a_iconst (v := (0 : Int32)) C dX5_isFree_50 rfl ?_
    obtain rfl := ret1 h
    exact a_zret C dX5_isFree_51 rfl rfl (by decide) rfl rfl
  · have h := it_t c3 h
    refine a_iload_n (q := 2) C dX5_isFree_8 rfl rfl ?_
    refine a_aload_n (q := 0) C dX5_isFree_9 rfl rfl ?_
    refine a_getr (a := 109) (t := 110) C dX5_isFree_10 fl_RX5_7 rfl rfl ?_
    refine a_bipush (v := (36 : Int32)) C dX5_isFree_13 rfl ?_
    refine a_iald (a := 110) (x := (V 110 36)) C dX5_isFree_15 rfl (in_lit (by decide)) rfl ?_
    refine a_icmp_ge (tgt := 50) C dX5_isFree_16 (by decide) (fun c4 => ?_) (fun c4 => ?_)
    · have h := it_t c4 h
      refine a_iconst (v := (0 : Int32)) C dX5_isFree_50 rfl ?_
      obtain rfl := ret1 h
      exact a_zret C dX5_isFree_51 rfl rfl (by decide) rfl rfl
    · have h := it_f c4 h
      refine a_aload_n (q := 0) C dX5_isFree_19 rfl rfl ?_
      refine a_iload_n (q := 1) C dX5_isFree_20 rfl rfl ?_
      refine a_iload_n (q := 2) C dX5_isFree_21 rfl rfl ?_
      obtain ⟨r6, g5, h⟩ := bd_spec h
      refine a_cVi (a := 109) (st := []) C dX5_isFree_22 cv_RX5_97 (w_X5_neighbourIn x1 x2  V r6 g5) rfl rfl rfl rfl rfl ⟨Nat.le_of_ble_eq_true rfl, Nat.le_of_ble_eq_true rfl, Nat.le_of_ble_eq_true rfl, Nat.le_of_ble_eq_true rfl⟩ (Nat.le_of_ble_eq_true rfl) ?_
      refine a_if_ge (tgt := 50) C dX5_isFree_25 (by decide) (fun c7 => ?_) (fun c7 => ?_)
      · have h := it_t c7 h
        refine a_iconst (v := (0 : Int32)) C dX5_isFree_50 rfl ?_
        obtain rfl := ret1 h
        exact a_zret C dX5_isFree_51 rfl rfl (by decide) rfl rfl
      · have h := it_f c7 h
        refine a_aload_n (q := 0) C dX5_isFree_28 rfl rfl ?_
        refine a_getr (a := 109) (t := 110) C dX5_isFree_29 fl_RX5_7 rfl rfl ?_
        refine a_bipush (v := (37 : Int32)) C dX5_isFree_32 rfl ?_
        refine a_iload_n (q := 2) C dX5_isFree_34 rfl rfl ?_
        refine a_iadd C dX5_isFree_35 ?_
        obtain ⟨z8, h⟩ := asr_spec h
        refine a_iald (a := 110) (x := (V 110 ((37 : Int32) + x2).toNatClampNeg)) C dX5_isFree_36 rfl (inb_in z8) rfl ?_
        refine a_aload_n (q := 0) C dX5_isFree_37 rfl rfl ?_
        refine a_iload_n (q := 1) C dX5_isFree_38 rfl rfl ?_
        refine a_iconst (v := (0 : Int32)) C dX5_isFree_39 rfl ?_
        obtain ⟨r10, g9, h⟩ := bd_spec h
        refine a_cVi (a := 109) (st := [.int (V 110 ((37 : Int32) + x2).toNatClampNeg)]) C dX5_isFree_40 cv_RX5_63 (w_X5_of x1 (0 : Int32)  V r10 g9) rfl rfl rfl rfl rfl ⟨Nat.le_of_ble_eq_true rfl, Nat.le_of_ble_eq_true rfl, Nat.le_of_ble_eq_true rfl, Nat.le_of_ble_eq_true rfl⟩ (Nat.le_of_ble_eq_true rfl) ?_
        refine a_icmp_lt (tgt := 50) C dX5_isFree_43 (by decide) (fun c11 => ?_) (fun c11 => ?_)
        · have h := it_t c11 h
          refine a_iconst (v := (0 : Int32)) C dX5_isFree_50 rfl ?_
          obtain rfl := ret1 h
          exact a_zret C dX5_isFree_51 rfl rfl (by decide) rfl rfl
        · have h := it_f c11 h
          refine a_iconst (v := (1 : Int32)) C dX5_isFree_46 rfl ?_
          refine a_goto (tgt := 51) C dX5_isFree_47 (by decide) ?_
          obtain rfl := ret1 h
          exact a_zret C dX5_isFree_51 rfl rfl (by decide) rfl rfl
set_option maxRecDepth 20000 in
set_option maxHeartbeats 4000000 in
theorem w_X5_freeMany_4 {p : Program} {l : Launch} {e : Env} {s : State} {m : MethodId} {args : Array Value} {below : List Frame} {meth : Method} {c : Code} {D : va_G} {cs : Nat → ClassId} {ad : Nat → Nat} {b0 : Nat} (C : Ctx p l s m args meth c D cs ad b0 RX5 cX5_freeMany 4 (some .int)) (hT : ∀ x ∈ c.exceptionTable.toList, False)   {V : VT} {r9 : Int32}     :
    ∀ (x1 x2 x3 : Int32) , d_X5_freeMany_4 V x1 x2 x3 = some r9 → AW p l e (rmOf 5 0) s m args below meth c D cs ad b0 (QF below D cs ad b0 V ((rI r9) ad) args s 0) 4 0 V [(0, .ref (ad 109)), (1, .int x1), (2, .int x2), (3, .int x3)] [] 4 := by
  refine lo3_ind (P := fun x1 x2 x3 => AW p l e (rmOf 5 0) s m args below meth c D cs ad b0 (QF below D cs ad b0 V ((rI r9) ad) args s 0) 4 0 V [(0, .ref (ad 109)), (1, .int x1), (2, .int x2), (3, .int x3)] [] 4) ?_ FU
  intro k4 hk4 x1 x2 x3 h
  unfold d_X5_freeMany_4b at h
  refine a_iload_n (q := 3) C dX5_freeMany_4 rfl rfl ?_
  refine a_iconst (v := (5 : Int32)) C dX5_freeMany_5 rfl ?_
  refine a_icmp_ge (tgt := 32) C dX5_freeMany_6 (by decide) (fun c1 => ?_) (fun c1 => ?_)
  · have h := it_t c1 h
    refine a_iload_n (q := 2) C dX5_freeMany_32 rfl rfl ?_
    obtain rfl := ret1 h
    exact a_iret C dX5_freeMany_33 rfl (by decide) rfl rfl
  · have h := it_f c1 h
    refine a_iload_n (q := 2) C dX5_freeMany_9 rfl rfl ?_
    refine a_aload_n (q := 0) C dX5_freeMany_10 rfl rfl ?_
    refine a_iload_n (q := 1) C dX5_freeMany_11 rfl rfl ?_
    refine a_iload_n (q := 3) C dX5_freeMany_12 rfl rfl ?_
    obtain ⟨r3, g2, h⟩ := bd_spec h
    refine a_cVi (a := 109) (st := [.int x2]) C dX5_freeMany_13 cv_RX5_100 (w_X5_isFree x1 x3  V r3 g2) rfl rfl rfl rfl rfl ⟨Nat.le_of_ble_eq_true rfl, Nat.le_of_ble_eq_true rfl, Nat.le_of_ble_eq_true rfl, Nat.le_of_ble_eq_true rfl⟩ (Nat.le_of_ble_eq_true rfl) ?_
    refine a_if_eq (tgt := 23) C dX5_freeMany_16 (by decide) (fun c4 => ?_) (fun c4 => ?_)
    · have h := it_t c4 h
      refine a_iconst (v := (0 : Int32)) C dX5_freeMany_23 rfl ?_
      refine a_iadd C dX5_freeMany_24 ?_
      refine a_istore_n (lv' := [(2, .int (x2 + (0 : Int32))), (0, .ref (ad 109)), (1, .int x1), (3, .int x3)]) C dX5_freeMany_25 rfl (by decide) rfl ?_
      refine a_iinc (q := 3) (v := (x3 + (1 : Int32))) (lv' := [(3, .int (x3 + (1 : Int32))), (2, .int (x2 + (0 : Int32))), (0, .ref (ad 109)), (1, .int x1)]) C dX5_freeMany_26 rfl rfl (by decide) rfl ?_
      refine a_goto (tgt := 4) C dX5_freeMany_29 (by decide) ?_
      refine a_sub (lv' := [(0, .ref (ad 109)), (1, .int x1), (2, .int (x2 + (0 : Int32))), (3, .int (x3 + (1 : Int32)))]) [2, 3, 1, 0] rfl ?_
      exact hk4 x1 (x2 + (0 : Int32)) (x3 + (1 : Int32)) h
    · have h := it_f c4 h
      refine a_iconst (v := (1 : Int32)) C dX5_freeMany_19 rfl ?_
      refine a_goto (tgt := 24) C dX5_freeMany_20 (by decide) ?_
      refine a_iadd C dX5_freeMany_24 ?_
      refine a_istore_n (lv' := [(2, .int (x2 + (1 : Int32))), (0, .ref (ad 109)), (1, .int x1), (3, .int x3)]) C dX5_freeMany_25 rfl (by decide) rfl ?_
      refine a_iinc (q := 3) (v := (x3 + (1 : Int32))) (lv' := [(3, .int (x3 + (1 : Int32))), (2, .int (x2 + (1 : Int32))), (0, .ref (ad 109)), (1, .int x1)]) C dX5_freeMany_26 rfl rfl (by decide) rfl ?_
      refine a_goto (tgt := 4) C dX5_freeMany_29 (by decide) ?_
      refine a_sub (lv' := [(0, .ref (ad 109)), (1, .int x1), (2, .int (x2 + (1 : Int32))), (3, .int (x3 + (1 : Int32)))]) [2, 3, 1, 0] rfl ?_
      exact hk4 x1 (x2 + (1 : Int32)) (x3 + (1 : Int32)) h
set_option maxRecDepth 20000 in
set_option maxHeartbeats 4000000 in
theorem w_X5_freeMany (x1 : Int32)  (V : VT) (r9 : Int32) (h : d_X5_freeMany x1 V = some r9) : AM 5 0 yX5_freeMany (.code yX5_freeMany cX5_freeMany 4 (some .int)) (fun ad => [.ref (ad 109), .int x1]) V V (rI r9) := by
  unfold d_X5_freeMany at h
  refine AM.of (by decide +kernel) (fun ad => Nat.le_of_ble_eq_true rfl) (fun {p l e s m args below meth c D cs ad b0} C hT => ?_)
  have C : Ctx p l s m args meth c D cs ad b0 RX5 cX5_freeMany 4 (some .int) := C
  refine a_sub (lv' := [(0, .ref (ad 109)), (1, .int x1)]) [0, 1] rfl ?_
  refine a_iconst (v := (0 : Int32)) C dX5_freeMany_0 rfl ?_
  refine a_istore_n (lv' := [(2, .int (0 : Int32)), (0, .ref (ad 109)), (1, .int x1)]) C dX5_freeMany_1 rfl (by decide) rfl ?_
  refine a_iconst (v := (0 : Int32)) C dX5_freeMany_2 rfl ?_
  refine a_istore_n (lv' := [(3, .int (0 : Int32)), (2, .int (0 : Int32)), (0, .ref (ad 109)), (1, .int x1)]) C dX5_freeMany_3 rfl (by decide) rfl ?_
  refine a_sub (lv' := [(0, .ref (ad 109)), (1, .int x1), (2, .int (0 : Int32)), (3, .int (0 : Int32))]) [2, 3, 1, 0] rfl ?_
  exact w_X5_freeMany_4 C hT x1 (0 : Int32) (0 : Int32) h
set_option maxRecDepth 20000 in
set_option maxHeartbeats 4000000 in
theorem w_X5_neighbours_4 {p : Program} {l : Launch} {e : Env} {s : State} {m : MethodId} {args : Array Value} {below : List Frame} {meth : Method} {c : Code} {D : va_G} {cs : Nat → ClassId} {ad : Nat → Nat} {b0 : Nat} (C : Ctx p l s m args meth c D cs ad b0 RX5 cX5_neighbours 4 (some .int)) (hT : ∀ x ∈ c.exceptionTable.toList, False)   {V : VT} {r9 : Int32}     :
    ∀ (x1 x2 x3 : Int32) , d_X5_neighbours_4 V x1 x2 x3 = some r9 → AW p l e (rmOf 3 0) s m args below meth c D cs ad b0 (QF below D cs ad b0 V ((rI r9) ad) args s 0) 4 0 V [(0, .ref (ad 109)), (1, .int x1), (2, .int x2), (3, .int x3)] [] 4 := by
  refine lo3_ind (P := fun x1 x2 x3 => AW p l e (rmOf 3 0) s m args below meth c D cs ad b0 (QF below D cs ad b0 V ((rI r9) ad) args s 0) 4 0 V [(0, .ref (ad 109)), (1, .int x1), (2, .int x2), (3, .int x3)] [] 4) ?_ FU
  intro k4 hk4 x1 x2 x3 h
  unfold d_X5_neighbours_4b at h
  refine a_iload_n (q := 3) C dX5_neighbours_4 rfl rfl ?_
  refine a_aload_n (q := 0) C dX5_neighbours_5 rfl rfl ?_
  refine a_getr (a := 109) (t := 110) C dX5_neighbours_6 fl_RX5_7 rfl rfl ?_
  refine a_iconst (v := (0 : Int32)) C dX5_neighbours_9 rfl ?_
  refine a_iald (a := 110) (x := (V 110 0)) C dX5_neighbours_10 rfl (in_lit (by decide)) rfl ?_
  refine a_icmp_ge (tgt := 37) C dX5_neighbours_11 (by decide) (fun c1 => ?_) (fun c1 => ?_)
  · have h := it_t c1 h
    refine a_iload_n (q := 2) C dX5_neighbours_37 rfl rfl ?_
    obtain rfl := ret1 h
    exact a_iret C dX5_neighbours_38 rfl (by decide) rfl rfl
  · have h := it_f c1 h
    refine a_iload_n (q := 2) C dX5_neighbours_14 rfl rfl ?_
    refine a_aload_n (q := 0) C dX5_neighbours_15 rfl rfl ?_
    refine a_iload_n (q := 1) C dX5_neighbours_16 rfl rfl ?_
    refine a_iload_n (q := 3) C dX5_neighbours_17 rfl rfl ?_
    obtain ⟨r3, g2, h⟩ := bd_spec h
    refine a_cVi (a := 109) (st := [.int x2]) C dX5_neighbours_18 cv_RX5_67 (w_X5_touches x1 x3  V r3 g2) rfl rfl rfl rfl rfl ⟨Nat.le_of_ble_eq_true rfl, Nat.le_of_ble_eq_true rfl, Nat.le_of_ble_eq_true rfl, Nat.le_of_ble_eq_true rfl⟩ (Nat.le_of_ble_eq_true rfl) ?_
    refine a_if_eq (tgt := 28) C dX5_neighbours_21 (by decide) (fun c4 => ?_) (fun c4 => ?_)
    · have h := it_t c4 h
      refine a_iconst (v := (0 : Int32)) C dX5_neighbours_28 rfl ?_
      refine a_iadd C dX5_neighbours_29 ?_
      refine a_istore_n (lv' := [(2, .int (x2 + (0 : Int32))), (0, .ref (ad 109)), (1, .int x1), (3, .int x3)]) C dX5_neighbours_30 rfl (by decide) rfl ?_
      refine a_iinc (q := 3) (v := (x3 + (1 : Int32))) (lv' := [(3, .int (x3 + (1 : Int32))), (2, .int (x2 + (0 : Int32))), (0, .ref (ad 109)), (1, .int x1)]) C dX5_neighbours_31 rfl rfl (by decide) rfl ?_
      refine a_goto (tgt := 4) C dX5_neighbours_34 (by decide) ?_
      refine a_sub (lv' := [(0, .ref (ad 109)), (1, .int x1), (2, .int (x2 + (0 : Int32))), (3, .int (x3 + (1 : Int32)))]) [2, 3, 1, 0] rfl ?_
      exact hk4 x1 (x2 + (0 : Int32)) (x3 + (1 : Int32)) h
    · have h := it_f c4 h
      refine a_iconst (v := (1 : Int32)) C dX5_neighbours_24 rfl ?_
      refine a_goto (tgt := 29) C dX5_neighbours_25 (by decide) ?_
      refine a_iadd C dX5_neighbours_29 ?_
      refine a_istore_n (lv' := [(2, .int (x2 + (1 : Int32))), (0, .ref (ad 109)), (1, .int x1), (3, .int x3)]) C dX5_neighbours_30 rfl (by decide) rfl ?_
      refine a_iinc (q := 3) (v := (x3 + (1 : Int32))) (lv' := [(3, .int (x3 + (1 : Int32))), (2, .int (x2 + (1 : Int32))), (0, .ref (ad 109)), (1, .int x1)]) C dX5_neighbours_31 rfl rfl (by decide) rfl ?_
      refine a_goto (tgt := 4) C dX5_neighbours_34 (by decide) ?_
      refine a_sub (lv' := [(0, .ref (ad 109)), (1, .int x1), (2, .int (x2 + (1 : Int32))), (3, .int (x3 + (1 : Int32)))]) [2, 3, 1, 0] rfl ?_
      exact hk4 x1 (x2 + (1 : Int32)) (x3 + (1 : Int32)) h
set_option maxRecDepth 20000 in
set_option maxHeartbeats 4000000 in
theorem w_X5_neighbours (x1 : Int32)  (V : VT) (r9 : Int32) (h : d_X5_neighbours x1 V = some r9) : AM 3 0 yX5_neighbours (.code yX5_neighbours cX5_neighbours 4 (some .int)) (fun ad => [.ref (ad 109), .int x1]) V V (rI r9) := by
  unfold d_X5_neighbours at h
  refine AM.of (by decide +kernel) (fun ad => Nat.le_of_ble_eq_true rfl) (fun {p l e s m args below meth c D cs ad b0} C hT => ?_)
  have C : Ctx p l s m args meth c D cs ad b0 RX5 cX5_neighbours 4 (some .int) := C
  refine a_sub (lv' := [(0, .ref (ad 109)), (1, .int x1)]) [0, 1] rfl ?_
  refine a_iconst (v := (0 : Int32)) C dX5_neighbours_0 rfl ?_
  refine a_istore_n (lv' := [(2, .int (0 : Int32)), (0, .ref (ad 109)), (1, .int x1)]) C dX5_neighbours_1 rfl (by decide) rfl ?_
  refine a_iconst (v := (0 : Int32)) C dX5_neighbours_2 rfl ?_
  refine a_istore_n (lv' := [(3, .int (0 : Int32)), (2, .int (0 : Int32)), (0, .ref (ad 109)), (1, .int x1)]) C dX5_neighbours_3 rfl (by decide) rfl ?_
  refine a_sub (lv' := [(0, .ref (ad 109)), (1, .int x1), (2, .int (0 : Int32)), (3, .int (0 : Int32))]) [2, 3, 1, 0] rfl ?_
  exact w_X5_neighbours_4 C hT x1 (0 : Int32) (0 : Int32) h
set_option maxRecDepth 20000 in
set_option maxHeartbeats 4000000 in
theorem w_X5_placeOf_2 {p : Program} {l : Launch} {e : Env} {s : State} {m : MethodId} {args : Array Value} {below : List Frame} {meth : Method} {c : Code} {D : va_G} {cs : Nat → ClassId} {ad : Nat → Nat} {b0 : Nat} (C : Ctx p l s m args meth c D cs ad b0 RX5 cX5_placeOf 3 (some .int)) (hT : ∀ x ∈ c.exceptionTable.toList, False)   {V : VT} {r9 : Int32}     :
    ∀ (x1 x2 : Int32) , d_X5_placeOf_2 V x1 x2 = some r9 → AW p l e (rmOf 2 0) s m args below meth c D cs ad b0 (QF below D cs ad b0 V ((rI r9) ad) args s 0) 3 0 V [(0, .ref (ad 109)), (1, .int x1), (2, .int x2)] [] 2 := by
  refine lo2_ind (P := fun x1 x2 => AW p l e (rmOf 2 0) s m args below meth c D cs ad b0 (QF below D cs ad b0 V ((rI r9) ad) args s 0) 3 0 V [(0, .ref (ad 109)), (1, .int x1), (2, .int x2)] [] 2) ?_ FU
  intro k2 hk2 x1 x2 h
  unfold d_X5_placeOf_2b at h
  refine a_iload_n (q := 2) C dX5_placeOf_2 rfl rfl ?_
  refine a_aload_n (q := 0) C dX5_placeOf_3 rfl rfl ?_
  refine a_getr (a := 109) (t := 110) C dX5_placeOf_4 fl_RX5_7 rfl rfl ?_
  refine a_bipush (v := (47 : Int32)) C dX5_placeOf_7 rfl ?_
  refine a_iald (a := 110) (x := (V 110 47)) C dX5_placeOf_9 rfl (in_lit (by decide)) rfl ?_
  refine a_icmp_ge (tgt := 34) C dX5_placeOf_10 (by decide) (fun c1 => ?_) (fun c1 => ?_)
  · have h := it_t c1 h
    refine a_iconst (v := (-1 : Int32)) C dX5_placeOf_34 rfl ?_
    obtain rfl := ret1 h
    exact a_iret C dX5_placeOf_35 rfl (by decide) rfl rfl
  · have h := it_f c1 h
    refine a_aload_n (q := 0) C dX5_placeOf_13 rfl rfl ?_
    refine a_getr (a := 109) (t := 110) C dX5_placeOf_14 fl_RX5_7 rfl rfl ?_
    refine a_bipush (v := (48 : Int32)) C dX5_placeOf_17 rfl ?_
    refine a_iload_n (q := 2) C dX5_placeOf_19 rfl rfl ?_
    refine a_iadd C dX5_placeOf_20 ?_
    obtain ⟨z2, h⟩ := asr_spec h
    refine a_iald (a := 110) (x := (V 110 ((48 : Int32) + x2).toNatClampNeg)) C dX5_placeOf_21 rfl (inb_in z2) rfl ?_
    refine a_iload_n (q := 1) C dX5_placeOf_22 rfl rfl ?_
    refine a_icmp_ne (tgt := 28) C dX5_placeOf_23 (by decide) (fun c3 => ?_) (fun c3 => ?_)
    · have h := it_f c3 h
      refine a_iinc (q := 2) (v := (x2 + (1 : Int32))) (lv' := [(2, .int (x2 + (1 : Int32))), (0, .ref (ad 109)), (1, .int x1)]) C dX5_placeOf_28 rfl rfl (by decide) rfl ?_
      refine a_goto (tgt := 2) C dX5_placeOf_31 (by decide) ?_
      refine a_sub (lv' := [(0, .ref (ad 109)), (1, .int x1), (2, .int (x2 + (1 : Int32)))]) [1, 2, 0] rfl ?_
      exact hk2 x1 (x2 + (1 : Int32)) h
    · have h := it_t c3 h
      refine a_iload_n (q := 2) C dX5_placeOf_26 rfl rfl ?_
      obtain rfl := ret1 h
      exact a_iret C dX5_placeOf_27 rfl (by decide) rfl rfl
set_option maxRecDepth 20000 in
set_option maxHeartbeats 4000000 in
theorem w_X5_placeOf (x1 : Int32)  (V : VT) (r9 : Int32) (h : d_X5_placeOf x1 V = some r9) : AM 2 0 yX5_placeOf (.code yX5_placeOf cX5_placeOf 3 (some .int)) (fun ad => [.ref (ad 109), .int x1]) V V (rI r9) := by
  unfold d_X5_placeOf at h
  refine AM.of (by decide +kernel) (fun ad => Nat.le_of_ble_eq_true rfl) (fun {p l e s m args below meth c D cs ad b0} C hT => ?_)
  have C : Ctx p l s m args meth c D cs ad b0 RX5 cX5_placeOf 3 (some .int) := C
  refine a_sub (lv' := [(0, .ref (ad 109)), (1, .int x1)]) [0, 1] rfl ?_
  refine a_iconst (v := (0 : Int32)) C dX5_placeOf_0 rfl ?_
  refine a_istore_n (lv' := [(2, .int (0 : Int32)), (0, .ref (ad 109)), (1, .int x1)]) C dX5_placeOf_1 rfl (by decide) rfl ?_
  refine a_sub (lv' := [(0, .ref (ad 109)), (1, .int x1), (2, .int (0 : Int32))]) [1, 2, 0] rfl ?_
  exact w_X5_placeOf_2 C hT x1 (0 : Int32) h
set_option maxRecDepth 20000 in
set_option maxHeartbeats 4000000 in
theorem w_X5_countryOf_28 {p : Program} {l : Launch} {e : Env} {s : State} {m : MethodId} {args : Array Value} {below : List Frame} {meth : Method} {c : Code} {D : va_G} {cs : Nat → ClassId} {ad : Nat → Nat} {b0 : Nat} (C : Ctx p l s m args meth c D cs ad b0 RX5 cX5_countryOf 3 (some .int)) (hT : ∀ x ∈ c.exceptionTable.toList, False)    {r9 : Int32} {W9 : VT}     :
    ∀ (x1 x2 s0 : Int32) (V : VT), d_X5_countryOf_28 x1 x2 s0 V = some (r9, W9) → AW p l e (rmOf 6 0) s m args below meth c D cs ad b0 (QF below D cs ad b0 W9 ((rI r9) ad) args s 0) 3 0 V [(0, .ref (ad 109)), (1, .int x1), (2, .int x2)] [.int s0, .ref (ad 109)] 28 := by
  intro x1 x2 s0 V h
  unfold d_X5_countryOf_28 at h
  obtain ⟨r3, V2, g1, h⟩ := bw_spec h
  refine a_cVi (a := 109) (st := []) C dX5_countryOf_28 cv_RX5_71 (w_X5_fails s0  V r3 V2 g1) rfl rfl rfl rfl rfl ⟨Nat.le_of_ble_eq_true rfl, Nat.le_of_ble_eq_true rfl, Nat.le_of_ble_eq_true rfl, Nat.le_of_ble_eq_true rfl⟩ (Nat.le_of_ble_eq_true rfl) ?_
  refine a_if_eq (tgt := 36) C dX5_countryOf_31 (by decide) (fun c4 => ?_) (fun c4 => ?_)
  · have h := it_t c4 h
    refine a_iload_n (q := 2) C dX5_countryOf_36 rfl rfl ?_
    by_cases c5 : x2 = (2 : Int32)
    · have h := it_t c5 h
      refine a_tswIn (tgt := 72) (v := (2 : Int32)) C dX5_countryOf_37 c5 (by decide) (by decide) rfl (by decide) ?_
      refine a_aload_n (q := 0) C dX5_countryOf_72 rfl rfl ?_
      refine a_iload_n (q := 1) C dX5_countryOf_73 rfl rfl ?_
      obtain ⟨r7, g6, h⟩ := bd_spec h
      refine a_cVi (a := 109) (st := []) C dX5_countryOf_74 cv_RX5_103 (w_X5_neighbours x1  V2 r7 g6) rfl rfl rfl rfl rfl ⟨Nat.le_of_ble_eq_true rfl, Nat.le_of_ble_eq_true rfl, Nat.le_of_ble_eq_true rfl, Nat.le_of_ble_eq_true rfl⟩ (Nat.le_of_ble_eq_true rfl) ?_
      obtain ⟨rfl, rfl⟩ := ret2 h
      exact a_iret C dX5_countryOf_77 rfl (by decide) rfl rfl
    · have h := it_f c5 h
      by_cases c8 : x2 = (3 : Int32)
      · have h := it_t c8 h
        refine a_tswIn (tgt := 78) (v := (3 : Int32)) C dX5_countryOf_37 c8 (by decide) (by decide) rfl (by decide) ?_
        refine a_aload_n (q := 0) C dX5_countryOf_78 rfl rfl ?_
        refine a_iload_n (q := 1) C dX5_countryOf_79 rfl rfl ?_
        obtain ⟨r10, g9, h⟩ := bd_spec h
        refine a_cVi (a := 109) (st := []) C dX5_countryOf_80 cv_RX5_107 (w_X5_freeMany x1  V2 r10 g9) rfl rfl rfl rfl rfl ⟨Nat.le_of_ble_eq_true rfl, Nat.le_of_ble_eq_true rfl, Nat.le_of_ble_eq_true rfl, Nat.le_of_ble_eq_true rfl⟩ (Nat.le_of_ble_eq_true rfl) ?_
        obtain ⟨rfl, rfl⟩ := ret2 h
        exact a_iret C dX5_countryOf_83 rfl (by decide) rfl rfl
      · have h := it_f c8 h
        by_cases c11 : x2 = (4 : Int32)
        · have h := it_t c11 h
          refine a_tswIn (tgt := 84) (v := (4 : Int32)) C dX5_countryOf_37 c11 (by decide) (by decide) rfl (by decide) ?_
          refine a_aload_n (q := 0) C dX5_countryOf_84 rfl rfl ?_
          refine a_iload_n (q := 1) C dX5_countryOf_85 rfl rfl ?_
          refine a_iconst (v := (2 : Int32)) C dX5_countryOf_86 rfl ?_
          obtain ⟨r13, g12, h⟩ := bd_spec h
          refine a_cVi (a := 109) (st := []) C dX5_countryOf_87 cv_RX5_63 (w_X5_of x1 (2 : Int32)  V2 r13 g12) rfl rfl rfl rfl rfl ⟨Nat.le_of_ble_eq_true rfl, Nat.le_of_ble_eq_true rfl, Nat.le_of_ble_eq_true rfl, Nat.le_of_ble_eq_true rfl⟩ (Nat.le_of_ble_eq_true rfl) ?_
          obtain ⟨rfl, rfl⟩ := ret2 h
          exact a_iret C dX5_countryOf_90 rfl (by decide) rfl rfl
        · have h := it_f c11 h
          by_cases c14 : x2 = (5 : Int32)
          · have h := it_t c14 h
            refine a_tswIn (tgt := 91) (v := (5 : Int32)) C dX5_countryOf_37 c14 (by decide) (by decide) rfl (by decide) ?_
            refine a_aload_n (q := 0) C dX5_countryOf_91 rfl rfl ?_
            refine a_iload_n (q := 1) C dX5_countryOf_92 rfl rfl ?_
            refine a_iconst (v := (3 : Int32)) C dX5_countryOf_93 rfl ?_
            obtain ⟨r16, g15, h⟩ := bd_spec h
            refine a_cVi (a := 109) (st := []) C dX5_countryOf_94 cv_RX5_63 (w_X5_of x1 (3 : Int32)  V2 r16 g15) rfl rfl rfl rfl rfl ⟨Nat.le_of_ble_eq_true rfl, Nat.le_of_ble_eq_true rfl, Nat.le_of_ble_eq_true rfl, Nat.le_of_ble_eq_true rfl⟩ (Nat.le_of_ble_eq_true rfl) ?_
            obtain ⟨rfl, rfl⟩ := ret2 h
            exact a_iret C dX5_countryOf_97 rfl (by decide) rfl rfl
          · have h := it_f c14 h
            by_cases c17 : x2 = (6 : Int32)
            · have h := it_t c17 h
              refine a_tswIn (tgt := 98) (v := (6 : Int32)) C dX5_countryOf_37 c17 (by decide) (by decide) rfl (by decide) ?_
              refine a_aload_n (q := 0) C dX5_countryOf_98 rfl rfl ?_
              refine a_iload_n (q := 1) C dX5_countryOf_99 rfl rfl ?_
              obtain ⟨r19, g18, h⟩ := bd_spec h
              refine a_cVi (a := 109) (st := []) C dX5_countryOf_100 cv_RX5_110 (w_X5_placeOf x1  V2 r19 g18) rfl rfl rfl rfl rfl ⟨Nat.le_of_ble_eq_true rfl, Nat.le_of_ble_eq_true rfl, Nat.le_of_ble_eq_true rfl, Nat.le_of_ble_eq_true rfl⟩ (Nat.le_of_ble_eq_true rfl) ?_
              obtain ⟨rfl, rfl⟩ := ret2 h
              exact a_iret C dX5_countryOf_103 rfl (by decide) rfl rfl
            · have h := it_f c17 h
              refine a_tswOut (tgt := 104) C dX5_countryOf_37 (by have q0 := lv_neT (a := 2) c5 rfl; have q1 := lv_neT (a := 3) c8 rfl; have q2 := lv_neT (a := 4) c11 rfl; have q3 := lv_neT (a := 5) c14 rfl; have q4 := lv_neT (a := 6) c17 rfl; omega) (by decide) ?_
              refine a_aload_n (q := 0) C dX5_countryOf_104 rfl rfl ?_
              refine a_iload_n (q := 1) C dX5_countryOf_105 rfl rfl ?_
              refine a_iload_n (q := 2) C dX5_countryOf_106 rfl rfl ?_
              obtain ⟨r21, g20, h⟩ := bd_spec h
              refine a_cVi (a := 109) (st := []) C dX5_countryOf_107 cv_RX5_63 (w_X5_of x1 x2  V2 r21 g20) rfl rfl rfl rfl rfl ⟨Nat.le_of_ble_eq_true rfl, Nat.le_of_ble_eq_true rfl, Nat.le_of_ble_eq_true rfl, Nat.le_of_ble_eq_true rfl⟩ (Nat.le_of_ble_eq_true rfl) ?_
              obtain ⟨rfl, rfl⟩ := ret2 h
              exact a_iret C dX5_countryOf_110 rfl (by decide) rfl rfl
  · have h := it_f c4 h
    refine a_iconst (v := (0 : Int32)) C dX5_countryOf_34 rfl ?_
    obtain ⟨rfl, rfl⟩ := ret2 h
    exact a_iret C dX5_countryOf_35 rfl (by decide) rfl rfl
set_option maxRecDepth 20000 in
set_option maxHeartbeats 4000000 in
theorem w_X5_countryOf (x1 : Int32) (x2 : Int32)  (V : VT) (r9 : Int32) (W9 : VT) (h : d_X5_countryOf x1 x2 V = some (r9, W9)) : AM 6 0 yX5_countryOf (.code yX5_countryOf cX5_countryOf 3 (some .int)) (fun ad => [.ref (ad 109), .int x1, .int x2]) V W9 (rI r9) := by
  unfold d_X5_countryOf at h
  refine AM.of (by decide +kernel) (fun ad => Nat.le_of_ble_eq_true rfl) (fun {p l e s m args below meth c D cs ad b0} C hT => ?_)
  have C : Ctx p l s m args meth c D cs ad b0 RX5 cX5_countryOf 3 (some .int) := C
  refine a_sub (lv' := [(0, .ref (ad 109)), (1, .int x1), (2, .int x2)]) [0, 1, 2] rfl ?_
  refine a_aload_n (q := 0) C dX5_countryOf_0 rfl rfl ?_
  refine a_aload_n (q := 0) C dX5_countryOf_1 rfl rfl ?_
  refine a_iload_n (q := 1) C dX5_countryOf_2 rfl rfl ?_
  obtain ⟨r2, g1, h⟩ := bd_spec h
  refine a_cVi (a := 109) (st := [.ref (ad 109)]) C dX5_countryOf_3 cv_RX5_87 (w_X5_isCountry x1  V r2 g1) rfl rfl rfl rfl rfl ⟨Nat.le_of_ble_eq_true rfl, Nat.le_of_ble_eq_true rfl, Nat.le_of_ble_eq_true rfl, Nat.le_of_ble_eq_true rfl⟩ (Nat.le_of_ble_eq_true rfl) ?_
  refine a_if_ne (tgt := 13) C dX5_countryOf_6 (by decide) (fun c3 => ?_) (fun c3 => ?_)
  · have h := it_f c3 h
    refine a_iload_n (q := 2) C dX5_countryOf_13 rfl rfl ?_
    refine a_iconst (v := (0 : Int32)) C dX5_countryOf_14 rfl ?_
    refine a_bipush (v := (6 : Int32)) C dX5_countryOf_15 rfl ?_
    obtain ⟨r5, g4, h⟩ := bd_spec h
    refine a_cSi (st := [.ref (ad 109)]) C dX5_countryOf_17 cv_RX5_59 (w_X5_in x2 (0 : Int32) (6 : Int32)  V r5 g4) rfl rfl rfl ⟨Nat.le_of_ble_eq_true rfl, Nat.le_of_ble_eq_true rfl, Nat.le_of_ble_eq_true rfl, Nat.le_of_ble_eq_true rfl⟩ (Nat.le_of_ble_eq_true rfl) ?_
    refine a_if_eq (tgt := 27) C dX5_countryOf_20 (by decide) (fun c6 => ?_) (fun c6 => ?_)
    · have h := it_t c6 h
      refine a_iconst (v := (2 : Int32)) C dX5_countryOf_27 rfl ?_
      refine a_sub (lv' := [(0, .ref (ad 109)), (1, .int x1), (2, .int x2)]) [0, 1, 2] rfl ?_
      exact w_X5_countryOf_28 C hT x1 x2 (2 : Int32) V h
    · have h := it_f c6 h
      refine a_iconst (v := (0 : Int32)) C dX5_countryOf_23 rfl ?_
      refine a_goto (tgt := 28) C dX5_countryOf_24 (by decide) ?_
      refine a_sub (lv' := [(0, .ref (ad 109)), (1, .int x1), (2, .int x2)]) [0, 1, 2] rfl ?_
      exact w_X5_countryOf_28 C hT x1 x2 (0 : Int32) V h
  · have h := it_t c3 h
    refine a_iconst (v := (1 : Int32)) C dX5_countryOf_9 rfl ?_
    refine a_goto (tgt := 28) C dX5_countryOf_10 (by decide) ?_
    refine a_sub (lv' := [(0, .ref (ad 109)), (1, .int x1), (2, .int x2)]) [0, 1, 2] rfl ?_
    exact w_X5_countryOf_28 C hT x1 x2 (1 : Int32) V h
set_option maxRecDepth 20000 in
set_option maxHeartbeats 4000000 in
theorem w_X5_hues_25 {p : Program} {l : Launch} {e : Env} {s : State} {m : MethodId} {args : Array Value} {below : List Frame} {meth : Method} {c : Code} {D : va_G} {cs : Nat → ClassId} {ad : Nat → Nat} {b0 : Nat} (C : Ctx p l s m args meth c D cs ad b0 RX5 cX5_hues 3 (some .int)) (hT : ∀ x ∈ c.exceptionTable.toList, False)    {r9 : Int32} {W9 : VT}     :
    ∀ (x1 x2 : Int32) (V : VT), d_X5_hues_25 x1 x2 V = some (r9, W9) → AW p l e (rmOf 4 0) s m args below meth c D cs ad b0 (QF below D cs ad b0 W9 ((rI r9) ad) args s 0) 3 0 V [(0, .ref (ad 109)), (1, .int x1), (2, .int x2)] [] 25 := by
  refine lo2W_ind (P := fun x1 x2 V => AW p l e (rmOf 4 0) s m args below meth c D cs ad b0 (QF below D cs ad b0 W9 ((rI r9) ad) args s 0) 3 0 V [(0, .ref (ad 109)), (1, .int x1), (2, .int x2)] [] 25) ?_ FU
  intro k25 hk25 x1 x2 V h
  unfold d_X5_hues_25b at h
  refine a_iload_n (q := 2) C dX5_hues_25 rfl rfl ?_
  refine a_aload_n (q := 0) C dX5_hues_26 rfl rfl ?_
  refine a_getr (a := 109) (t := 110) C dX5_hues_27 fl_RX5_7 rfl rfl ?_
  refine a_iconst (v := (0 : Int32)) C dX5_hues_30 rfl ?_
  refine a_iald (a := 110) (x := (V 110 0)) C dX5_hues_31 rfl (in_lit (by decide)) rfl ?_
  refine a_icmp_ge (tgt := 60) C dX5_hues_32 (by decide) (fun c1 => ?_) (fun c1 => ?_)
  · have h := it_t c1 h
    refine a_aload_n (q := 0) C dX5_hues_60 rfl rfl ?_
    refine a_aload_n (q := 0) C dX5_hues_61 rfl rfl ?_
    refine a_getr (a := 109) (t := 110) C dX5_hues_62 fl_RX5_7 rfl rfl ?_
    obtain ⟨V3, g2, h⟩ := bd_spec h
    refine a_cVv (a := 109) (st := []) C dX5_hues_65 cv_RX5_79 (w_X5_keeps 110 rfl V V3 g2) rfl rfl rfl rfl rfl ⟨Nat.le_of_ble_eq_true rfl, Nat.le_of_ble_eq_true rfl, Nat.le_of_ble_eq_true rfl, Nat.le_of_ble_eq_true rfl⟩ (Nat.le_of_ble_eq_true rfl) ?_
    refine a_aload_n (q := 0) C dX5_hues_68 rfl rfl ?_
    refine a_getr (a := 109) (t := 110) C dX5_hues_69 fl_RX5_7 rfl rfl ?_
    refine a_bipush (v := (36 : Int32)) C dX5_hues_72 rfl ?_
    refine a_iald (a := 110) (x := (V3 110 36)) C dX5_hues_74 rfl (in_lit (by decide)) rfl ?_
    refine a_istore_n (lv' := [(2, .int (V3 110 36)), (0, .ref (ad 109)), (1, .int x1)]) C dX5_hues_75 rfl (by decide) rfl ?_
    refine a_aload_n (q := 1) C dX5_hues_76 rfl rfl ?_
    refine a_getr (a := 109) (t := 110) C dX5_hues_77 fl_RX5_7 rfl rfl ?_
    refine a_bipush (v := (36 : Int32)) C dX5_hues_80 rfl ?_
    refine a_iload_n (q := 2) C dX5_hues_82 rfl rfl ?_
    refine a_iast (a := 110) C dX5_hues_83 rfl (in_lit (by decide)) ?_
    refine a_iload_n (q := 0) C dX5_hues_84 rfl rfl ?_
    obtain ⟨rfl, rfl⟩ := ret2 h
    exact a_iret C dX5_hues_85 rfl (by decide) rfl rfl
  · have h := it_f c1 h
    refine a_aload_n (q := 0) C dX5_hues_35 rfl rfl ?_
    refine a_iload_n (q := 2) C dX5_hues_36 rfl rfl ?_
    refine a_iconst (v := (1 : Int32)) C dX5_hues_37 rfl ?_
    obtain ⟨r5, g4, h⟩ := bd_spec h
    refine a_cVi (a := 109) (st := []) C dX5_hues_38 cv_RX5_63 (w_X5_of x2 (1 : Int32)  V r5 g4) rfl rfl rfl rfl rfl ⟨Nat.le_of_ble_eq_true rfl, Nat.le_of_ble_eq_true rfl, Nat.le_of_ble_eq_true rfl, Nat.le_of_ble_eq_true rfl⟩ (Nat.le_of_ble_eq_true rfl) ?_
    refine a_iload_n (q := 1) C dX5_hues_41 rfl rfl ?_
    refine a_icmp_lt (tgt := 54) C dX5_hues_42 (by decide) (fun c6 => ?_) (fun c6 => ?_)
    · have h := it_t c6 h
      refine a_iinc (q := 2) (v := (x2 + (1 : Int32))) (lv' := [(2, .int (x2 + (1 : Int32))), (0, .ref (ad 109)), (1, .int x1)]) C dX5_hues_54 rfl rfl (by decide) rfl ?_
      refine a_goto (tgt := 25) C dX5_hues_57 (by decide) ?_
      refine a_sub (lv' := [(0, .ref (ad 109)), (1, .int x1), (2, .int (x2 + (1 : Int32)))]) [1, 2, 0] rfl ?_
      exact hk25 x1 (x2 + (1 : Int32)) V h
    · have h := it_f c6 h
      refine a_aload_n (q := 0) C dX5_hues_45 rfl rfl ?_
      refine a_iconst (v := (2 : Int32)) C dX5_hues_46 rfl ?_
      refine a_bipush (v := (9 : Int32)) C dX5_hues_47 rfl ?_
      refine a_iload_n (q := 2) C dX5_hues_49 rfl rfl ?_
      obtain ⟨r9, V8, g7, h⟩ := bw_spec h
      refine a_cVi (a := 109) (st := []) C dX5_hues_50 cv_RX5_75 (w_X5_refuses (2 : Int32) (9 : Int32) x2  V r9 V8 g7) rfl rfl rfl rfl rfl ⟨Nat.le_of_ble_eq_true rfl, Nat.le_of_ble_eq_true rfl, Nat.le_of_ble_eq_true rfl, Nat.le_of_ble_eq_true rfl⟩ (Nat.le_of_ble_eq_true rfl) ?_
      obtain ⟨rfl, rfl⟩ := ret2 h
      exact a_iret C dX5_hues_53 rfl (by decide) rfl rfl
set_option maxRecDepth 20000 in
set_option maxHeartbeats 4000000 in
theorem w_X5_hues_15 {p : Program} {l : Launch} {e : Env} {s : State} {m : MethodId} {args : Array Value} {below : List Frame} {meth : Method} {c : Code} {D : va_G} {cs : Nat → ClassId} {ad : Nat → Nat} {b0 : Nat} (C : Ctx p l s m args meth c D cs ad b0 RX5 cX5_hues 3 (some .int)) (hT : ∀ x ∈ c.exceptionTable.toList, False)    {r9 : Int32} {W9 : VT}     :
    ∀ (x1 s0 : Int32) (V : VT), d_X5_hues_15 x1 s0 V = some (r9, W9) → AW p l e (rmOf 4 0) s m args below meth c D cs ad b0 (QF below D cs ad b0 W9 ((rI r9) ad) args s 0) 3 0 V [(0, .ref (ad 109)), (1, .int x1)] [.int s0, .ref (ad 109)] 15 := by
  intro x1 s0 V h
  unfold d_X5_hues_15 at h
  obtain ⟨r3, V2, g1, h⟩ := bw_spec h
  refine a_cVi (a := 109) (st := []) C dX5_hues_15 cv_RX5_71 (w_X5_fails s0  V r3 V2 g1) rfl rfl rfl rfl rfl ⟨Nat.le_of_ble_eq_true rfl, Nat.le_of_ble_eq_true rfl, Nat.le_of_ble_eq_true rfl, Nat.le_of_ble_eq_true rfl⟩ (Nat.le_of_ble_eq_true rfl) ?_
  refine a_if_eq (tgt := 23) C dX5_hues_18 (by decide) (fun c4 => ?_) (fun c4 => ?_)
  · have h := it_t c4 h
    refine a_iconst (v := (0 : Int32)) C dX5_hues_23 rfl ?_
    refine a_istore_n (lv' := [(2, .int (0 : Int32)), (0, .ref (ad 109)), (1, .int x1)]) C dX5_hues_24 rfl (by decide) rfl ?_
    refine a_sub (lv' := [(0, .ref (ad 109)), (1, .int x1), (2, .int (0 : Int32))]) [1, 2, 0] rfl ?_
    exact w_X5_hues_25 C hT x1 (0 : Int32) V2 h
  · have h := it_f c4 h
    refine a_iconst (v := (0 : Int32)) C dX5_hues_21 rfl ?_
    obtain ⟨rfl, rfl⟩ := ret2 h
    exact a_iret C dX5_hues_22 rfl (by decide) rfl rfl
set_option maxRecDepth 20000 in
set_option maxHeartbeats 4000000 in
theorem w_X5_hues (x1 : Int32)  (V : VT) (r9 : Int32) (W9 : VT) (h : d_X5_hues x1 V = some (r9, W9)) : AM 4 0 yX5_hues (.code yX5_hues cX5_hues 3 (some .int)) (fun ad => [.ref (ad 109), .int x1]) V W9 (rI r9) := by
  unfold d_X5_hues at h
  refine AM.of (by decide +kernel) (fun ad => Nat.le_of_ble_eq_true rfl) (fun {p l e s m args below meth c D cs ad b0} C hT => ?_)
  have C : Ctx p l s m args meth c D cs ad b0 RX5 cX5_hues 3 (some .int) := C
  refine a_sub (lv' := [(0, .ref (ad 109)), (1, .int x1)]) [0, 1] rfl ?_
  refine a_aload_n (q := 0) C dX5_hues_0 rfl rfl ?_
  refine a_iload_n (q := 1) C dX5_hues_1 rfl rfl ?_
  refine a_iconst (v := (1 : Int32)) C dX5_hues_2 rfl ?_
  refine a_iconst (v := (5 : Int32)) C dX5_hues_3 rfl ?_
  obtain ⟨r2, g1, h⟩ := bd_spec h
  refine a_cSi (st := [.ref (ad 109)]) C dX5_hues_4 cv_RX5_59 (w_X5_in x1 (1 : Int32) (5 : Int32)  V r2 g1) rfl rfl rfl ⟨Nat.le_of_ble_eq_true rfl, Nat.le_of_ble_eq_true rfl, Nat.le_of_ble_eq_true rfl, Nat.le_of_ble_eq_true rfl⟩ (Nat.le_of_ble_eq_true rfl) ?_
  refine a_if_eq (tgt := 14) C dX5_hues_7 (by decide) (fun c3 => ?_) (fun c3 => ?_)
  · have h := it_t c3 h
    refine a_iconst (v := (1 : Int32)) C dX5_hues_14 rfl ?_
    refine a_sub (lv' := [(0, .ref (ad 109)), (1, .int x1)]) [0, 1] rfl ?_
    exact w_X5_hues_15 C hT x1 (1 : Int32) V h
  · have h := it_f c3 h
    refine a_iconst (v := (0 : Int32)) C dX5_hues_10 rfl ?_
    refine a_goto (tgt := 15) C dX5_hues_11 (by decide) ?_
    refine a_sub (lv' := [(0, .ref (ad 109)), (1, .int x1)]) [0, 1] rfl ?_
    exact w_X5_hues_15 C hT x1 (0 : Int32) V h
set_option maxRecDepth 20000 in
set_option maxHeartbeats 4000000 in
theorem w_X5_pots_27 {p : Program} {l : Launch} {e : Env} {s : State} {m : MethodId} {args : Array Value} {below : List Frame} {meth : Method} {c : Code} {D : va_G} {cs : Nat → ClassId} {ad : Nat → Nat} {b0 : Nat} (C : Ctx p l s m args meth c D cs ad b0 RX5 cX5_pots 3 (some .int)) (hT : ∀ x ∈ c.exceptionTable.toList, False)    {r9 : Int32} {W9 : VT}     :
    ∀ (x1 x2 s0 : Int32) (V : VT), d_X5_pots_27 x1 x2 s0 V = some (r9, W9) → AW p l e (rmOf 4 0) s m args below meth c D cs ad b0 (QF below D cs ad b0 W9 ((rI r9) ad) args s 0) 3 0 V [(0, .ref (ad 109)), (1, .int x1), (2, .int x2)] [.int s0, .ref (ad 109)] 27 := by
  intro x1 x2 s0 V h
  unfold d_X5_pots_27 at h
  obtain ⟨r3, V2, g1, h⟩ := bw_spec h
  refine a_cVi (a := 109) (st := []) C dX5_pots_27 cv_RX5_71 (w_X5_fails s0  V r3 V2 g1) rfl rfl rfl rfl rfl ⟨Nat.le_of_ble_eq_true rfl, Nat.le_of_ble_eq_true rfl, Nat.le_of_ble_eq_true rfl, Nat.le_of_ble_eq_true rfl⟩ (Nat.le_of_ble_eq_true rfl) ?_
  refine a_if_eq (tgt := 35) C dX5_pots_30 (by decide) (fun c4 => ?_) (fun c4 => ?_)
  · have h := it_t c4 h
    refine a_aload_n (q := 0) C dX5_pots_35 rfl rfl ?_
    refine a_aload_n (q := 0) C dX5_pots_36 rfl rfl ?_
    refine a_getr (a := 109) (t := 110) C dX5_pots_37 fl_RX5_7 rfl rfl ?_
    obtain ⟨V6, g5, h⟩ := bd_spec h
    refine a_cVv (a := 109) (st := []) C dX5_pots_40 cv_RX5_79 (w_X5_keeps 110 rfl V2 V6 g5) rfl rfl rfl rfl rfl ⟨Nat.le_of_ble_eq_true rfl, Nat.le_of_ble_eq_true rfl, Nat.le_of_ble_eq_true rfl, Nat.le_of_ble_eq_true rfl⟩ (Nat.le_of_ble_eq_true rfl) ?_
    refine a_aload_n (q := 0) C dX5_pots_43 rfl rfl ?_
    refine a_getr (a := 109) (t := 110) C dX5_pots_44 fl_RX5_7 rfl rfl ?_
    refine a_bipush (v := (37 : Int32)) C dX5_pots_47 rfl ?_
    refine a_iload_n (q := 1) C dX5_pots_49 rfl rfl ?_
    refine a_iadd C dX5_pots_50 ?_
    refine a_bipush (v := (99 : Int32)) C dX5_pots_51 rfl ?_
    refine a_aload_n (q := 0) C dX5_pots_53 rfl rfl ?_
    refine a_getr (a := 109) (t := 110) C dX5_pots_54 fl_RX5_7 rfl rfl ?_
    refine a_bipush (v := (37 : Int32)) C dX5_pots_57 rfl ?_
    refine a_iload_n (q := 1) C dX5_pots_59 rfl rfl ?_
    refine a_iadd C dX5_pots_60 ?_
    obtain ⟨z7, h⟩ := asr_spec h
    refine a_iald (a := 110) (x := (V6 110 ((37 : Int32) + x1).toNatClampNeg)) C dX5_pots_61 rfl (inb_in z7) rfl ?_
    refine a_iload_n (q := 2) C dX5_pots_62 rfl rfl ?_
    refine a_iadd C dX5_pots_63 ?_
    obtain ⟨r9, g8, h⟩ := bd_spec h
    refine a_cSi (st := [.int ((37 : Int32) + x1), .ref (ad 110)]) C dX5_pots_64 cv_RX5_116 (w_X5_less (99 : Int32) ((V6 110 ((37 : Int32) + x1).toNatClampNeg) + x2)  V6 r9 g8) rfl rfl rfl ⟨Nat.le_of_ble_eq_true rfl, Nat.le_of_ble_eq_true rfl, Nat.le_of_ble_eq_true rfl, Nat.le_of_ble_eq_true rfl⟩ (Nat.le_of_ble_eq_true rfl) ?_
    obtain ⟨z10, h⟩ := asr_spec h
    refine a_iast (a := 110) C dX5_pots_67 rfl (inb_in z10) ?_
    refine a_aload_n (q := 0) C dX5_pots_68 rfl rfl ?_
    refine a_getr (a := 109) (t := 110) C dX5_pots_69 fl_RX5_7 rfl rfl ?_
    refine a_bipush (v := (37 : Int32)) C dX5_pots_72 rfl ?_
    refine a_iload_n (q := 1) C dX5_pots_74 rfl rfl ?_
    refine a_iadd C dX5_pots_75 ?_
    obtain ⟨z11, h⟩ := asr_spec h
    refine a_iald (a := 110) (x := ((up2 V6 110 ((37 : Int32) + x1).toNatClampNeg r9) 110 ((37 : Int32) + x1).toNatClampNeg)) C dX5_pots_76 rfl (inb_in z11) rfl ?_
    obtain ⟨rfl, rfl⟩ := ret2 h
    exact a_iret C dX5_pots_77 rfl (by decide) rfl rfl
  · have h := it_f c4 h
    refine a_iconst (v := (0 : Int32)) C dX5_pots_33 rfl ?_
    obtain ⟨rfl, rfl⟩ := ret2 h
    exact a_iret C dX5_pots_34 rfl (by decide) rfl rfl
set_option maxRecDepth 20000 in
set_option maxHeartbeats 4000000 in
theorem w_X5_pots (x1 : Int32) (x2 : Int32)  (V : VT) (r9 : Int32) (W9 : VT) (h : d_X5_pots x1 x2 V = some (r9, W9)) : AM 4 0 yX5_pots (.code yX5_pots cX5_pots 3 (some .int)) (fun ad => [.ref (ad 109), .int x1, .int x2]) V W9 (rI r9) := by
  unfold d_X5_pots at h
  refine AM.of (by decide +kernel) (fun ad => Nat.le_of_ble_eq_true rfl) (fun {p l e s m args below meth c D cs ad b0} C hT => ?_)
  have C : Ctx p l s m args meth c D cs ad b0 RX5 cX5_pots 3 (some .int) := C
  refine a_sub (lv' := [(0, .ref (ad 109)), (1, .int x1), (2, .int x2)]) [0, 1, 2] rfl ?_
  refine a_aload_n (q := 0) C dX5_pots_0 rfl rfl ?_
  refine a_iload_n (q := 1) C dX5_pots_1 rfl rfl ?_
  obtain ⟨r2, g1, h⟩ := bd_spec h
  refine a_cSi (st := [.ref (ad 109)]) C dX5_pots_2 cv_RX5_113 (w_X5_isHue x1  V r2 g1) rfl rfl rfl ⟨Nat.le_of_ble_eq_true rfl, Nat.le_of_ble_eq_true rfl, Nat.le_of_ble_eq_true rfl, Nat.le_of_ble_eq_true rfl⟩ (Nat.le_of_ble_eq_true rfl) ?_
  refine a_if_ne (tgt := 12) C dX5_pots_5 (by decide) (fun c3 => ?_) (fun c3 => ?_)
  · have h := it_f c3 h
    refine a_iload_n (q := 2) C dX5_pots_12 rfl rfl ?_
    refine a_iconst (v := (1 : Int32)) C dX5_pots_13 rfl ?_
    refine a_bipush (v := (50 : Int32)) C dX5_pots_14 rfl ?_
    obtain ⟨r5, g4, h⟩ := bd_spec h
    refine a_cSi (st := [.ref (ad 109)]) C dX5_pots_16 cv_RX5_59 (w_X5_in x2 (1 : Int32) (50 : Int32)  V r5 g4) rfl rfl rfl ⟨Nat.le_of_ble_eq_true rfl, Nat.le_of_ble_eq_true rfl, Nat.le_of_ble_eq_true rfl, Nat.le_of_ble_eq_true rfl⟩ (Nat.le_of_ble_eq_true rfl) ?_
    refine a_if_eq (tgt := 26) C dX5_pots_19 (by decide) (fun c6 => ?_) (fun c6 => ?_)
    · have h := it_t c6 h
      refine a_iconst (v := (2 : Int32)) C dX5_pots_26 rfl ?_
      refine a_sub (lv' := [(0, .ref (ad 109)), (1, .int x1), (2, .int x2)]) [0, 1, 2] rfl ?_
      exact w_X5_pots_27 C hT x1 x2 (2 : Int32) V h
    · have h := it_f c6 h
      refine a_iconst (v := (0 : Int32)) C dX5_pots_22 rfl ?_
      refine a_goto (tgt := 27) C dX5_pots_23 (by decide) ?_
      refine a_sub (lv' := [(0, .ref (ad 109)), (1, .int x1), (2, .int x2)]) [0, 1, 2] rfl ?_
      exact w_X5_pots_27 C hT x1 x2 (0 : Int32) V h
  · have h := it_t c3 h
    refine a_iconst (v := (1 : Int32)) C dX5_pots_8 rfl ?_
    refine a_goto (tgt := 27) C dX5_pots_9 (by decide) ?_
    refine a_sub (lv' := [(0, .ref (ad 109)), (1, .int x1), (2, .int x2)]) [0, 1, 2] rfl ?_
    exact w_X5_pots_27 C hT x1 x2 (1 : Int32) V h
set_option maxRecDepth 20000 in
set_option maxHeartbeats 4000000 in
theorem w_X5_paintedIn_4 {p : Program} {l : Launch} {e : Env} {s : State} {m : MethodId} {args : Array Value} {below : List Frame} {meth : Method} {c : Code} {D : va_G} {cs : Nat → ClassId} {ad : Nat → Nat} {b0 : Nat} (C : Ctx p l s m args meth c D cs ad b0 RX5 cX5_paintedIn 4 (some .int)) (hT : ∀ x ∈ c.exceptionTable.toList, False)   {V : VT} {r9 : Int32}     :
    ∀ (x1 x2 x3 : Int32) , d_X5_paintedIn_4 V x1 x2 x3 = some r9 → AW p l e (rmOf 3 0) s m args below meth c D cs ad b0 (QF below D cs ad b0 V ((rI r9) ad) args s 0) 4 0 V [(0, .ref (ad 109)), (1, .int x1), (2, .int x2), (3, .int x3)] [] 4 := by
  refine lo3_ind (P := fun x1 x2 x3 => AW p l e (rmOf 3 0) s m args below meth c D cs ad b0 (QF below D cs ad b0 V ((rI r9) ad) args s 0) 4 0 V [(0, .ref (ad 109)), (1, .int x1), (2, .int x2), (3, .int x3)] [] 4) ?_ FU
  intro k4 hk4 x1 x2 x3 h
  unfold d_X5_paintedIn_4b at h
  refine a_iload_n (q := 3) C dX5_paintedIn_4 rfl rfl ?_
  refine a_aload_n (q := 0) C dX5_paintedIn_5 rfl rfl ?_
  refine a_getr (a := 109) (t := 110) C dX5_paintedIn_6 fl_RX5_7 rfl rfl ?_
  refine a_iconst (v := (0 : Int32)) C dX5_paintedIn_9 rfl ?_
  refine a_iald (a := 110) (x := (V 110 0)) C dX5_paintedIn_10 rfl (in_lit (by decide)) rfl ?_
  refine a_icmp_ge (tgt := 38) C dX5_paintedIn_11 (by decide) (fun c1 => ?_) (fun c1 => ?_)
  · have h := it_t c1 h
    refine a_iload_n (q := 2) C dX5_paintedIn_38 rfl rfl ?_
    obtain rfl := ret1 h
    exact a_iret C dX5_paintedIn_39 rfl (by decide) rfl rfl
  · have h := it_f c1 h
    refine a_iload_n (q := 2) C dX5_paintedIn_14 rfl rfl ?_
    refine a_aload_n (q := 0) C dX5_paintedIn_15 rfl rfl ?_
    refine a_iload_n (q := 3) C dX5_paintedIn_16 rfl rfl ?_
    refine a_iconst (v := (1 : Int32)) C dX5_paintedIn_17 rfl ?_
    obtain ⟨r3, g2, h⟩ := bd_spec h
    refine a_cVi (a := 109) (st := [.int x2]) C dX5_paintedIn_18 cv_RX5_63 (w_X5_of x3 (1 : Int32)  V r3 g2) rfl rfl rfl rfl rfl ⟨Nat.le_of_ble_eq_true rfl, Nat.le_of_ble_eq_true rfl, Nat.le_of_ble_eq_true rfl, Nat.le_of_ble_eq_true rfl⟩ (Nat.le_of_ble_eq_true rfl) ?_
    refine a_iload_n (q := 1) C dX5_paintedIn_21 rfl rfl ?_
    refine a_icmp_ne (tgt := 29) C dX5_paintedIn_22 (by decide) (fun c4 => ?_) (fun c4 => ?_)
    · have h := it_f c4 h
      refine a_iconst (v := (0 : Int32)) C dX5_paintedIn_29 rfl ?_
      refine a_iadd C dX5_paintedIn_30 ?_
      refine a_istore_n (lv' := [(2, .int (x2 + (0 : Int32))), (0, .ref (ad 109)), (1, .int x1), (3, .int x3)]) C dX5_paintedIn_31 rfl (by decide) rfl ?_
      refine a_iinc (q := 3) (v := (x3 + (1 : Int32))) (lv' := [(3, .int (x3 + (1 : Int32))), (2, .int (x2 + (0 : Int32))), (0, .ref (ad 109)), (1, .int x1)]) C dX5_paintedIn_32 rfl rfl (by decide) rfl ?_
      refine a_goto (tgt := 4) C dX5_paintedIn_35 (by decide) ?_
      refine a_sub (lv' := [(0, .ref (ad 109)), (1, .int x1), (2, .int (x2 + (0 : Int32))), (3, .int (x3 + (1 : Int32)))]) [2, 3, 1, 0] rfl ?_
      exact hk4 x1 (x2 + (0 : Int32)) (x3 + (1 : Int32)) h
    · have h := it_t c4 h
      refine a_iconst (v := (1 : Int32)) C dX5_paintedIn_25 rfl ?_
      refine a_goto (tgt := 30) C dX5_paintedIn_26 (by decide) ?_
      refine a_iadd C dX5_paintedIn_30 ?_
      refine a_istore_n (lv' := [(2, .int (x2 + (1 : Int32))), (0, .ref (ad 109)), (1, .int x1), (3, .int x3)]) C dX5_paintedIn_31 rfl (by decide) rfl ?_
      refine a_iinc (q := 3) (v := (x3 + (1 : Int32))) (lv' := [(3, .int (x3 + (1 : Int32))), (2, .int (x2 + (1 : Int32))), (0, .ref (ad 109)), (1, .int x1)]) C dX5_paintedIn_32 rfl rfl (by decide) rfl ?_
      refine a_goto (tgt := 4) C dX5_paintedIn_35 (by decide) ?_
      refine a_sub (lv' := [(0, .ref (ad 109)), (1, .int x1), (2, .int (x2 + (1 : Int32))), (3, .int (x3 + (1 : Int32)))]) [2, 3, 1, 0] rfl ?_
      exact hk4 x1 (x2 + (1 : Int32)) (x3 + (1 : Int32)) h
set_option maxRecDepth 20000 in
set_option maxHeartbeats 4000000 in
theorem w_X5_paintedIn (x1 : Int32)  (V : VT) (r9 : Int32) (h : d_X5_paintedIn x1 V = some r9) : AM 3 0 yX5_paintedIn (.code yX5_paintedIn cX5_paintedIn 4 (some .int)) (fun ad => [.ref (ad 109), .int x1]) V V (rI r9) := by
  unfold d_X5_paintedIn at h
  refine AM.of (by decide +kernel) (fun ad => Nat.le_of_ble_eq_true rfl) (fun {p l e s m args below meth c D cs ad b0} C hT => ?_)
  have C : Ctx p l s m args meth c D cs ad b0 RX5 cX5_paintedIn 4 (some .int) := C
  refine a_sub (lv' := [(0, .ref (ad 109)), (1, .int x1)]) [0, 1] rfl ?_
  refine a_iconst (v := (0 : Int32)) C dX5_paintedIn_0 rfl ?_
  refine a_istore_n (lv' := [(2, .int (0 : Int32)), (0, .ref (ad 109)), (1, .int x1)]) C dX5_paintedIn_1 rfl (by decide) rfl ?_
  refine a_iconst (v := (0 : Int32)) C dX5_paintedIn_2 rfl ?_
  refine a_istore_n (lv' := [(3, .int (0 : Int32)), (2, .int (0 : Int32)), (0, .ref (ad 109)), (1, .int x1)]) C dX5_paintedIn_3 rfl (by decide) rfl ?_
  refine a_sub (lv' := [(0, .ref (ad 109)), (1, .int x1), (2, .int (0 : Int32)), (3, .int (0 : Int32))]) [2, 3, 1, 0] rfl ?_
  exact w_X5_paintedIn_4 C hT x1 (0 : Int32) (0 : Int32) h
set_option maxRecDepth 20000 in
set_option maxHeartbeats 4000000 in
theorem w_X5_hueOf_26 {p : Program} {l : Launch} {e : Env} {s : State} {m : MethodId} {args : Array Value} {below : List Frame} {meth : Method} {c : Code} {D : va_G} {cs : Nat → ClassId} {ad : Nat → Nat} {b0 : Nat} (C : Ctx p l s m args meth c D cs ad b0 RX5 cX5_hueOf 3 (some .int)) (hT : ∀ x ∈ c.exceptionTable.toList, False)    {r9 : Int32} {W9 : VT}     :
    ∀ (x1 x2 s0 : Int32) (V : VT), d_X5_hueOf_26 x1 x2 s0 V = some (r9, W9) → AW p l e (rmOf 4 0) s m args below meth c D cs ad b0 (QF below D cs ad b0 W9 ((rI r9) ad) args s 0) 3 0 V [(0, .ref (ad 109)), (1, .int x1), (2, .int x2)] [.int s0, .ref (ad 109)] 26 := by
  intro x1 x2 s0 V h
  unfold d_X5_hueOf_26 at h
  obtain ⟨r3, V2, g1, h⟩ := bw_spec h
  refine a_cVi (a := 109) (st := []) C dX5_hueOf_26 cv_RX5_71 (w_X5_fails s0  V r3 V2 g1) rfl rfl rfl rfl rfl ⟨Nat.le_of_ble_eq_true rfl, Nat.le_of_ble_eq_true rfl, Nat.le_of_ble_eq_true rfl, Nat.le_of_ble_eq_true rfl⟩ (Nat.le_of_ble_eq_true rfl) ?_
  refine a_if_eq (tgt := 34) C dX5_hueOf_29 (by decide) (fun c4 => ?_) (fun c4 => ?_)
  · have h := it_t c4 h
    refine a_iload_n (q := 2) C dX5_hueOf_34 rfl rfl ?_
    by_cases c5 : x2 = (0 : Int32)
    · have h := it_t c5 h
      refine a_tswIn (tgt := 60) (v := (0 : Int32)) C dX5_hueOf_35 c5 (by decide) (by decide) rfl (by decide) ?_
      refine a_aload_n (q := 0) C dX5_hueOf_60 rfl rfl ?_
      refine a_getr (a := 109) (t := 110) C dX5_hueOf_61 fl_RX5_7 rfl rfl ?_
      refine a_bipush (v := (37 : Int32)) C dX5_hueOf_64 rfl ?_
      refine a_iload_n (q := 1) C dX5_hueOf_66 rfl rfl ?_
      refine a_iadd C dX5_hueOf_67 ?_
      obtain ⟨z6, h⟩ := asr_spec h
      refine a_iald (a := 110) (x := (V2 110 ((37 : Int32) + x1).toNatClampNeg)) C dX5_hueOf_68 rfl (inb_in z6) rfl ?_
      obtain ⟨rfl, rfl⟩ := ret2 h
      exact a_iret C dX5_hueOf_69 rfl (by decide) rfl rfl
    · have h := it_f c5 h
      by_cases c7 : x2 = (1 : Int32)
      · have h := it_t c7 h
        refine a_tswIn (tgt := 70) (v := (1 : Int32)) C dX5_hueOf_35 c7 (by decide) (by decide) rfl (by decide) ?_
        refine a_iload_n (q := 1) C dX5_hueOf_70 rfl rfl ?_
        refine a_aload_n (q := 0) C dX5_hueOf_71 rfl rfl ?_
        refine a_getr (a := 109) (t := 110) C dX5_hueOf_72 fl_RX5_7 rfl rfl ?_
        refine a_bipush (v := (36 : Int32)) C dX5_hueOf_75 rfl ?_
        refine a_iald (a := 110) (x := (V2 110 36)) C dX5_hueOf_77 rfl (in_lit (by decide)) rfl ?_
        refine a_icmp_ge (tgt := 85) C dX5_hueOf_78 (by decide) (fun c8 => ?_) (fun c8 => ?_)
        · have h := it_t c8 h
          refine a_iconst (v := (0 : Int32)) C dX5_hueOf_85 rfl ?_
          obtain ⟨rfl, rfl⟩ := ret2 h
          exact a_iret C dX5_hueOf_86 rfl (by decide) rfl rfl
        · have h := it_f c8 h
          refine a_iconst (v := (1 : Int32)) C dX5_hueOf_81 rfl ?_
          refine a_goto (tgt := 86) C dX5_hueOf_82 (by decide) ?_
          obtain ⟨rfl, rfl⟩ := ret2 h
          exact a_iret C dX5_hueOf_86 rfl (by decide) rfl rfl
      · have h := it_f c7 h
        by_cases c9 : x2 = (2 : Int32)
        · have h := it_t c9 h
          refine a_tswIn (tgt := 87) (v := (2 : Int32)) C dX5_hueOf_35 c9 (by decide) (by decide) rfl (by decide) ?_
          refine a_aload_n (q := 0) C dX5_hueOf_87 rfl rfl ?_
          refine a_iload_n (q := 1) C dX5_hueOf_88 rfl rfl ?_
          obtain ⟨r11, g10, h⟩ := bd_spec h
          refine a_cVi (a := 109) (st := []) C dX5_hueOf_89 cv_RX5_119 (w_X5_paintedIn x1  V2 r11 g10) rfl rfl rfl rfl rfl ⟨Nat.le_of_ble_eq_true rfl, Nat.le_of_ble_eq_true rfl, Nat.le_of_ble_eq_true rfl, Nat.le_of_ble_eq_true rfl⟩ (Nat.le_of_ble_eq_true rfl) ?_
          obtain ⟨rfl, rfl⟩ := ret2 h
          exact a_iret C dX5_hueOf_92 rfl (by decide) rfl rfl
        · have h := it_f c9 h
          refine a_tswOut (tgt := 93) C dX5_hueOf_35 (by have q0 := lv_neT (a := 0) c5 rfl; have q1 := lv_neT (a := 1) c7 rfl; have q2 := lv_neT (a := 2) c9 rfl; omega) (by decide) ?_
          refine a_aload_n (q := 0) C dX5_hueOf_93 rfl rfl ?_
          refine a_getr (a := 109) (t := 110) C dX5_hueOf_94 fl_RX5_7 rfl rfl ?_
          refine a_bipush (v := (42 : Int32)) C dX5_hueOf_97 rfl ?_
          refine a_iload_n (q := 1) C dX5_hueOf_99 rfl rfl ?_
          refine a_iadd C dX5_hueOf_100 ?_
          obtain ⟨z12, h⟩ := asr_spec h
          refine a_iald (a := 110) (x := (V2 110 ((42 : Int32) + x1).toNatClampNeg)) C dX5_hueOf_101 rfl (inb_in z12) rfl ?_
          obtain ⟨rfl, rfl⟩ := ret2 h
          exact a_iret C dX5_hueOf_102 rfl (by decide) rfl rfl
  · have h := it_f c4 h
    refine a_iconst (v := (0 : Int32)) C dX5_hueOf_32 rfl ?_
    obtain ⟨rfl, rfl⟩ := ret2 h
    exact a_iret C dX5_hueOf_33 rfl (by decide) rfl rfl
set_option maxRecDepth 20000 in
set_option maxHeartbeats 4000000 in
theorem w_X5_hueOf (x1 : Int32) (x2 : Int32)  (V : VT) (r9 : Int32) (W9 : VT) (h : d_X5_hueOf x1 x2 V = some (r9, W9)) : AM 4 0 yX5_hueOf (.code yX5_hueOf cX5_hueOf 3 (some .int)) (fun ad => [.ref (ad 109), .int x1, .int x2]) V W9 (rI r9) := by
  unfold d_X5_hueOf at h
  refine AM.of (by decide +kernel) (fun ad => Nat.le_of_ble_eq_true rfl) (fun {p l e s m args below meth c D cs ad b0} C hT => ?_)
  have C : Ctx p l s m args meth c D cs ad b0 RX5 cX5_hueOf 3 (some .int) := C
  refine a_sub (lv' := [(0, .ref (ad 109)), (1, .int x1), (2, .int x2)]) [0, 1, 2] rfl ?_
  refine a_aload_n (q := 0) C dX5_hueOf_0 rfl rfl ?_
  refine a_iload_n (q := 1) C dX5_hueOf_1 rfl rfl ?_
  obtain ⟨r2, g1, h⟩ := bd_spec h
  refine a_cSi (st := [.ref (ad 109)]) C dX5_hueOf_2 cv_RX5_113 (w_X5_isHue x1  V r2 g1) rfl rfl rfl ⟨Nat.le_of_ble_eq_true rfl, Nat.le_of_ble_eq_true rfl, Nat.le_of_ble_eq_true rfl, Nat.le_of_ble_eq_true rfl⟩ (Nat.le_of_ble_eq_true rfl) ?_
  refine a_if_ne (tgt := 12) C dX5_hueOf_5 (by decide) (fun c3 => ?_) (fun c3 => ?_)
  · have h := it_f c3 h
    refine a_iload_n (q := 2) C dX5_hueOf_12 rfl rfl ?_
    refine a_iconst (v := (0 : Int32)) C dX5_hueOf_13 rfl ?_
    refine a_iconst (v := (3 : Int32)) C dX5_hueOf_14 rfl ?_
    obtain ⟨r5, g4, h⟩ := bd_spec h
    refine a_cSi (st := [.ref (ad 109)]) C dX5_hueOf_15 cv_RX5_59 (w_X5_in x2 (0 : Int32) (3 : Int32)  V r5 g4) rfl rfl rfl ⟨Nat.le_of_ble_eq_true rfl, Nat.le_of_ble_eq_true rfl, Nat.le_of_ble_eq_true rfl, Nat.le_of_ble_eq_true rfl⟩ (Nat.le_of_ble_eq_true rfl) ?_
    refine a_if_eq (tgt := 25) C dX5_hueOf_18 (by decide) (fun c6 => ?_) (fun c6 => ?_)
    · have h := it_t c6 h
      refine a_iconst (v := (2 : Int32)) C dX5_hueOf_25 rfl ?_
      refine a_sub (lv' := [(0, .ref (ad 109)), (1, .int x1), (2, .int x2)]) [0, 1, 2] rfl ?_
      exact w_X5_hueOf_26 C hT x1 x2 (2 : Int32) V h
    · have h := it_f c6 h
      refine a_iconst (v := (0 : Int32)) C dX5_hueOf_21 rfl ?_
      refine a_goto (tgt := 26) C dX5_hueOf_22 (by decide) ?_
      refine a_sub (lv' := [(0, .ref (ad 109)), (1, .int x1), (2, .int x2)]) [0, 1, 2] rfl ?_
      exact w_X5_hueOf_26 C hT x1 x2 (0 : Int32) V h
  · have h := it_t c3 h
    refine a_iconst (v := (1 : Int32)) C dX5_hueOf_8 rfl ?_
    refine a_goto (tgt := 26) C dX5_hueOf_9 (by decide) ?_
    refine a_sub (lv' := [(0, .ref (ad 109)), (1, .int x1), (2, .int x2)]) [0, 1, 2] rfl ?_
    exact w_X5_hueOf_26 C hT x1 x2 (1 : Int32) V h
set_option maxRecDepth 20000 in
set_option maxHeartbeats 4000000 in
theorem w_X5_against (x1 : Int32) (x2 : Int32)  (V : VT) (r9 : Int32) (h : d_X5_against x1 x2 V = some r9) : AM 4 0 yX5_against (.code yX5_against cX5_against 3 (some .int)) (fun ad => [.ref (ad 109), .int x1, .int x2]) V V (rI r9) := by
  unfold d_X5_against at h
  refine AM.of (by decide +kernel) (fun ad => Nat.le_of_ble_eq_true rfl) (fun {p l e s m args below meth c D cs ad b0} C hT => ?_)
  have C : Ctx p l s m args meth c D cs ad b0 RX5 cX5_against 3 (some .int) := C
  refine a_sub (lv' := [(0, .ref (ad 109)), (1, .int x1), (2, .int x2)]) [0, 1, 2] rfl ?_
  refine a_aload_n (q := 0) C dX5_against_0 rfl rfl ?_
  refine a_iload_n (q := 1) C dX5_against_1 rfl rfl ?_
  obtain ⟨r2, g1, h⟩ := bd_spec h
  refine a_cVi (a := 109) (st := []) C dX5_against_2 cv_RX5_90 (w_X5_isPainted x1  V r2 g1) rfl rfl rfl rfl rfl ⟨Nat.le_of_ble_eq_true rfl, Nat.le_of_ble_eq_true rfl, Nat.le_of_ble_eq_true rfl, Nat.le_of_ble_eq_true rfl⟩ (Nat.le_of_ble_eq_true rfl) ?_
  refine a_if_eq (tgt := 10) C dX5_against_5 (by decide) (fun c3 => ?_) (fun c3 => ?_)
  · have h := it_t c3 h
    refine a_iload_n (q := 2) C dX5_against_10 rfl rfl ?_
    refine a_aload_n (q := 0) C dX5_against_11 rfl rfl ?_
    refine a_getr (a := 109) (t := 110) C dX5_against_12 fl_RX5_7 rfl rfl ?_
    refine a_bipush (v := (36 : Int32)) C dX5_against_15 rfl ?_
    refine a_iald (a := 110) (x := (V 110 36)) C dX5_against_17 rfl (in_lit (by decide)) rfl ?_
    refine a_icmp_lt (tgt := 24) C dX5_against_18 (by decide) (fun c4 => ?_) (fun c4 => ?_)
    · have h := it_t c4 h
      refine a_aload_n (q := 0) C dX5_against_24 rfl rfl ?_
      refine a_iload_n (q := 1) C dX5_against_25 rfl rfl ?_
      refine a_iload_n (q := 2) C dX5_against_26 rfl rfl ?_
      obtain ⟨r6, g5, h⟩ := bd_spec h
      refine a_cVi (a := 109) (st := []) C dX5_against_27 cv_RX5_97 (w_X5_neighbourIn x1 x2  V r6 g5) rfl rfl rfl rfl rfl ⟨Nat.le_of_ble_eq_true rfl, Nat.le_of_ble_eq_true rfl, Nat.le_of_ble_eq_true rfl, Nat.le_of_ble_eq_true rfl⟩ (Nat.le_of_ble_eq_true rfl) ?_
      refine a_if_lt (tgt := 35) C dX5_against_30 (by decide) (fun c7 => ?_) (fun c7 => ?_)
      · have h := it_t c7 h
        refine a_aload_n (q := 0) C dX5_against_35 rfl rfl ?_
        refine a_getr (a := 109) (t := 110) C dX5_against_36 fl_RX5_7 rfl rfl ?_
        refine a_bipush (v := (37 : Int32)) C dX5_against_39 rfl ?_
        refine a_iload_n (q := 2) C dX5_against_41 rfl rfl ?_
        refine a_iadd C dX5_against_42 ?_
        obtain ⟨z8, h⟩ := asr_spec h
        refine a_iald (a := 110) (x := (V 110 ((37 : Int32) + x2).toNatClampNeg)) C dX5_against_43 rfl (inb_in z8) rfl ?_
        refine a_aload_n (q := 0) C dX5_against_44 rfl rfl ?_
        refine a_iload_n (q := 1) C dX5_against_45 rfl rfl ?_
        refine a_iconst (v := (0 : Int32)) C dX5_against_46 rfl ?_
        obtain ⟨r10, g9, h⟩ := bd_spec h
        refine a_cVi (a := 109) (st := [.int (V 110 ((37 : Int32) + x2).toNatClampNeg)]) C dX5_against_47 cv_RX5_63 (w_X5_of x1 (0 : Int32)  V r10 g9) rfl rfl rfl rfl rfl ⟨Nat.le_of_ble_eq_true rfl, Nat.le_of_ble_eq_true rfl, Nat.le_of_ble_eq_true rfl, Nat.le_of_ble_eq_true rfl⟩ (Nat.le_of_ble_eq_true rfl) ?_
        refine a_icmp_ge (tgt := 57) C dX5_against_50 (by decide) (fun c11 => ?_) (fun c11 => ?_)
        · have h := it_t c11 h
          refine a_iconst (v := (0 : Int32)) C dX5_against_57 rfl ?_
          obtain rfl := ret1 h
          exact a_iret C dX5_against_58 rfl (by decide) rfl rfl
        · have h := it_f c11 h
          refine a_iconst (v := (4 : Int32)) C dX5_against_53 rfl ?_
          refine a_goto (tgt := 58) C dX5_against_54 (by decide) ?_
          obtain rfl := ret1 h
          exact a_iret C dX5_against_58 rfl (by decide) rfl rfl
      · have h := it_f c7 h
        refine a_iconst (v := (3 : Int32)) C dX5_against_33 rfl ?_
        obtain rfl := ret1 h
        exact a_iret C dX5_against_34 rfl (by decide) rfl rfl
    · have h := it_f c4 h
      refine a_bipush (v := (10 : Int32)) C dX5_against_21 rfl ?_
      obtain rfl := ret1 h
      exact a_iret C dX5_against_23 rfl (by decide) rfl rfl
  · have h := it_f c3 h
    refine a_iconst (v := (2 : Int32)) C dX5_against_8 rfl ?_
    obtain rfl := ret1 h
    exact a_iret C dX5_against_9 rfl (by decide) rfl rfl
set_option maxRecDepth 20000 in
set_option maxHeartbeats 4000000 in
theorem w_X5_paints (x1 : Int32) (x2 : Int32)  (V : VT) (W9 : VT) (h : d_X5_paints x1 x2 V = some W9) : AM 3 0 yX5_paints (.code yX5_paints cX5_paints 3 (none)) (fun ad => [.ref (ad 109), .int x1, .int x2]) V W9 (rV) := by
  unfold d_X5_paints at h
  refine AM.of (by decide +kernel) (fun ad => Nat.le_of_ble_eq_true rfl) (fun {p l e s m args below meth c D cs ad b0} C hT => ?_)
  have C : Ctx p l s m args meth c D cs ad b0 RX5 cX5_paints 3 (none) := C
  refine a_sub (lv' := [(0, .ref (ad 109)), (1, .int x1), (2, .int x2)]) [0, 1, 2] rfl ?_
  refine a_aload_n (q := 0) C dX5_paints_0 rfl rfl ?_
  refine a_iload_n (q := 1) C dX5_paints_1 rfl rfl ?_
  refine a_iconst (v := (1 : Int32)) C dX5_paints_2 rfl ?_
  refine a_iload_n (q := 2) C dX5_paints_3 rfl rfl ?_
  obtain ⟨V2, g1, h⟩ := bd_spec h
  refine a_cVv (a := 109) (st := []) C dX5_paints_4 cv_RX5_83 (w_X5_lays x1 (1 : Int32) x2  V V2 g1) rfl rfl rfl rfl rfl ⟨Nat.le_of_ble_eq_true rfl, Nat.le_of_ble_eq_true rfl, Nat.le_of_ble_eq_true rfl, Nat.le_of_ble_eq_true rfl⟩ (Nat.le_of_ble_eq_true rfl) ?_
  refine a_aload_n (q := 0) C dX5_paints_7 rfl rfl ?_
  refine a_getr (a := 109) (t := 110) C dX5_paints_8 fl_RX5_7 rfl rfl ?_
  refine a_bipush (v := (37 : Int32)) C dX5_paints_11 rfl ?_
  refine a_iload_n (q := 2) C dX5_paints_13 rfl rfl ?_
  refine a_iadd C dX5_paints_14 ?_
  refine a_dup2 C dX5_paints_15 rfl rfl ?_
  obtain ⟨z3, h⟩ := asr_spec h
  refine a_iald (a := 110) (x := (V2 110 ((37 : Int32) + x2).toNatClampNeg)) C dX5_paints_16 rfl (inb_in z3) rfl ?_
  refine a_aload_n (q := 0) C dX5_paints_17 rfl rfl ?_
  refine a_iload_n (q := 1) C dX5_paints_18 rfl rfl ?_
  refine a_iconst (v := (0 : Int32)) C dX5_paints_19 rfl ?_
  obtain ⟨r5, g4, h⟩ := bd_spec h
  refine a_cVi (a := 109) (st := [.int (V2 110 ((37 : Int32) + x2).toNatClampNeg), .int ((37 : Int32) + x2), .ref (ad 110)]) C dX5_paints_20 cv_RX5_63 (w_X5_of x1 (0 : Int32)  V2 r5 g4) rfl rfl rfl rfl rfl ⟨Nat.le_of_ble_eq_true rfl, Nat.le_of_ble_eq_true rfl, Nat.le_of_ble_eq_true rfl, Nat.le_of_ble_eq_true rfl⟩ (Nat.le_of_ble_eq_true rfl) ?_
  refine a_isub C dX5_paints_23 ?_
  obtain ⟨z6, h⟩ := asr_spec h
  refine a_iast (a := 110) C dX5_paints_24 rfl (inb_in z6) ?_
  refine a_aload_n (q := 0) C dX5_paints_25 rfl rfl ?_
  refine a_getr (a := 109) (t := 110) C dX5_paints_26 fl_RX5_7 rfl rfl ?_
  refine a_bipush (v := (42 : Int32)) C dX5_paints_29 rfl ?_
  refine a_iload_n (q := 2) C dX5_paints_31 rfl rfl ?_
  refine a_iadd C dX5_paints_32 ?_
  refine a_dup2 C dX5_paints_33 rfl rfl ?_
  obtain ⟨z7, h⟩ := asr_spec h
  refine a_iald (a := 110) (x := ((up2 V2 110 ((37 : Int32) + x2).toNatClampNeg ((V2 110 ((37 : Int32) + x2).toNatClampNeg) - r5)) 110 ((42 : Int32) + x2).toNatClampNeg)) C dX5_paints_34 rfl (inb_in z7) rfl ?_
  refine a_aload_n (q := 0) C dX5_paints_35 rfl rfl ?_
  refine a_iload_n (q := 1) C dX5_paints_36 rfl rfl ?_
  refine a_iconst (v := (0 : Int32)) C dX5_paints_37 rfl ?_
  obtain ⟨r9, g8, h⟩ := bd_spec h
  refine a_cVi (a := 109) (st := [.int ((up2 V2 110 ((37 : Int32) + x2).toNatClampNeg ((V2 110 ((37 : Int32) + x2).toNatClampNeg) - r5)) 110 ((42 : Int32) + x2).toNatClampNeg), .int ((42 : Int32) + x2), .ref (ad 110)]) C dX5_paints_38 cv_RX5_63 (w_X5_of x1 (0 : Int32)  (up2 V2 110 ((37 : Int32) + x2).toNatClampNeg ((V2 110 ((37 : Int32) + x2).toNatClampNeg) - r5)) r9 g8) rfl rfl rfl rfl rfl ⟨Nat.le_of_ble_eq_true rfl, Nat.le_of_ble_eq_true rfl, Nat.le_of_ble_eq_true rfl, Nat.le_of_ble_eq_true rfl⟩ (Nat.le_of_ble_eq_true rfl) ?_
  refine a_iadd C dX5_paints_41 ?_
  obtain ⟨z10, h⟩ := asr_spec h
  refine a_iast (a := 110) C dX5_paints_42 rfl (inb_in z10) ?_
  refine a_aload_n (q := 0) C dX5_paints_43 rfl rfl ?_
  refine a_getr (a := 109) (t := 110) C dX5_paints_44 fl_RX5_7 rfl rfl ?_
  refine a_bipush (v := (48 : Int32)) C dX5_paints_47 rfl ?_
  refine a_aload_n (q := 0) C dX5_paints_49 rfl rfl ?_
  refine a_getr (a := 109) (t := 110) C dX5_paints_50 fl_RX5_7 rfl rfl ?_
  refine a_bipush (v := (47 : Int32)) C dX5_paints_53 rfl ?_
  refine a_iald (a := 110) (x := ((up2 (up2 V2 110 ((37 : Int32) + x2).toNatClampNeg ((V2 110 ((37 : Int32) + x2).toNatClampNeg) - r5)) 110 ((42 : Int32) + x2).toNatClampNeg (((up2 V2 110 ((37 : Int32) + x2).toNatClampNeg ((V2 110 ((37 : Int32) + x2).toNatClampNeg) - r5)) 110 ((42 : Int32) + x2).toNatClampNeg) + r9)) 110 47)) C dX5_paints_55 rfl (in_lit (by decide)) rfl ?_
  refine a_iadd C dX5_paints_56 ?_
  refine a_iload_n (q := 1) C dX5_paints_57 rfl rfl ?_
  obtain ⟨z11, h⟩ := asr_spec h
  refine a_iast (a := 110) C dX5_paints_58 rfl (inb_in z11) ?_
  refine a_aload_n (q := 0) C dX5_paints_59 rfl rfl ?_
  refine a_getr (a := 109) (t := 110) C dX5_paints_60 fl_RX5_7 rfl rfl ?_
  refine a_bipush (v := (47 : Int32)) C dX5_paints_63 rfl ?_
  refine a_dup2 C dX5_paints_65 rfl rfl ?_
  refine a_iald (a := 110) (x := ((up2 (up2 (up2 V2 110 ((37 : Int32) + x2).toNatClampNeg ((V2 110 ((37 : Int32) + x2).toNatClampNeg) - r5)) 110 ((42 : Int32) + x2).toNatClampNeg (((up2 V2 110 ((37 : Int32) + x2).toNatClampNeg ((V2 110 ((37 : Int32) + x2).toNatClampNeg) - r5)) 110 ((42 : Int32) + x2).toNatClampNeg) + r9)) 110 ((48 : Int32) + ((up2 (up2 V2 110 ((37 : Int32) + x2).toNatClampNeg ((V2 110 ((37 : Int32) + x2).toNatClampNeg) - r5)) 110 ((42 : Int32) + x2).toNatClampNeg (((up2 V2 110 ((37 : Int32) + x2).toNatClampNeg ((V2 110 ((37 : Int32) + x2).toNatClampNeg) - r5)) 110 ((42 : Int32) + x2).toNatClampNeg) + r9)) 110 47)).toNatClampNeg x1) 110 47)) C dX5_paints_66 rfl (in_lit (by decide)) rfl ?_
  refine a_iconst (v := (1 : Int32)) C dX5_paints_67 rfl ?_
  refine a_iadd C dX5_paints_68 ?_
  refine a_iast (a := 110) C dX5_paints_69 rfl (in_lit (by decide)) ?_
  obtain rfl := ret1 h
  exact a_vret C dX5_paints_70 rfl (by decide) rfl rfl
set_option maxRecDepth 20000 in
set_option maxHeartbeats 4000000 in
theorem w_X5_paint_21 {p : Program} {l : Launch} {e : Env} {s : State} {m : MethodId} {args : Array Value} {below : List Frame} {meth : Method} {c : Code} {D : va_G} {cs : Nat → ClassId} {ad : Nat → Nat} {b0 : Nat} (C : Ctx p l s m args meth c D cs ad b0 RX5 cX5_paint 3 (some .int)) (hT : ∀ x ∈ c.exceptionTable.toList, False)    {r9 : Int32} {W9 : VT}     :
    ∀ (x1 x2 s0 : Int32) (V : VT), d_X5_paint_21 x1 x2 s0 V = some (r9, W9) → AW p l e (rmOf 5 0) s m args below meth c D cs ad b0 (QF below D cs ad b0 W9 ((rI r9) ad) args s 0) 3 0 V [(0, .ref (ad 109)), (1, .int x1), (2, .int x2)] [.int s0, .ref (ad 109)] 21 := by
  intro x1 x2 s0 V h
  unfold d_X5_paint_21 at h
  obtain ⟨r3, V2, g1, h⟩ := bw_spec h
  refine a_cVi (a := 109) (st := []) C dX5_paint_21 cv_RX5_71 (w_X5_fails s0  V r3 V2 g1) rfl rfl rfl rfl rfl ⟨Nat.le_of_ble_eq_true rfl, Nat.le_of_ble_eq_true rfl, Nat.le_of_ble_eq_true rfl, Nat.le_of_ble_eq_true rfl⟩ (Nat.le_of_ble_eq_true rfl) ?_
  refine a_if_eq (tgt := 29) C dX5_paint_24 (by decide) (fun c4 => ?_) (fun c4 => ?_)
  · have h := it_t c4 h
    refine a_aload_n (q := 0) C dX5_paint_29 rfl rfl ?_
    refine a_iload_n (q := 1) C dX5_paint_30 rfl rfl ?_
    refine a_iload_n (q := 2) C dX5_paint_31 rfl rfl ?_
    obtain ⟨r6, g5, h⟩ := bd_spec h
    refine a_cVi (a := 109) (st := []) C dX5_paint_32 cv_RX5_122 (w_X5_against x1 x2  V2 r6 g5) rfl rfl rfl rfl rfl ⟨Nat.le_of_ble_eq_true rfl, Nat.le_of_ble_eq_true rfl, Nat.le_of_ble_eq_true rfl, Nat.le_of_ble_eq_true rfl⟩ (Nat.le_of_ble_eq_true rfl) ?_
    by_cases c7 : r6 = (2 : Int32)
    · have h := it_t c7 h
      refine a_tswIn (tgt := 84) (v := (2 : Int32)) C dX5_paint_35 c7 (by decide) (by decide) rfl (by decide) ?_
      refine a_aload_n (q := 0) C dX5_paint_84 rfl rfl ?_
      refine a_iconst (v := (2 : Int32)) C dX5_paint_85 rfl ?_
      refine a_iconst (v := (2 : Int32)) C dX5_paint_86 rfl ?_
      refine a_aload_n (q := 0) C dX5_paint_87 rfl rfl ?_
      refine a_iload_n (q := 1) C dX5_paint_88 rfl rfl ?_
      refine a_iconst (v := (1 : Int32)) C dX5_paint_89 rfl ?_
      obtain ⟨r9, g8, h⟩ := bd_spec h
      refine a_cVi (a := 109) (st := [.int (2 : Int32), .int (2 : Int32), .ref (ad 109)]) C dX5_paint_90 cv_RX5_63 (w_X5_of x1 (1 : Int32)  V2 r9 g8) rfl rfl rfl rfl rfl ⟨Nat.le_of_ble_eq_true rfl, Nat.le_of_ble_eq_true rfl, Nat.le_of_ble_eq_true rfl, Nat.le_of_ble_eq_true rfl⟩ (Nat.le_of_ble_eq_true rfl) ?_
      obtain ⟨r12, V11, g10, h⟩ := bw_spec h
      refine a_cVi (a := 109) (st := []) C dX5_paint_93 cv_RX5_75 (w_X5_refuses (2 : Int32) (2 : Int32) r9  V2 r12 V11 g10) rfl rfl rfl rfl rfl ⟨Nat.le_of_ble_eq_true rfl, Nat.le_of_ble_eq_true rfl, Nat.le_of_ble_eq_true rfl, Nat.le_of_ble_eq_true rfl⟩ (Nat.le_of_ble_eq_true rfl) ?_
      obtain ⟨rfl, rfl⟩ := ret2 h
      exact a_iret C dX5_paint_96 rfl (by decide) rfl rfl
    · have h := it_f c7 h
      by_cases c13 : r6 = (3 : Int32)
      · have h := it_t c13 h
        refine a_tswIn (tgt := 106) (v := (3 : Int32)) C dX5_paint_35 c13 (by decide) (by decide) rfl (by decide) ?_
        refine a_aload_n (q := 0) C dX5_paint_106 rfl rfl ?_
        refine a_iconst (v := (2 : Int32)) C dX5_paint_107 rfl ?_
        refine a_iconst (v := (3 : Int32)) C dX5_paint_108 rfl ?_
        refine a_aload_n (q := 0) C dX5_paint_109 rfl rfl ?_
        refine a_iload_n (q := 1) C dX5_paint_110 rfl rfl ?_
        refine a_iload_n (q := 2) C dX5_paint_111 rfl rfl ?_
        obtain ⟨r15, g14, h⟩ := bd_spec h
        refine a_cVi (a := 109) (st := [.int (3 : Int32), .int (2 : Int32), .ref (ad 109)]) C dX5_paint_112 cv_RX5_97 (w_X5_neighbourIn x1 x2  V2 r15 g14) rfl rfl rfl rfl rfl ⟨Nat.le_of_ble_eq_true rfl, Nat.le_of_ble_eq_true rfl, Nat.le_of_ble_eq_true rfl, Nat.le_of_ble_eq_true rfl⟩ (Nat.le_of_ble_eq_true rfl) ?_
        obtain ⟨r18, V17, g16, h⟩ := bw_spec h
        refine a_cVi (a := 109) (st := []) C dX5_paint_115 cv_RX5_75 (w_X5_refuses (2 : Int32) (3 : Int32) r15  V2 r18 V17 g16) rfl rfl rfl rfl rfl ⟨Nat.le_of_ble_eq_true rfl, Nat.le_of_ble_eq_true rfl, Nat.le_of_ble_eq_true rfl, Nat.le_of_ble_eq_true rfl⟩ (Nat.le_of_ble_eq_true rfl) ?_
        obtain ⟨rfl, rfl⟩ := ret2 h
        exact a_iret C dX5_paint_118 rfl (by decide) rfl rfl
      · have h := it_f c13 h
        by_cases c19 : r6 = (4 : Int32)
        · have h := it_t c19 h
          refine a_tswIn (tgt := 119) (v := (4 : Int32)) C dX5_paint_35 c19 (by decide) (by decide) rfl (by decide) ?_
          refine a_aload_n (q := 0) C dX5_paint_119 rfl rfl ?_
          refine a_iconst (v := (2 : Int32)) C dX5_paint_120 rfl ?_
          refine a_iconst (v := (4 : Int32)) C dX5_paint_121 rfl ?_
          refine a_aload_n (q := 0) C dX5_paint_122 rfl rfl ?_
          refine a_iload_n (q := 1) C dX5_paint_123 rfl rfl ?_
          refine a_iconst (v := (0 : Int32)) C dX5_paint_124 rfl ?_
          obtain ⟨r21, g20, h⟩ := bd_spec h
          refine a_cVi (a := 109) (st := [.int (4 : Int32), .int (2 : Int32), .ref (ad 109)]) C dX5_paint_125 cv_RX5_63 (w_X5_of x1 (0 : Int32)  V2 r21 g20) rfl rfl rfl rfl rfl ⟨Nat.le_of_ble_eq_true rfl, Nat.le_of_ble_eq_true rfl, Nat.le_of_ble_eq_true rfl, Nat.le_of_ble_eq_true rfl⟩ (Nat.le_of_ble_eq_true rfl) ?_
          refine a_aload_n (q := 0) C dX5_paint_128 rfl rfl ?_
          refine a_getr (a := 109) (t := 110) C dX5_paint_129 fl_RX5_7 rfl rfl ?_
          refine a_bipush (v := (37 : Int32)) C dX5_paint_132 rfl ?_
          refine a_iload_n (q := 2) C dX5_paint_134 rfl rfl ?_
          refine a_iadd C dX5_paint_135 ?_
          obtain ⟨z22, h⟩ := asr_spec h
          refine a_iald (a := 110) (x := (V2 110 ((37 : Int32) + x2).toNatClampNeg)) C dX5_paint_136 rfl (inb_in z22) rfl ?_
          refine a_isub C dX5_paint_137 ?_
          obtain ⟨r25, V24, g23, h⟩ := bw_spec h
          refine a_cVi (a := 109) (st := []) C dX5_paint_138 cv_RX5_75 (w_X5_refuses (2 : Int32) (4 : Int32) (r21 - (V2 110 ((37 : Int32) + x2).toNatClampNeg))  V2 r25 V24 g23) rfl rfl rfl rfl rfl ⟨Nat.le_of_ble_eq_true rfl, Nat.le_of_ble_eq_true rfl, Nat.le_of_ble_eq_true rfl, Nat.le_of_ble_eq_true rfl⟩ (Nat.le_of_ble_eq_true rfl) ?_
          obtain ⟨rfl, rfl⟩ := ret2 h
          exact a_iret C dX5_paint_141 rfl (by decide) rfl rfl
        · have h := it_f c19 h
          by_cases c26 : r6 = (5 : Int32)
          · have h := it_t c26 h
            refine a_tswIn (tgt := 142) (v := (5 : Int32)) C dX5_paint_35 c26 (by decide) (by decide) rfl (by decide) ?_
            refine a_aload_n (q := 0) C dX5_paint_142 rfl rfl ?_
            refine a_aload_n (q := 0) C dX5_paint_143 rfl rfl ?_
            refine a_getr (a := 109) (t := 110) C dX5_paint_144 fl_RX5_7 rfl rfl ?_
            obtain ⟨V28, g27, h⟩ := bd_spec h
            refine a_cVv (a := 109) (st := []) C dX5_paint_147 cv_RX5_79 (w_X5_keeps 110 rfl V2 V28 g27) rfl rfl rfl rfl rfl ⟨Nat.le_of_ble_eq_true rfl, Nat.le_of_ble_eq_true rfl, Nat.le_of_ble_eq_true rfl, Nat.le_of_ble_eq_true rfl⟩ (Nat.le_of_ble_eq_true rfl) ?_
            refine a_aload_n (q := 0) C dX5_paint_150 rfl rfl ?_
            refine a_iload_n (q := 1) C dX5_paint_151 rfl rfl ?_
            refine a_iload_n (q := 2) C dX5_paint_152 rfl rfl ?_
            obtain ⟨V30, g29, h⟩ := bd_spec h
            refine a_cVv (a := 109) (st := []) C dX5_paint_153 cv_RX5_125 (w_X5_paints x1 x2  V28 V30 g29) rfl rfl rfl rfl rfl ⟨Nat.le_of_ble_eq_true rfl, Nat.le_of_ble_eq_true rfl, Nat.le_of_ble_eq_true rfl, Nat.le_of_ble_eq_true rfl⟩ (Nat.le_of_ble_eq_true rfl) ?_
            refine a_aload_n (q := 0) C dX5_paint_156 rfl rfl ?_
            refine a_getr (a := 109) (t := 110) C dX5_paint_157 fl_RX5_7 rfl rfl ?_
            refine a_bipush (v := (47 : Int32)) C dX5_paint_160 rfl ?_
            refine a_iald (a := 110) (x := (V30 110 47)) C dX5_paint_162 rfl (in_lit (by decide)) rfl ?_
            obtain ⟨rfl, rfl⟩ := ret2 h
            exact a_iret C dX5_paint_163 rfl (by decide) rfl rfl
          · have h := it_f c26 h
            by_cases c31 : r6 = (6 : Int32)
            · have h := it_t c31 h
              refine a_tswIn (tgt := 142) (v := (6 : Int32)) C dX5_paint_35 c31 (by decide) (by decide) rfl (by decide) ?_
              refine a_aload_n (q := 0) C dX5_paint_142 rfl rfl ?_
              refine a_aload_n (q := 0) C dX5_paint_143 rfl rfl ?_
              refine a_getr (a := 109) (t := 110) C dX5_paint_144 fl_RX5_7 rfl rfl ?_
              obtain ⟨V33, g32, h⟩ := bd_spec h
              refine a_cVv (a := 109) (st := []) C dX5_paint_147 cv_RX5_79 (w_X5_keeps 110 rfl V2 V33 g32) rfl rfl rfl rfl rfl ⟨Nat.le_of_ble_eq_true rfl, Nat.le_of_ble_eq_true rfl, Nat.le_of_ble_eq_true rfl, Nat.le_of_ble_eq_true rfl⟩ (Nat.le_of_ble_eq_true rfl) ?_
              refine a_aload_n (q := 0) C dX5_paint_150 rfl rfl ?_
              refine a_iload_n (q := 1) C dX5_paint_151 rfl rfl ?_
              refine a_iload_n (q := 2) C dX5_paint_152 rfl rfl ?_
              obtain ⟨V35, g34, h⟩ := bd_spec h
              refine a_cVv (a := 109) (st := []) C dX5_paint_153 cv_RX5_125 (w_X5_paints x1 x2  V33 V35 g34) rfl rfl rfl rfl rfl ⟨Nat.le_of_ble_eq_true rfl, Nat.le_of_ble_eq_true rfl, Nat.le_of_ble_eq_true rfl, Nat.le_of_ble_eq_true rfl⟩ (Nat.le_of_ble_eq_true rfl) ?_
              refine a_aload_n (q := 0) C dX5_paint_156 rfl rfl ?_
              refine a_getr (a := 109) (t := 110) C dX5_paint_157 fl_RX5_7 rfl rfl ?_
              refine a_bipush (v := (47 : Int32)) C dX5_paint_160 rfl ?_
              refine a_iald (a := 110) (x := (V35 110 47)) C dX5_paint_162 rfl (in_lit (by decide)) rfl ?_
              obtain ⟨rfl, rfl⟩ := ret2 h
              exact a_iret C dX5_paint_163 rfl (by decide) rfl rfl
            · have h := it_f c31 h
              by_cases c36 : r6 = (7 : Int32)
              · have h := it_t c36 h
                refine a_tswIn (tgt := 142) (v := (7 : Int32)) C dX5_paint_35 c36 (by decide) (by decide) rfl (by decide) ?_
                refine a_aload_n (q := 0) C dX5_paint_142 rfl rfl ?_
                refine a_aload_n (q := 0) C dX5_paint_143 rfl rfl ?_
                refine a_getr (a := 109) (t := 110) C dX5_paint_144 fl_RX5_7 rfl rfl ?_
                obtain ⟨V38, g37, h⟩ := bd_spec h
                refine a_cVv (a := 109) (st := []) C dX5_paint_147 cv_RX5_79 (w_X5_keeps 110 rfl V2 V38 g37) rfl rfl rfl rfl rfl ⟨Nat.le_of_ble_eq_true rfl, Nat.le_of_ble_eq_true rfl, Nat.le_of_ble_eq_true rfl, Nat.le_of_ble_eq_true rfl⟩ (Nat.le_of_ble_eq_true rfl) ?_
                refine a_aload_n (q := 0) C dX5_paint_150 rfl rfl ?_
                refine a_iload_n (q := 1) C dX5_paint_151 rfl rfl ?_
                refine a_iload_n (q := 2) C dX5_paint_152 rfl rfl ?_
                obtain ⟨V40, g39, h⟩ := bd_spec h
                refine a_cVv (a := 109) (st := []) C dX5_paint_153 cv_RX5_125 (w_X5_paints x1 x2  V38 V40 g39) rfl rfl rfl rfl rfl ⟨Nat.le_of_ble_eq_true rfl, Nat.le_of_ble_eq_true rfl, Nat.le_of_ble_eq_true rfl, Nat.le_of_ble_eq_true rfl⟩ (Nat.le_of_ble_eq_true rfl) ?_
                refine a_aload_n (q := 0) C dX5_paint_156 rfl rfl ?_
                refine a_getr (a := 109) (t := 110) C dX5_paint_157 fl_RX5_7 rfl rfl ?_
                refine a_bipush (v := (47 : Int32)) C dX5_paint_160 rfl ?_
                refine a_iald (a := 110) (x := (V40 110 47)) C dX5_paint_162 rfl (in_lit (by decide)) rfl ?_
                obtain ⟨rfl, rfl⟩ := ret2 h
                exact a_iret C dX5_paint_163 rfl (by decide) rfl rfl
              · have h := it_f c36 h
                by_cases c41 : r6 = (8 : Int32)
                · have h := it_t c41 h
                  refine a_tswIn (tgt := 142) (v := (8 : Int32)) C dX5_paint_35 c41 (by decide) (by decide) rfl (by decide) ?_
                  refine a_aload_n (q := 0) C dX5_paint_142 rfl rfl ?_
                  refine a_aload_n (q := 0) C dX5_paint_143 rfl rfl ?_
                  refine a_getr (a := 109) (t := 110) C dX5_paint_144 fl_RX5_7 rfl rfl ?_
                  obtain ⟨V43, g42, h⟩ := bd_spec h
                  refine a_cVv (a := 109) (st := []) C dX5_paint_147 cv_RX5_79 (w_X5_keeps 110 rfl V2 V43 g42) rfl rfl rfl rfl rfl ⟨Nat.le_of_ble_eq_true rfl, Nat.le_of_ble_eq_true rfl, Nat.le_of_ble_eq_true rfl, Nat.le_of_ble_eq_true rfl⟩ (Nat.le_of_ble_eq_true rfl) ?_
                  refine a_aload_n (q := 0) C dX5_paint_150 rfl rfl ?_
                  refine a_iload_n (q := 1) C dX5_paint_151 rfl rfl ?_
                  refine a_iload_n (q := 2) C dX5_paint_152 rfl rfl ?_
                  obtain ⟨V45, g44, h⟩ := bd_spec h
                  refine a_cVv (a := 109) (st := []) C dX5_paint_153 cv_RX5_125 (w_X5_paints x1 x2  V43 V45 g44) rfl rfl rfl rfl rfl ⟨Nat.le_of_ble_eq_true rfl, Nat.le_of_ble_eq_true rfl, Nat.le_of_ble_eq_true rfl, Nat.le_of_ble_eq_true rfl⟩ (Nat.le_of_ble_eq_true rfl) ?_
                  refine a_aload_n (q := 0) C dX5_paint_156 rfl rfl ?_
                  refine a_getr (a := 109) (t := 110) C dX5_paint_157 fl_RX5_7 rfl rfl ?_
                  refine a_bipush (v := (47 : Int32)) C dX5_paint_160 rfl ?_
                  refine a_iald (a := 110) (x := (V45 110 47)) C dX5_paint_162 rfl (in_lit (by decide)) rfl ?_
                  obtain ⟨rfl, rfl⟩ := ret2 h
                  exact a_iret C dX5_paint_163 rfl (by decide) rfl rfl
                · have h := it_f c41 h
                  by_cases c46 : r6 = (9 : Int32)
                  · have h := it_t c46 h
                    refine a_tswIn (tgt := 142) (v := (9 : Int32)) C dX5_paint_35 c46 (by decide) (by decide) rfl (by decide) ?_
                    refine a_aload_n (q := 0) C dX5_paint_142 rfl rfl ?_
                    refine a_aload_n (q := 0) C dX5_paint_143 rfl rfl ?_
                    refine a_getr (a := 109) (t := 110) C dX5_paint_144 fl_RX5_7 rfl rfl ?_
                    obtain ⟨V48, g47, h⟩ := bd_spec h
                    refine a_cVv (a := 109) (st := []) C dX5_paint_147 cv_RX5_79 (w_X5_keeps 110 rfl V2 V48 g47) rfl rfl rfl rfl rfl ⟨Nat.le_of_ble_eq_true rfl, Nat.le_of_ble_eq_true rfl, Nat.le_of_ble_eq_true rfl, Nat.le_of_ble_eq_true rfl⟩ (Nat.le_of_ble_eq_true rfl) ?_
                    refine a_aload_n (q := 0) C dX5_paint_150 rfl rfl ?_
                    refine a_iload_n (q := 1) C dX5_paint_151 rfl rfl ?_
                    refine a_iload_n (q := 2) C dX5_paint_152 rfl rfl ?_
                    obtain ⟨V50, g49, h⟩ := bd_spec h
                    refine a_cVv (a := 109) (st := []) C dX5_paint_153 cv_RX5_125 (w_X5_paints x1 x2  V48 V50 g49) rfl rfl rfl rfl rfl ⟨Nat.le_of_ble_eq_true rfl, Nat.le_of_ble_eq_true rfl, Nat.le_of_ble_eq_true rfl, Nat.le_of_ble_eq_true rfl⟩ (Nat.le_of_ble_eq_true rfl) ?_
                    refine a_aload_n (q := 0) C dX5_paint_156 rfl rfl ?_
                    refine a_getr (a := 109) (t := 110) C dX5_paint_157 fl_RX5_7 rfl rfl ?_
                    refine a_bipush (v := (47 : Int32)) C dX5_paint_160 rfl ?_
                    refine a_iald (a := 110) (x := (V50 110 47)) C dX5_paint_162 rfl (in_lit (by decide)) rfl ?_
                    obtain ⟨rfl, rfl⟩ := ret2 h
                    exact a_iret C dX5_paint_163 rfl (by decide) rfl rfl
                  · have h := it_f c46 h
                    by_cases c51 : r6 = (10 : Int32)
                    · have h := it_t c51 h
                      refine a_tswIn (tgt := 97) (v := (10 : Int32)) C dX5_paint_35 c51 (by decide) (by decide) rfl (by decide) ?_
                      refine a_aload_n (q := 0) C dX5_paint_97 rfl rfl ?_
                      refine a_iconst (v := (2 : Int32)) C dX5_paint_98 rfl ?_
                      refine a_bipush (v := (10 : Int32)) C dX5_paint_99 rfl ?_
                      refine a_iload_n (q := 2) C dX5_paint_101 rfl rfl ?_
                      obtain ⟨r54, V53, g52, h⟩ := bw_spec h
                      refine a_cVi (a := 109) (st := []) C dX5_paint_102 cv_RX5_75 (w_X5_refuses (2 : Int32) (10 : Int32) x2  V2 r54 V53 g52) rfl rfl rfl rfl rfl ⟨Nat.le_of_ble_eq_true rfl, Nat.le_of_ble_eq_true rfl, Nat.le_of_ble_eq_true rfl, Nat.le_of_ble_eq_true rfl⟩ (Nat.le_of_ble_eq_true rfl) ?_
                      obtain ⟨rfl, rfl⟩ := ret2 h
                      exact a_iret C dX5_paint_105 rfl (by decide) rfl rfl
                    · have h := it_f c51 h
                      refine a_tswOut (tgt := 142) C dX5_paint_35 (by have q0 := lv_neT (a := 2) c7 rfl; have q1 := lv_neT (a := 3) c13 rfl; have q2 := lv_neT (a := 4) c19 rfl; have q3 := lv_neT (a := 5) c26 rfl; have q4 := lv_neT (a := 6) c31 rfl; have q5 := lv_neT (a := 7) c36 rfl; have q6 := lv_neT (a := 8) c41 rfl; have q7 := lv_neT (a := 9) c46 rfl; have q8 := lv_neT (a := 10) c51 rfl; omega) (by decide) ?_
                      refine a_aload_n (q := 0) C dX5_paint_142 rfl rfl ?_
                      refine a_aload_n (q := 0) C dX5_paint_143 rfl rfl ?_
                      refine a_getr (a := 109) (t := 110) C dX5_paint_144 fl_RX5_7 rfl rfl ?_
                      obtain ⟨V56, g55, h⟩ := bd_spec h
                      refine a_cVv (a := 109) (st := []) C dX5_paint_147 cv_RX5_79 (w_X5_keeps 110 rfl V2 V56 g55) rfl rfl rfl rfl rfl ⟨Nat.le_of_ble_eq_true rfl, Nat.le_of_ble_eq_true rfl, Nat.le_of_ble_eq_true rfl, Nat.le_of_ble_eq_true rfl⟩ (Nat.le_of_ble_eq_true rfl) ?_
                      refine a_aload_n (q := 0) C dX5_paint_150 rfl rfl ?_
                      refine a_iload_n (q := 1) C dX5_paint_151 rfl rfl ?_
                      refine a_iload_n (q := 2) C dX5_paint_152 rfl rfl ?_
                      obtain ⟨V58, g57, h⟩ := bd_spec h
                      refine a_cVv (a := 109) (st := []) C dX5_paint_153 cv_RX5_125 (w_X5_paints x1 x2  V56 V58 g57) rfl rfl rfl rfl rfl ⟨Nat.le_of_ble_eq_true rfl, Nat.le_of_ble_eq_true rfl, Nat.le_of_ble_eq_true rfl, Nat.le_of_ble_eq_true rfl⟩ (Nat.le_of_ble_eq_true rfl) ?_
                      refine a_aload_n (q := 0) C dX5_paint_156 rfl rfl ?_
                      refine a_getr (a := 109) (t := 110) C dX5_paint_157 fl_RX5_7 rfl rfl ?_
                      refine a_bipush (v := (47 : Int32)) C dX5_paint_160 rfl ?_
                      refine a_iald (a := 110) (x := (V58 110 47)) C dX5_paint_162 rfl (in_lit (by decide)) rfl ?_
                      obtain ⟨rfl, rfl⟩ := ret2 h
                      exact a_iret C dX5_paint_163 rfl (by decide) rfl rfl
  · have h := it_f c4 h
    refine a_iconst (v := (0 : Int32)) C dX5_paint_27 rfl ?_
    obtain ⟨rfl, rfl⟩ := ret2 h
    exact a_iret C dX5_paint_28 rfl (by decide) rfl rfl
set_option maxRecDepth 20000 in
set_option maxHeartbeats 4000000 in
theorem w_X5_paint_20 {p : Program} {l : Launch} {e : Env} {s : State} {m : MethodId} {args : Array Value} {below : List Frame} {meth : Method} {c : Code} {D : va_G} {cs : Nat → ClassId} {ad : Nat → Nat} {b0 : Nat} (C : Ctx p l s m args meth c D cs ad b0 RX5 cX5_paint 3 (some .int)) (hT : ∀ x ∈ c.exceptionTable.toList, False)    {r9 : Int32} {W9 : VT}     :
    ∀ (x1 x2 : Int32) (V : VT), d_X5_paint_20 x1 x2 V = some (r9, W9) → AW p l e (rmOf 5 0) s m args below meth c D cs ad b0 (QF below D cs ad b0 W9 ((rI r9) ad) args s 0) 3 0 V [(0, .ref (ad 109)), (1, .int x1), (2, .int x2)] [.ref (ad 109)] 20 := by
  intro x1 x2 V h
  unfold d_X5_paint_20 at h
  refine a_iconst (v := (1 : Int32)) C dX5_paint_20 rfl ?_
  refine a_sub (lv' := [(0, .ref (ad 109)), (1, .int x1), (2, .int x2)]) [0, 1, 2] rfl ?_
  exact w_X5_paint_21 C hT x1 x2 (1 : Int32) V h
set_option maxRecDepth 20000 in
set_option maxHeartbeats 4000000 in
theorem w_X5_paint (x1 : Int32) (x2 : Int32)  (V : VT) (r9 : Int32) (W9 : VT) (h : d_X5_paint x1 x2 V = some (r9, W9)) : AM 5 0 yX5_paint (.code yX5_paint cX5_paint 3 (some .int)) (fun ad => [.ref (ad 109), .int x1, .int x2]) V W9 (rI r9) := by
  unfold d_X5_paint at h
  refine AM.of (by decide +kernel) (fun ad => Nat.le_of_ble_eq_true rfl) (fun {p l e s m args below meth c D cs ad b0} C hT => ?_)
  have C : Ctx p l s m args meth c D cs ad b0 RX5 cX5_paint 3 (some .int) := C
  refine a_sub (lv' := [(0, .ref (ad 109)), (1, .int x1), (2, .int x2)]) [0, 1, 2] rfl ?_
  refine a_aload_n (q := 0) C dX5_paint_0 rfl rfl ?_
  refine a_aload_n (q := 0) C dX5_paint_1 rfl rfl ?_
  refine a_iload_n (q := 1) C dX5_paint_2 rfl rfl ?_
  obtain ⟨r2, g1, h⟩ := bd_spec h
  refine a_cVi (a := 109) (st := [.ref (ad 109)]) C dX5_paint_3 cv_RX5_87 (w_X5_isCountry x1  V r2 g1) rfl rfl rfl rfl rfl ⟨Nat.le_of_ble_eq_true rfl, Nat.le_of_ble_eq_true rfl, Nat.le_of_ble_eq_true rfl, Nat.le_of_ble_eq_true rfl⟩ (Nat.le_of_ble_eq_true rfl) ?_
  refine a_if_eq (tgt := 20) C dX5_paint_6 (by decide) (fun c3 => ?_) (fun c3 => ?_)
  · have h := it_t c3 h
    refine a_sub (lv' := [(0, .ref (ad 109)), (1, .int x1), (2, .int x2)]) [0, 1, 2] rfl ?_
    exact w_X5_paint_20 C hT x1 x2 V h
  · have h := it_f c3 h
    refine a_iload_n (q := 2) C dX5_paint_9 rfl rfl ?_
    obtain ⟨r5, g4, h⟩ := bd_spec h
    refine a_cSi (st := [.ref (ad 109)]) C dX5_paint_10 cv_RX5_113 (w_X5_isHue x2  V r5 g4) rfl rfl rfl ⟨Nat.le_of_ble_eq_true rfl, Nat.le_of_ble_eq_true rfl, Nat.le_of_ble_eq_true rfl, Nat.le_of_ble_eq_true rfl⟩ (Nat.le_of_ble_eq_true rfl) ?_
    refine a_if_eq (tgt := 20) C dX5_paint_13 (by decide) (fun c6 => ?_) (fun c6 => ?_)
    · have h := it_t c6 h
      refine a_sub (lv' := [(0, .ref (ad 109)), (1, .int x1), (2, .int x2)]) [0, 1, 2] rfl ?_
      exact w_X5_paint_20 C hT x1 x2 V h
    · have h := it_f c6 h
      refine a_iconst (v := (0 : Int32)) C dX5_paint_16 rfl ?_
      refine a_goto (tgt := 21) C dX5_paint_17 (by decide) ?_
      refine a_sub (lv' := [(0, .ref (ad 109)), (1, .int x1), (2, .int x2)]) [0, 1, 2] rfl ?_
      exact w_X5_paint_21 C hT x1 x2 (0 : Int32) V h
set_option maxRecDepth 20000 in
set_option maxHeartbeats 4000000 in
theorem w_X5_bars_21 {p : Program} {l : Launch} {e : Env} {s : State} {m : MethodId} {args : Array Value} {below : List Frame} {meth : Method} {c : Code} {D : va_G} {cs : Nat → ClassId} {ad : Nat → Nat} {b0 : Nat} (C : Ctx p l s m args meth c D cs ad b0 RX5 cX5_bars 3 (some .int)) (hT : ∀ x ∈ c.exceptionTable.toList, False)    {r9 : Int32} {W9 : VT}     :
    ∀ (x1 x2 s0 : Int32) (V : VT), d_X5_bars_21 x1 x2 s0 V = some (r9, W9) → AW p l e (rmOf 5 0) s m args below meth c D cs ad b0 (QF below D cs ad b0 W9 ((rI r9) ad) args s 0) 3 0 V [(0, .ref (ad 109)), (1, .int x1), (2, .int x2)] [.int s0, .ref (ad 109)] 21 := by
  intro x1 x2 s0 V h
  unfold d_X5_bars_21 at h
  obtain ⟨r3, V2, g1, h⟩ := bw_spec h
  refine a_cVi (a := 109) (st := []) C dX5_bars_21 cv_RX5_71 (w_X5_fails s0  V r3 V2 g1) rfl rfl rfl rfl rfl ⟨Nat.le_of_ble_eq_true rfl, Nat.le_of_ble_eq_true rfl, Nat.le_of_ble_eq_true rfl, Nat.le_of_ble_eq_true rfl⟩ (Nat.le_of_ble_eq_true rfl) ?_
  refine a_if_eq (tgt := 31) C dX5_bars_24 (by decide) (fun c4 => ?_) (fun c4 => ?_)
  · have h := it_t c4 h
    refine a_aload_n (q := 0) C dX5_bars_31 rfl rfl ?_
    refine a_iload_n (q := 1) C dX5_bars_32 rfl rfl ?_
    refine a_iload_n (q := 2) C dX5_bars_33 rfl rfl ?_
    obtain ⟨r6, g5, h⟩ := bd_spec h
    refine a_cVi (a := 109) (st := []) C dX5_bars_34 cv_RX5_122 (w_X5_against x1 x2  V2 r6 g5) rfl rfl rfl rfl rfl ⟨Nat.le_of_ble_eq_true rfl, Nat.le_of_ble_eq_true rfl, Nat.le_of_ble_eq_true rfl, Nat.le_of_ble_eq_true rfl⟩ (Nat.le_of_ble_eq_true rfl) ?_
    obtain ⟨rfl, rfl⟩ := ret2 h
    exact a_iret C dX5_bars_37 rfl (by decide) rfl rfl
  · have h := it_f c4 h
    refine a_iconst (v := (0 : Int32)) C dX5_bars_27 rfl ?_
    refine a_goto (tgt := 37) C dX5_bars_28 (by decide) ?_
    obtain ⟨rfl, rfl⟩ := ret2 h
    exact a_iret C dX5_bars_37 rfl (by decide) rfl rfl
set_option maxRecDepth 20000 in
set_option maxHeartbeats 4000000 in
theorem w_X5_bars_20 {p : Program} {l : Launch} {e : Env} {s : State} {m : MethodId} {args : Array Value} {below : List Frame} {meth : Method} {c : Code} {D : va_G} {cs : Nat → ClassId} {ad : Nat → Nat} {b0 : Nat} (C : Ctx p l s m args meth c D cs ad b0 RX5 cX5_bars 3 (some .int)) (hT : ∀ x ∈ c.exceptionTable.toList, False)    {r9 : Int32} {W9 : VT}     :
    ∀ (x1 x2 : Int32) (V : VT), d_X5_bars_20 x1 x2 V = some (r9, W9) → AW p l e (rmOf 5 0) s m args below meth c D cs ad b0 (QF below D cs ad b0 W9 ((rI r9) ad) args s 0) 3 0 V [(0, .ref (ad 109)), (1, .int x1), (2, .int x2)] [.ref (ad 109)] 20 := by
  intro x1 x2 V h
  unfold d_X5_bars_20 at h
  refine a_iconst (v := (1 : Int32)) C dX5_bars_20 rfl ?_
  refine a_sub (lv' := [(0, .ref (ad 109)), (1, .int x1), (2, .int x2)]) [0, 1, 2] rfl ?_
  exact w_X5_bars_21 C hT x1 x2 (1 : Int32) V h
set_option maxRecDepth 20000 in
set_option maxHeartbeats 4000000 in
theorem w_X5_bars (x1 : Int32) (x2 : Int32)  (V : VT) (r9 : Int32) (W9 : VT) (h : d_X5_bars x1 x2 V = some (r9, W9)) : AM 5 0 yX5_bars (.code yX5_bars cX5_bars 3 (some .int)) (fun ad => [.ref (ad 109), .int x1, .int x2]) V W9 (rI r9) := by
  unfold d_X5_bars at h
  refine AM.of (by decide +kernel) (fun ad => Nat.le_of_ble_eq_true rfl) (fun {p l e s m args below meth c D cs ad b0} C hT => ?_)
  have C : Ctx p l s m args meth c D cs ad b0 RX5 cX5_bars 3 (some .int) := C
  refine a_sub (lv' := [(0, .ref (ad 109)), (1, .int x1), (2, .int x2)]) [0, 1, 2] rfl ?_
  refine a_aload_n (q := 0) C dX5_bars_0 rfl rfl ?_
  refine a_aload_n (q := 0) C dX5_bars_1 rfl rfl ?_
  refine a_iload_n (q := 1) C dX5_bars_2 rfl rfl ?_
  obtain ⟨r2, g1, h⟩ := bd_spec h
  refine a_cVi (a := 109) (st := [.ref (ad 109)]) C dX5_bars_3 cv_RX5_87 (w_X5_isCountry x1  V r2 g1) rfl rfl rfl rfl rfl ⟨Nat.le_of_ble_eq_true rfl, Nat.le_of_ble_eq_true rfl, Nat.le_of_ble_eq_true rfl, Nat.le_of_ble_eq_true rfl⟩ (Nat.le_of_ble_eq_true rfl) ?_
  refine a_if_eq (tgt := 20) C dX5_bars_6 (by decide) (fun c3 => ?_) (fun c3 => ?_)
  · have h := it_t c3 h
    refine a_sub (lv' := [(0, .ref (ad 109)), (1, .int x1), (2, .int x2)]) [0, 1, 2] rfl ?_
    exact w_X5_bars_20 C hT x1 x2 V h
  · have h := it_f c3 h
    refine a_iload_n (q := 2) C dX5_bars_9 rfl rfl ?_
    obtain ⟨r5, g4, h⟩ := bd_spec h
    refine a_cSi (st := [.ref (ad 109)]) C dX5_bars_10 cv_RX5_113 (w_X5_isHue x2  V r5 g4) rfl rfl rfl ⟨Nat.le_of_ble_eq_true rfl, Nat.le_of_ble_eq_true rfl, Nat.le_of_ble_eq_true rfl, Nat.le_of_ble_eq_true rfl⟩ (Nat.le_of_ble_eq_true rfl) ?_
    refine a_if_eq (tgt := 20) C dX5_bars_13 (by decide) (fun c6 => ?_) (fun c6 => ?_)
    · have h := it_t c6 h
      refine a_sub (lv' := [(0, .ref (ad 109)), (1, .int x1), (2, .int x2)]) [0, 1, 2] rfl ?_
      exact w_X5_bars_20 C hT x1 x2 V h
    · have h := it_f c6 h
      refine a_iconst (v := (0 : Int32)) C dX5_bars_16 rfl ?_
      refine a_goto (tgt := 21) C dX5_bars_17 (by decide) ?_
      refine a_sub (lv' := [(0, .ref (ad 109)), (1, .int x1), (2, .int x2)]) [0, 1, 2] rfl ?_
      exact w_X5_bars_21 C hT x1 x2 (0 : Int32) V h
set_option maxRecDepth 20000 in
set_option maxHeartbeats 4000000 in
theorem w_X5_back   (V : VT) (r9 : Int32) (W9 : VT) (h : d_X5_back  V = some (r9, W9)) : AM 4 0 yX5_back (.code yX5_back cX5_back 2 (some .int)) (fun ad => [.ref (ad 109)]) V W9 (rI r9) := by
  unfold d_X5_back at h
  refine AM.of (by decide +kernel) (fun ad => Nat.le_of_ble_eq_true rfl) (fun {p l e s m args below meth c D cs ad b0} C hT => ?_)
  have C : Ctx p l s m args meth c D cs ad b0 RX5 cX5_back 2 (some .int) := C
  refine a_sub (lv' := [(0, .ref (ad 109))]) [0] rfl ?_
  refine a_aload_n (q := 0) C dX5_back_0 rfl rfl ?_
  refine a_iconst (v := (0 : Int32)) C dX5_back_1 rfl ?_
  refine a_puti (a := 109) C dX5_back_2 fp_RX5_39 rfl rfl rfl rfl ?_
  refine a_aload_n (q := 0) C dX5_back_5 rfl rfl ?_
  refine a_getr (a := 109) (t := 110) C dX5_back_6 fl_RX5_7 rfl rfl ?_
  refine a_bipush (v := (47 : Int32)) C dX5_back_9 rfl ?_
  refine a_iald (a := 110) (x := (V 110 47)) C dX5_back_11 rfl (in_lit (by decide)) rfl ?_
  refine a_if_ne (tgt := 24) C dX5_back_12 (by decide) (fun c1 => ?_) (fun c1 => ?_)
  · have h := it_f c1 h
    refine a_aload_n (q := 0) C dX5_back_24 rfl rfl ?_
    refine a_aload_n (q := 0) C dX5_back_25 rfl rfl ?_
    refine a_getr (a := 109) (t := 110) C dX5_back_26 fl_RX5_7 rfl rfl ?_
    obtain ⟨V3, g2, h⟩ := bd_spec h
    refine a_cVv (a := 109) (st := []) C dX5_back_29 cv_RX5_79 (w_X5_keeps 110 rfl (up2 V 109 7 (0 : Int32)) V3 g2) rfl rfl rfl rfl rfl ⟨Nat.le_of_ble_eq_true rfl, Nat.le_of_ble_eq_true rfl, Nat.le_of_ble_eq_true rfl, Nat.le_of_ble_eq_true rfl⟩ (Nat.le_of_ble_eq_true rfl) ?_
    refine a_aload_n (q := 0) C dX5_back_32 rfl rfl ?_
    refine a_getr (a := 109) (t := 110) C dX5_back_33 fl_RX5_7 rfl rfl ?_
    refine a_bipush (v := (47 : Int32)) C dX5_back_36 rfl ?_
    refine a_dup2 C dX5_back_38 rfl rfl ?_
    refine a_iald (a := 110) (x := (V3 110 47)) C dX5_back_39 rfl (in_lit (by decide)) rfl ?_
    refine a_iconst (v := (1 : Int32)) C dX5_back_40 rfl ?_
    refine a_isub C dX5_back_41 ?_
    refine a_iast (a := 110) C dX5_back_42 rfl (in_lit (by decide)) ?_
    refine a_aload_n (q := 0) C dX5_back_43 rfl rfl ?_
    refine a_getr (a := 109) (t := 110) C dX5_back_44 fl_RX5_7 rfl rfl ?_
    refine a_bipush (v := (48 : Int32)) C dX5_back_47 rfl ?_
    refine a_aload_n (q := 0) C dX5_back_49 rfl rfl ?_
    refine a_getr (a := 109) (t := 110) C dX5_back_50 fl_RX5_7 rfl rfl ?_
    refine a_bipush (v := (47 : Int32)) C dX5_back_53 rfl ?_
    refine a_iald (a := 110) (x := ((V3 110 47) - (1 : Int32))) C dX5_back_55 rfl (in_lit (by decide)) rfl ?_
    refine a_iadd C dX5_back_56 ?_
    obtain ⟨z4, h⟩ := asr_spec h
    refine a_iald (a := 110) (x := ((up2 V3 110 47 ((V3 110 47) - (1 : Int32))) 110 ((48 : Int32) + ((V3 110 47) - (1 : Int32))).toNatClampNeg)) C dX5_back_57 rfl (inb_in z4) rfl ?_
    refine a_istore_n (lv' := [(1, .int ((up2 V3 110 47 ((V3 110 47) - (1 : Int32))) 110 ((48 : Int32) + ((V3 110 47) - (1 : Int32))).toNatClampNeg)), (0, .ref (ad 109))]) C dX5_back_58 rfl (by decide) rfl ?_
    refine a_aload_n (q := 1) C dX5_back_59 rfl rfl ?_
    refine a_getr (a := 109) (t := 110) C dX5_back_60 fl_RX5_7 rfl rfl ?_
    refine a_bipush (v := (48 : Int32)) C dX5_back_63 rfl ?_
    refine a_aload_n (q := 1) C dX5_back_65 rfl rfl ?_
    refine a_getr (a := 109) (t := 110) C dX5_back_66 fl_RX5_7 rfl rfl ?_
    refine a_bipush (v := (47 : Int32)) C dX5_back_69 rfl ?_
    refine a_iald (a := 110) (x := ((V3 110 47) - (1 : Int32))) C dX5_back_71 rfl (in_lit (by decide)) rfl ?_
    refine a_iadd C dX5_back_72 ?_
    refine a_iconst (v := (0 : Int32)) C dX5_back_73 rfl ?_
    obtain ⟨z5, h⟩ := asr_spec h
    refine a_iast (a := 110) C dX5_back_74 rfl (inb_in z5) ?_
    refine a_aload_n (q := 1) C dX5_back_75 rfl rfl ?_
    refine a_iload_n (q := 0) C dX5_back_76 rfl rfl ?_
    refine a_iconst (v := (1 : Int32)) C dX5_back_77 rfl ?_
    refine a_iconst (v := (-1 : Int32)) C dX5_back_78 rfl ?_
    obtain ⟨V7, g6, h⟩ := bd_spec h
    refine a_cVv (a := 109) (st := []) C dX5_back_79 cv_RX5_83 (w_X5_lays ((up2 V3 110 47 ((V3 110 47) - (1 : Int32))) 110 ((48 : Int32) + ((V3 110 47) - (1 : Int32))).toNatClampNeg) (1 : Int32) (-1 : Int32)  (up2 (up2 V3 110 47 ((V3 110 47) - (1 : Int32))) 110 ((48 : Int32) + ((V3 110 47) - (1 : Int32))).toNatClampNeg (0 : Int32)) V7 g6) rfl rfl rfl rfl rfl ⟨Nat.le_of_ble_eq_true rfl, Nat.le_of_ble_eq_true rfl, Nat.le_of_ble_eq_true rfl, Nat.le_of_ble_eq_true rfl⟩ (Nat.le_of_ble_eq_true rfl) ?_
    refine a_aload_n (q := 1) C dX5_back_82 rfl rfl ?_
    refine a_getr (a := 109) (t := 110) C dX5_back_83 fl_RX5_7 rfl rfl ?_
    refine a_bipush (v := (55 : Int32)) C dX5_back_86 rfl ?_
    refine a_dup2 C dX5_back_88 rfl rfl ?_
    refine a_iald (a := 110) (x := (V7 110 55)) C dX5_back_89 rfl (in_lit (by decide)) rfl ?_
    refine a_iconst (v := (1 : Int32)) C dX5_back_90 rfl ?_
    refine a_iadd C dX5_back_91 ?_
    refine a_iast (a := 110) C dX5_back_92 rfl (in_lit (by decide)) ?_
    refine a_iload_n (q := 0) C dX5_back_93 rfl rfl ?_
    obtain ⟨rfl, rfl⟩ := ret2 h
    exact a_iret C dX5_back_94 rfl (by decide) rfl rfl
  · have h := it_t c1 h
    refine a_aload_n (q := 0) C dX5_back_15 rfl rfl ?_
    refine a_iconst (v := (1 : Int32)) C dX5_back_16 rfl ?_
    refine a_bipush (v := (8 : Int32)) C dX5_back_17 rfl ?_
    refine a_iconst (v := (0 : Int32)) C dX5_back_19 rfl ?_
    obtain ⟨r10, V9, g8, h⟩ := bw_spec h
    refine a_cVi (a := 109) (st := []) C dX5_back_20 cv_RX5_75 (w_X5_refuses (1 : Int32) (8 : Int32) (0 : Int32)  (up2 V 109 7 (0 : Int32)) r10 V9 g8) rfl rfl rfl rfl rfl ⟨Nat.le_of_ble_eq_true rfl, Nat.le_of_ble_eq_true rfl, Nat.le_of_ble_eq_true rfl, Nat.le_of_ble_eq_true rfl⟩ (Nat.le_of_ble_eq_true rfl) ?_
    obtain ⟨rfl, rfl⟩ := ret2 h
    exact a_iret C dX5_back_23 rfl (by decide) rfl rfl
set_option maxRecDepth 20000 in
set_option maxHeartbeats 4000000 in
theorem w_X5_onlyHue_13 {p : Program} {l : Launch} {e : Env} {s : State} {m : MethodId} {args : Array Value} {below : List Frame} {meth : Method} {c : Code} {D : va_G} {cs : Nat → ClassId} {ad : Nat → Nat} {b0 : Nat} (C : Ctx p l s m args meth c D cs ad b0 RX5 cX5_onlyHue 3 (some .int)) (hT : ∀ x ∈ c.exceptionTable.toList, False)   {V : VT} {r9 : Int32}     :
    ∀ (x1 x2 : Int32) , d_X5_onlyHue_13 V x1 x2 = some r9 → AW p l e (rmOf 6 0) s m args below meth c D cs ad b0 (QF below D cs ad b0 V ((rI r9) ad) args s 0) 3 0 V [(0, .ref (ad 109)), (1, .int x1), (2, .int x2)] [] 13 := by
  refine lo2_ind (P := fun x1 x2 => AW p l e (rmOf 6 0) s m args below meth c D cs ad b0 (QF below D cs ad b0 V ((rI r9) ad) args s 0) 3 0 V [(0, .ref (ad 109)), (1, .int x1), (2, .int x2)] [] 13) ?_ FU
  intro k13 hk13 x1 x2 h
  unfold d_X5_onlyHue_13b at h
  refine a_aload_n (q := 0) C dX5_onlyHue_13 rfl rfl ?_
  refine a_iload_n (q := 1) C dX5_onlyHue_14 rfl rfl ?_
  refine a_iload_n (q := 2) C dX5_onlyHue_15 rfl rfl ?_
  obtain ⟨r2, g1, h⟩ := bd_spec h
  refine a_cVi (a := 109) (st := []) C dX5_onlyHue_16 cv_RX5_100 (w_X5_isFree x1 x2  V r2 g1) rfl rfl rfl rfl rfl ⟨Nat.le_of_ble_eq_true rfl, Nat.le_of_ble_eq_true rfl, Nat.le_of_ble_eq_true rfl, Nat.le_of_ble_eq_true rfl⟩ (Nat.le_of_ble_eq_true rfl) ?_
  refine a_if_ne (tgt := 28) C dX5_onlyHue_19 (by decide) (fun c3 => ?_) (fun c3 => ?_)
  · have h := it_f c3 h
    refine a_iload_n (q := 2) C dX5_onlyHue_28 rfl rfl ?_
    obtain rfl := ret1 h
    exact a_iret C dX5_onlyHue_29 rfl (by decide) rfl rfl
  · have h := it_t c3 h
    refine a_iinc (q := 2) (v := (x2 + (1 : Int32))) (lv' := [(2, .int (x2 + (1 : Int32))), (0, .ref (ad 109)), (1, .int x1)]) C dX5_onlyHue_22 rfl rfl (by decide) rfl ?_
    refine a_goto (tgt := 13) C dX5_onlyHue_25 (by decide) ?_
    refine a_sub (lv' := [(0, .ref (ad 109)), (1, .int x1), (2, .int (x2 + (1 : Int32)))]) [1, 2, 0] rfl ?_
    exact hk13 x1 (x2 + (1 : Int32)) h
set_option maxRecDepth 20000 in
set_option maxHeartbeats 4000000 in
theorem w_X5_onlyHue (x1 : Int32)  (V : VT) (r9 : Int32) (h : d_X5_onlyHue x1 V = some r9) : AM 6 0 yX5_onlyHue (.code yX5_onlyHue cX5_onlyHue 3 (some .int)) (fun ad => [.ref (ad 109), .int x1]) V V (rI r9) := by
  unfold d_X5_onlyHue at h
  refine AM.of (by decide +kernel) (fun ad => Nat.le_of_ble_eq_true rfl) (fun {p l e s m args below meth c D cs ad b0} C hT => ?_)
  have C : Ctx p l s m args meth c D cs ad b0 RX5 cX5_onlyHue 3 (some .int) := C
  refine a_sub (lv' := [(0, .ref (ad 109)), (1, .int x1)]) [0, 1] rfl ?_
  refine a_aload_n (q := 0) C dX5_onlyHue_0 rfl rfl ?_
  refine a_iload_n (q := 1) C dX5_onlyHue_1 rfl rfl ?_
  obtain ⟨r2, g1, h⟩ := bd_spec h
  refine a_cVi (a := 109) (st := []) C dX5_onlyHue_2 cv_RX5_107 (w_X5_freeMany x1  V r2 g1) rfl rfl rfl rfl rfl ⟨Nat.le_of_ble_eq_true rfl, Nat.le_of_ble_eq_true rfl, Nat.le_of_ble_eq_true rfl, Nat.le_of_ble_eq_true rfl⟩ (Nat.le_of_ble_eq_true rfl) ?_
  refine a_iconst (v := (1 : Int32)) C dX5_onlyHue_5 rfl ?_
  refine a_icmp_eq (tgt := 11) C dX5_onlyHue_6 (by decide) (fun c3 => ?_) (fun c3 => ?_)
  · have h := it_t c3 h
    refine a_iconst (v := (0 : Int32)) C dX5_onlyHue_11 rfl ?_
    refine a_istore_n (lv' := [(2, .int (0 : Int32)), (0, .ref (ad 109)), (1, .int x1)]) C dX5_onlyHue_12 rfl (by decide) rfl ?_
    refine a_sub (lv' := [(0, .ref (ad 109)), (1, .int x1), (2, .int (0 : Int32))]) [1, 2, 0] rfl ?_
    exact w_X5_onlyHue_13 C hT x1 (0 : Int32) h
  · have h := it_f c3 h
    refine a_iconst (v := (-1 : Int32)) C dX5_onlyHue_9 rfl ?_
    obtain rfl := ret1 h
    exact a_iret C dX5_onlyHue_10 rfl (by decide) rfl rfl
set_option maxRecDepth 20000 in
set_option maxHeartbeats 4000000 in
theorem w_X5_fill_17 {p : Program} {l : Launch} {e : Env} {s : State} {m : MethodId} {args : Array Value} {below : List Frame} {meth : Method} {c : Code} {D : va_G} {cs : Nat → ClassId} {ad : Nat → Nat} {b0 : Nat} (C : Ctx p l s m args meth c D cs ad b0 RX5 cX5_fill 4 (some .int)) (hT : ∀ x ∈ c.exceptionTable.toList, False)    {r9 : Int32} {W9 : VT}     :
    ∀ (x1 x2 : Int32) (V : VT), d_X5_fill_17 x1 x2 V = some (r9, W9) → AW p l e (rmOf 7 0) s m args below meth c D cs ad b0 (QF below D cs ad b0 W9 ((rI r9) ad) args s 0) 4 0 V [(0, .ref (ad 109)), (1, .int x1), (2, .int x2)] [] 17 := by
  refine lo2W_ind (P := fun x1 x2 V => AW p l e (rmOf 7 0) s m args below meth c D cs ad b0 (QF below D cs ad b0 W9 ((rI r9) ad) args s 0) 4 0 V [(0, .ref (ad 109)), (1, .int x1), (2, .int x2)] [] 17) ?_ FU
  intro k17 hk17 x1 x2 V h
  unfold d_X5_fill_17b at h
  refine a_iload_n (q := 2) C dX5_fill_17 rfl rfl ?_
  refine a_aload_n (q := 0) C dX5_fill_18 rfl rfl ?_
  refine a_getr (a := 109) (t := 110) C dX5_fill_19 fl_RX5_7 rfl rfl ?_
  refine a_iconst (v := (0 : Int32)) C dX5_fill_22 rfl ?_
  refine a_iald (a := 110) (x := (V 110 0)) C dX5_fill_23 rfl (in_lit (by decide)) rfl ?_
  refine a_icmp_ge (tgt := 57) C dX5_fill_24 (by decide) (fun c1 => ?_) (fun c1 => ?_)
  · have h := it_t c1 h
    refine a_iload_n (q := 1) C dX5_fill_57 rfl rfl ?_
    obtain ⟨rfl, rfl⟩ := ret2 h
    exact a_iret C dX5_fill_58 rfl (by decide) rfl rfl
  · have h := it_f c1 h
    refine a_aload_n (q := 0) C dX5_fill_27 rfl rfl ?_
    refine a_iload_n (q := 2) C dX5_fill_28 rfl rfl ?_
    obtain ⟨r3, g2, h⟩ := bd_spec h
    refine a_cVi (a := 109) (st := []) C dX5_fill_29 cv_RX5_129 (w_X5_onlyHue x2  V r3 g2) rfl rfl rfl rfl rfl ⟨Nat.le_of_ble_eq_true rfl, Nat.le_of_ble_eq_true rfl, Nat.le_of_ble_eq_true rfl, Nat.le_of_ble_eq_true rfl⟩ (Nat.le_of_ble_eq_true rfl) ?_
    refine a_istore_n (lv' := [(3, .int r3), (0, .ref (ad 109)), (1, .int x1), (2, .int x2)]) C dX5_fill_32 rfl (by decide) rfl ?_
    refine a_iload_n (q := 0) C dX5_fill_33 rfl rfl ?_
    refine a_if_ge (tgt := 43) C dX5_fill_34 (by decide) (fun c4 => ?_) (fun c4 => ?_)
    · have h := it_t c4 h
      refine a_aload_n (q := 1) C dX5_fill_43 rfl rfl ?_
      refine a_iload_n (q := 3) C dX5_fill_44 rfl rfl ?_
      refine a_iload_n (q := 0) C dX5_fill_45 rfl rfl ?_
      obtain ⟨V6, g5, h⟩ := bd_spec h
      refine a_cVv (a := 109) (st := []) C dX5_fill_46 cv_RX5_125 (w_X5_paints x2 r3  V V6 g5) rfl rfl rfl rfl rfl ⟨Nat.le_of_ble_eq_true rfl, Nat.le_of_ble_eq_true rfl, Nat.le_of_ble_eq_true rfl, Nat.le_of_ble_eq_true rfl⟩ (Nat.le_of_ble_eq_true rfl) ?_
      refine a_iinc (q := 2) (v := (x1 + (1 : Int32))) (lv' := [(1, .int (x1 + (1 : Int32))), (3, .int r3), (0, .ref (ad 109)), (2, .int x2)]) C dX5_fill_49 rfl rfl (by decide) rfl ?_
      refine a_iconst (v := (0 : Int32)) C dX5_fill_52 rfl ?_
      refine a_istore_n (lv' := [(2, .int (0 : Int32)), (1, .int (x1 + (1 : Int32))), (3, .int r3), (0, .ref (ad 109))]) C dX5_fill_53 rfl (by decide) rfl ?_
      refine a_goto (tgt := 17) C dX5_fill_54 (by decide) ?_
      refine a_sub (lv' := [(0, .ref (ad 109)), (1, .int (x1 + (1 : Int32))), (2, .int (0 : Int32))]) [3, 1, 0] rfl ?_
      exact hk17 (x1 + (1 : Int32)) (0 : Int32) V6 h
    · have h := it_f c4 h
      refine a_iinc (q := 3) (v := (x2 + (1 : Int32))) (lv' := [(2, .int (x2 + (1 : Int32))), (3, .int r3), (0, .ref (ad 109)), (1, .int x1)]) C dX5_fill_37 rfl rfl (by decide) rfl ?_
      refine a_goto (tgt := 17) C dX5_fill_40 (by decide) ?_
      refine a_sub (lv' := [(0, .ref (ad 109)), (1, .int x1), (2, .int (x2 + (1 : Int32)))]) [2, 3, 0] rfl ?_
      exact hk17 x1 (x2 + (1 : Int32)) V h
set_option maxRecDepth 20000 in
set_option maxHeartbeats 4000000 in
theorem w_X5_fill   (V : VT) (r9 : Int32) (W9 : VT) (h : d_X5_fill  V = some (r9, W9)) : AM 7 0 yX5_fill (.code yX5_fill cX5_fill 4 (some .int)) (fun ad => [.ref (ad 109)]) V W9 (rI r9) := by
  unfold d_X5_fill at h
  refine AM.of (by decide +kernel) (fun ad => Nat.le_of_ble_eq_true rfl) (fun {p l e s m args below meth c D cs ad b0} C hT => ?_)
  have C : Ctx p l s m args meth c D cs ad b0 RX5 cX5_fill 4 (some .int) := C
  refine a_sub (lv' := [(0, .ref (ad 109))]) [0] rfl ?_
  refine a_aload_n (q := 0) C dX5_fill_0 rfl rfl ?_
  refine a_iconst (v := (0 : Int32)) C dX5_fill_1 rfl ?_
  refine a_puti (a := 109) C dX5_fill_2 fp_RX5_39 rfl rfl rfl rfl ?_
  refine a_aload_n (q := 0) C dX5_fill_5 rfl rfl ?_
  refine a_aload_n (q := 0) C dX5_fill_6 rfl rfl ?_
  refine a_getr (a := 109) (t := 110) C dX5_fill_7 fl_RX5_7 rfl rfl ?_
  obtain ⟨V2, g1, h⟩ := bd_spec h
  refine a_cVv (a := 109) (st := []) C dX5_fill_10 cv_RX5_79 (w_X5_keeps 110 rfl (up2 V 109 7 (0 : Int32)) V2 g1) rfl rfl rfl rfl rfl ⟨Nat.le_of_ble_eq_true rfl, Nat.le_of_ble_eq_true rfl, Nat.le_of_ble_eq_true rfl, Nat.le_of_ble_eq_true rfl⟩ (Nat.le_of_ble_eq_true rfl) ?_
  refine a_iconst (v := (0 : Int32)) C dX5_fill_13 rfl ?_
  refine a_istore_n (lv' := [(1, .int (0 : Int32)), (0, .ref (ad 109))]) C dX5_fill_14 rfl (by decide) rfl ?_
  refine a_iconst (v := (0 : Int32)) C dX5_fill_15 rfl ?_
  refine a_istore_n (lv' := [(2, .int (0 : Int32)), (1, .int (0 : Int32)), (0, .ref (ad 109))]) C dX5_fill_16 rfl (by decide) rfl ?_
  refine a_sub (lv' := [(0, .ref (ad 109)), (1, .int (0 : Int32)), (2, .int (0 : Int32))]) [2, 1, 0] rfl ?_
  exact w_X5_fill_17 C hT (0 : Int32) (0 : Int32) V2 h
set_option maxRecDepth 20000 in
set_option maxHeartbeats 4000000 in
theorem w_X5_step_23 {p : Program} {l : Launch} {e : Env} {s : State} {m : MethodId} {args : Array Value} {below : List Frame} {meth : Method} {c : Code} {D : va_G} {cs : Nat → ClassId} {ad : Nat → Nat} {b0 : Nat} (C : Ctx p l s m args meth c D cs ad b0 RX5 cX5_step 2 (some .int)) (hT : ∀ x ∈ c.exceptionTable.toList, False)    {r9 : Int32} {W9 : VT}     :
    ∀ (x1 s0 : Int32) (V : VT), d_X5_step_23 x1 s0 V = some (r9, W9) → AW p l e (rmOf 3 0) s m args below meth c D cs ad b0 (QF below D cs ad b0 W9 ((rI r9) ad) args s 0) 2 0 V [(0, .ref (ad 109)), (1, .int x1)] [.int s0, .ref (ad 109)] 23 := by
  intro x1 s0 V h
  unfold d_X5_step_23 at h
  obtain ⟨r3, V2, g1, h⟩ := bw_spec h
  refine a_cVi (a := 109) (st := []) C dX5_step_23 cv_RX5_71 (w_X5_fails s0  V r3 V2 g1) rfl rfl rfl rfl rfl ⟨Nat.le_of_ble_eq_true rfl, Nat.le_of_ble_eq_true rfl, Nat.le_of_ble_eq_true rfl, Nat.le_of_ble_eq_true rfl⟩ (Nat.le_of_ble_eq_true rfl) ?_
  refine a_if_eq (tgt := 33) C dX5_step_26 (by decide) (fun c4 => ?_) (fun c4 => ?_)
  · have h := it_t c4 h
    refine a_aload_n (q := 0) C dX5_step_33 rfl rfl ?_
    refine a_getr (a := 109) (t := 110) C dX5_step_34 fl_RX5_7 rfl rfl ?_
    refine a_bipush (v := (48 : Int32)) C dX5_step_37 rfl ?_
    refine a_iload_n (q := 1) C dX5_step_39 rfl rfl ?_
    refine a_iadd C dX5_step_40 ?_
    obtain ⟨z5, h⟩ := asr_spec h
    refine a_iald (a := 110) (x := (V2 110 ((48 : Int32) + x1).toNatClampNeg)) C dX5_step_41 rfl (inb_in z5) rfl ?_
    obtain ⟨rfl, rfl⟩ := ret2 h
    exact a_iret C dX5_step_42 rfl (by decide) rfl rfl
  · have h := it_f c4 h
    refine a_iconst (v := (0 : Int32)) C dX5_step_29 rfl ?_
    refine a_goto (tgt := 42) C dX5_step_30 (by decide) ?_
    obtain ⟨rfl, rfl⟩ := ret2 h
    exact a_iret C dX5_step_42 rfl (by decide) rfl rfl
set_option maxRecDepth 20000 in
set_option maxHeartbeats 4000000 in
theorem w_X5_step (x1 : Int32)  (V : VT) (r9 : Int32) (W9 : VT) (h : d_X5_step x1 V = some (r9, W9)) : AM 3 0 yX5_step (.code yX5_step cX5_step 2 (some .int)) (fun ad => [.ref (ad 109), .int x1]) V W9 (rI r9) := by
  unfold d_X5_step at h
  refine AM.of (by decide +kernel) (fun ad => Nat.le_of_ble_eq_true rfl) (fun {p l e s m args below meth c D cs ad b0} C hT => ?_)
  have C : Ctx p l s m args meth c D cs ad b0 RX5 cX5_step 2 (some .int) := C
  refine a_sub (lv' := [(0, .ref (ad 109)), (1, .int x1)]) [0, 1] rfl ?_
  refine a_aload_n (q := 0) C dX5_step_0 rfl rfl ?_
  refine a_iload_n (q := 1) C dX5_step_1 rfl rfl ?_
  refine a_iconst (v := (0 : Int32)) C dX5_step_2 rfl ?_
  refine a_aload_n (q := 0) C dX5_step_3 rfl rfl ?_
  refine a_getr (a := 109) (t := 110) C dX5_step_4 fl_RX5_7 rfl rfl ?_
  refine a_bipush (v := (47 : Int32)) C dX5_step_7 rfl ?_
  refine a_iald (a := 110) (x := (V 110 47)) C dX5_step_9 rfl (in_lit (by decide)) rfl ?_
  refine a_iconst (v := (1 : Int32)) C dX5_step_10 rfl ?_
  refine a_isub C dX5_step_11 ?_
  obtain ⟨r2, g1, h⟩ := bd_spec h
  refine a_cSi (st := [.ref (ad 109)]) C dX5_step_12 cv_RX5_59 (w_X5_in x1 (0 : Int32) ((V 110 47) - (1 : Int32))  V r2 g1) rfl rfl rfl ⟨Nat.le_of_ble_eq_true rfl, Nat.le_of_ble_eq_true rfl, Nat.le_of_ble_eq_true rfl, Nat.le_of_ble_eq_true rfl⟩ (Nat.le_of_ble_eq_true rfl) ?_
  refine a_if_eq (tgt := 22) C dX5_step_15 (by decide) (fun c3 => ?_) (fun c3 => ?_)
  · have h := it_t c3 h
    refine a_iconst (v := (1 : Int32)) C dX5_step_22 rfl ?_
    refine a_sub (lv' := [(0, .ref (ad 109)), (1, .int x1)]) [0, 1] rfl ?_
    exact w_X5_step_23 C hT x1 (1 : Int32) V h
  · have h := it_f c3 h
    refine a_iconst (v := (0 : Int32)) C dX5_step_18 rfl ?_
    refine a_goto (tgt := 23) C dX5_step_19 (by decide) ?_
    refine a_sub (lv' := [(0, .ref (ad 109)), (1, .int x1)]) [0, 1] rfl ?_
    exact w_X5_step_23 C hT x1 (0 : Int32) V h
set_option maxRecDepth 20000 in
set_option maxHeartbeats 4000000 in
theorem w_X5_isStuck (x1 : Int32)  (V : VT) (r9 : Int32) (h : d_X5_isStuck x1 V = some r9) : AM 6 0 yX5_isStuck (.code yX5_isStuck cX5_isStuck 2 (some .boolean)) (fun ad => [.ref (ad 109), .int x1]) V V (rI r9) := by
  unfold d_X5_isStuck at h
  refine AM.of (by decide +kernel) (fun ad => Nat.le_of_ble_eq_true rfl) (fun {p l e s m args below meth c D cs ad b0} C hT => ?_)
  have C : Ctx p l s m args meth c D cs ad b0 RX5 cX5_isStuck 2 (some .boolean) := C
  refine a_sub (lv' := [(0, .ref (ad 109)), (1, .int x1)]) [0, 1] rfl ?_
  refine a_aload_n (q := 0) C dX5_isStuck_0 rfl rfl ?_
  refine a_iload_n (q := 1) C dX5_isStuck_1 rfl rfl ?_
  obtain ⟨r2, g1, h⟩ := bd_spec h
  refine a_cVi (a := 109) (st := []) C dX5_isStuck_2 cv_RX5_90 (w_X5_isPainted x1  V r2 g1) rfl rfl rfl rfl rfl ⟨Nat.le_of_ble_eq_true rfl, Nat.le_of_ble_eq_true rfl, Nat.le_of_ble_eq_true rfl, Nat.le_of_ble_eq_true rfl⟩ (Nat.le_of_ble_eq_true rfl) ?_
  refine a_if_ne (tgt := 20) C dX5_isStuck_5 (by decide) (fun c3 => ?_) (fun c3 => ?_)
  · have h := it_f c3 h
    refine a_iconst (v := (0 : Int32)) C dX5_isStuck_20 rfl ?_
    obtain rfl := ret1 h
    exact a_zret C dX5_isStuck_21 rfl rfl (by decide) rfl rfl
  · have h := it_t c3 h
    refine a_aload_n (q := 0) C dX5_isStuck_8 rfl rfl ?_
    refine a_iload_n (q := 1) C dX5_isStuck_9 rfl rfl ?_
    obtain ⟨r5, g4, h⟩ := bd_spec h
    refine a_cVi (a := 109) (st := []) C dX5_isStuck_10 cv_RX5_107 (w_X5_freeMany x1  V r5 g4) rfl rfl rfl rfl rfl ⟨Nat.le_of_ble_eq_true rfl, Nat.le_of_ble_eq_true rfl, Nat.le_of_ble_eq_true rfl, Nat.le_of_ble_eq_true rfl⟩ (Nat.le_of_ble_eq_true rfl) ?_
    refine a_if_ne (tgt := 20) C dX5_isStuck_13 (by decide) (fun c6 => ?_) (fun c6 => ?_)
    · have h := it_f c6 h
      refine a_iconst (v := (0 : Int32)) C dX5_isStuck_20 rfl ?_
      obtain rfl := ret1 h
      exact a_zret C dX5_isStuck_21 rfl rfl (by decide) rfl rfl
    · have h := it_t c6 h
      refine a_iconst (v := (1 : Int32)) C dX5_isStuck_16 rfl ?_
      refine a_goto (tgt := 21) C dX5_isStuck_17 (by decide) ?_
      obtain rfl := ret1 h
      exact a_zret C dX5_isStuck_21 rfl rfl (by decide) rfl rfl
set_option maxRecDepth 20000 in
set_option maxHeartbeats 4000000 in
theorem w_X5_stuck_42 {p : Program} {l : Launch} {e : Env} {s : State} {m : MethodId} {args : Array Value} {below : List Frame} {meth : Method} {c : Code} {D : va_G} {cs : Nat → ClassId} {ad : Nat → Nat} {b0 : Nat} (C : Ctx p l s m args meth c D cs ad b0 RX5 cX5_stuck 2 (some .int)) (hT : ∀ x ∈ c.exceptionTable.toList, False)    {r9 : Int32} {W9 : VT}     :
    ∀ (x1 s0 : Int32) (V : VT), d_X5_stuck_42 x1 s0 V = some (r9, W9) → AW p l e (rmOf 7 0) s m args below meth c D cs ad b0 (QF below D cs ad b0 W9 ((rI r9) ad) args s 0) 2 0 V [(1, .int x1)] [.int s0, .ref (ad 109)] 42 := by
  intro x1 s0 V h
  unfold d_X5_stuck_42 at h
  obtain ⟨r3, V2, g1, h⟩ := bw_spec h
  refine a_cVi (a := 109) (st := []) C dX5_stuck_42 cv_RX5_71 (w_X5_fails s0  V r3 V2 g1) rfl rfl rfl rfl rfl ⟨Nat.le_of_ble_eq_true rfl, Nat.le_of_ble_eq_true rfl, Nat.le_of_ble_eq_true rfl, Nat.le_of_ble_eq_true rfl⟩ (Nat.le_of_ble_eq_true rfl) ?_
  refine a_if_eq (tgt := 52) C dX5_stuck_45 (by decide) (fun c4 => ?_) (fun c4 => ?_)
  · have h := it_t c4 h
    refine a_iload_n (q := 0) C dX5_stuck_52 rfl rfl ?_
    obtain ⟨rfl, rfl⟩ := ret2 h
    exact a_iret C dX5_stuck_53 rfl (by decide) rfl rfl
  · have h := it_f c4 h
    refine a_iconst (v := (0 : Int32)) C dX5_stuck_48 rfl ?_
    refine a_goto (tgt := 53) C dX5_stuck_49 (by decide) ?_
    obtain ⟨rfl, rfl⟩ := ret2 h
    exact a_iret C dX5_stuck_53 rfl (by decide) rfl rfl
set_option maxRecDepth 20000 in
set_option maxHeartbeats 4000000 in
theorem w_X5_stuck_26 {p : Program} {l : Launch} {e : Env} {s : State} {m : MethodId} {args : Array Value} {below : List Frame} {meth : Method} {c : Code} {D : va_G} {cs : Nat → ClassId} {ad : Nat → Nat} {b0 : Nat} (C : Ctx p l s m args meth c D cs ad b0 RX5 cX5_stuck 2 (some .int)) (hT : ∀ x ∈ c.exceptionTable.toList, False)    {r9 : Int32} {W9 : VT}     :
    ∀ (x1 : Int32) (V : VT), d_X5_stuck_26 x1 V = some (r9, W9) → AW p l e (rmOf 7 0) s m args below meth c D cs ad b0 (QF below D cs ad b0 W9 ((rI r9) ad) args s 0) 2 0 V [(0, .ref (ad 109)), (1, .int x1)] [] 26 := by
  intro x1 V h
  unfold d_X5_stuck_26 at h
  refine a_aload_n (q := 0) C dX5_stuck_26 rfl rfl ?_
  refine a_iload_n (q := 1) C dX5_stuck_27 rfl rfl ?_
  refine a_aload_n (q := 0) C dX5_stuck_28 rfl rfl ?_
  refine a_getr (a := 109) (t := 110) C dX5_stuck_29 fl_RX5_7 rfl rfl ?_
  refine a_iconst (v := (0 : Int32)) C dX5_stuck_32 rfl ?_
  refine a_iald (a := 110) (x := (V 110 0)) C dX5_stuck_33 rfl (in_lit (by decide)) rfl ?_
  refine a_icmp_ne (tgt := 41) C dX5_stuck_34 (by decide) (fun c1 => ?_) (fun c1 => ?_)
  · have h := it_f c1 h
    refine a_iconst (v := (0 : Int32)) C dX5_stuck_41 rfl ?_
    refine a_sub (lv' := [(1, .int x1)]) [1] rfl ?_
    exact w_X5_stuck_42 C hT x1 (0 : Int32) V h
  · have h := it_t c1 h
    refine a_iconst (v := (1 : Int32)) C dX5_stuck_37 rfl ?_
    refine a_goto (tgt := 42) C dX5_stuck_38 (by decide) ?_
    refine a_sub (lv' := [(1, .int x1)]) [1] rfl ?_
    exact w_X5_stuck_42 C hT x1 (1 : Int32) V h
set_option maxRecDepth 20000 in
set_option maxHeartbeats 4000000 in
theorem w_X5_stuck_2 {p : Program} {l : Launch} {e : Env} {s : State} {m : MethodId} {args : Array Value} {below : List Frame} {meth : Method} {c : Code} {D : va_G} {cs : Nat → ClassId} {ad : Nat → Nat} {b0 : Nat} (C : Ctx p l s m args meth c D cs ad b0 RX5 cX5_stuck 2 (some .int)) (hT : ∀ x ∈ c.exceptionTable.toList, False)    {r9 : Int32} {W9 : VT}     :
    ∀ (x1 : Int32) (V : VT), d_X5_stuck_2 x1 V = some (r9, W9) → AW p l e (rmOf 7 0) s m args below meth c D cs ad b0 (QF below D cs ad b0 W9 ((rI r9) ad) args s 0) 2 0 V [(0, .ref (ad 109)), (1, .int x1)] [] 2 := by
  refine lo1W_ind (P := fun x1 V => AW p l e (rmOf 7 0) s m args below meth c D cs ad b0 (QF below D cs ad b0 W9 ((rI r9) ad) args s 0) 2 0 V [(0, .ref (ad 109)), (1, .int x1)] [] 2) ?_ FU
  intro k2 hk2 x1 V h
  unfold d_X5_stuck_2b at h
  refine a_iload_n (q := 1) C dX5_stuck_2 rfl rfl ?_
  refine a_aload_n (q := 0) C dX5_stuck_3 rfl rfl ?_
  refine a_getr (a := 109) (t := 110) C dX5_stuck_4 fl_RX5_7 rfl rfl ?_
  refine a_iconst (v := (0 : Int32)) C dX5_stuck_7 rfl ?_
  refine a_iald (a := 110) (x := (V 110 0)) C dX5_stuck_8 rfl (in_lit (by decide)) rfl ?_
  refine a_icmp_ge (tgt := 26) C dX5_stuck_9 (by decide) (fun c1 => ?_) (fun c1 => ?_)
  · have h := it_t c1 h
    refine a_sub (lv' := [(0, .ref (ad 109)), (1, .int x1)]) [0, 1] rfl ?_
    exact w_X5_stuck_26 C hT x1 V h
  · have h := it_f c1 h
    refine a_aload_n (q := 0) C dX5_stuck_12 rfl rfl ?_
    refine a_iload_n (q := 1) C dX5_stuck_13 rfl rfl ?_
    obtain ⟨r3, g2, h⟩ := bd_spec h
    refine a_cVi (a := 109) (st := []) C dX5_stuck_14 cv_RX5_132 (w_X5_isStuck x1  V r3 g2) rfl rfl rfl rfl rfl ⟨Nat.le_of_ble_eq_true rfl, Nat.le_of_ble_eq_true rfl, Nat.le_of_ble_eq_true rfl, Nat.le_of_ble_eq_true rfl⟩ (Nat.le_of_ble_eq_true rfl) ?_
    refine a_if_ne (tgt := 26) C dX5_stuck_17 (by decide) (fun c4 => ?_) (fun c4 => ?_)
    · have h := it_f c4 h
      refine a_sub (lv' := [(0, .ref (ad 109)), (1, .int x1)]) [0, 1] rfl ?_
      exact w_X5_stuck_26 C hT x1 V h
    · have h := it_t c4 h
      refine a_iinc (q := 1) (v := (x1 + (1 : Int32))) (lv' := [(1, .int (x1 + (1 : Int32))), (0, .ref (ad 109))]) C dX5_stuck_20 rfl rfl (by decide) rfl ?_
      refine a_goto (tgt := 2) C dX5_stuck_23 (by decide) ?_
      refine a_sub (lv' := [(0, .ref (ad 109)), (1, .int (x1 + (1 : Int32)))]) [1, 0] rfl ?_
      exact hk2 (x1 + (1 : Int32)) V h
set_option maxRecDepth 20000 in
set_option maxHeartbeats 4000000 in
theorem w_X5_stuck   (V : VT) (r9 : Int32) (W9 : VT) (h : d_X5_stuck  V = some (r9, W9)) : AM 7 0 yX5_stuck (.code yX5_stuck cX5_stuck 2 (some .int)) (fun ad => [.ref (ad 109)]) V W9 (rI r9) := by
  unfold d_X5_stuck at h
  refine AM.of (by decide +kernel) (fun ad => Nat.le_of_ble_eq_true rfl) (fun {p l e s m args below meth c D cs ad b0} C hT => ?_)
  have C : Ctx p l s m args meth c D cs ad b0 RX5 cX5_stuck 2 (some .int) := C
  refine a_sub (lv' := [(0, .ref (ad 109))]) [0] rfl ?_
  refine a_iconst (v := (0 : Int32)) C dX5_stuck_0 rfl ?_
  refine a_istore_n (lv' := [(1, .int (0 : Int32)), (0, .ref (ad 109))]) C dX5_stuck_1 rfl (by decide) rfl ?_
  refine a_sub (lv' := [(0, .ref (ad 109)), (1, .int (0 : Int32))]) [1, 0] rfl ?_
  exact w_X5_stuck_2 C hT (0 : Int32) V h
set_option maxRecDepth 20000 in
set_option maxHeartbeats 4000000 in
theorem w_X5_plainNeighbours_4 {p : Program} {l : Launch} {e : Env} {s : State} {m : MethodId} {args : Array Value} {below : List Frame} {meth : Method} {c : Code} {D : va_G} {cs : Nat → ClassId} {ad : Nat → Nat} {b0 : Nat} (C : Ctx p l s m args meth c D cs ad b0 RX5 cX5_plainNeighbours 4 (some .int)) (hT : ∀ x ∈ c.exceptionTable.toList, False)   {V : VT} {r9 : Int32}     :
    ∀ (x1 x2 x3 : Int32) , d_X5_plainNeighbours_4 V x1 x2 x3 = some r9 → AW p l e (rmOf 4 0) s m args below meth c D cs ad b0 (QF below D cs ad b0 V ((rI r9) ad) args s 0) 4 0 V [(0, .ref (ad 109)), (1, .int x1), (2, .int x2), (3, .int x3)] [] 4 := by
  refine lo3_ind (P := fun x1 x2 x3 => AW p l e (rmOf 4 0) s m args below meth c D cs ad b0 (QF below D cs ad b0 V ((rI r9) ad) args s 0) 4 0 V [(0, .ref (ad 109)), (1, .int x1), (2, .int x2), (3, .int x3)] [] 4) ?_ FU
  intro k4 hk4 x1 x2 x3 h
  unfold d_X5_plainNeighbours_4b at h
  refine a_iload_n (q := 3) C dX5_plainNeighbours_4 rfl rfl ?_
  refine a_aload_n (q := 0) C dX5_plainNeighbours_5 rfl rfl ?_
  refine a_getr (a := 109) (t := 110) C dX5_plainNeighbours_6 fl_RX5_7 rfl rfl ?_
  refine a_iconst (v := (0 : Int32)) C dX5_plainNeighbours_9 rfl ?_
  refine a_iald (a := 110) (x := (V 110 0)) C dX5_plainNeighbours_10 rfl (in_lit (by decide)) rfl ?_
  refine a_icmp_ge (tgt := 45) C dX5_plainNeighbours_11 (by decide) (fun c1 => ?_) (fun c1 => ?_)
  · have h := it_t c1 h
    refine a_iload_n (q := 2) C dX5_plainNeighbours_45 rfl rfl ?_
    obtain rfl := ret1 h
    exact a_iret C dX5_plainNeighbours_46 rfl (by decide) rfl rfl
  · have h := it_f c1 h
    refine a_iload_n (q := 2) C dX5_plainNeighbours_14 rfl rfl ?_
    refine a_aload_n (q := 0) C dX5_plainNeighbours_15 rfl rfl ?_
    refine a_iload_n (q := 1) C dX5_plainNeighbours_16 rfl rfl ?_
    refine a_iload_n (q := 3) C dX5_plainNeighbours_17 rfl rfl ?_
    obtain ⟨r3, g2, h⟩ := bd_spec h
    refine a_cVi (a := 109) (st := [.int x2]) C dX5_plainNeighbours_18 cv_RX5_67 (w_X5_touches x1 x3  V r3 g2) rfl rfl rfl rfl rfl ⟨Nat.le_of_ble_eq_true rfl, Nat.le_of_ble_eq_true rfl, Nat.le_of_ble_eq_true rfl, Nat.le_of_ble_eq_true rfl⟩ (Nat.le_of_ble_eq_true rfl) ?_
    refine a_if_eq (tgt := 36) C dX5_plainNeighbours_21 (by decide) (fun c4 => ?_) (fun c4 => ?_)
    · have h := it_t c4 h
      refine a_iconst (v := (0 : Int32)) C dX5_plainNeighbours_36 rfl ?_
      refine a_iadd C dX5_plainNeighbours_37 ?_
      refine a_istore_n (lv' := [(2, .int (x2 + (0 : Int32))), (0, .ref (ad 109)), (1, .int x1), (3, .int x3)]) C dX5_plainNeighbours_38 rfl (by decide) rfl ?_
      refine a_iinc (q := 3) (v := (x3 + (1 : Int32))) (lv' := [(3, .int (x3 + (1 : Int32))), (2, .int (x2 + (0 : Int32))), (0, .ref (ad 109)), (1, .int x1)]) C dX5_plainNeighbours_39 rfl rfl (by decide) rfl ?_
      refine a_goto (tgt := 4) C dX5_plainNeighbours_42 (by decide) ?_
      refine a_sub (lv' := [(0, .ref (ad 109)), (1, .int x1), (2, .int (x2 + (0 : Int32))), (3, .int (x3 + (1 : Int32)))]) [2, 3, 1, 0] rfl ?_
      exact hk4 x1 (x2 + (0 : Int32)) (x3 + (1 : Int32)) h
    · have h := it_f c4 h
      refine a_aload_n (q := 0) C dX5_plainNeighbours_24 rfl rfl ?_
      refine a_iload_n (q := 3) C dX5_plainNeighbours_25 rfl rfl ?_
      obtain ⟨r6, g5, h⟩ := bd_spec h
      refine a_cVi (a := 109) (st := [.int x2]) C dX5_plainNeighbours_26 cv_RX5_90 (w_X5_isPainted x3  V r6 g5) rfl rfl rfl rfl rfl ⟨Nat.le_of_ble_eq_true rfl, Nat.le_of_ble_eq_true rfl, Nat.le_of_ble_eq_true rfl, Nat.le_of_ble_eq_true rfl⟩ (Nat.le_of_ble_eq_true rfl) ?_
      refine a_if_ne (tgt := 36) C dX5_plainNeighbours_29 (by decide) (fun c7 => ?_) (fun c7 => ?_)
      · have h := it_f c7 h
        refine a_iconst (v := (0 : Int32)) C dX5_plainNeighbours_36 rfl ?_
        refine a_iadd C dX5_plainNeighbours_37 ?_
        refine a_istore_n (lv' := [(2, .int (x2 + (0 : Int32))), (0, .ref (ad 109)), (1, .int x1), (3, .int x3)]) C dX5_plainNeighbours_38 rfl (by decide) rfl ?_
        refine a_iinc (q := 3) (v := (x3 + (1 : Int32))) (lv' := [(3, .int (x3 + (1 : Int32))), (2, .int (x2 + (0 : Int32))), (0, .ref (ad 109)), (1, .int x1)]) C dX5_plainNeighbours_39 rfl rfl (by decide) rfl ?_
        refine a_goto (tgt := 4) C dX5_plainNeighbours_42 (by decide) ?_
        refine a_sub (lv' := [(0, .ref (ad 109)), (1, .int x1), (2, .int (x2 + (0 : Int32))), (3, .int (x3 + (1 : Int32)))]) [2, 3, 1, 0] rfl ?_
        exact hk4 x1 (x2 + (0 : Int32)) (x3 + (1 : Int32)) h
      · have h := it_t c7 h
        refine a_iconst (v := (1 : Int32)) C dX5_plainNeighbours_32 rfl ?_
        refine a_goto (tgt := 37) C dX5_plainNeighbours_33 (by decide) ?_
        refine a_iadd C dX5_plainNeighbours_37 ?_
        refine a_istore_n (lv' := [(2, .int (x2 + (1 : Int32))), (0, .ref (ad 109)), (1, .int x1), (3, .int x3)]) C dX5_plainNeighbours_38 rfl (by decide) rfl ?_
        refine a_iinc (q := 3) (v := (x3 + (1 : Int32))) (lv' := [(3, .int (x3 + (1 : Int32))), (2, .int (x2 + (1 : Int32))), (0, .ref (ad 109)), (1, .int x1)]) C dX5_plainNeighbours_39 rfl rfl (by decide) rfl ?_
        refine a_goto (tgt := 4) C dX5_plainNeighbours_42 (by decide) ?_
        refine a_sub (lv' := [(0, .ref (ad 109)), (1, .int x1), (2, .int (x2 + (1 : Int32))), (3, .int (x3 + (1 : Int32)))]) [2, 3, 1, 0] rfl ?_
        exact hk4 x1 (x2 + (1 : Int32)) (x3 + (1 : Int32)) h
set_option maxRecDepth 20000 in
set_option maxHeartbeats 4000000 in
theorem w_X5_plainNeighbours (x1 : Int32)  (V : VT) (r9 : Int32) (h : d_X5_plainNeighbours x1 V = some r9) : AM 4 0 yX5_plainNeighbours (.code yX5_plainNeighbours cX5_plainNeighbours 4 (some .int)) (fun ad => [.ref (ad 109), .int x1]) V V (rI r9) := by
  unfold d_X5_plainNeighbours at h
  refine AM.of (by decide +kernel) (fun ad => Nat.le_of_ble_eq_true rfl) (fun {p l e s m args below meth c D cs ad b0} C hT => ?_)
  have C : Ctx p l s m args meth c D cs ad b0 RX5 cX5_plainNeighbours 4 (some .int) := C
  refine a_sub (lv' := [(0, .ref (ad 109)), (1, .int x1)]) [0, 1] rfl ?_
  refine a_iconst (v := (0 : Int32)) C dX5_plainNeighbours_0 rfl ?_
  refine a_istore_n (lv' := [(2, .int (0 : Int32)), (0, .ref (ad 109)), (1, .int x1)]) C dX5_plainNeighbours_1 rfl (by decide) rfl ?_
  refine a_iconst (v := (0 : Int32)) C dX5_plainNeighbours_2 rfl ?_
  refine a_istore_n (lv' := [(3, .int (0 : Int32)), (2, .int (0 : Int32)), (0, .ref (ad 109)), (1, .int x1)]) C dX5_plainNeighbours_3 rfl (by decide) rfl ?_
  refine a_sub (lv' := [(0, .ref (ad 109)), (1, .int x1), (2, .int (0 : Int32)), (3, .int (0 : Int32))]) [2, 3, 1, 0] rfl ?_
  exact w_X5_plainNeighbours_4 C hT x1 (0 : Int32) (0 : Int32) h
set_option maxRecDepth 20000 in
set_option maxHeartbeats 4000000 in
theorem w_X5_next_86 {p : Program} {l : Launch} {e : Env} {s : State} {m : MethodId} {args : Array Value} {below : List Frame} {meth : Method} {c : Code} {D : va_G} {cs : Nat → ClassId} {ad : Nat → Nat} {b0 : Nat} (C : Ctx p l s m args meth c D cs ad b0 RX5 cX5_next 3 (some .int)) (hT : ∀ x ∈ c.exceptionTable.toList, False)    {r9 : Int32} {W9 : VT}     :
    ∀ (x1 s0 : Int32) (V : VT), d_X5_next_86 x1 s0 V = some (r9, W9) → AW p l e (rmOf 6 0) s m args below meth c D cs ad b0 (QF below D cs ad b0 W9 ((rI r9) ad) args s 0) 3 0 V [(1, .int x1)] [.int s0, .ref (ad 109)] 86 := by
  intro x1 s0 V h
  unfold d_X5_next_86 at h
  obtain ⟨r3, V2, g1, h⟩ := bw_spec h
  refine a_cVi (a := 109) (st := []) C dX5_next_86 cv_RX5_71 (w_X5_fails s0  V r3 V2 g1) rfl rfl rfl rfl rfl ⟨Nat.le_of_ble_eq_true rfl, Nat.le_of_ble_eq_true rfl, Nat.le_of_ble_eq_true rfl, Nat.le_of_ble_eq_true rfl⟩ (Nat.le_of_ble_eq_true rfl) ?_
  refine a_if_eq (tgt := 96) C dX5_next_89 (by decide) (fun c4 => ?_) (fun c4 => ?_)
  · have h := it_t c4 h
    refine a_iload_n (q := 0) C dX5_next_96 rfl rfl ?_
    obtain ⟨rfl, rfl⟩ := ret2 h
    exact a_iret C dX5_next_97 rfl (by decide) rfl rfl
  · have h := it_f c4 h
    refine a_iconst (v := (0 : Int32)) C dX5_next_92 rfl ?_
    refine a_goto (tgt := 97) C dX5_next_93 (by decide) ?_
    obtain ⟨rfl, rfl⟩ := ret2 h
    exact a_iret C dX5_next_97 rfl (by decide) rfl rfl
set_option maxRecDepth 20000 in
set_option maxHeartbeats 4000000 in
theorem w_X5_next_4 {p : Program} {l : Launch} {e : Env} {s : State} {m : MethodId} {args : Array Value} {below : List Frame} {meth : Method} {c : Code} {D : va_G} {cs : Nat → ClassId} {ad : Nat → Nat} {b0 : Nat} (C : Ctx p l s m args meth c D cs ad b0 RX5 cX5_next 3 (some .int)) (hT : ∀ x ∈ c.exceptionTable.toList, False)    {r9 : Int32} {W9 : VT}     :
    ∀ (x1 x2 : Int32) (V : VT), d_X5_next_4 x1 x2 V = some (r9, W9) → AW p l e (rmOf 6 0) s m args below meth c D cs ad b0 (QF below D cs ad b0 W9 ((rI r9) ad) args s 0) 3 0 V [(0, .ref (ad 109)), (1, .int x1), (2, .int x2)] [] 4 := by
  refine lo2W_ind (P := fun x1 x2 V => AW p l e (rmOf 6 0) s m args below meth c D cs ad b0 (QF below D cs ad b0 W9 ((rI r9) ad) args s 0) 3 0 V [(0, .ref (ad 109)), (1, .int x1), (2, .int x2)] [] 4) ?_ FU
  intro k4 hk4 x1 x2 V h
  unfold d_X5_next_4b at h
  refine a_iload_n (q := 2) C dX5_next_4 rfl rfl ?_
  refine a_aload_n (q := 0) C dX5_next_5 rfl rfl ?_
  refine a_getr (a := 109) (t := 110) C dX5_next_6 fl_RX5_7 rfl rfl ?_
  refine a_iconst (v := (0 : Int32)) C dX5_next_9 rfl ?_
  refine a_iald (a := 110) (x := (V 110 0)) C dX5_next_10 rfl (in_lit (by decide)) rfl ?_
  refine a_icmp_ge (tgt := 76) C dX5_next_11 (by decide) (fun c1 => ?_) (fun c1 => ?_)
  · have h := it_t c1 h
    refine a_aload_n (q := 0) C dX5_next_76 rfl rfl ?_
    refine a_iload_n (q := 1) C dX5_next_77 rfl rfl ?_
    refine a_if_ge (tgt := 85) C dX5_next_78 (by decide) (fun c2 => ?_) (fun c2 => ?_)
    · have h := it_t c2 h
      refine a_iconst (v := (0 : Int32)) C dX5_next_85 rfl ?_
      refine a_sub (lv' := [(1, .int x1)]) [1] rfl ?_
      exact w_X5_next_86 C hT x1 (0 : Int32) V h
    · have h := it_f c2 h
      refine a_iconst (v := (1 : Int32)) C dX5_next_81 rfl ?_
      refine a_goto (tgt := 86) C dX5_next_82 (by decide) ?_
      refine a_sub (lv' := [(1, .int x1)]) [1] rfl ?_
      exact w_X5_next_86 C hT x1 (1 : Int32) V h
  · have h := it_f c1 h
    refine a_aload_n (q := 0) C dX5_next_14 rfl rfl ?_
    refine a_iload_n (q := 2) C dX5_next_15 rfl rfl ?_
    obtain ⟨r4, g3, h⟩ := bd_spec h
    refine a_cVi (a := 109) (st := []) C dX5_next_16 cv_RX5_90 (w_X5_isPainted x2  V r4 g3) rfl rfl rfl rfl rfl ⟨Nat.le_of_ble_eq_true rfl, Nat.le_of_ble_eq_true rfl, Nat.le_of_ble_eq_true rfl, Nat.le_of_ble_eq_true rfl⟩ (Nat.le_of_ble_eq_true rfl) ?_
    refine a_if_eq (tgt := 25) C dX5_next_19 (by decide) (fun c5 => ?_) (fun c5 => ?_)
    · have h := it_t c5 h
      refine a_iload_n (q := 1) C dX5_next_25 rfl rfl ?_
      refine a_if_lt (tgt := 68) C dX5_next_26 (by decide) (fun c6 => ?_) (fun c6 => ?_)
      · have h := it_t c6 h
        refine a_iload_n (q := 2) C dX5_next_68 rfl rfl ?_
        refine a_istore_n (lv' := [(1, .int x2), (0, .ref (ad 109)), (2, .int x2)]) C dX5_next_69 rfl (by decide) rfl ?_
        refine a_iinc (q := 2) (v := (x2 + (1 : Int32))) (lv' := [(2, .int (x2 + (1 : Int32))), (1, .int x2), (0, .ref (ad 109))]) C dX5_next_70 rfl rfl (by decide) rfl ?_
        refine a_goto (tgt := 4) C dX5_next_73 (by decide) ?_
        refine a_sub (lv' := [(0, .ref (ad 109)), (1, .int x2), (2, .int (x2 + (1 : Int32)))]) [2, 1, 0] rfl ?_
        exact hk4 x2 (x2 + (1 : Int32)) V h
      · have h := it_f c6 h
        refine a_aload_n (q := 0) C dX5_next_29 rfl rfl ?_
        refine a_iload_n (q := 2) C dX5_next_30 rfl rfl ?_
        obtain ⟨r8, g7, h⟩ := bd_spec h
        refine a_cVi (a := 109) (st := []) C dX5_next_31 cv_RX5_107 (w_X5_freeMany x2  V r8 g7) rfl rfl rfl rfl rfl ⟨Nat.le_of_ble_eq_true rfl, Nat.le_of_ble_eq_true rfl, Nat.le_of_ble_eq_true rfl, Nat.le_of_ble_eq_true rfl⟩ (Nat.le_of_ble_eq_true rfl) ?_
        refine a_aload_n (q := 0) C dX5_next_34 rfl rfl ?_
        refine a_iload_n (q := 1) C dX5_next_35 rfl rfl ?_
        obtain ⟨r10, g9, h⟩ := bd_spec h
        refine a_cVi (a := 109) (st := [.int r8]) C dX5_next_36 cv_RX5_107 (w_X5_freeMany x1  V r10 g9) rfl rfl rfl rfl rfl ⟨Nat.le_of_ble_eq_true rfl, Nat.le_of_ble_eq_true rfl, Nat.le_of_ble_eq_true rfl, Nat.le_of_ble_eq_true rfl⟩ (Nat.le_of_ble_eq_true rfl) ?_
        refine a_icmp_lt (tgt := 68) C dX5_next_39 (by decide) (fun c11 => ?_) (fun c11 => ?_)
        · have h := it_t c11 h
          refine a_iload_n (q := 2) C dX5_next_68 rfl rfl ?_
          refine a_istore_n (lv' := [(1, .int x2), (0, .ref (ad 109)), (2, .int x2)]) C dX5_next_69 rfl (by decide) rfl ?_
          refine a_iinc (q := 2) (v := (x2 + (1 : Int32))) (lv' := [(2, .int (x2 + (1 : Int32))), (1, .int x2), (0, .ref (ad 109))]) C dX5_next_70 rfl rfl (by decide) rfl ?_
          refine a_goto (tgt := 4) C dX5_next_73 (by decide) ?_
          refine a_sub (lv' := [(0, .ref (ad 109)), (1, .int x2), (2, .int (x2 + (1 : Int32)))]) [2, 1, 0] rfl ?_
          exact hk4 x2 (x2 + (1 : Int32)) V h
        · have h := it_f c11 h
          refine a_aload_n (q := 0) C dX5_next_42 rfl rfl ?_
          refine a_iload_n (q := 2) C dX5_next_43 rfl rfl ?_
          obtain ⟨r13, g12, h⟩ := bd_spec h
          refine a_cVi (a := 109) (st := []) C dX5_next_44 cv_RX5_107 (w_X5_freeMany x2  V r13 g12) rfl rfl rfl rfl rfl ⟨Nat.le_of_ble_eq_true rfl, Nat.le_of_ble_eq_true rfl, Nat.le_of_ble_eq_true rfl, Nat.le_of_ble_eq_true rfl⟩ (Nat.le_of_ble_eq_true rfl) ?_
          refine a_aload_n (q := 0) C dX5_next_47 rfl rfl ?_
          refine a_iload_n (q := 1) C dX5_next_48 rfl rfl ?_
          obtain ⟨r15, g14, h⟩ := bd_spec h
          refine a_cVi (a := 109) (st := [.int r13]) C dX5_next_49 cv_RX5_107 (w_X5_freeMany x1  V r15 g14) rfl rfl rfl rfl rfl ⟨Nat.le_of_ble_eq_true rfl, Nat.le_of_ble_eq_true rfl, Nat.le_of_ble_eq_true rfl, Nat.le_of_ble_eq_true rfl⟩ (Nat.le_of_ble_eq_true rfl) ?_
          refine a_icmp_ne (tgt := 70) C dX5_next_52 (by decide) (fun c16 => ?_) (fun c16 => ?_)
          · have h := it_f c16 h
            refine a_iinc (q := 2) (v := (x2 + (1 : Int32))) (lv' := [(2, .int (x2 + (1 : Int32))), (0, .ref (ad 109)), (1, .int x1)]) C dX5_next_70 rfl rfl (by decide) rfl ?_
            refine a_goto (tgt := 4) C dX5_next_73 (by decide) ?_
            refine a_sub (lv' := [(0, .ref (ad 109)), (1, .int x1), (2, .int (x2 + (1 : Int32)))]) [1, 2, 0] rfl ?_
            exact hk4 x1 (x2 + (1 : Int32)) V h
          · have h := it_t c16 h
            refine a_aload_n (q := 0) C dX5_next_55 rfl rfl ?_
            refine a_iload_n (q := 2) C dX5_next_56 rfl rfl ?_
            obtain ⟨r18, g17, h⟩ := bd_spec h
            refine a_cVi (a := 109) (st := []) C dX5_next_57 cv_RX5_135 (w_X5_plainNeighbours x2  V r18 g17) rfl rfl rfl rfl rfl ⟨Nat.le_of_ble_eq_true rfl, Nat.le_of_ble_eq_true rfl, Nat.le_of_ble_eq_true rfl, Nat.le_of_ble_eq_true rfl⟩ (Nat.le_of_ble_eq_true rfl) ?_
            refine a_aload_n (q := 0) C dX5_next_60 rfl rfl ?_
            refine a_iload_n (q := 1) C dX5_next_61 rfl rfl ?_
            obtain ⟨r20, g19, h⟩ := bd_spec h
            refine a_cVi (a := 109) (st := [.int r18]) C dX5_next_62 cv_RX5_135 (w_X5_plainNeighbours x1  V r20 g19) rfl rfl rfl rfl rfl ⟨Nat.le_of_ble_eq_true rfl, Nat.le_of_ble_eq_true rfl, Nat.le_of_ble_eq_true rfl, Nat.le_of_ble_eq_true rfl⟩ (Nat.le_of_ble_eq_true rfl) ?_
            refine a_icmp_le (tgt := 70) C dX5_next_65 (by decide) (fun c21 => ?_) (fun c21 => ?_)
            · have h := it_t c21 h
              refine a_iinc (q := 2) (v := (x2 + (1 : Int32))) (lv' := [(2, .int (x2 + (1 : Int32))), (0, .ref (ad 109)), (1, .int x1)]) C dX5_next_70 rfl rfl (by decide) rfl ?_
              refine a_goto (tgt := 4) C dX5_next_73 (by decide) ?_
              refine a_sub (lv' := [(0, .ref (ad 109)), (1, .int x1), (2, .int (x2 + (1 : Int32)))]) [1, 2, 0] rfl ?_
              exact hk4 x1 (x2 + (1 : Int32)) V h
            · have h := it_f c21 h
              refine a_iload_n (q := 2) C dX5_next_68 rfl rfl ?_
              refine a_istore_n (lv' := [(1, .int x2), (0, .ref (ad 109)), (2, .int x2)]) C dX5_next_69 rfl (by decide) rfl ?_
              refine a_iinc (q := 2) (v := (x2 + (1 : Int32))) (lv' := [(2, .int (x2 + (1 : Int32))), (1, .int x2), (0, .ref (ad 109))]) C dX5_next_70 rfl rfl (by decide) rfl ?_
              refine a_goto (tgt := 4) C dX5_next_73 (by decide) ?_
              refine a_sub (lv' := [(0, .ref (ad 109)), (1, .int x2), (2, .int (x2 + (1 : Int32)))]) [2, 1, 0] rfl ?_
              exact hk4 x2 (x2 + (1 : Int32)) V h
    · have h := it_f c5 h
      refine a_goto (tgt := 70) C dX5_next_22 (by decide) ?_
      refine a_iinc (q := 2) (v := (x2 + (1 : Int32))) (lv' := [(2, .int (x2 + (1 : Int32))), (0, .ref (ad 109)), (1, .int x1)]) C dX5_next_70 rfl rfl (by decide) rfl ?_
      refine a_goto (tgt := 4) C dX5_next_73 (by decide) ?_
      refine a_sub (lv' := [(0, .ref (ad 109)), (1, .int x1), (2, .int (x2 + (1 : Int32)))]) [1, 2, 0] rfl ?_
      exact hk4 x1 (x2 + (1 : Int32)) V h
set_option maxRecDepth 20000 in
set_option maxHeartbeats 4000000 in
theorem w_X5_next   (V : VT) (r9 : Int32) (W9 : VT) (h : d_X5_next  V = some (r9, W9)) : AM 6 0 yX5_next (.code yX5_next cX5_next 3 (some .int)) (fun ad => [.ref (ad 109)]) V W9 (rI r9) := by
  unfold d_X5_next at h
  refine AM.of (by decide +kernel) (fun ad => Nat.le_of_ble_eq_true rfl) (fun {p l e s m args below meth c D cs ad b0} C hT => ?_)
  have C : Ctx p l s m args meth c D cs ad b0 RX5 cX5_next 3 (some .int) := C
  refine a_sub (lv' := [(0, .ref (ad 109))]) [0] rfl ?_
  refine a_iconst (v := (-1 : Int32)) C dX5_next_0 rfl ?_
  refine a_istore_n (lv' := [(1, .int (-1 : Int32)), (0, .ref (ad 109))]) C dX5_next_1 rfl (by decide) rfl ?_
  refine a_iconst (v := (0 : Int32)) C dX5_next_2 rfl ?_
  refine a_istore_n (lv' := [(2, .int (0 : Int32)), (1, .int (-1 : Int32)), (0, .ref (ad 109))]) C dX5_next_3 rfl (by decide) rfl ?_
  refine a_sub (lv' := [(0, .ref (ad 109)), (1, .int (-1 : Int32)), (2, .int (0 : Int32))]) [2, 1, 0] rfl ?_
  exact w_X5_next_4 C hT (-1 : Int32) (0 : Int32) V h
set_option maxRecDepth 20000 in
set_option maxHeartbeats 4000000 in
theorem w_X5_takes_5 {p : Program} {l : Launch} {e : Env} {s : State} {m : MethodId} {args : Array Value} {below : List Frame} {meth : Method} {c : Code} {D : va_G} {cs : Nat → ClassId} {ad : Nat → Nat} {b0 : Nat} (C : Ctx p l s m args meth c D cs ad b0 RX5 cX5_takes 5 (some .int)) (hT : ∀ x ∈ c.exceptionTable.toList, False)   {V : VT} {r9 : Int32}     :
    ∀ (x1 x2 x3 x4 : Int32) , d_X5_takes_5 V x1 x2 x3 x4 = some r9 → AW p l e (rmOf 5 0) s m args below meth c D cs ad b0 (QF below D cs ad b0 V ((rI r9) ad) args s 0) 5 0 V [(0, .ref (ad 109)), (1, .int x1), (2, .int x2), (3, .int x3), (4, .int x4)] [] 5 := by
  refine lo4_ind (P := fun x1 x2 x3 x4 => AW p l e (rmOf 5 0) s m args below meth c D cs ad b0 (QF below D cs ad b0 V ((rI r9) ad) args s 0) 5 0 V [(0, .ref (ad 109)), (1, .int x1), (2, .int x2), (3, .int x3), (4, .int x4)] [] 5) ?_ FU
  intro k5 hk5 x1 x2 x3 x4 h
  unfold d_X5_takes_5b at h
  refine a_iload (q := 4) C dX5_takes_5 rfl ?_
  refine a_aload_n (q := 0) C dX5_takes_7 rfl rfl ?_
  refine a_getr (a := 109) (t := 110) C dX5_takes_8 fl_RX5_7 rfl rfl ?_
  refine a_iconst (v := (0 : Int32)) C dX5_takes_11 rfl ?_
  refine a_iald (a := 110) (x := (V 110 0)) C dX5_takes_12 rfl (in_lit (by decide)) rfl ?_
  refine a_icmp_ge (tgt := 50) C dX5_takes_13 (by decide) (fun c1 => ?_) (fun c1 => ?_)
  · have h := it_t c1 h
    refine a_iload_n (q := 3) C dX5_takes_50 rfl rfl ?_
    obtain rfl := ret1 h
    exact a_iret C dX5_takes_51 rfl (by decide) rfl rfl
  · have h := it_f c1 h
    refine a_iload_n (q := 3) C dX5_takes_16 rfl rfl ?_
    refine a_aload_n (q := 0) C dX5_takes_17 rfl rfl ?_
    refine a_iload_n (q := 1) C dX5_takes_18 rfl rfl ?_
    refine a_iload (q := 4) C dX5_takes_19 rfl ?_
    obtain ⟨r3, g2, h⟩ := bd_spec h
    refine a_cVi (a := 109) (st := [.int x3]) C dX5_takes_21 cv_RX5_67 (w_X5_touches x1 x4  V r3 g2) rfl rfl rfl rfl rfl ⟨Nat.le_of_ble_eq_true rfl, Nat.le_of_ble_eq_true rfl, Nat.le_of_ble_eq_true rfl, Nat.le_of_ble_eq_true rfl⟩ (Nat.le_of_ble_eq_true rfl) ?_
    refine a_if_eq (tgt := 41) C dX5_takes_24 (by decide) (fun c4 => ?_) (fun c4 => ?_)
    · have h := it_t c4 h
      refine a_iconst (v := (0 : Int32)) C dX5_takes_41 rfl ?_
      refine a_iadd C dX5_takes_42 ?_
      refine a_istore_n (lv' := [(3, .int (x3 + (0 : Int32))), (0, .ref (ad 109)), (1, .int x1), (2, .int x2), (4, .int x4)]) C dX5_takes_43 rfl (by decide) rfl ?_
      refine a_iinc (q := 4) (v := (x4 + (1 : Int32))) (lv' := [(4, .int (x4 + (1 : Int32))), (3, .int (x3 + (0 : Int32))), (0, .ref (ad 109)), (1, .int x1), (2, .int x2)]) C dX5_takes_44 rfl rfl (by decide) rfl ?_
      refine a_goto (tgt := 5) C dX5_takes_47 (by decide) ?_
      refine a_sub (lv' := [(0, .ref (ad 109)), (1, .int x1), (2, .int x2), (3, .int (x3 + (0 : Int32))), (4, .int (x4 + (1 : Int32)))]) [2, 3, 4, 1, 0] rfl ?_
      exact hk5 x1 x2 (x3 + (0 : Int32)) (x4 + (1 : Int32)) h
    · have h := it_f c4 h
      refine a_aload_n (q := 0) C dX5_takes_27 rfl rfl ?_
      refine a_iload (q := 4) C dX5_takes_28 rfl ?_
      refine a_iload_n (q := 2) C dX5_takes_30 rfl rfl ?_
      obtain ⟨r6, g5, h⟩ := bd_spec h
      refine a_cVi (a := 109) (st := [.int x3]) C dX5_takes_31 cv_RX5_100 (w_X5_isFree x4 x2  V r6 g5) rfl rfl rfl rfl rfl ⟨Nat.le_of_ble_eq_true rfl, Nat.le_of_ble_eq_true rfl, Nat.le_of_ble_eq_true rfl, Nat.le_of_ble_eq_true rfl⟩ (Nat.le_of_ble_eq_true rfl) ?_
      refine a_if_eq (tgt := 41) C dX5_takes_34 (by decide) (fun c7 => ?_) (fun c7 => ?_)
      · have h := it_t c7 h
        refine a_iconst (v := (0 : Int32)) C dX5_takes_41 rfl ?_
        refine a_iadd C dX5_takes_42 ?_
        refine a_istore_n (lv' := [(3, .int (x3 + (0 : Int32))), (0, .ref (ad 109)), (1, .int x1), (2, .int x2), (4, .int x4)]) C dX5_takes_43 rfl (by decide) rfl ?_
        refine a_iinc (q := 4) (v := (x4 + (1 : Int32))) (lv' := [(4, .int (x4 + (1 : Int32))), (3, .int (x3 + (0 : Int32))), (0, .ref (ad 109)), (1, .int x1), (2, .int x2)]) C dX5_takes_44 rfl rfl (by decide) rfl ?_
        refine a_goto (tgt := 5) C dX5_takes_47 (by decide) ?_
        refine a_sub (lv' := [(0, .ref (ad 109)), (1, .int x1), (2, .int x2), (3, .int (x3 + (0 : Int32))), (4, .int (x4 + (1 : Int32)))]) [2, 3, 4, 1, 0] rfl ?_
        exact hk5 x1 x2 (x3 + (0 : Int32)) (x4 + (1 : Int32)) h
      · have h := it_f c7 h
        refine a_iconst (v := (1 : Int32)) C dX5_takes_37 rfl ?_
        refine a_goto (tgt := 42) C dX5_takes_38 (by decide) ?_
        refine a_iadd C dX5_takes_42 ?_
        refine a_istore_n (lv' := [(3, .int (x3 + (1 : Int32))), (0, .ref (ad 109)), (1, .int x1), (2, .int x2), (4, .int x4)]) C dX5_takes_43 rfl (by decide) rfl ?_
        refine a_iinc (q := 4) (v := (x4 + (1 : Int32))) (lv' := [(4, .int (x4 + (1 : Int32))), (3, .int (x3 + (1 : Int32))), (0, .ref (ad 109)), (1, .int x1), (2, .int x2)]) C dX5_takes_44 rfl rfl (by decide) rfl ?_
        refine a_goto (tgt := 5) C dX5_takes_47 (by decide) ?_
        refine a_sub (lv' := [(0, .ref (ad 109)), (1, .int x1), (2, .int x2), (3, .int (x3 + (1 : Int32))), (4, .int (x4 + (1 : Int32)))]) [2, 3, 4, 1, 0] rfl ?_
        exact hk5 x1 x2 (x3 + (1 : Int32)) (x4 + (1 : Int32)) h
set_option maxRecDepth 20000 in
set_option maxHeartbeats 4000000 in
theorem w_X5_takes (x1 : Int32) (x2 : Int32)  (V : VT) (r9 : Int32) (h : d_X5_takes x1 x2 V = some r9) : AM 5 0 yX5_takes (.code yX5_takes cX5_takes 5 (some .int)) (fun ad => [.ref (ad 109), .int x1, .int x2]) V V (rI r9) := by
  unfold d_X5_takes at h
  refine AM.of (by decide +kernel) (fun ad => Nat.le_of_ble_eq_true rfl) (fun {p l e s m args below meth c D cs ad b0} C hT => ?_)
  have C : Ctx p l s m args meth c D cs ad b0 RX5 cX5_takes 5 (some .int) := C
  refine a_sub (lv' := [(0, .ref (ad 109)), (1, .int x1), (2, .int x2)]) [0, 1, 2] rfl ?_
  refine a_iconst (v := (0 : Int32)) C dX5_takes_0 rfl ?_
  refine a_istore_n (lv' := [(3, .int (0 : Int32)), (0, .ref (ad 109)), (1, .int x1), (2, .int x2)]) C dX5_takes_1 rfl (by decide) rfl ?_
  refine a_iconst (v := (0 : Int32)) C dX5_takes_2 rfl ?_
  refine a_istore (lv' := [(4, .int (0 : Int32)), (3, .int (0 : Int32)), (0, .ref (ad 109)), (1, .int x1), (2, .int x2)]) C dX5_takes_3 (by decide) rfl ?_
  refine a_sub (lv' := [(0, .ref (ad 109)), (1, .int x1), (2, .int x2), (3, .int (0 : Int32)), (4, .int (0 : Int32))]) [2, 3, 4, 1, 0] rfl ?_
  exact w_X5_takes_5 C hT x1 x2 (0 : Int32) (0 : Int32) h
set_option maxRecDepth 20000 in
set_option maxHeartbeats 4000000 in
theorem w_X5_gentle_77 {p : Program} {l : Launch} {e : Env} {s : State} {m : MethodId} {args : Array Value} {below : List Frame} {meth : Method} {c : Code} {D : va_G} {cs : Nat → ClassId} {ad : Nat → Nat} {b0 : Nat} (C : Ctx p l s m args meth c D cs ad b0 RX5 cX5_gentle 4 (some .int)) (hT : ∀ x ∈ c.exceptionTable.toList, False)    {r9 : Int32} {W9 : VT}     :
    ∀ (x2 s0 : Int32) (V : VT), d_X5_gentle_77 x2 s0 V = some (r9, W9) → AW p l e (rmOf 6 0) s m args below meth c D cs ad b0 (QF below D cs ad b0 W9 ((rI r9) ad) args s 0) 4 0 V [(2, .int x2)] [.int s0, .ref (ad 109)] 77 := by
  intro x2 s0 V h
  unfold d_X5_gentle_77 at h
  obtain ⟨r3, V2, g1, h⟩ := bw_spec h
  refine a_cVi (a := 109) (st := []) C dX5_gentle_77 cv_RX5_71 (w_X5_fails s0  V r3 V2 g1) rfl rfl rfl rfl rfl ⟨Nat.le_of_ble_eq_true rfl, Nat.le_of_ble_eq_true rfl, Nat.le_of_ble_eq_true rfl, Nat.le_of_ble_eq_true rfl⟩ (Nat.le_of_ble_eq_true rfl) ?_
  refine a_if_eq (tgt := 87) C dX5_gentle_80 (by decide) (fun c4 => ?_) (fun c4 => ?_)
  · have h := it_t c4 h
    refine a_iload_n (q := 0) C dX5_gentle_87 rfl rfl ?_
    obtain ⟨rfl, rfl⟩ := ret2 h
    exact a_iret C dX5_gentle_88 rfl (by decide) rfl rfl
  · have h := it_f c4 h
    refine a_iconst (v := (0 : Int32)) C dX5_gentle_83 rfl ?_
    refine a_goto (tgt := 88) C dX5_gentle_84 (by decide) ?_
    obtain ⟨rfl, rfl⟩ := ret2 h
    exact a_iret C dX5_gentle_88 rfl (by decide) rfl rfl
set_option maxRecDepth 20000 in
set_option maxHeartbeats 4000000 in
theorem w_X5_gentle_26 {p : Program} {l : Launch} {e : Env} {s : State} {m : MethodId} {args : Array Value} {below : List Frame} {meth : Method} {c : Code} {D : va_G} {cs : Nat → ClassId} {ad : Nat → Nat} {b0 : Nat} (C : Ctx p l s m args meth c D cs ad b0 RX5 cX5_gentle 4 (some .int)) (hT : ∀ x ∈ c.exceptionTable.toList, False)    {r9 : Int32} {W9 : VT}     :
    ∀ (x1 x2 x3 : Int32) (V : VT), d_X5_gentle_26 x1 x2 x3 V = some (r9, W9) → AW p l e (rmOf 6 0) s m args below meth c D cs ad b0 (QF below D cs ad b0 W9 ((rI r9) ad) args s 0) 4 0 V [(0, .ref (ad 109)), (1, .int x1), (2, .int x2), (3, .int x3)] [] 26 := by
  refine lo3W_ind (P := fun x1 x2 x3 V => AW p l e (rmOf 6 0) s m args below meth c D cs ad b0 (QF below D cs ad b0 W9 ((rI r9) ad) args s 0) 4 0 V [(0, .ref (ad 109)), (1, .int x1), (2, .int x2), (3, .int x3)] [] 26) ?_ FU
  intro k26 hk26 x1 x2 x3 V h
  unfold d_X5_gentle_26b at h
  refine a_iload_n (q := 3) C dX5_gentle_26 rfl rfl ?_
  refine a_iconst (v := (5 : Int32)) C dX5_gentle_27 rfl ?_
  refine a_icmp_ge (tgt := 67) C dX5_gentle_28 (by decide) (fun c1 => ?_) (fun c1 => ?_)
  · have h := it_t c1 h
    refine a_aload_n (q := 0) C dX5_gentle_67 rfl rfl ?_
    refine a_iload_n (q := 2) C dX5_gentle_68 rfl rfl ?_
    refine a_if_ge (tgt := 76) C dX5_gentle_69 (by decide) (fun c2 => ?_) (fun c2 => ?_)
    · have h := it_t c2 h
      refine a_iconst (v := (0 : Int32)) C dX5_gentle_76 rfl ?_
      refine a_sub (lv' := [(2, .int x2)]) [2] rfl ?_
      exact w_X5_gentle_77 C hT x2 (0 : Int32) V h
    · have h := it_f c2 h
      refine a_iconst (v := (2 : Int32)) C dX5_gentle_72 rfl ?_
      refine a_goto (tgt := 77) C dX5_gentle_73 (by decide) ?_
      refine a_sub (lv' := [(2, .int x2)]) [2] rfl ?_
      exact w_X5_gentle_77 C hT x2 (2 : Int32) V h
  · have h := it_f c1 h
    refine a_aload_n (q := 0) C dX5_gentle_31 rfl rfl ?_
    refine a_iload_n (q := 1) C dX5_gentle_32 rfl rfl ?_
    refine a_iload_n (q := 3) C dX5_gentle_33 rfl rfl ?_
    obtain ⟨r4, g3, h⟩ := bd_spec h
    refine a_cVi (a := 109) (st := []) C dX5_gentle_34 cv_RX5_100 (w_X5_isFree x1 x3  V r4 g3) rfl rfl rfl rfl rfl ⟨Nat.le_of_ble_eq_true rfl, Nat.le_of_ble_eq_true rfl, Nat.le_of_ble_eq_true rfl, Nat.le_of_ble_eq_true rfl⟩ (Nat.le_of_ble_eq_true rfl) ?_
    refine a_if_eq (tgt := 61) C dX5_gentle_37 (by decide) (fun c5 => ?_) (fun c5 => ?_)
    · have h := it_t c5 h
      refine a_iinc (q := 3) (v := (x3 + (1 : Int32))) (lv' := [(3, .int (x3 + (1 : Int32))), (0, .ref (ad 109)), (1, .int x1), (2, .int x2)]) C dX5_gentle_61 rfl rfl (by decide) rfl ?_
      refine a_goto (tgt := 26) C dX5_gentle_64 (by decide) ?_
      refine a_sub (lv' := [(0, .ref (ad 109)), (1, .int x1), (2, .int x2), (3, .int (x3 + (1 : Int32)))]) [1, 2, 3, 0] rfl ?_
      exact hk26 x1 x2 (x3 + (1 : Int32)) V h
    · have h := it_f c5 h
      refine a_iload_n (q := 2) C dX5_gentle_40 rfl rfl ?_
      refine a_if_lt (tgt := 59) C dX5_gentle_41 (by decide) (fun c6 => ?_) (fun c6 => ?_)
      · have h := it_t c6 h
        refine a_iload_n (q := 3) C dX5_gentle_59 rfl rfl ?_
        refine a_istore_n (lv' := [(2, .int x3), (0, .ref (ad 109)), (1, .int x1), (3, .int x3)]) C dX5_gentle_60 rfl (by decide) rfl ?_
        refine a_iinc (q := 3) (v := (x3 + (1 : Int32))) (lv' := [(3, .int (x3 + (1 : Int32))), (2, .int x3), (0, .ref (ad 109)), (1, .int x1)]) C dX5_gentle_61 rfl rfl (by decide) rfl ?_
        refine a_goto (tgt := 26) C dX5_gentle_64 (by decide) ?_
        refine a_sub (lv' := [(0, .ref (ad 109)), (1, .int x1), (2, .int x3), (3, .int (x3 + (1 : Int32)))]) [2, 3, 1, 0] rfl ?_
        exact hk26 x1 x3 (x3 + (1 : Int32)) V h
      · have h := it_f c6 h
        refine a_aload_n (q := 0) C dX5_gentle_44 rfl rfl ?_
        refine a_iload_n (q := 1) C dX5_gentle_45 rfl rfl ?_
        refine a_iload_n (q := 3) C dX5_gentle_46 rfl rfl ?_
        obtain ⟨r8, g7, h⟩ := bd_spec h
        refine a_cVi (a := 109) (st := []) C dX5_gentle_47 cv_RX5_138 (w_X5_takes x1 x3  V r8 g7) rfl rfl rfl rfl rfl ⟨Nat.le_of_ble_eq_true rfl, Nat.le_of_ble_eq_true rfl, Nat.le_of_ble_eq_true rfl, Nat.le_of_ble_eq_true rfl⟩ (Nat.le_of_ble_eq_true rfl) ?_
        refine a_aload_n (q := 0) C dX5_gentle_50 rfl rfl ?_
        refine a_iload_n (q := 1) C dX5_gentle_51 rfl rfl ?_
        refine a_iload_n (q := 2) C dX5_gentle_52 rfl rfl ?_
        obtain ⟨r10, g9, h⟩ := bd_spec h
        refine a_cVi (a := 109) (st := [.int r8]) C dX5_gentle_53 cv_RX5_138 (w_X5_takes x1 x2  V r10 g9) rfl rfl rfl rfl rfl ⟨Nat.le_of_ble_eq_true rfl, Nat.le_of_ble_eq_true rfl, Nat.le_of_ble_eq_true rfl, Nat.le_of_ble_eq_true rfl⟩ (Nat.le_of_ble_eq_true rfl) ?_
        refine a_icmp_ge (tgt := 61) C dX5_gentle_56 (by decide) (fun c11 => ?_) (fun c11 => ?_)
        · have h := it_t c11 h
          refine a_iinc (q := 3) (v := (x3 + (1 : Int32))) (lv' := [(3, .int (x3 + (1 : Int32))), (0, .ref (ad 109)), (1, .int x1), (2, .int x2)]) C dX5_gentle_61 rfl rfl (by decide) rfl ?_
          refine a_goto (tgt := 26) C dX5_gentle_64 (by decide) ?_
          refine a_sub (lv' := [(0, .ref (ad 109)), (1, .int x1), (2, .int x2), (3, .int (x3 + (1 : Int32)))]) [1, 2, 3, 0] rfl ?_
          exact hk26 x1 x2 (x3 + (1 : Int32)) V h
        · have h := it_f c11 h
          refine a_iload_n (q := 3) C dX5_gentle_59 rfl rfl ?_
          refine a_istore_n (lv' := [(2, .int x3), (0, .ref (ad 109)), (1, .int x1), (3, .int x3)]) C dX5_gentle_60 rfl (by decide) rfl ?_
          refine a_iinc (q := 3) (v := (x3 + (1 : Int32))) (lv' := [(3, .int (x3 + (1 : Int32))), (2, .int x3), (0, .ref (ad 109)), (1, .int x1)]) C dX5_gentle_61 rfl rfl (by decide) rfl ?_
          refine a_goto (tgt := 26) C dX5_gentle_64 (by decide) ?_
          refine a_sub (lv' := [(0, .ref (ad 109)), (1, .int x1), (2, .int x3), (3, .int (x3 + (1 : Int32)))]) [2, 3, 1, 0] rfl ?_
          exact hk26 x1 x3 (x3 + (1 : Int32)) V h
set_option maxRecDepth 20000 in
set_option maxHeartbeats 4000000 in
theorem w_X5_gentle_14 {p : Program} {l : Launch} {e : Env} {s : State} {m : MethodId} {args : Array Value} {below : List Frame} {meth : Method} {c : Code} {D : va_G} {cs : Nat → ClassId} {ad : Nat → Nat} {b0 : Nat} (C : Ctx p l s m args meth c D cs ad b0 RX5 cX5_gentle 4 (some .int)) (hT : ∀ x ∈ c.exceptionTable.toList, False)    {r9 : Int32} {W9 : VT}     :
    ∀ (x1 s0 : Int32) (V : VT), d_X5_gentle_14 x1 s0 V = some (r9, W9) → AW p l e (rmOf 6 0) s m args below meth c D cs ad b0 (QF below D cs ad b0 W9 ((rI r9) ad) args s 0) 4 0 V [(0, .ref (ad 109)), (1, .int x1)] [.int s0, .ref (ad 109)] 14 := by
  intro x1 s0 V h
  unfold d_X5_gentle_14 at h
  obtain ⟨r3, V2, g1, h⟩ := bw_spec h
  refine a_cVi (a := 109) (st := []) C dX5_gentle_14 cv_RX5_71 (w_X5_fails s0  V r3 V2 g1) rfl rfl rfl rfl rfl ⟨Nat.le_of_ble_eq_true rfl, Nat.le_of_ble_eq_true rfl, Nat.le_of_ble_eq_true rfl, Nat.le_of_ble_eq_true rfl⟩ (Nat.le_of_ble_eq_true rfl) ?_
  refine a_if_eq (tgt := 22) C dX5_gentle_17 (by decide) (fun c4 => ?_) (fun c4 => ?_)
  · have h := it_t c4 h
    refine a_iconst (v := (-1 : Int32)) C dX5_gentle_22 rfl ?_
    refine a_istore_n (lv' := [(2, .int (-1 : Int32)), (0, .ref (ad 109)), (1, .int x1)]) C dX5_gentle_23 rfl (by decide) rfl ?_
    refine a_iconst (v := (0 : Int32)) C dX5_gentle_24 rfl ?_
    refine a_istore_n (lv' := [(3, .int (0 : Int32)), (2, .int (-1 : Int32)), (0, .ref (ad 109)), (1, .int x1)]) C dX5_gentle_25 rfl (by decide) rfl ?_
    refine a_sub (lv' := [(0, .ref (ad 109)), (1, .int x1), (2, .int (-1 : Int32)), (3, .int (0 : Int32))]) [2, 3, 1, 0] rfl ?_
    exact w_X5_gentle_26 C hT x1 (-1 : Int32) (0 : Int32) V2 h
  · have h := it_f c4 h
    refine a_iconst (v := (0 : Int32)) C dX5_gentle_20 rfl ?_
    obtain ⟨rfl, rfl⟩ := ret2 h
    exact a_iret C dX5_gentle_21 rfl (by decide) rfl rfl
set_option maxRecDepth 20000 in
set_option maxHeartbeats 4000000 in
theorem w_X5_gentle (x1 : Int32)  (V : VT) (r9 : Int32) (W9 : VT) (h : d_X5_gentle x1 V = some (r9, W9)) : AM 6 0 yX5_gentle (.code yX5_gentle cX5_gentle 4 (some .int)) (fun ad => [.ref (ad 109), .int x1]) V W9 (rI r9) := by
  unfold d_X5_gentle at h
  refine AM.of (by decide +kernel) (fun ad => Nat.le_of_ble_eq_true rfl) (fun {p l e s m args below meth c D cs ad b0} C hT => ?_)
  have C : Ctx p l s m args meth c D cs ad b0 RX5 cX5_gentle 4 (some .int) := C
  refine a_sub (lv' := [(0, .ref (ad 109)), (1, .int x1)]) [0, 1] rfl ?_
  refine a_aload_n (q := 0) C dX5_gentle_0 rfl rfl ?_
  refine a_aload_n (q := 0) C dX5_gentle_1 rfl rfl ?_
  refine a_iload_n (q := 1) C dX5_gentle_2 rfl rfl ?_
  obtain ⟨r2, g1, h⟩ := bd_spec h
  refine a_cVi (a := 109) (st := [.ref (ad 109)]) C dX5_gentle_3 cv_RX5_87 (w_X5_isCountry x1  V r2 g1) rfl rfl rfl rfl rfl ⟨Nat.le_of_ble_eq_true rfl, Nat.le_of_ble_eq_true rfl, Nat.le_of_ble_eq_true rfl, Nat.le_of_ble_eq_true rfl⟩ (Nat.le_of_ble_eq_true rfl) ?_
  refine a_if_eq (tgt := 13) C dX5_gentle_6 (by decide) (fun c3 => ?_) (fun c3 => ?_)
  · have h := it_t c3 h
    refine a_iconst (v := (1 : Int32)) C dX5_gentle_13 rfl ?_
    refine a_sub (lv' := [(0, .ref (ad 109)), (1, .int x1)]) [0, 1] rfl ?_
    exact w_X5_gentle_14 C hT x1 (1 : Int32) V h
  · have h := it_f c3 h
    refine a_iconst (v := (0 : Int32)) C dX5_gentle_9 rfl ?_
    refine a_goto (tgt := 14) C dX5_gentle_10 (by decide) ?_
    refine a_sub (lv' := [(0, .ref (ad 109)), (1, .int x1)]) [0, 1] rfl ?_
    exact w_X5_gentle_14 C hT x1 (0 : Int32) V h
set_option maxRecDepth 20000 in
set_option maxHeartbeats 4000000 in
theorem w_X5_wish_35 {p : Program} {l : Launch} {e : Env} {s : State} {m : MethodId} {args : Array Value} {below : List Frame} {meth : Method} {c : Code} {D : va_G} {cs : Nat → ClassId} {ad : Nat → Nat} {b0 : Nat} (C : Ctx p l s m args meth c D cs ad b0 RX5 cX5_wish 5 (some .int)) (hT : ∀ x ∈ c.exceptionTable.toList, False)    {r9 : Int32} {W9 : VT}     :
    ∀ (x1 x2 x3 s0 : Int32) (V : VT), d_X5_wish_35 x1 x2 x3 s0 V = some (r9, W9) → AW p l e (rmOf 4 0) s m args below meth c D cs ad b0 (QF below D cs ad b0 W9 ((rI r9) ad) args s 0) 5 0 V [(0, .ref (ad 109)), (1, .int x1), (2, .int x2), (3, .int x3)] [.int s0, .ref (ad 109)] 35 := by
  intro x1 x2 x3 s0 V h
  unfold d_X5_wish_35 at h
  obtain ⟨r3, V2, g1, h⟩ := bw_spec h
  refine a_cVi (a := 109) (st := []) C dX5_wish_35 cv_RX5_71 (w_X5_fails s0  V r3 V2 g1) rfl rfl rfl rfl rfl ⟨Nat.le_of_ble_eq_true rfl, Nat.le_of_ble_eq_true rfl, Nat.le_of_ble_eq_true rfl, Nat.le_of_ble_eq_true rfl⟩ (Nat.le_of_ble_eq_true rfl) ?_
  refine a_if_eq (tgt := 43) C dX5_wish_38 (by decide) (fun c4 => ?_) (fun c4 => ?_)
  · have h := it_t c4 h
    refine a_aload_n (q := 0) C dX5_wish_43 rfl rfl ?_
    refine a_aload_n (q := 0) C dX5_wish_44 rfl rfl ?_
    refine a_getr (a := 109) (t := 110) C dX5_wish_45 fl_RX5_7 rfl rfl ?_
    obtain ⟨V6, g5, h⟩ := bd_spec h
    refine a_cVv (a := 109) (st := []) C dX5_wish_48 cv_RX5_79 (w_X5_keeps 110 rfl V2 V6 g5) rfl rfl rfl rfl rfl ⟨Nat.le_of_ble_eq_true rfl, Nat.le_of_ble_eq_true rfl, Nat.le_of_ble_eq_true rfl, Nat.le_of_ble_eq_true rfl⟩ (Nat.le_of_ble_eq_true rfl) ?_
    refine a_aload_n (q := 0) C dX5_wish_51 rfl rfl ?_
    refine a_iload_n (q := 1) C dX5_wish_52 rfl rfl ?_
    refine a_iconst (v := (2 : Int32)) C dX5_wish_53 rfl ?_
    obtain ⟨r8, g7, h⟩ := bd_spec h
    refine a_cVi (a := 109) (st := []) C dX5_wish_54 cv_RX5_63 (w_X5_of x1 (2 : Int32)  V6 r8 g7) rfl rfl rfl rfl rfl ⟨Nat.le_of_ble_eq_true rfl, Nat.le_of_ble_eq_true rfl, Nat.le_of_ble_eq_true rfl, Nat.le_of_ble_eq_true rfl⟩ (Nat.le_of_ble_eq_true rfl) ?_
    refine a_istore (lv' := [(4, .int r8), (0, .ref (ad 109)), (1, .int x1), (2, .int x2), (3, .int x3)]) C dX5_wish_57 (by decide) rfl ?_
    refine a_aload_n (q := 1) C dX5_wish_59 rfl rfl ?_
    refine a_iload_n (q := 2) C dX5_wish_60 rfl rfl ?_
    refine a_iconst (v := (2 : Int32)) C dX5_wish_61 rfl ?_
    refine a_iload_n (q := 3) C dX5_wish_62 rfl rfl ?_
    obtain ⟨V10, g9, h⟩ := bd_spec h
    refine a_cVv (a := 109) (st := []) C dX5_wish_63 cv_RX5_83 (w_X5_lays x1 (2 : Int32) x2  V6 V10 g9) rfl rfl rfl rfl rfl ⟨Nat.le_of_ble_eq_true rfl, Nat.le_of_ble_eq_true rfl, Nat.le_of_ble_eq_true rfl, Nat.le_of_ble_eq_true rfl⟩ (Nat.le_of_ble_eq_true rfl) ?_
    refine a_aload_n (q := 1) C dX5_wish_66 rfl rfl ?_
    refine a_iload_n (q := 2) C dX5_wish_67 rfl rfl ?_
    refine a_iconst (v := (3 : Int32)) C dX5_wish_68 rfl ?_
    refine a_iload_n (q := 4) C dX5_wish_69 rfl rfl ?_
    obtain ⟨V12, g11, h⟩ := bd_spec h
    refine a_cVv (a := 109) (st := []) C dX5_wish_70 cv_RX5_83 (w_X5_lays x1 (3 : Int32) x3  V10 V12 g11) rfl rfl rfl rfl rfl ⟨Nat.le_of_ble_eq_true rfl, Nat.le_of_ble_eq_true rfl, Nat.le_of_ble_eq_true rfl, Nat.le_of_ble_eq_true rfl⟩ (Nat.le_of_ble_eq_true rfl) ?_
    refine a_iload (q := 0) C dX5_wish_73 rfl ?_
    obtain ⟨rfl, rfl⟩ := ret2 h
    exact a_iret C dX5_wish_75 rfl (by decide) rfl rfl
  · have h := it_f c4 h
    refine a_iconst (v := (0 : Int32)) C dX5_wish_41 rfl ?_
    obtain ⟨rfl, rfl⟩ := ret2 h
    exact a_iret C dX5_wish_42 rfl (by decide) rfl rfl
set_option maxRecDepth 20000 in
set_option maxHeartbeats 4000000 in
theorem w_X5_wish_16 {p : Program} {l : Launch} {e : Env} {s : State} {m : MethodId} {args : Array Value} {below : List Frame} {meth : Method} {c : Code} {D : va_G} {cs : Nat → ClassId} {ad : Nat → Nat} {b0 : Nat} (C : Ctx p l s m args meth c D cs ad b0 RX5 cX5_wish 5 (some .int)) (hT : ∀ x ∈ c.exceptionTable.toList, False)    {r9 : Int32} {W9 : VT}     :
    ∀ (x1 x2 x3 : Int32) (V : VT), d_X5_wish_16 x1 x2 x3 V = some (r9, W9) → AW p l e (rmOf 4 0) s m args below meth c D cs ad b0 (QF below D cs ad b0 W9 ((rI r9) ad) args s 0) 5 0 V [(0, .ref (ad 109)), (1, .int x1), (2, .int x2), (3, .int x3)] [.ref (ad 109)] 16 := by
  intro x1 x2 x3 V h
  unfold d_X5_wish_16 at h
  refine a_iconst (v := (1 : Int32)) C dX5_wish_16 rfl ?_
  refine a_goto (tgt := 35) C dX5_wish_17 (by decide) ?_
  refine a_sub (lv' := [(0, .ref (ad 109)), (1, .int x1), (2, .int x2), (3, .int x3)]) [0, 1, 2, 3] rfl ?_
  exact w_X5_wish_35 C hT x1 x2 x3 (1 : Int32) V h
set_option maxRecDepth 20000 in
set_option maxHeartbeats 4000000 in
theorem w_X5_wish (x1 : Int32) (x2 : Int32) (x3 : Int32)  (V : VT) (r9 : Int32) (W9 : VT) (h : d_X5_wish x1 x2 x3 V = some (r9, W9)) : AM 4 0 yX5_wish (.code yX5_wish cX5_wish 5 (some .int)) (fun ad => [.ref (ad 109), .int x1, .int x2, .int x3]) V W9 (rI r9) := by
  unfold d_X5_wish at h
  refine AM.of (by decide +kernel) (fun ad => Nat.le_of_ble_eq_true rfl) (fun {p l e s m args below meth c D cs ad b0} C hT => ?_)
  have C : Ctx p l s m args meth c D cs ad b0 RX5 cX5_wish 5 (some .int) := C
  refine a_sub (lv' := [(0, .ref (ad 109)), (1, .int x1), (2, .int x2), (3, .int x3)]) [0, 1, 2, 3] rfl ?_
  refine a_aload_n (q := 0) C dX5_wish_0 rfl rfl ?_
  refine a_aload_n (q := 0) C dX5_wish_1 rfl rfl ?_
  refine a_iload_n (q := 1) C dX5_wish_2 rfl rfl ?_
  obtain ⟨r2, g1, h⟩ := bd_spec h
  refine a_cVi (a := 109) (st := [.ref (ad 109)]) C dX5_wish_3 cv_RX5_87 (w_X5_isCountry x1  V r2 g1) rfl rfl rfl rfl rfl ⟨Nat.le_of_ble_eq_true rfl, Nat.le_of_ble_eq_true rfl, Nat.le_of_ble_eq_true rfl, Nat.le_of_ble_eq_true rfl⟩ (Nat.le_of_ble_eq_true rfl) ?_
  refine a_if_eq (tgt := 16) C dX5_wish_6 (by decide) (fun c3 => ?_) (fun c3 => ?_)
  · have h := it_t c3 h
    refine a_sub (lv' := [(0, .ref (ad 109)), (1, .int x1), (2, .int x2), (3, .int x3)]) [0, 1, 2, 3] rfl ?_
    exact w_X5_wish_16 C hT x1 x2 x3 V h
  · have h := it_f c3 h
    refine a_iload_n (q := 2) C dX5_wish_9 rfl rfl ?_
    obtain ⟨r5, g4, h⟩ := bd_spec h
    refine a_cSi (st := [.ref (ad 109)]) C dX5_wish_10 cv_RX5_113 (w_X5_isHue x2  V r5 g4) rfl rfl rfl ⟨Nat.le_of_ble_eq_true rfl, Nat.le_of_ble_eq_true rfl, Nat.le_of_ble_eq_true rfl, Nat.le_of_ble_eq_true rfl⟩ (Nat.le_of_ble_eq_true rfl) ?_
    refine a_if_ne (tgt := 20) C dX5_wish_13 (by decide) (fun c6 => ?_) (fun c6 => ?_)
    · have h := it_f c6 h
      refine a_iload_n (q := 3) C dX5_wish_20 rfl rfl ?_
      refine a_iconst (v := (0 : Int32)) C dX5_wish_21 rfl ?_
      refine a_bipush (v := (9 : Int32)) C dX5_wish_22 rfl ?_
      obtain ⟨r8, g7, h⟩ := bd_spec h
      refine a_cSi (st := [.ref (ad 109)]) C dX5_wish_24 cv_RX5_59 (w_X5_in x3 (0 : Int32) (9 : Int32)  V r8 g7) rfl rfl rfl ⟨Nat.le_of_ble_eq_true rfl, Nat.le_of_ble_eq_true rfl, Nat.le_of_ble_eq_true rfl, Nat.le_of_ble_eq_true rfl⟩ (Nat.le_of_ble_eq_true rfl) ?_
      refine a_if_eq (tgt := 34) C dX5_wish_27 (by decide) (fun c9 => ?_) (fun c9 => ?_)
      · have h := it_t c9 h
        refine a_iconst (v := (2 : Int32)) C dX5_wish_34 rfl ?_
        refine a_sub (lv' := [(0, .ref (ad 109)), (1, .int x1), (2, .int x2), (3, .int x3)]) [0, 1, 2, 3] rfl ?_
        exact w_X5_wish_35 C hT x1 x2 x3 (2 : Int32) V h
      · have h := it_f c9 h
        refine a_iconst (v := (0 : Int32)) C dX5_wish_30 rfl ?_
        refine a_goto (tgt := 35) C dX5_wish_31 (by decide) ?_
        refine a_sub (lv' := [(0, .ref (ad 109)), (1, .int x1), (2, .int x2), (3, .int x3)]) [0, 1, 2, 3] rfl ?_
        exact w_X5_wish_35 C hT x1 x2 x3 (0 : Int32) V h
    · have h := it_t c6 h
      refine a_sub (lv' := [(0, .ref (ad 109)), (1, .int x1), (2, .int x2), (3, .int x3)]) [0, 1, 2, 3] rfl ?_
      exact w_X5_wish_16 C hT x1 x2 x3 V h
set_option maxRecDepth 20000 in
set_option maxHeartbeats 4000000 in
theorem w_X5_isFulfilled (x1 : Int32)  (V : VT) (r9 : Int32) (h : d_X5_isFulfilled x1 V = some r9) : AM 4 0 yX5_isFulfilled (.code yX5_isFulfilled cX5_isFulfilled 2 (some .boolean)) (fun ad => [.ref (ad 109), .int x1]) V V (rI r9) := by
  unfold d_X5_isFulfilled at h
  refine AM.of (by decide +kernel) (fun ad => Nat.le_of_ble_eq_true rfl) (fun {p l e s m args below meth c D cs ad b0} C hT => ?_)
  have C : Ctx p l s m args meth c D cs ad b0 RX5 cX5_isFulfilled 2 (some .boolean) := C
  refine a_sub (lv' := [(0, .ref (ad 109)), (1, .int x1)]) [0, 1] rfl ?_
  refine a_aload_n (q := 0) C dX5_isFulfilled_0 rfl rfl ?_
  refine a_iload_n (q := 1) C dX5_isFulfilled_1 rfl rfl ?_
  obtain ⟨r2, g1, h⟩ := bd_spec h
  refine a_cVi (a := 109) (st := []) C dX5_isFulfilled_2 cv_RX5_90 (w_X5_isPainted x1  V r2 g1) rfl rfl rfl rfl rfl ⟨Nat.le_of_ble_eq_true rfl, Nat.le_of_ble_eq_true rfl, Nat.le_of_ble_eq_true rfl, Nat.le_of_ble_eq_true rfl⟩ (Nat.le_of_ble_eq_true rfl) ?_
  refine a_if_eq (tgt := 27) C dX5_isFulfilled_5 (by decide) (fun c3 => ?_) (fun c3 => ?_)
  · have h := it_t c3 h
    refine a_iconst (v := (0 : Int32)) C dX5_isFulfilled_27 rfl ?_
    obtain rfl := ret1 h
    exact a_zret C dX5_isFulfilled_28 rfl rfl (by decide) rfl rfl
  · have h := it_f c3 h
    refine a_aload_n (q := 0) C dX5_isFulfilled_8 rfl rfl ?_
    refine a_iload_n (q := 1) C dX5_isFulfilled_9 rfl rfl ?_
    refine a_iconst (v := (2 : Int32)) C dX5_isFulfilled_10 rfl ?_
    obtain ⟨r5, g4, h⟩ := bd_spec h
    refine a_cVi (a := 109) (st := []) C dX5_isFulfilled_11 cv_RX5_63 (w_X5_of x1 (2 : Int32)  V r5 g4) rfl rfl rfl rfl rfl ⟨Nat.le_of_ble_eq_true rfl, Nat.le_of_ble_eq_true rfl, Nat.le_of_ble_eq_true rfl, Nat.le_of_ble_eq_true rfl⟩ (Nat.le_of_ble_eq_true rfl) ?_
    refine a_aload_n (q := 0) C dX5_isFulfilled_14 rfl rfl ?_
    refine a_iload_n (q := 1) C dX5_isFulfilled_15 rfl rfl ?_
    refine a_iconst (v := (1 : Int32)) C dX5_isFulfilled_16 rfl ?_
    obtain ⟨r7, g6, h⟩ := bd_spec h
    refine a_cVi (a := 109) (st := [.int r5]) C dX5_isFulfilled_17 cv_RX5_63 (w_X5_of x1 (1 : Int32)  V r7 g6) rfl rfl rfl rfl rfl ⟨Nat.le_of_ble_eq_true rfl, Nat.le_of_ble_eq_true rfl, Nat.le_of_ble_eq_true rfl, Nat.le_of_ble_eq_true rfl⟩ (Nat.le_of_ble_eq_true rfl) ?_
    refine a_icmp_ne (tgt := 27) C dX5_isFulfilled_20 (by decide) (fun c8 => ?_) (fun c8 => ?_)
    · have h := it_f c8 h
      refine a_iconst (v := (0 : Int32)) C dX5_isFulfilled_27 rfl ?_
      obtain rfl := ret1 h
      exact a_zret C dX5_isFulfilled_28 rfl rfl (by decide) rfl rfl
    · have h := it_t c8 h
      refine a_iconst (v := (1 : Int32)) C dX5_isFulfilled_23 rfl ?_
      refine a_goto (tgt := 28) C dX5_isFulfilled_24 (by decide) ?_
      obtain rfl := ret1 h
      exact a_zret C dX5_isFulfilled_28 rfl rfl (by decide) rfl rfl
set_option maxRecDepth 20000 in
set_option maxHeartbeats 4000000 in
theorem w_X5_fulfilled_9 {p : Program} {l : Launch} {e : Env} {s : State} {m : MethodId} {args : Array Value} {below : List Frame} {meth : Method} {c : Code} {D : va_G} {cs : Nat → ClassId} {ad : Nat → Nat} {b0 : Nat} (C : Ctx p l s m args meth c D cs ad b0 RX5 cX5_fulfilled 3 (some .int)) (hT : ∀ x ∈ c.exceptionTable.toList, False)    {r9 : Int32} {W9 : VT}     :
    ∀ (x1 x2 : Int32) (V : VT), d_X5_fulfilled_9 x1 x2 V = some (r9, W9) → AW p l e (rmOf 5 0) s m args below meth c D cs ad b0 (QF below D cs ad b0 W9 ((rI r9) ad) args s 0) 3 0 V [(0, .ref (ad 109)), (1, .int x1), (2, .int x2)] [] 9 := by
  refine lo2W_ind (P := fun x1 x2 V => AW p l e (rmOf 5 0) s m args below meth c D cs ad b0 (QF below D cs ad b0 W9 ((rI r9) ad) args s 0) 3 0 V [(0, .ref (ad 109)), (1, .int x1), (2, .int x2)] [] 9) ?_ FU
  intro k9 hk9 x1 x2 V h
  unfold d_X5_fulfilled_9b at h
  refine a_iload_n (q := 2) C dX5_fulfilled_9 rfl rfl ?_
  refine a_aload_n (q := 0) C dX5_fulfilled_10 rfl rfl ?_
  refine a_getr (a := 109) (t := 110) C dX5_fulfilled_11 fl_RX5_7 rfl rfl ?_
  refine a_iconst (v := (0 : Int32)) C dX5_fulfilled_14 rfl ?_
  refine a_iald (a := 110) (x := (V 110 0)) C dX5_fulfilled_15 rfl (in_lit (by decide)) rfl ?_
  refine a_icmp_ge (tgt := 46) C dX5_fulfilled_16 (by decide) (fun c1 => ?_) (fun c1 => ?_)
  · have h := it_t c1 h
    refine a_iload_n (q := 1) C dX5_fulfilled_46 rfl rfl ?_
    obtain ⟨rfl, rfl⟩ := ret2 h
    exact a_iret C dX5_fulfilled_47 rfl (by decide) rfl rfl
  · have h := it_f c1 h
    refine a_iload_n (q := 1) C dX5_fulfilled_19 rfl rfl ?_
    refine a_aload_n (q := 0) C dX5_fulfilled_20 rfl rfl ?_
    refine a_iload_n (q := 2) C dX5_fulfilled_21 rfl rfl ?_
    obtain ⟨r3, g2, h⟩ := bd_spec h
    refine a_cVi (a := 109) (st := [.int x1]) C dX5_fulfilled_22 cv_RX5_141 (w_X5_isFulfilled x2  V r3 g2) rfl rfl rfl rfl rfl ⟨Nat.le_of_ble_eq_true rfl, Nat.le_of_ble_eq_true rfl, Nat.le_of_ble_eq_true rfl, Nat.le_of_ble_eq_true rfl⟩ (Nat.le_of_ble_eq_true rfl) ?_
    refine a_if_eq (tgt := 37) C dX5_fulfilled_25 (by decide) (fun c4 => ?_) (fun c4 => ?_)
    · have h := it_t c4 h
      refine a_iconst (v := (0 : Int32)) C dX5_fulfilled_37 rfl ?_
      refine a_iadd C dX5_fulfilled_38 ?_
      refine a_istore_n (lv' := [(1, .int (x1 + (0 : Int32))), (0, .ref (ad 109)), (2, .int x2)]) C dX5_fulfilled_39 rfl (by decide) rfl ?_
      refine a_iinc (q := 2) (v := (x2 + (1 : Int32))) (lv' := [(2, .int (x2 + (1 : Int32))), (1, .int (x1 + (0 : Int32))), (0, .ref (ad 109))]) C dX5_fulfilled_40 rfl rfl (by decide) rfl ?_
      refine a_goto (tgt := 9) C dX5_fulfilled_43 (by decide) ?_
      refine a_sub (lv' := [(0, .ref (ad 109)), (1, .int (x1 + (0 : Int32))), (2, .int (x2 + (1 : Int32)))]) [2, 1, 0] rfl ?_
      exact hk9 (x1 + (0 : Int32)) (x2 + (1 : Int32)) V h
    · have h := it_f c4 h
      refine a_aload_n (q := 0) C dX5_fulfilled_28 rfl rfl ?_
      refine a_iload_n (q := 2) C dX5_fulfilled_29 rfl rfl ?_
      refine a_iconst (v := (3 : Int32)) C dX5_fulfilled_30 rfl ?_
      obtain ⟨r6, g5, h⟩ := bd_spec h
      refine a_cVi (a := 109) (st := [.int x1]) C dX5_fulfilled_31 cv_RX5_63 (w_X5_of x2 (3 : Int32)  V r6 g5) rfl rfl rfl rfl rfl ⟨Nat.le_of_ble_eq_true rfl, Nat.le_of_ble_eq_true rfl, Nat.le_of_ble_eq_true rfl, Nat.le_of_ble_eq_true rfl⟩ (Nat.le_of_ble_eq_true rfl) ?_
      refine a_goto (tgt := 38) C dX5_fulfilled_34 (by decide) ?_
      refine a_iadd C dX5_fulfilled_38 ?_
      refine a_istore_n (lv' := [(1, .int (x1 + r6)), (0, .ref (ad 109)), (2, .int x2)]) C dX5_fulfilled_39 rfl (by decide) rfl ?_
      refine a_iinc (q := 2) (v := (x2 + (1 : Int32))) (lv' := [(2, .int (x2 + (1 : Int32))), (1, .int (x1 + r6)), (0, .ref (ad 109))]) C dX5_fulfilled_40 rfl rfl (by decide) rfl ?_
      refine a_goto (tgt := 9) C dX5_fulfilled_43 (by decide) ?_
      refine a_sub (lv' := [(0, .ref (ad 109)), (1, .int (x1 + r6)), (2, .int (x2 + (1 : Int32)))]) [2, 1, 0] rfl ?_
      exact hk9 (x1 + r6) (x2 + (1 : Int32)) V h
set_option maxRecDepth 20000 in
set_option maxHeartbeats 4000000 in
theorem w_X5_fulfilled   (V : VT) (r9 : Int32) (W9 : VT) (h : d_X5_fulfilled  V = some (r9, W9)) : AM 5 0 yX5_fulfilled (.code yX5_fulfilled cX5_fulfilled 3 (some .int)) (fun ad => [.ref (ad 109)]) V W9 (rI r9) := by
  unfold d_X5_fulfilled at h
  refine AM.of (by decide +kernel) (fun ad => Nat.le_of_ble_eq_true rfl) (fun {p l e s m args below meth c D cs ad b0} C hT => ?_)
  have C : Ctx p l s m args meth c D cs ad b0 RX5 cX5_fulfilled 3 (some .int) := C
  refine a_sub (lv' := [(0, .ref (ad 109))]) [0] rfl ?_
  refine a_aload_n (q := 0) C dX5_fulfilled_0 rfl rfl ?_
  refine a_iconst (v := (0 : Int32)) C dX5_fulfilled_1 rfl ?_
  refine a_puti (a := 109) C dX5_fulfilled_2 fp_RX5_39 rfl rfl rfl rfl ?_
  refine a_iconst (v := (0 : Int32)) C dX5_fulfilled_5 rfl ?_
  refine a_istore_n (lv' := [(1, .int (0 : Int32)), (0, .ref (ad 109))]) C dX5_fulfilled_6 rfl (by decide) rfl ?_
  refine a_iconst (v := (0 : Int32)) C dX5_fulfilled_7 rfl ?_
  refine a_istore_n (lv' := [(2, .int (0 : Int32)), (1, .int (0 : Int32)), (0, .ref (ad 109))]) C dX5_fulfilled_8 rfl (by decide) rfl ?_
  refine a_sub (lv' := [(0, .ref (ad 109)), (1, .int (0 : Int32)), (2, .int (0 : Int32))]) [2, 1, 0] rfl ?_
  exact w_X5_fulfilled_9 C hT (0 : Int32) (0 : Int32) (up2 V 109 7 (0 : Int32)) h
set_option maxRecDepth 20000 in
set_option maxHeartbeats 4000000 in
theorem w_X5_clashes_3 {p : Program} {l : Launch} {e : Env} {s : State} {m : MethodId} {args : Array Value} {below : List Frame} {meth : Method} {c : Code} {D : va_G} {cs : Nat → ClassId} {ad : Nat → Nat} {b0 : Nat} (C : Ctx p l s m args meth c D cs ad b0 RX5 cX5_clashes 5 (some .boolean)) (hT : ∀ x ∈ c.exceptionTable.toList, False)   {V : VT} {r9 : Int32}     :
    ∀ (x1 x2 x3 x4 : Int32) , d_X5_clashes_3 V x1 x2 x3 x4 = some r9 → AW p l e (rmOf 4 0) s m args below meth c D cs ad b0 (QF below D cs ad b0 V ((rI r9) ad) args s 0) 5 0 V [(0, .ref (ad 109)), (1, .int x1), (2, .int x2), (3, .int x3), (4, .int x4)] [] 3 := by
  refine lo4_ind (P := fun x1 x2 x3 x4 => AW p l e (rmOf 4 0) s m args below meth c D cs ad b0 (QF below D cs ad b0 V ((rI r9) ad) args s 0) 5 0 V [(0, .ref (ad 109)), (1, .int x1), (2, .int x2), (3, .int x3), (4, .int x4)] [] 3) ?_ FU
  intro k3 hk3 x1 x2 x3 x4 h
  unfold d_X5_clashes_3b at h
  refine a_iload (q := 4) C dX5_clashes_3 rfl ?_
  refine a_aload_n (q := 0) C dX5_clashes_5 rfl rfl ?_
  refine a_getr (a := 109) (t := 110) C dX5_clashes_6 fl_RX5_7 rfl rfl ?_
  refine a_iconst (v := (0 : Int32)) C dX5_clashes_9 rfl ?_
  refine a_iald (a := 110) (x := (V 110 0)) C dX5_clashes_10 rfl (in_lit (by decide)) rfl ?_
  refine a_icmp_ge (tgt := 72) C dX5_clashes_11 (by decide) (fun c1 => ?_) (fun c1 => ?_)
  · have h := it_t c1 h
    refine a_iconst (v := (0 : Int32)) C dX5_clashes_72 rfl ?_
    obtain rfl := ret1 h
    exact a_zret C dX5_clashes_73 rfl rfl (by decide) rfl rfl
  · have h := it_f c1 h
    refine a_aload_n (q := 0) C dX5_clashes_14 rfl rfl ?_
    refine a_iload_n (q := 1) C dX5_clashes_15 rfl rfl ?_
    refine a_iload (q := 4) C dX5_clashes_16 rfl ?_
    obtain ⟨r3, g2, h⟩ := bd_spec h
    refine a_cVi (a := 109) (st := []) C dX5_clashes_18 cv_RX5_67 (w_X5_touches x1 x4  V r3 g2) rfl rfl rfl rfl rfl ⟨Nat.le_of_ble_eq_true rfl, Nat.le_of_ble_eq_true rfl, Nat.le_of_ble_eq_true rfl, Nat.le_of_ble_eq_true rfl⟩ (Nat.le_of_ble_eq_true rfl) ?_
    refine a_if_eq (tgt := 66) C dX5_clashes_21 (by decide) (fun c4 => ?_) (fun c4 => ?_)
    · have h := it_t c4 h
      refine a_iinc (q := 4) (v := (x4 + (1 : Int32))) (lv' := [(4, .int (x4 + (1 : Int32))), (0, .ref (ad 109)), (1, .int x1), (2, .int x2), (3, .int x3)]) C dX5_clashes_66 rfl rfl (by decide) rfl ?_
      refine a_goto (tgt := 3) C dX5_clashes_69 (by decide) ?_
      refine a_sub (lv' := [(0, .ref (ad 109)), (1, .int x1), (2, .int x2), (3, .int x3), (4, .int (x4 + (1 : Int32)))]) [1, 2, 3, 4, 0] rfl ?_
      exact hk3 x1 x2 x3 (x4 + (1 : Int32)) h
    · have h := it_f c4 h
      refine a_aload_n (q := 0) C dX5_clashes_24 rfl rfl ?_
      refine a_iload (q := 4) C dX5_clashes_25 rfl ?_
      obtain ⟨r6, g5, h⟩ := bd_spec h
      refine a_cVi (a := 109) (st := []) C dX5_clashes_27 cv_RX5_90 (w_X5_isPainted x4  V r6 g5) rfl rfl rfl rfl rfl ⟨Nat.le_of_ble_eq_true rfl, Nat.le_of_ble_eq_true rfl, Nat.le_of_ble_eq_true rfl, Nat.le_of_ble_eq_true rfl⟩ (Nat.le_of_ble_eq_true rfl) ?_
      refine a_if_eq (tgt := 47) C dX5_clashes_30 (by decide) (fun c7 => ?_) (fun c7 => ?_)
      · have h := it_t c7 h
        refine a_iload (q := 4) C dX5_clashes_47 rfl ?_
        refine a_iload_n (q := 3) C dX5_clashes_49 rfl rfl ?_
        refine a_icmp_ge (tgt := 66) C dX5_clashes_50 (by decide) (fun c8 => ?_) (fun c8 => ?_)
        · have h := it_t c8 h
          refine a_iinc (q := 4) (v := (x4 + (1 : Int32))) (lv' := [(4, .int (x4 + (1 : Int32))), (0, .ref (ad 109)), (1, .int x1), (2, .int x2), (3, .int x3)]) C dX5_clashes_66 rfl rfl (by decide) rfl ?_
          refine a_goto (tgt := 3) C dX5_clashes_69 (by decide) ?_
          refine a_sub (lv' := [(0, .ref (ad 109)), (1, .int x1), (2, .int x2), (3, .int x3), (4, .int (x4 + (1 : Int32)))]) [1, 2, 3, 4, 0] rfl ?_
          exact hk3 x1 x2 x3 (x4 + (1 : Int32)) h
        · have h := it_f c8 h
          refine a_aload_n (q := 0) C dX5_clashes_53 rfl rfl ?_
          refine a_getr (a := 109) (t := 116) C dX5_clashes_54 fl_RX5_33 rfl rfl ?_
          refine a_iload (q := 4) C dX5_clashes_57 rfl ?_
          obtain ⟨z9, h⟩ := asr_spec h
          refine a_iald (a := 116) (x := (V 116 x4.toNatClampNeg)) C dX5_clashes_59 rfl (inb_in z9) rfl ?_
          refine a_iload_n (q := 2) C dX5_clashes_60 rfl rfl ?_
          refine a_icmp_ne (tgt := 66) C dX5_clashes_61 (by decide) (fun c10 => ?_) (fun c10 => ?_)
          · have h := it_f c10 h
            refine a_iinc (q := 4) (v := (x4 + (1 : Int32))) (lv' := [(4, .int (x4 + (1 : Int32))), (0, .ref (ad 109)), (1, .int x1), (2, .int x2), (3, .int x3)]) C dX5_clashes_66 rfl rfl (by decide) rfl ?_
            refine a_goto (tgt := 3) C dX5_clashes_69 (by decide) ?_
            refine a_sub (lv' := [(0, .ref (ad 109)), (1, .int x1), (2, .int x2), (3, .int x3), (4, .int (x4 + (1 : Int32)))]) [1, 2, 3, 4, 0] rfl ?_
            exact hk3 x1 x2 x3 (x4 + (1 : Int32)) h
          · have h := it_t c10 h
            refine a_iconst (v := (1 : Int32)) C dX5_clashes_64 rfl ?_
            obtain rfl := ret1 h
            exact a_zret C dX5_clashes_65 rfl rfl (by decide) rfl rfl
      · have h := it_f c7 h
        refine a_aload_n (q := 0) C dX5_clashes_33 rfl rfl ?_
        refine a_iload (q := 4) C dX5_clashes_34 rfl ?_
        refine a_iconst (v := (1 : Int32)) C dX5_clashes_36 rfl ?_
        obtain ⟨r12, g11, h⟩ := bd_spec h
        refine a_cVi (a := 109) (st := []) C dX5_clashes_37 cv_RX5_63 (w_X5_of x4 (1 : Int32)  V r12 g11) rfl rfl rfl rfl rfl ⟨Nat.le_of_ble_eq_true rfl, Nat.le_of_ble_eq_true rfl, Nat.le_of_ble_eq_true rfl, Nat.le_of_ble_eq_true rfl⟩ (Nat.le_of_ble_eq_true rfl) ?_
        refine a_iload_n (q := 2) C dX5_clashes_40 rfl rfl ?_
        refine a_icmp_ne (tgt := 66) C dX5_clashes_41 (by decide) (fun c13 => ?_) (fun c13 => ?_)
        · have h := it_f c13 h
          refine a_iinc (q := 4) (v := (x4 + (1 : Int32))) (lv' := [(4, .int (x4 + (1 : Int32))), (0, .ref (ad 109)), (1, .int x1), (2, .int x2), (3, .int x3)]) C dX5_clashes_66 rfl rfl (by decide) rfl ?_
          refine a_goto (tgt := 3) C dX5_clashes_69 (by decide) ?_
          refine a_sub (lv' := [(0, .ref (ad 109)), (1, .int x1), (2, .int x2), (3, .int x3), (4, .int (x4 + (1 : Int32)))]) [1, 2, 3, 4, 0] rfl ?_
          exact hk3 x1 x2 x3 (x4 + (1 : Int32)) h
        · have h := it_t c13 h
          refine a_goto (tgt := 64) C dX5_clashes_44 (by decide) ?_
          refine a_iconst (v := (1 : Int32)) C dX5_clashes_64 rfl ?_
          obtain rfl := ret1 h
          exact a_zret C dX5_clashes_65 rfl rfl (by decide) rfl rfl
set_option maxRecDepth 20000 in
set_option maxHeartbeats 4000000 in
theorem w_X5_clashes (x1 : Int32) (x2 : Int32) (x3 : Int32)  (V : VT) (r9 : Int32) (h : d_X5_clashes x1 x2 x3 V = some r9) : AM 4 0 yX5_clashes (.code yX5_clashes cX5_clashes 5 (some .boolean)) (fun ad => [.ref (ad 109), .int x1, .int x2, .int x3]) V V (rI r9) := by
  unfold d_X5_clashes at h
  refine AM.of (by decide +kernel) (fun ad => Nat.le_of_ble_eq_true rfl) (fun {p l e s m args below meth c D cs ad b0} C hT => ?_)
  have C : Ctx p l s m args meth c D cs ad b0 RX5 cX5_clashes 5 (some .boolean) := C
  refine a_sub (lv' := [(0, .ref (ad 109)), (1, .int x1), (2, .int x2), (3, .int x3)]) [0, 1, 2, 3] rfl ?_
  refine a_iconst (v := (0 : Int32)) C dX5_clashes_0 rfl ?_
  refine a_istore (lv' := [(4, .int (0 : Int32)), (0, .ref (ad 109)), (1, .int x1), (2, .int x2), (3, .int x3)]) C dX5_clashes_1 (by decide) rfl ?_
  refine a_sub (lv' := [(0, .ref (ad 109)), (1, .int x1), (2, .int x2), (3, .int x3), (4, .int (0 : Int32))]) [1, 2, 3, 4, 0] rfl ?_
  exact w_X5_clashes_3 C hT x1 x2 x3 (0 : Int32) h
set_option maxRecDepth 20000 in
set_option maxHeartbeats 4000000 in
theorem w_X5_waysFrom_56 {p : Program} {l : Launch} {e : Env} {s : State} {m : MethodId} {args : Array Value} {below : List Frame} {meth : Method} {c : Code} {D : va_G} {cs : Nat → ClassId} {ad : Nat → Nat} {b0 : Nat} (C : Ctx p l s m args meth c D cs ad b0 RX5 cX5_waysFrom 7 (some .int)) (hT : ∀ x ∈ c.exceptionTable.toList, False) {kR : Int32 → Int32 → Int32 → Int32 → VT → Option (Int32 × VT)}   {r9 : Int32} {W9 : VT} {k38 : Int32 → Int32 → Int32 → Int32 → Int32 → Int32 → VT → Option (Int32 × VT)} {dn : Nat} (hdn : 5 ≤ dn) (hR : ∀ (x1 x2 x3 x4 : Int32) (V : VT) (r9 : Int32) (W9 : VT), kR x1 x2 x3 x4 V = some (r9, W9) → AM dn 0 yX5_waysFrom (.code yX5_waysFrom cX5_waysFrom 7 (some .int)) (fun ad => [.ref (ad 109), .int x1, .int x2, .int x3, .int x4]) V W9 (rI r9))   (hk38 : ∀ (x1 x2 x3 x4 x5 x6 : Int32) (V : VT), k38 x1 x2 x3 x4 x5 x6 V = some (r9, W9) → AW p l e (rmOf (dn + 1) 0) s m args below meth c D cs ad b0 (QF below D cs ad b0 W9 ((rI r9) ad) args s 0) 7 0 V [(0, .ref (ad 109)), (1, .int x1), (2, .int x2), (3, .int x3), (4, .int x4), (5, .int x5), (6, .int x6)] [] 38) :
    ∀ (x1 x2 x3 x4 x5 x6 : Int32) (V : VT), d_X5_waysFrom_56 kR k38 x1 x2 x3 x4 x5 x6 V = some (r9, W9) → AW p l e (rmOf (dn + 1) 0) s m args below meth c D cs ad b0 (QF below D cs ad b0 W9 ((rI r9) ad) args s 0) 7 0 V [(0, .ref (ad 109)), (1, .int x1), (2, .int x2), (3, .int x3), (4, .int x4), (5, .int x5), (6, .int x6)] [] 56 := by
  intro x1 x2 x3 x4 x5 x6 V h
  unfold d_X5_waysFrom_56 at h
  refine a_aload_n (q := 0) C dX5_waysFrom_56 rfl rfl ?_
  refine a_iload_n (q := 1) C dX5_waysFrom_57 rfl rfl ?_
  refine a_iload (q := 6) C dX5_waysFrom_58 rfl ?_
  refine a_iload_n (q := 1) C dX5_waysFrom_60 rfl rfl ?_
  obtain ⟨r2, g1, h⟩ := bd_spec h
  refine a_cVi (a := 109) (st := []) C dX5_waysFrom_61 cv_RX5_148 (w_X5_clashes x1 x6 x1  V r2 g1) rfl rfl rfl rfl rfl ⟨by simp only [rmOf]; omega, by simp only [rmOf]; omega, by simp only [rmOf]; omega, by simp only [rmOf]; omega⟩ (Nat.le_of_ble_eq_true rfl) ?_
  refine a_if_eq (tgt := 70) C dX5_waysFrom_64 (by decide) (fun c3 => ?_) (fun c3 => ?_)
  · have h := it_t c3 h
    refine a_aload_n (q := 0) C dX5_waysFrom_70 rfl rfl ?_
    refine a_getr (a := 109) (t := 116) C dX5_waysFrom_71 fl_RX5_33 rfl rfl ?_
    refine a_iload_n (q := 1) C dX5_waysFrom_74 rfl rfl ?_
    refine a_iload (q := 6) C dX5_waysFrom_75 rfl ?_
    obtain ⟨z4, h⟩ := asr_spec h
    refine a_iast (a := 116) C dX5_waysFrom_77 rfl (inb_in z4) ?_
    refine a_iload (q := 5) C dX5_waysFrom_78 rfl ?_
    refine a_aload_n (q := 0) C dX5_waysFrom_80 rfl rfl ?_
    refine a_iload_n (q := 1) C dX5_waysFrom_81 rfl rfl ?_
    refine a_iconst (v := (1 : Int32)) C dX5_waysFrom_82 rfl ?_
    refine a_iadd C dX5_waysFrom_83 ?_
    refine a_iload_n (q := 2) C dX5_waysFrom_84 rfl rfl ?_
    refine a_iload_n (q := 3) C dX5_waysFrom_85 rfl rfl ?_
    refine a_iload (q := 4) C dX5_waysFrom_86 rfl ?_
    obtain ⟨r7, V6, g5, h⟩ := bw_spec h
    refine a_cVi (a := 109) (st := [.int x5]) C dX5_waysFrom_88 cv_RX5_144 (hR (x1 + (1 : Int32)) x2 x3 x4 (up2 V 116 x1.toNatClampNeg x6) r7 V6 g5) rfl rfl rfl rfl rfl ⟨by simp only [rmOf]; omega, by simp only [rmOf]; omega, by simp only [rmOf]; omega, by simp only [rmOf]; omega⟩ (Nat.le_of_ble_eq_true rfl) ?_
    refine a_iadd C dX5_waysFrom_91 ?_
    refine a_istore (lv' := [(5, .int (x5 + r7)), (0, .ref (ad 109)), (1, .int x1), (2, .int x2), (3, .int x3), (4, .int x4), (6, .int x6)]) C dX5_waysFrom_92 (by decide) rfl ?_
    refine a_iinc (q := 6) (v := (x6 + (1 : Int32))) (lv' := [(6, .int (x6 + (1 : Int32))), (5, .int (x5 + r7)), (0, .ref (ad 109)), (1, .int x1), (2, .int x2), (3, .int x3), (4, .int x4)]) C dX5_waysFrom_94 rfl rfl (by decide) rfl ?_
    refine a_goto (tgt := 38) C dX5_waysFrom_97 (by decide) ?_
    refine a_sub (lv' := [(0, .ref (ad 109)), (1, .int x1), (2, .int x2), (3, .int x3), (4, .int x4), (5, .int (x5 + r7)), (6, .int (x6 + (1 : Int32)))]) [2, 3, 4, 5, 6, 1, 0] rfl ?_
    exact hk38 x1 x2 x3 x4 (x5 + r7) (x6 + (1 : Int32)) V6 h
  · have h := it_f c3 h
    refine a_goto (tgt := 94) C dX5_waysFrom_67 (by decide) ?_
    refine a_iinc (q := 6) (v := (x6 + (1 : Int32))) (lv' := [(6, .int (x6 + (1 : Int32))), (0, .ref (ad 109)), (1, .int x1), (2, .int x2), (3, .int x3), (4, .int x4), (5, .int x5)]) C dX5_waysFrom_94 rfl rfl (by decide) rfl ?_
    refine a_goto (tgt := 38) C dX5_waysFrom_97 (by decide) ?_
    refine a_sub (lv' := [(0, .ref (ad 109)), (1, .int x1), (2, .int x2), (3, .int x3), (4, .int x4), (5, .int x5), (6, .int (x6 + (1 : Int32)))]) [1, 2, 3, 4, 5, 6, 0] rfl ?_
    exact hk38 x1 x2 x3 x4 x5 (x6 + (1 : Int32)) V h
set_option maxRecDepth 20000 in
set_option maxHeartbeats 4000000 in
theorem w_X5_waysFrom_38 {p : Program} {l : Launch} {e : Env} {s : State} {m : MethodId} {args : Array Value} {below : List Frame} {meth : Method} {c : Code} {D : va_G} {cs : Nat → ClassId} {ad : Nat → Nat} {b0 : Nat} (C : Ctx p l s m args meth c D cs ad b0 RX5 cX5_waysFrom 7 (some .int)) (hT : ∀ x ∈ c.exceptionTable.toList, False) {kR : Int32 → Int32 → Int32 → Int32 → VT → Option (Int32 × VT)}   {r9 : Int32} {W9 : VT}  {dn : Nat} (hdn : 5 ≤ dn) (hR : ∀ (x1 x2 x3 x4 : Int32) (V : VT) (r9 : Int32) (W9 : VT), kR x1 x2 x3 x4 V = some (r9, W9) → AM dn 0 yX5_waysFrom (.code yX5_waysFrom cX5_waysFrom 7 (some .int)) (fun ad => [.ref (ad 109), .int x1, .int x2, .int x3, .int x4]) V W9 (rI r9))    :
    ∀ (x1 x2 x3 x4 x5 x6 : Int32) (V : VT), d_X5_waysFrom_38 kR x1 x2 x3 x4 x5 x6 V = some (r9, W9) → AW p l e (rmOf (dn + 1) 0) s m args below meth c D cs ad b0 (QF below D cs ad b0 W9 ((rI r9) ad) args s 0) 7 0 V [(0, .ref (ad 109)), (1, .int x1), (2, .int x2), (3, .int x3), (4, .int x4), (5, .int x5), (6, .int x6)] [] 38 := by
  refine lo6W_ind (P := fun x1 x2 x3 x4 x5 x6 V => AW p l e (rmOf (dn + 1) 0) s m args below meth c D cs ad b0 (QF below D cs ad b0 W9 ((rI r9) ad) args s 0) 7 0 V [(0, .ref (ad 109)), (1, .int x1), (2, .int x2), (3, .int x3), (4, .int x4), (5, .int x5), (6, .int x6)] [] 38) ?_ FU
  intro k38 hk38 x1 x2 x3 x4 x5 x6 V h
  unfold d_X5_waysFrom_38b at h
  refine a_iload (q := 6) C dX5_waysFrom_38 rfl ?_
  refine a_iload_n (q := 2) C dX5_waysFrom_40 rfl rfl ?_
  refine a_icmp_ge (tgt := 100) C dX5_waysFrom_41 (by decide) (fun c1 => ?_) (fun c1 => ?_)
  · have h := it_t c1 h
    refine a_iload (q := 5) C dX5_waysFrom_100 rfl ?_
    obtain ⟨rfl, rfl⟩ := ret2 h
    exact a_iret C dX5_waysFrom_102 rfl (by decide) rfl rfl
  · have h := it_f c1 h
    refine a_iload_n (q := 1) C dX5_waysFrom_44 rfl rfl ?_
    refine a_iload_n (q := 3) C dX5_waysFrom_45 rfl rfl ?_
    refine a_icmp_ne (tgt := 56) C dX5_waysFrom_46 (by decide) (fun c2 => ?_) (fun c2 => ?_)
    · have h := it_f c2 h
      refine a_sub (lv' := [(0, .ref (ad 109)), (1, .int x1), (2, .int x2), (3, .int x3), (4, .int x4), (5, .int x5), (6, .int x6)]) [0, 1, 2, 3, 4, 5, 6] rfl ?_
      exact w_X5_waysFrom_56 C hT hdn hR hk38 x1 x2 x3 x4 x5 x6 V h
    · have h := it_t c2 h
      refine a_iload (q := 6) C dX5_waysFrom_49 rfl ?_
      refine a_iload (q := 4) C dX5_waysFrom_51 rfl ?_
      refine a_icmp_ne (tgt := 94) C dX5_waysFrom_53 (by decide) (fun c3 => ?_) (fun c3 => ?_)
      · have h := it_f c3 h
        refine a_iinc (q := 6) (v := (x6 + (1 : Int32))) (lv' := [(6, .int (x6 + (1 : Int32))), (0, .ref (ad 109)), (1, .int x1), (2, .int x2), (3, .int x3), (4, .int x4), (5, .int x5)]) C dX5_waysFrom_94 rfl rfl (by decide) rfl ?_
        refine a_goto (tgt := 38) C dX5_waysFrom_97 (by decide) ?_
        refine a_sub (lv' := [(0, .ref (ad 109)), (1, .int x1), (2, .int x2), (3, .int x3), (4, .int x4), (5, .int x5), (6, .int (x6 + (1 : Int32)))]) [1, 2, 3, 4, 5, 6, 0] rfl ?_
        exact hk38 x1 x2 x3 x4 x5 (x6 + (1 : Int32)) V h
      · have h := it_t c3 h
        refine a_sub (lv' := [(0, .ref (ad 109)), (1, .int x1), (2, .int x2), (3, .int x3), (4, .int x4), (5, .int x5), (6, .int x6)]) [0, 1, 2, 3, 4, 5, 6] rfl ?_
        exact w_X5_waysFrom_56 C hT hdn hR hk38 x1 x2 x3 x4 x5 x6 V h
set_option maxRecDepth 20000 in
set_option maxHeartbeats 4000000 in
theorem w_X5_waysFromb : ∀ (n : Nat) (x1 x2 x3 x4 : Int32) (V : VT) (r9 : Int32) (W9 : VT), lo4W d_X5_waysFromb n x1 x2 x3 x4 V = some (r9, W9) → AM (5 + n) 0 yX5_waysFrom (.code yX5_waysFrom cX5_waysFrom 7 (some .int)) (fun ad => [.ref (ad 109), .int x1, .int x2, .int x3, .int x4]) V W9 (rI r9) := by
  intro n
  induction n with
  | zero => intro x1 x2 x3 x4 V r9 W9 h; exact absurd h (by intro q; cases q)
  | succ dn0 ih =>
  intro x1 x2 x3 x4 V r9 W9 h
  obtain ⟨dn, hdn0⟩ : ∃ dn, dn = 5 + dn0 := ⟨_, rfl⟩
  have hdn : 5 ≤ dn := by omega
  rw [show 5 + (dn0 + 1) = dn + 1 by omega]
  have h : d_X5_waysFromb (lo4W d_X5_waysFromb dn0) x1 x2 x3 x4 V = some (r9, W9) := h
  rw [← hdn0] at ih
  generalize lo4W d_X5_waysFromb dn0 = kR at h ih
  have hR := ih
  unfold d_X5_waysFromb at h
  refine AM.of (by decide +kernel) (fun ad => Nat.le_of_ble_eq_true rfl) (fun {p l e s m args below meth c D cs ad b0} C hT => ?_)
  have C : Ctx p l s m args meth c D cs ad b0 RX5 cX5_waysFrom 7 (some .int) := C
  refine a_sub (lv' := [(0, .ref (ad 109)), (1, .int x1), (2, .int x2), (3, .int x3), (4, .int x4)]) [0, 1, 2, 3, 4] rfl ?_
  refine a_iload_n (q := 1) C dX5_waysFrom_0 rfl rfl ?_
  refine a_aload_n (q := 0) C dX5_waysFrom_1 rfl rfl ?_
  refine a_getr (a := 109) (t := 110) C dX5_waysFrom_2 fl_RX5_7 rfl rfl ?_
  refine a_iconst (v := (0 : Int32)) C dX5_waysFrom_5 rfl ?_
  refine a_iald (a := 110) (x := (V 110 0)) C dX5_waysFrom_6 rfl (in_lit (by decide)) rfl ?_
  refine a_icmp_ne (tgt := 12) C dX5_waysFrom_7 (by decide) (fun c1 => ?_) (fun c1 => ?_)
  · have h := it_f c1 h
    refine a_aload_n (q := 0) C dX5_waysFrom_12 rfl rfl ?_
    refine a_iload_n (q := 1) C dX5_waysFrom_13 rfl rfl ?_
    obtain ⟨r3, g2, h⟩ := bd_spec h
    refine a_cVi (a := 109) (st := []) C dX5_waysFrom_14 cv_RX5_90 (w_X5_isPainted x1  V r3 g2) rfl rfl rfl rfl rfl ⟨by simp only [rmOf]; omega, by simp only [rmOf]; omega, by simp only [rmOf]; omega, by simp only [rmOf]; omega⟩ (Nat.le_of_ble_eq_true rfl) ?_
    refine a_if_eq (tgt := 32) C dX5_waysFrom_17 (by decide) (fun c4 => ?_) (fun c4 => ?_)
    · have h := it_t c4 h
      refine a_iconst (v := (0 : Int32)) C dX5_waysFrom_32 rfl ?_
      refine a_istore (lv' := [(5, .int (0 : Int32)), (0, .ref (ad 109)), (1, .int x1), (2, .int x2), (3, .int x3), (4, .int x4)]) C dX5_waysFrom_33 (by decide) rfl ?_
      refine a_iconst (v := (0 : Int32)) C dX5_waysFrom_35 rfl ?_
      refine a_istore (lv' := [(6, .int (0 : Int32)), (5, .int (0 : Int32)), (0, .ref (ad 109)), (1, .int x1), (2, .int x2), (3, .int x3), (4, .int x4)]) C dX5_waysFrom_36 (by decide) rfl ?_
      refine a_sub (lv' := [(0, .ref (ad 109)), (1, .int x1), (2, .int x2), (3, .int x3), (4, .int x4), (5, .int (0 : Int32)), (6, .int (0 : Int32))]) [2, 3, 4, 5, 6, 1, 0] rfl ?_
      exact w_X5_waysFrom_38 C hT hdn hR x1 x2 x3 x4 (0 : Int32) (0 : Int32) V h
    · have h := it_f c4 h
      refine a_aload_n (q := 0) C dX5_waysFrom_20 rfl rfl ?_
      refine a_iload_n (q := 1) C dX5_waysFrom_21 rfl rfl ?_
      refine a_iconst (v := (1 : Int32)) C dX5_waysFrom_22 rfl ?_
      refine a_iadd C dX5_waysFrom_23 ?_
      refine a_iload_n (q := 2) C dX5_waysFrom_24 rfl rfl ?_
      refine a_iload_n (q := 3) C dX5_waysFrom_25 rfl rfl ?_
      refine a_iload (q := 4) C dX5_waysFrom_26 rfl ?_
      obtain ⟨r7, V6, g5, h⟩ := bw_spec h
      refine a_cVi (a := 109) (st := []) C dX5_waysFrom_28 cv_RX5_144 (hR (x1 + (1 : Int32)) x2 x3 x4 V r7 V6 g5) rfl rfl rfl rfl rfl ⟨by simp only [rmOf]; omega, by simp only [rmOf]; omega, by simp only [rmOf]; omega, by simp only [rmOf]; omega⟩ (Nat.le_of_ble_eq_true rfl) ?_
      obtain ⟨rfl, rfl⟩ := ret2 h
      exact a_iret C dX5_waysFrom_31 rfl (by decide) rfl rfl
  · have h := it_t c1 h
    refine a_iconst (v := (1 : Int32)) C dX5_waysFrom_10 rfl ?_
    obtain ⟨rfl, rfl⟩ := ret2 h
    exact a_iret C dX5_waysFrom_11 rfl (by decide) rfl rfl
set_option maxRecDepth 20000 in
set_option maxHeartbeats 4000000 in
theorem w_X5_waysFrom (x1 x2 x3 x4 : Int32) (V : VT) (r9 : Int32) (W9 : VT) (h : d_X5_waysFrom x1 x2 x3 x4 V = some (r9, W9)) : AM 17 0 yX5_waysFrom (.code yX5_waysFrom cX5_waysFrom 7 (some .int)) (fun ad => [.ref (ad 109), .int x1, .int x2, .int x3, .int x4]) V W9 (rI r9) := w_X5_waysFromb 12 x1 x2 x3 x4 V r9 W9 h
set_option maxRecDepth 20000 in
set_option maxHeartbeats 4000000 in
theorem w_X5_ways   (V : VT) (r9 : Int32) (W9 : VT) (h : d_X5_ways  V = some (r9, W9)) : AM 18 0 yX5_ways (.code yX5_ways cX5_ways 1 (some .int)) (fun ad => [.ref (ad 109)]) V W9 (rI r9) := by
  unfold d_X5_ways at h
  refine AM.of (by decide +kernel) (fun ad => Nat.le_of_ble_eq_true rfl) (fun {p l e s m args below meth c D cs ad b0} C hT => ?_)
  have C : Ctx p l s m args meth c D cs ad b0 RX5 cX5_ways 1 (some .int) := C
  refine a_sub (lv' := [(0, .ref (ad 109))]) [0] rfl ?_
  refine a_aload_n (q := 0) C dX5_ways_0 rfl rfl ?_
  refine a_iconst (v := (0 : Int32)) C dX5_ways_1 rfl ?_
  refine a_puti (a := 109) C dX5_ways_2 fp_RX5_39 rfl rfl rfl rfl ?_
  refine a_aload_n (q := 0) C dX5_ways_5 rfl rfl ?_
  refine a_iconst (v := (0 : Int32)) C dX5_ways_6 rfl ?_
  refine a_aload_n (q := 0) C dX5_ways_7 rfl rfl ?_
  refine a_getr (a := 109) (t := 110) C dX5_ways_8 fl_RX5_7 rfl rfl ?_
  refine a_bipush (v := (36 : Int32)) C dX5_ways_11 rfl ?_
  refine a_iald (a := 110) (x := (V 110 36)) C dX5_ways_13 rfl (in_lit (by decide)) rfl ?_
  refine a_iconst (v := (-1 : Int32)) C dX5_ways_14 rfl ?_
  refine a_iconst (v := (-1 : Int32)) C dX5_ways_15 rfl ?_
  obtain ⟨r3, V2, g1, h⟩ := bw_spec h
  refine a_cVi (a := 109) (st := []) C dX5_ways_16 cv_RX5_144 (w_X5_waysFrom (0 : Int32) (V 110 36) (-1 : Int32) (-1 : Int32)  (up2 V 109 7 (0 : Int32)) r3 V2 g1) rfl rfl rfl rfl rfl ⟨Nat.le_of_ble_eq_true rfl, Nat.le_of_ble_eq_true rfl, Nat.le_of_ble_eq_true rfl, Nat.le_of_ble_eq_true rfl⟩ (Nat.le_of_ble_eq_true rfl) ?_
  obtain ⟨rfl, rfl⟩ := ret2 h
  exact a_iret C dX5_ways_19 rfl (by decide) rfl rfl
set_option maxRecDepth 20000 in
set_option maxHeartbeats 4000000 in
theorem w_X5_left_4 {p : Program} {l : Launch} {e : Env} {s : State} {m : MethodId} {args : Array Value} {below : List Frame} {meth : Method} {c : Code} {D : va_G} {cs : Nat → ClassId} {ad : Nat → Nat} {b0 : Nat} (C : Ctx p l s m args meth c D cs ad b0 RX5 cX5_left 3 (some .int)) (hT : ∀ x ∈ c.exceptionTable.toList, False)   {V : VT} {r9 : Int32}     :
    ∀ (x1 x2 : Int32) , d_X5_left_4 V x1 x2 = some r9 → AW p l e (rmOf 4 0) s m args below meth c D cs ad b0 (QF below D cs ad b0 V ((rI r9) ad) args s 0) 3 0 V [(0, .ref (ad 109)), (1, .int x1), (2, .int x2)] [] 4 := by
  refine lo2_ind (P := fun x1 x2 => AW p l e (rmOf 4 0) s m args below meth c D cs ad b0 (QF below D cs ad b0 V ((rI r9) ad) args s 0) 3 0 V [(0, .ref (ad 109)), (1, .int x1), (2, .int x2)] [] 4) ?_ FU
  intro k4 hk4 x1 x2 h
  unfold d_X5_left_4b at h
  refine a_iload_n (q := 2) C dX5_left_4 rfl rfl ?_
  refine a_aload_n (q := 0) C dX5_left_5 rfl rfl ?_
  refine a_getr (a := 109) (t := 110) C dX5_left_6 fl_RX5_7 rfl rfl ?_
  refine a_iconst (v := (0 : Int32)) C dX5_left_9 rfl ?_
  refine a_iald (a := 110) (x := (V 110 0)) C dX5_left_10 rfl (in_lit (by decide)) rfl ?_
  refine a_icmp_ge (tgt := 36) C dX5_left_11 (by decide) (fun c1 => ?_) (fun c1 => ?_)
  · have h := it_t c1 h
    refine a_iload_n (q := 1) C dX5_left_36 rfl rfl ?_
    obtain rfl := ret1 h
    exact a_iret C dX5_left_37 rfl (by decide) rfl rfl
  · have h := it_f c1 h
    refine a_iload_n (q := 1) C dX5_left_14 rfl rfl ?_
    refine a_aload_n (q := 0) C dX5_left_15 rfl rfl ?_
    refine a_iload_n (q := 2) C dX5_left_16 rfl rfl ?_
    obtain ⟨r3, g2, h⟩ := bd_spec h
    refine a_cVi (a := 109) (st := [.int x1]) C dX5_left_17 cv_RX5_90 (w_X5_isPainted x2  V r3 g2) rfl rfl rfl rfl rfl ⟨Nat.le_of_ble_eq_true rfl, Nat.le_of_ble_eq_true rfl, Nat.le_of_ble_eq_true rfl, Nat.le_of_ble_eq_true rfl⟩ (Nat.le_of_ble_eq_true rfl) ?_
    refine a_if_eq (tgt := 27) C dX5_left_20 (by decide) (fun c4 => ?_) (fun c4 => ?_)
    · have h := it_t c4 h
      refine a_iconst (v := (1 : Int32)) C dX5_left_27 rfl ?_
      refine a_iadd C dX5_left_28 ?_
      refine a_istore_n (lv' := [(1, .int (x1 + (1 : Int32))), (0, .ref (ad 109)), (2, .int x2)]) C dX5_left_29 rfl (by decide) rfl ?_
      refine a_iinc (q := 2) (v := (x2 + (1 : Int32))) (lv' := [(2, .int (x2 + (1 : Int32))), (1, .int (x1 + (1 : Int32))), (0, .ref (ad 109))]) C dX5_left_30 rfl rfl (by decide) rfl ?_
      refine a_goto (tgt := 4) C dX5_left_33 (by decide) ?_
      refine a_sub (lv' := [(0, .ref (ad 109)), (1, .int (x1 + (1 : Int32))), (2, .int (x2 + (1 : Int32)))]) [2, 1, 0] rfl ?_
      exact hk4 (x1 + (1 : Int32)) (x2 + (1 : Int32)) h
    · have h := it_f c4 h
      refine a_iconst (v := (0 : Int32)) C dX5_left_23 rfl ?_
      refine a_goto (tgt := 28) C dX5_left_24 (by decide) ?_
      refine a_iadd C dX5_left_28 ?_
      refine a_istore_n (lv' := [(1, .int (x1 + (0 : Int32))), (0, .ref (ad 109)), (2, .int x2)]) C dX5_left_29 rfl (by decide) rfl ?_
      refine a_iinc (q := 2) (v := (x2 + (1 : Int32))) (lv' := [(2, .int (x2 + (1 : Int32))), (1, .int (x1 + (0 : Int32))), (0, .ref (ad 109))]) C dX5_left_30 rfl rfl (by decide) rfl ?_
      refine a_goto (tgt := 4) C dX5_left_33 (by decide) ?_
      refine a_sub (lv' := [(0, .ref (ad 109)), (1, .int (x1 + (0 : Int32))), (2, .int (x2 + (1 : Int32)))]) [2, 1, 0] rfl ?_
      exact hk4 (x1 + (0 : Int32)) (x2 + (1 : Int32)) h
set_option maxRecDepth 20000 in
set_option maxHeartbeats 4000000 in
theorem w_X5_left   (V : VT) (r9 : Int32) (h : d_X5_left  V = some r9) : AM 4 0 yX5_left (.code yX5_left cX5_left 3 (some .int)) (fun ad => [.ref (ad 109)]) V V (rI r9) := by
  unfold d_X5_left at h
  refine AM.of (by decide +kernel) (fun ad => Nat.le_of_ble_eq_true rfl) (fun {p l e s m args below meth c D cs ad b0} C hT => ?_)
  have C : Ctx p l s m args meth c D cs ad b0 RX5 cX5_left 3 (some .int) := C
  refine a_sub (lv' := [(0, .ref (ad 109))]) [0] rfl ?_
  refine a_iconst (v := (0 : Int32)) C dX5_left_0 rfl ?_
  refine a_istore_n (lv' := [(1, .int (0 : Int32)), (0, .ref (ad 109))]) C dX5_left_1 rfl (by decide) rfl ?_
  refine a_iconst (v := (0 : Int32)) C dX5_left_2 rfl ?_
  refine a_istore_n (lv' := [(2, .int (0 : Int32)), (1, .int (0 : Int32)), (0, .ref (ad 109))]) C dX5_left_3 rfl (by decide) rfl ?_
  refine a_sub (lv' := [(0, .ref (ad 109)), (1, .int (0 : Int32)), (2, .int (0 : Int32))]) [2, 1, 0] rfl ?_
  exact w_X5_left_4 C hT (0 : Int32) (0 : Int32) h
set_option maxRecDepth 20000 in
set_option maxHeartbeats 4000000 in
theorem w_X5_waysAgain_152 {p : Program} {l : Launch} {e : Env} {s : State} {m : MethodId} {args : Array Value} {below : List Frame} {meth : Method} {c : Code} {D : va_G} {cs : Nat → ClassId} {ad : Nat → Nat} {b0 : Nat} (C : Ctx p l s m args meth c D cs ad b0 RX5 cX5_waysAgain 7 (some .int)) (hT : ∀ x ∈ c.exceptionTable.toList, False)    {r9 : Int32} {W9 : VT} {k50 : Int32 → Int32 → Int32 → VT → Option (Int32 × VT)}   (hk50 : ∀ (x1 x2 x3 : Int32) (V : VT), k50 x1 x2 x3 V = some (r9, W9) → AW p l e (rmOf 19 0) s m args below meth c D cs ad b0 (QF below D cs ad b0 W9 ((rI r9) ad) args s 0) 7 0 V [(0, .ref (ad 109)), (1, .int x1), (2, .int x2), (3, .int x3)] [] 50) :
    ∀ (x1 x2 x3 x5 : Int32) (V : VT), d_X5_waysAgain_152 k50 x1 x2 x3 x5 V = some (r9, W9) → AW p l e (rmOf 19 0) s m args below meth c D cs ad b0 (QF below D cs ad b0 W9 ((rI r9) ad) args s 0) 7 0 V [(0, .ref (ad 109)), (1, .int x1), (2, .int x2), (3, .int x3), (5, .int x5)] [] 152 := by
  intro x1 x2 x3 x5 V h
  unfold d_X5_waysAgain_152 at h
  refine a_iload_n (q := 2) C dX5_waysAgain_152 rfl rfl ?_
  refine a_iload (q := 4) C dX5_waysAgain_153 rfl ?_
  refine a_if_eq (tgt := 162) C dX5_waysAgain_155 (by decide) (fun c1 => ?_) (fun c1 => ?_)
  · have h := it_t c1 h
    refine a_iconst (v := (0 : Int32)) C dX5_waysAgain_162 rfl ?_
    refine a_iadd C dX5_waysAgain_163 ?_
    refine a_istore_n (lv' := [(2, .int (x2 + (0 : Int32))), (0, .ref (ad 109)), (1, .int x1), (3, .int x3), (5, .int x5)]) C dX5_waysAgain_164 rfl (by decide) rfl ?_
    refine a_iinc (q := 3) (v := (x3 + (1 : Int32))) (lv' := [(3, .int (x3 + (1 : Int32))), (2, .int (x2 + (0 : Int32))), (0, .ref (ad 109)), (1, .int x1), (5, .int x5)]) C dX5_waysAgain_165 rfl rfl (by decide) rfl ?_
    refine a_goto (tgt := 50) C dX5_waysAgain_168 (by decide) ?_
    refine a_sub (lv' := [(0, .ref (ad 109)), (1, .int x1), (2, .int (x2 + (0 : Int32))), (3, .int (x3 + (1 : Int32)))]) [2, 3, 1, 0] rfl ?_
    exact hk50 x1 (x2 + (0 : Int32)) (x3 + (1 : Int32)) V h
  · have h := it_f c1 h
    refine a_iconst (v := (1 : Int32)) C dX5_waysAgain_158 rfl ?_
    refine a_goto (tgt := 163) C dX5_waysAgain_159 (by decide) ?_
    refine a_iadd C dX5_waysAgain_163 ?_
    refine a_istore_n (lv' := [(2, .int (x2 + (1 : Int32))), (0, .ref (ad 109)), (1, .int x1), (3, .int x3), (5, .int x5)]) C dX5_waysAgain_164 rfl (by decide) rfl ?_
    refine a_iinc (q := 3) (v := (x3 + (1 : Int32))) (lv' := [(3, .int (x3 + (1 : Int32))), (2, .int (x2 + (1 : Int32))), (0, .ref (ad 109)), (1, .int x1), (5, .int x5)]) C dX5_waysAgain_165 rfl rfl (by decide) rfl ?_
    refine a_goto (tgt := 50) C dX5_waysAgain_168 (by decide) ?_
    refine a_sub (lv' := [(0, .ref (ad 109)), (1, .int x1), (2, .int (x2 + (1 : Int32))), (3, .int (x3 + (1 : Int32)))]) [2, 3, 1, 0] rfl ?_
    exact hk50 x1 (x2 + (1 : Int32)) (x3 + (1 : Int32)) V h
set_option maxRecDepth 20000 in
set_option maxHeartbeats 4000000 in
theorem w_X5_waysAgain_64 {p : Program} {l : Launch} {e : Env} {s : State} {m : MethodId} {args : Array Value} {below : List Frame} {meth : Method} {c : Code} {D : va_G} {cs : Nat → ClassId} {ad : Nat → Nat} {b0 : Nat} (C : Ctx p l s m args meth c D cs ad b0 RX5 cX5_waysAgain 7 (some .int)) (hT : ∀ x ∈ c.exceptionTable.toList, False)    {r9 : Int32} {W9 : VT} {k50 : Int32 → Int32 → Int32 → VT → Option (Int32 × VT)}   (hk50 : ∀ (x1 x2 x3 : Int32) (V : VT), k50 x1 x2 x3 V = some (r9, W9) → AW p l e (rmOf 19 0) s m args below meth c D cs ad b0 (QF below D cs ad b0 W9 ((rI r9) ad) args s 0) 7 0 V [(0, .ref (ad 109)), (1, .int x1), (2, .int x2), (3, .int x3)] [] 50) :
    ∀ (x1 x2 x3 x4 x5 x6 : Int32) (V : VT), d_X5_waysAgain_64 k50 x1 x2 x3 x4 x5 x6 V = some (r9, W9) → AW p l e (rmOf 19 0) s m args below meth c D cs ad b0 (QF below D cs ad b0 W9 ((rI r9) ad) args s 0) 7 0 V [(0, .ref (ad 109)), (1, .int x1), (2, .int x2), (3, .int x3), (4, .int x4), (5, .int x5), (6, .int x6)] [] 64 := by
  refine lo6W_ind (P := fun x1 x2 x3 x4 x5 x6 V => AW p l e (rmOf 19 0) s m args below meth c D cs ad b0 (QF below D cs ad b0 W9 ((rI r9) ad) args s 0) 7 0 V [(0, .ref (ad 109)), (1, .int x1), (2, .int x2), (3, .int x3), (4, .int x4), (5, .int x5), (6, .int x6)] [] 64) ?_ FU
  intro k64 hk64 x1 x2 x3 x4 x5 x6 V h
  unfold d_X5_waysAgain_64b at h
  refine a_iload (q := 6) C dX5_waysAgain_64 rfl ?_
  refine a_aload_n (q := 0) C dX5_waysAgain_66 rfl rfl ?_
  refine a_getr (a := 109) (t := 110) C dX5_waysAgain_67 fl_RX5_7 rfl rfl ?_
  refine a_iconst (v := (0 : Int32)) C dX5_waysAgain_70 rfl ?_
  refine a_iald (a := 110) (x := (V 110 0)) C dX5_waysAgain_71 rfl (in_lit (by decide)) rfl ?_
  refine a_icmp_ge (tgt := 152) C dX5_waysAgain_72 (by decide) (fun c1 => ?_) (fun c1 => ?_)
  · have h := it_t c1 h
    refine a_sub (lv' := [(0, .ref (ad 109)), (1, .int x1), (2, .int x2), (3, .int x3), (5, .int x5)]) [0, 1, 2, 3, 5] rfl ?_
    exact w_X5_waysAgain_152 C hT hk50 x1 x2 x3 x5 V h
  · have h := it_f c1 h
    refine a_iload (q := 5) C dX5_waysAgain_75 rfl ?_
    refine a_if_eq (tgt := 152) C dX5_waysAgain_77 (by decide) (fun c2 => ?_) (fun c2 => ?_)
    · have h := it_t c2 h
      refine a_sub (lv' := [(0, .ref (ad 109)), (1, .int x1), (2, .int x2), (3, .int x3), (5, .int x5)]) [0, 1, 2, 3, 5] rfl ?_
      exact w_X5_waysAgain_152 C hT hk50 x1 x2 x3 x5 V h
    · have h := it_f c2 h
      refine a_aload_n (q := 0) C dX5_waysAgain_80 rfl rfl ?_
      refine a_iload (q := 6) C dX5_waysAgain_81 rfl ?_
      obtain ⟨r4, g3, h⟩ := bd_spec h
      refine a_cVi (a := 109) (st := []) C dX5_waysAgain_83 cv_RX5_90 (w_X5_isPainted x6  V r4 g3) rfl rfl rfl rfl rfl ⟨Nat.le_of_ble_eq_true rfl, Nat.le_of_ble_eq_true rfl, Nat.le_of_ble_eq_true rfl, Nat.le_of_ble_eq_true rfl⟩ (Nat.le_of_ble_eq_true rfl) ?_
      refine a_if_eq (tgt := 92) C dX5_waysAgain_86 (by decide) (fun c5 => ?_) (fun c5 => ?_)
      · have h := it_t c5 h
        refine a_aload_n (q := 0) C dX5_waysAgain_92 rfl rfl ?_
        refine a_getr (a := 109) (t := 116) C dX5_waysAgain_93 fl_RX5_33 rfl rfl ?_
        refine a_iload (q := 6) C dX5_waysAgain_96 rfl ?_
        refine a_iload (q := 4) C dX5_waysAgain_98 rfl ?_
        refine a_aload_n (q := 0) C dX5_waysAgain_100 rfl rfl ?_
        refine a_getr (a := 109) (t := 110) C dX5_waysAgain_101 fl_RX5_7 rfl rfl ?_
        refine a_bipush (v := (36 : Int32)) C dX5_waysAgain_104 rfl ?_
        refine a_iald (a := 110) (x := (V 110 36)) C dX5_waysAgain_106 rfl (in_lit (by decide)) rfl ?_
        obtain ⟨z6, h⟩ := asr_spec h
        refine a_irem C dX5_waysAgain_107 (nz_ne z6) ?_
        obtain ⟨z7, h⟩ := asr_spec h
        refine a_iast (a := 116) C dX5_waysAgain_108 rfl (inb_in z7) ?_
        refine a_iload (q := 4) C dX5_waysAgain_109 rfl ?_
        refine a_aload_n (q := 0) C dX5_waysAgain_111 rfl rfl ?_
        refine a_getr (a := 109) (t := 110) C dX5_waysAgain_112 fl_RX5_7 rfl rfl ?_
        refine a_bipush (v := (36 : Int32)) C dX5_waysAgain_115 rfl ?_
        refine a_iald (a := 110) (x := (V 110 36)) C dX5_waysAgain_117 rfl (in_lit (by decide)) rfl ?_
        obtain ⟨z8, h⟩ := asr_spec h
        refine a_idiv C dX5_waysAgain_118 (nz_ne z8) ?_
        refine a_istore (lv' := [(4, .int (x4 / (V 110 36))), (0, .ref (ad 109)), (1, .int x1), (2, .int x2), (3, .int x3), (5, .int x5), (6, .int x6)]) C dX5_waysAgain_119 (by decide) rfl ?_
        refine a_aload_n (q := 1) C dX5_waysAgain_121 rfl rfl ?_
        refine a_iload (q := 6) C dX5_waysAgain_122 rfl ?_
        refine a_aload_n (q := 1) C dX5_waysAgain_124 rfl rfl ?_
        refine a_getr (a := 109) (t := 116) C dX5_waysAgain_125 fl_RX5_33 rfl rfl ?_
        refine a_iload (q := 6) C dX5_waysAgain_128 rfl ?_
        obtain ⟨z9, h⟩ := asr_spec h
        refine a_iald (a := 116) (x := ((up2 V 116 x6.toNatClampNeg (x4 - x4 / (V 110 36) * (V 110 36))) 116 x6.toNatClampNeg)) C dX5_waysAgain_130 rfl (inb_in z9) rfl ?_
        refine a_iload (q := 6) C dX5_waysAgain_131 rfl ?_
        obtain ⟨r11, g10, h⟩ := bd_spec h
        refine a_cVi (a := 109) (st := []) C dX5_waysAgain_133 cv_RX5_148 (w_X5_clashes x6 ((up2 V 116 x6.toNatClampNeg (x4 - x4 / (V 110 36) * (V 110 36))) 116 x6.toNatClampNeg) x6  (up2 V 116 x6.toNatClampNeg (x4 - x4 / (V 110 36) * (V 110 36))) r11 g10) rfl rfl rfl rfl rfl ⟨Nat.le_of_ble_eq_true rfl, Nat.le_of_ble_eq_true rfl, Nat.le_of_ble_eq_true rfl, Nat.le_of_ble_eq_true rfl⟩ (Nat.le_of_ble_eq_true rfl) ?_
        refine a_if_ne (tgt := 143) C dX5_waysAgain_136 (by decide) (fun c12 => ?_) (fun c12 => ?_)
        · have h := it_f c12 h
          refine a_iconst (v := (0 : Int32)) C dX5_waysAgain_143 rfl ?_
          refine a_istore (lv' := [(5, .int (0 : Int32)), (4, .int (x4 / (V 110 36))), (0, .ref (ad 109)), (1, .int x1), (2, .int x2), (3, .int x3), (6, .int x6)]) C dX5_waysAgain_144 (by decide) rfl ?_
          refine a_iinc (q := 6) (v := (x6 + (1 : Int32))) (lv' := [(6, .int (x6 + (1 : Int32))), (5, .int (0 : Int32)), (4, .int (x4 / (V 110 36))), (0, .ref (ad 109)), (1, .int x1), (2, .int x2), (3, .int x3)]) C dX5_waysAgain_146 rfl rfl (by decide) rfl ?_
          refine a_goto (tgt := 64) C dX5_waysAgain_149 (by decide) ?_
          refine a_sub (lv' := [(0, .ref (ad 109)), (1, .int x1), (2, .int x2), (3, .int x3), (4, .int (x4 / (V 110 36))), (5, .int (0 : Int32)), (6, .int (x6 + (1 : Int32)))]) [3, 4, 5, 6, 2, 1, 0] rfl ?_
          exact hk64 x1 x2 x3 (x4 / (V 110 36)) (0 : Int32) (x6 + (1 : Int32)) (up2 V 116 x6.toNatClampNeg (x4 - x4 / (V 110 36) * (V 110 36))) h
        · have h := it_t c12 h
          refine a_iconst (v := (1 : Int32)) C dX5_waysAgain_139 rfl ?_
          refine a_goto (tgt := 144) C dX5_waysAgain_140 (by decide) ?_
          refine a_istore (lv' := [(5, .int (1 : Int32)), (4, .int (x4 / (V 110 36))), (0, .ref (ad 109)), (1, .int x1), (2, .int x2), (3, .int x3), (6, .int x6)]) C dX5_waysAgain_144 (by decide) rfl ?_
          refine a_iinc (q := 6) (v := (x6 + (1 : Int32))) (lv' := [(6, .int (x6 + (1 : Int32))), (5, .int (1 : Int32)), (4, .int (x4 / (V 110 36))), (0, .ref (ad 109)), (1, .int x1), (2, .int x2), (3, .int x3)]) C dX5_waysAgain_146 rfl rfl (by decide) rfl ?_
          refine a_goto (tgt := 64) C dX5_waysAgain_149 (by decide) ?_
          refine a_sub (lv' := [(0, .ref (ad 109)), (1, .int x1), (2, .int x2), (3, .int x3), (4, .int (x4 / (V 110 36))), (5, .int (1 : Int32)), (6, .int (x6 + (1 : Int32)))]) [3, 4, 5, 6, 2, 1, 0] rfl ?_
          exact hk64 x1 x2 x3 (x4 / (V 110 36)) (1 : Int32) (x6 + (1 : Int32)) (up2 V 116 x6.toNatClampNeg (x4 - x4 / (V 110 36) * (V 110 36))) h
      · have h := it_f c5 h
        refine a_goto (tgt := 146) C dX5_waysAgain_89 (by decide) ?_
        refine a_iinc (q := 6) (v := (x6 + (1 : Int32))) (lv' := [(6, .int (x6 + (1 : Int32))), (0, .ref (ad 109)), (1, .int x1), (2, .int x2), (3, .int x3), (4, .int x4), (5, .int x5)]) C dX5_waysAgain_146 rfl rfl (by decide) rfl ?_
        refine a_goto (tgt := 64) C dX5_waysAgain_149 (by decide) ?_
        refine a_sub (lv' := [(0, .ref (ad 109)), (1, .int x1), (2, .int x2), (3, .int x3), (4, .int x4), (5, .int x5), (6, .int (x6 + (1 : Int32)))]) [1, 2, 3, 4, 5, 6, 0] rfl ?_
        exact hk64 x1 x2 x3 x4 x5 (x6 + (1 : Int32)) V h
set_option maxRecDepth 20000 in
set_option maxHeartbeats 4000000 in
theorem w_X5_waysAgain_50 {p : Program} {l : Launch} {e : Env} {s : State} {m : MethodId} {args : Array Value} {below : List Frame} {meth : Method} {c : Code} {D : va_G} {cs : Nat → ClassId} {ad : Nat → Nat} {b0 : Nat} (C : Ctx p l s m args meth c D cs ad b0 RX5 cX5_waysAgain 7 (some .int)) (hT : ∀ x ∈ c.exceptionTable.toList, False)    {r9 : Int32} {W9 : VT}     :
    ∀ (x1 x2 x3 : Int32) (V : VT), d_X5_waysAgain_50 x1 x2 x3 V = some (r9, W9) → AW p l e (rmOf 19 0) s m args below meth c D cs ad b0 (QF below D cs ad b0 W9 ((rI r9) ad) args s 0) 7 0 V [(0, .ref (ad 109)), (1, .int x1), (2, .int x2), (3, .int x3)] [] 50 := by
  refine lo3W_ind (P := fun x1 x2 x3 V => AW p l e (rmOf 19 0) s m args below meth c D cs ad b0 (QF below D cs ad b0 W9 ((rI r9) ad) args s 0) 7 0 V [(0, .ref (ad 109)), (1, .int x1), (2, .int x2), (3, .int x3)] [] 50) ?_ FU
  intro k50 hk50 x1 x2 x3 V h
  unfold d_X5_waysAgain_50b at h
  refine a_iload_n (q := 3) C dX5_waysAgain_50 rfl rfl ?_
  refine a_iload_n (q := 1) C dX5_waysAgain_51 rfl rfl ?_
  refine a_icmp_ge (tgt := 171) C dX5_waysAgain_52 (by decide) (fun c1 => ?_) (fun c1 => ?_)
  · have h := it_t c1 h
    refine a_iload_n (q := 2) C dX5_waysAgain_171 rfl rfl ?_
    obtain ⟨rfl, rfl⟩ := ret2 h
    exact a_iret C dX5_waysAgain_172 rfl (by decide) rfl rfl
  · have h := it_f c1 h
    refine a_iload_n (q := 3) C dX5_waysAgain_55 rfl rfl ?_
    refine a_istore (lv' := [(4, .int x3), (0, .ref (ad 109)), (1, .int x1), (2, .int x2), (3, .int x3)]) C dX5_waysAgain_56 (by decide) rfl ?_
    refine a_iconst (v := (1 : Int32)) C dX5_waysAgain_58 rfl ?_
    refine a_istore (lv' := [(5, .int (1 : Int32)), (4, .int x3), (0, .ref (ad 109)), (1, .int x1), (2, .int x2), (3, .int x3)]) C dX5_waysAgain_59 (by decide) rfl ?_
    refine a_iconst (v := (0 : Int32)) C dX5_waysAgain_61 rfl ?_
    refine a_istore (lv' := [(6, .int (0 : Int32)), (5, .int (1 : Int32)), (4, .int x3), (0, .ref (ad 109)), (1, .int x1), (2, .int x2), (3, .int x3)]) C dX5_waysAgain_62 (by decide) rfl ?_
    refine a_sub (lv' := [(0, .ref (ad 109)), (1, .int x1), (2, .int x2), (3, .int x3), (4, .int x3), (5, .int (1 : Int32)), (6, .int (0 : Int32))]) [3, 4, 5, 6, 2, 1, 0] rfl ?_
    exact w_X5_waysAgain_64 C hT hk50 x1 x2 x3 x3 (1 : Int32) (0 : Int32) V h
set_option maxRecDepth 20000 in
set_option maxHeartbeats 4000000 in
theorem w_X5_waysAgain_22 {p : Program} {l : Launch} {e : Env} {s : State} {m : MethodId} {args : Array Value} {below : List Frame} {meth : Method} {c : Code} {D : va_G} {cs : Nat → ClassId} {ad : Nat → Nat} {b0 : Nat} (C : Ctx p l s m args meth c D cs ad b0 RX5 cX5_waysAgain 7 (some .int)) (hT : ∀ x ∈ c.exceptionTable.toList, False)    {r9 : Int32} {W9 : VT}     :
    ∀ (x1 x2 : Int32) (V : VT), d_X5_waysAgain_22 x1 x2 V = some (r9, W9) → AW p l e (rmOf 19 0) s m args below meth c D cs ad b0 (QF below D cs ad b0 W9 ((rI r9) ad) args s 0) 7 0 V [(0, .ref (ad 109)), (1, .int x1), (2, .int x2)] [] 22 := by
  refine lo2W_ind (P := fun x1 x2 V => AW p l e (rmOf 19 0) s m args below meth c D cs ad b0 (QF below D cs ad b0 W9 ((rI r9) ad) args s 0) 7 0 V [(0, .ref (ad 109)), (1, .int x1), (2, .int x2)] [] 22) ?_ FU
  intro k22 hk22 x1 x2 V h
  unfold d_X5_waysAgain_22b at h
  refine a_iload_n (q := 2) C dX5_waysAgain_22 rfl rfl ?_
  refine a_aload_n (q := 0) C dX5_waysAgain_23 rfl rfl ?_
  obtain ⟨r2, g1, h⟩ := bd_spec h
  refine a_cVi (a := 109) (st := [.int x2]) C dX5_waysAgain_24 cv_RX5_151 (w_X5_left   V r2 g1) rfl rfl rfl rfl rfl ⟨Nat.le_of_ble_eq_true rfl, Nat.le_of_ble_eq_true rfl, Nat.le_of_ble_eq_true rfl, Nat.le_of_ble_eq_true rfl⟩ (Nat.le_of_ble_eq_true rfl) ?_
  refine a_icmp_ge (tgt := 46) C dX5_waysAgain_27 (by decide) (fun c3 => ?_) (fun c3 => ?_)
  · have h := it_t c3 h
    refine a_iconst (v := (0 : Int32)) C dX5_waysAgain_46 rfl ?_
    refine a_istore_n (lv' := [(2, .int (0 : Int32)), (0, .ref (ad 109)), (1, .int x1)]) C dX5_waysAgain_47 rfl (by decide) rfl ?_
    refine a_iconst (v := (0 : Int32)) C dX5_waysAgain_48 rfl ?_
    refine a_istore_n (lv' := [(3, .int (0 : Int32)), (2, .int (0 : Int32)), (0, .ref (ad 109)), (1, .int x1)]) C dX5_waysAgain_49 rfl (by decide) rfl ?_
    refine a_sub (lv' := [(0, .ref (ad 109)), (1, .int x1), (2, .int (0 : Int32)), (3, .int (0 : Int32))]) [2, 3, 1, 0] rfl ?_
    exact w_X5_waysAgain_50 C hT x1 (0 : Int32) (0 : Int32) V h
  · have h := it_f c3 h
    refine a_iload_n (q := 1) C dX5_waysAgain_30 rfl rfl ?_
    refine a_aload_n (q := 0) C dX5_waysAgain_31 rfl rfl ?_
    refine a_getr (a := 109) (t := 110) C dX5_waysAgain_32 fl_RX5_7 rfl rfl ?_
    refine a_bipush (v := (36 : Int32)) C dX5_waysAgain_35 rfl ?_
    refine a_iald (a := 110) (x := (V 110 36)) C dX5_waysAgain_37 rfl (in_lit (by decide)) rfl ?_
    refine a_imul C dX5_waysAgain_38 ?_
    refine a_istore_n (lv' := [(1, .int (x1 * (V 110 36))), (0, .ref (ad 109)), (2, .int x2)]) C dX5_waysAgain_39 rfl (by decide) rfl ?_
    refine a_iinc (q := 2) (v := (x2 + (1 : Int32))) (lv' := [(2, .int (x2 + (1 : Int32))), (1, .int (x1 * (V 110 36))), (0, .ref (ad 109))]) C dX5_waysAgain_40 rfl rfl (by decide) rfl ?_
    refine a_goto (tgt := 22) C dX5_waysAgain_43 (by decide) ?_
    refine a_sub (lv' := [(0, .ref (ad 109)), (1, .int (x1 * (V 110 36))), (2, .int (x2 + (1 : Int32)))]) [2, 1, 0] rfl ?_
    exact hk22 (x1 * (V 110 36)) (x2 + (1 : Int32)) V h
set_option maxRecDepth 20000 in
set_option maxHeartbeats 4000000 in
theorem w_X5_waysAgain   (V : VT) (r9 : Int32) (W9 : VT) (h : d_X5_waysAgain  V = some (r9, W9)) : AM 19 0 yX5_waysAgain (.code yX5_waysAgain cX5_waysAgain 7 (some .int)) (fun ad => [.ref (ad 109)]) V W9 (rI r9) := by
  unfold d_X5_waysAgain at h
  refine AM.of (by decide +kernel) (fun ad => Nat.le_of_ble_eq_true rfl) (fun {p l e s m args below meth c D cs ad b0} C hT => ?_)
  have C : Ctx p l s m args meth c D cs ad b0 RX5 cX5_waysAgain 7 (some .int) := C
  refine a_sub (lv' := [(0, .ref (ad 109))]) [0] rfl ?_
  refine a_aload_n (q := 0) C dX5_waysAgain_0 rfl rfl ?_
  obtain ⟨r2, g1, h⟩ := bd_spec h
  refine a_cVi (a := 109) (st := []) C dX5_waysAgain_1 cv_RX5_151 (w_X5_left   V r2 g1) rfl rfl rfl rfl rfl ⟨Nat.le_of_ble_eq_true rfl, Nat.le_of_ble_eq_true rfl, Nat.le_of_ble_eq_true rfl, Nat.le_of_ble_eq_true rfl⟩ (Nat.le_of_ble_eq_true rfl) ?_
  refine a_iconst (v := (4 : Int32)) C dX5_waysAgain_4 rfl ?_
  refine a_icmp_le (tgt := 13) C dX5_waysAgain_5 (by decide) (fun c3 => ?_) (fun c3 => ?_)
  · have h := it_t c3 h
    refine a_aload_n (q := 0) C dX5_waysAgain_13 rfl rfl ?_
    refine a_iconst (v := (0 : Int32)) C dX5_waysAgain_14 rfl ?_
    refine a_puti (a := 109) C dX5_waysAgain_15 fp_RX5_39 rfl rfl rfl rfl ?_
    refine a_iconst (v := (1 : Int32)) C dX5_waysAgain_18 rfl ?_
    refine a_istore_n (lv' := [(1, .int (1 : Int32)), (0, .ref (ad 109))]) C dX5_waysAgain_19 rfl (by decide) rfl ?_
    refine a_iconst (v := (0 : Int32)) C dX5_waysAgain_20 rfl ?_
    refine a_istore_n (lv' := [(2, .int (0 : Int32)), (1, .int (1 : Int32)), (0, .ref (ad 109))]) C dX5_waysAgain_21 rfl (by decide) rfl ?_
    refine a_sub (lv' := [(0, .ref (ad 109)), (1, .int (1 : Int32)), (2, .int (0 : Int32))]) [2, 1, 0] rfl ?_
    exact w_X5_waysAgain_22 C hT (1 : Int32) (0 : Int32) (up2 V 109 7 (0 : Int32)) h
  · have h := it_f c3 h
    refine a_aload_n (q := 0) C dX5_waysAgain_8 rfl rfl ?_
    obtain ⟨r6, V5, g4, h⟩ := bw_spec h
    refine a_cVi (a := 109) (st := []) C dX5_waysAgain_9 cv_RX5_154 (w_X5_ways   V r6 V5 g4) rfl rfl rfl rfl rfl ⟨Nat.le_of_ble_eq_true rfl, Nat.le_of_ble_eq_true rfl, Nat.le_of_ble_eq_true rfl, Nat.le_of_ble_eq_true rfl⟩ (Nat.le_of_ble_eq_true rfl) ?_
    obtain ⟨rfl, rfl⟩ := ret2 h
    exact a_iret C dX5_waysAgain_12 rfl (by decide) rfl rfl
set_option maxRecDepth 20000 in
set_option maxHeartbeats 4000000 in
theorem w_X5_waysFor_27 {p : Program} {l : Launch} {e : Env} {s : State} {m : MethodId} {args : Array Value} {below : List Frame} {meth : Method} {c : Code} {D : va_G} {cs : Nat → ClassId} {ad : Nat → Nat} {b0 : Nat} (C : Ctx p l s m args meth c D cs ad b0 RX5 cX5_waysFor 2 (some .int)) (hT : ∀ x ∈ c.exceptionTable.toList, False)    {r9 : Int32} {W9 : VT}     :
    ∀ (x1 s0 : Int32) (V : VT), d_X5_waysFor_27 x1 s0 V = some (r9, W9) → AW p l e (rmOf 18 0) s m args below meth c D cs ad b0 (QF below D cs ad b0 W9 ((rI r9) ad) args s 0) 2 0 V [(0, .ref (ad 109)), (1, .int x1)] [.int s0, .ref (ad 109)] 27 := by
  intro x1 s0 V h
  unfold d_X5_waysFor_27 at h
  obtain ⟨r3, V2, g1, h⟩ := bw_spec h
  refine a_cVi (a := 109) (st := []) C dX5_waysFor_27 cv_RX5_71 (w_X5_fails s0  V r3 V2 g1) rfl rfl rfl rfl rfl ⟨Nat.le_of_ble_eq_true rfl, Nat.le_of_ble_eq_true rfl, Nat.le_of_ble_eq_true rfl, Nat.le_of_ble_eq_true rfl⟩ (Nat.le_of_ble_eq_true rfl) ?_
  refine a_if_eq (tgt := 35) C dX5_waysFor_30 (by decide) (fun c4 => ?_) (fun c4 => ?_)
  · have h := it_t c4 h
    refine a_aload_n (q := 0) C dX5_waysFor_35 rfl rfl ?_
    refine a_iload_n (q := 1) C dX5_waysFor_36 rfl rfl ?_
    obtain ⟨r6, g5, h⟩ := bd_spec h
    refine a_cVi (a := 109) (st := []) C dX5_waysFor_37 cv_RX5_90 (w_X5_isPainted x1  V2 r6 g5) rfl rfl rfl rfl rfl ⟨Nat.le_of_ble_eq_true rfl, Nat.le_of_ble_eq_true rfl, Nat.le_of_ble_eq_true rfl, Nat.le_of_ble_eq_true rfl⟩ (Nat.le_of_ble_eq_true rfl) ?_
    refine a_if_eq (tgt := 70) C dX5_waysFor_40 (by decide) (fun c7 => ?_) (fun c7 => ?_)
    · have h := it_t c7 h
      refine a_aload_n (q := 0) C dX5_waysFor_70 rfl rfl ?_
      refine a_iconst (v := (0 : Int32)) C dX5_waysFor_71 rfl ?_
      refine a_aload_n (q := 0) C dX5_waysFor_72 rfl rfl ?_
      refine a_getr (a := 109) (t := 110) C dX5_waysFor_73 fl_RX5_7 rfl rfl ?_
      refine a_bipush (v := (36 : Int32)) C dX5_waysFor_76 rfl ?_
      refine a_iald (a := 110) (x := (V2 110 36)) C dX5_waysFor_78 rfl (in_lit (by decide)) rfl ?_
      refine a_iload_n (q := 1) C dX5_waysFor_79 rfl rfl ?_
      refine a_aload_n (q := 0) C dX5_waysFor_80 rfl rfl ?_
      refine a_iload_n (q := 1) C dX5_waysFor_81 rfl rfl ?_
      refine a_iconst (v := (2 : Int32)) C dX5_waysFor_82 rfl ?_
      obtain ⟨r9, g8, h⟩ := bd_spec h
      refine a_cVi (a := 109) (st := [.int x1, .int (V2 110 36), .int (0 : Int32), .ref (ad 109)]) C dX5_waysFor_83 cv_RX5_63 (w_X5_of x1 (2 : Int32)  V2 r9 g8) rfl rfl rfl rfl rfl ⟨Nat.le_of_ble_eq_true rfl, Nat.le_of_ble_eq_true rfl, Nat.le_of_ble_eq_true rfl, Nat.le_of_ble_eq_true rfl⟩ (Nat.le_of_ble_eq_true rfl) ?_
      obtain ⟨r12, V11, g10, h⟩ := bw_spec h
      refine a_cVi (a := 109) (st := []) C dX5_waysFor_86 cv_RX5_144 (w_X5_waysFrom (0 : Int32) (V2 110 36) x1 r9  V2 r12 V11 g10) rfl rfl rfl rfl rfl ⟨Nat.le_of_ble_eq_true rfl, Nat.le_of_ble_eq_true rfl, Nat.le_of_ble_eq_true rfl, Nat.le_of_ble_eq_true rfl⟩ (Nat.le_of_ble_eq_true rfl) ?_
      obtain ⟨rfl, rfl⟩ := ret2 h
      exact a_iret C dX5_waysFor_89 rfl (by decide) rfl rfl
    · have h := it_f c7 h
      refine a_aload_n (q := 0) C dX5_waysFor_43 rfl rfl ?_
      refine a_iload_n (q := 1) C dX5_waysFor_44 rfl rfl ?_
      obtain ⟨r14, g13, h⟩ := bd_spec h
      refine a_cVi (a := 109) (st := []) C dX5_waysFor_45 cv_RX5_141 (w_X5_isFulfilled x1  V2 r14 g13) rfl rfl rfl rfl rfl ⟨Nat.le_of_ble_eq_true rfl, Nat.le_of_ble_eq_true rfl, Nat.le_of_ble_eq_true rfl, Nat.le_of_ble_eq_true rfl⟩ (Nat.le_of_ble_eq_true rfl) ?_
      refine a_if_eq (tgt := 68) C dX5_waysFor_48 (by decide) (fun c15 => ?_) (fun c15 => ?_)
      · have h := it_t c15 h
        refine a_iconst (v := (0 : Int32)) C dX5_waysFor_68 rfl ?_
        obtain ⟨rfl, rfl⟩ := ret2 h
        exact a_iret C dX5_waysFor_69 rfl (by decide) rfl rfl
      · have h := it_f c15 h
        refine a_aload_n (q := 0) C dX5_waysFor_51 rfl rfl ?_
        refine a_iconst (v := (0 : Int32)) C dX5_waysFor_52 rfl ?_
        refine a_aload_n (q := 0) C dX5_waysFor_53 rfl rfl ?_
        refine a_getr (a := 109) (t := 110) C dX5_waysFor_54 fl_RX5_7 rfl rfl ?_
        refine a_bipush (v := (36 : Int32)) C dX5_waysFor_57 rfl ?_
        refine a_iald (a := 110) (x := (V2 110 36)) C dX5_waysFor_59 rfl (in_lit (by decide)) rfl ?_
        refine a_iconst (v := (-1 : Int32)) C dX5_waysFor_60 rfl ?_
        refine a_iconst (v := (-1 : Int32)) C dX5_waysFor_61 rfl ?_
        obtain ⟨r18, V17, g16, h⟩ := bw_spec h
        refine a_cVi (a := 109) (st := []) C dX5_waysFor_62 cv_RX5_144 (w_X5_waysFrom (0 : Int32) (V2 110 36) (-1 : Int32) (-1 : Int32)  V2 r18 V17 g16) rfl rfl rfl rfl rfl ⟨Nat.le_of_ble_eq_true rfl, Nat.le_of_ble_eq_true rfl, Nat.le_of_ble_eq_true rfl, Nat.le_of_ble_eq_true rfl⟩ (Nat.le_of_ble_eq_true rfl) ?_
        refine a_goto (tgt := 69) C dX5_waysFor_65 (by decide) ?_
        obtain ⟨rfl, rfl⟩ := ret2 h
        exact a_iret C dX5_waysFor_69 rfl (by decide) rfl rfl
  · have h := it_f c4 h
    refine a_iconst (v := (0 : Int32)) C dX5_waysFor_33 rfl ?_
    obtain ⟨rfl, rfl⟩ := ret2 h
    exact a_iret C dX5_waysFor_34 rfl (by decide) rfl rfl
set_option maxRecDepth 20000 in
set_option maxHeartbeats 4000000 in
theorem w_X5_waysFor (x1 : Int32)  (V : VT) (r9 : Int32) (W9 : VT) (h : d_X5_waysFor x1 V = some (r9, W9)) : AM 18 0 yX5_waysFor (.code yX5_waysFor cX5_waysFor 2 (some .int)) (fun ad => [.ref (ad 109), .int x1]) V W9 (rI r9) := by
  unfold d_X5_waysFor at h
  refine AM.of (by decide +kernel) (fun ad => Nat.le_of_ble_eq_true rfl) (fun {p l e s m args below meth c D cs ad b0} C hT => ?_)
  have C : Ctx p l s m args meth c D cs ad b0 RX5 cX5_waysFor 2 (some .int) := C
  refine a_sub (lv' := [(0, .ref (ad 109)), (1, .int x1)]) [0, 1] rfl ?_
  refine a_aload_n (q := 0) C dX5_waysFor_0 rfl rfl ?_
  refine a_aload_n (q := 0) C dX5_waysFor_1 rfl rfl ?_
  refine a_iload_n (q := 1) C dX5_waysFor_2 rfl rfl ?_
  obtain ⟨r2, g1, h⟩ := bd_spec h
  refine a_cVi (a := 109) (st := [.ref (ad 109)]) C dX5_waysFor_3 cv_RX5_87 (w_X5_isCountry x1  V r2 g1) rfl rfl rfl rfl rfl ⟨Nat.le_of_ble_eq_true rfl, Nat.le_of_ble_eq_true rfl, Nat.le_of_ble_eq_true rfl, Nat.le_of_ble_eq_true rfl⟩ (Nat.le_of_ble_eq_true rfl) ?_
  refine a_if_ne (tgt := 13) C dX5_waysFor_6 (by decide) (fun c3 => ?_) (fun c3 => ?_)
  · have h := it_f c3 h
    refine a_aload_n (q := 0) C dX5_waysFor_13 rfl rfl ?_
    refine a_iload_n (q := 1) C dX5_waysFor_14 rfl rfl ?_
    refine a_iconst (v := (2 : Int32)) C dX5_waysFor_15 rfl ?_
    obtain ⟨r5, g4, h⟩ := bd_spec h
    refine a_cVi (a := 109) (st := [.ref (ad 109)]) C dX5_waysFor_16 cv_RX5_63 (w_X5_of x1 (2 : Int32)  V r5 g4) rfl rfl rfl rfl rfl ⟨Nat.le_of_ble_eq_true rfl, Nat.le_of_ble_eq_true rfl, Nat.le_of_ble_eq_true rfl, Nat.le_of_ble_eq_true rfl⟩ (Nat.le_of_ble_eq_true rfl) ?_
    refine a_if_ge (tgt := 26) C dX5_waysFor_19 (by decide) (fun c6 => ?_) (fun c6 => ?_)
    · have h := it_t c6 h
      refine a_iconst (v := (0 : Int32)) C dX5_waysFor_26 rfl ?_
      refine a_sub (lv' := [(0, .ref (ad 109)), (1, .int x1)]) [0, 1] rfl ?_
      exact w_X5_waysFor_27 C hT x1 (0 : Int32) V h
    · have h := it_f c6 h
      refine a_iconst (v := (2 : Int32)) C dX5_waysFor_22 rfl ?_
      refine a_goto (tgt := 27) C dX5_waysFor_23 (by decide) ?_
      refine a_sub (lv' := [(0, .ref (ad 109)), (1, .int x1)]) [0, 1] rfl ?_
      exact w_X5_waysFor_27 C hT x1 (2 : Int32) V h
  · have h := it_t c3 h
    refine a_iconst (v := (1 : Int32)) C dX5_waysFor_9 rfl ?_
    refine a_goto (tgt := 27) C dX5_waysFor_10 (by decide) ?_
    refine a_sub (lv' := [(0, .ref (ad 109)), (1, .int x1)]) [0, 1] rfl ?_
    exact w_X5_waysFor_27 C hT x1 (1 : Int32) V h
set_option maxRecDepth 20000 in
set_option maxHeartbeats 4000000 in
theorem w_X5_fewest_66 {p : Program} {l : Launch} {e : Env} {s : State} {m : MethodId} {args : Array Value} {below : List Frame} {meth : Method} {c : Code} {D : va_G} {cs : Nat → ClassId} {ad : Nat → Nat} {b0 : Nat} (C : Ctx p l s m args meth c D cs ad b0 RX5 cX5_fewest 3 (some .int)) (hT : ∀ x ∈ c.exceptionTable.toList, False)    {r9 : Int32} {W9 : VT}     :
    ∀ (x1 s0 : Int32) (V : VT), d_X5_fewest_66 x1 s0 V = some (r9, W9) → AW p l e (rmOf 18 0) s m args below meth c D cs ad b0 (QF below D cs ad b0 W9 ((rI r9) ad) args s 0) 3 0 V [(1, .int x1)] [.int s0, .ref (ad 109)] 66 := by
  intro x1 s0 V h
  unfold d_X5_fewest_66 at h
  obtain ⟨r3, V2, g1, h⟩ := bw_spec h
  refine a_cVi (a := 109) (st := []) C dX5_fewest_66 cv_RX5_71 (w_X5_fails s0  V r3 V2 g1) rfl rfl rfl rfl rfl ⟨Nat.le_of_ble_eq_true rfl, Nat.le_of_ble_eq_true rfl, Nat.le_of_ble_eq_true rfl, Nat.le_of_ble_eq_true rfl⟩ (Nat.le_of_ble_eq_true rfl) ?_
  refine a_if_eq (tgt := 76) C dX5_fewest_69 (by decide) (fun c4 => ?_) (fun c4 => ?_)
  · have h := it_t c4 h
    refine a_iload_n (q := 0) C dX5_fewest_76 rfl rfl ?_
    obtain ⟨rfl, rfl⟩ := ret2 h
    exact a_iret C dX5_fewest_77 rfl (by decide) rfl rfl
  · have h := it_f c4 h
    refine a_iconst (v := (0 : Int32)) C dX5_fewest_72 rfl ?_
    refine a_goto (tgt := 77) C dX5_fewest_73 (by decide) ?_
    obtain ⟨rfl, rfl⟩ := ret2 h
    exact a_iret C dX5_fewest_77 rfl (by decide) rfl rfl
set_option maxRecDepth 20000 in
set_option maxHeartbeats 4000000 in
theorem w_X5_fewest_55 {p : Program} {l : Launch} {e : Env} {s : State} {m : MethodId} {args : Array Value} {below : List Frame} {meth : Method} {c : Code} {D : va_G} {cs : Nat → ClassId} {ad : Nat → Nat} {b0 : Nat} (C : Ctx p l s m args meth c D cs ad b0 RX5 cX5_fewest 3 (some .int)) (hT : ∀ x ∈ c.exceptionTable.toList, False)    {r9 : Int32} {W9 : VT}     :
    ∀ (x1 : Int32) (V : VT), d_X5_fewest_55 x1 V = some (r9, W9) → AW p l e (rmOf 18 0) s m args below meth c D cs ad b0 (QF below D cs ad b0 W9 ((rI r9) ad) args s 0) 3 0 V [(0, .ref (ad 109)), (1, .int x1)] [] 55 := by
  intro x1 V h
  unfold d_X5_fewest_55 at h
  refine a_aload_n (q := 0) C dX5_fewest_55 rfl rfl ?_
  refine a_iload_n (q := 1) C dX5_fewest_56 rfl rfl ?_
  refine a_iconst (v := (5 : Int32)) C dX5_fewest_57 rfl ?_
  refine a_icmp_le (tgt := 65) C dX5_fewest_58 (by decide) (fun c1 => ?_) (fun c1 => ?_)
  · have h := it_t c1 h
    refine a_iconst (v := (0 : Int32)) C dX5_fewest_65 rfl ?_
    refine a_sub (lv' := [(1, .int x1)]) [1] rfl ?_
    exact w_X5_fewest_66 C hT x1 (0 : Int32) V h
  · have h := it_f c1 h
    refine a_iconst (v := (1 : Int32)) C dX5_fewest_61 rfl ?_
    refine a_goto (tgt := 66) C dX5_fewest_62 (by decide) ?_
    refine a_sub (lv' := [(1, .int x1)]) [1] rfl ?_
    exact w_X5_fewest_66 C hT x1 (1 : Int32) V h
set_option maxRecDepth 20000 in
set_option maxHeartbeats 4000000 in
theorem w_X5_fewest_33 {p : Program} {l : Launch} {e : Env} {s : State} {m : MethodId} {args : Array Value} {below : List Frame} {meth : Method} {c : Code} {D : va_G} {cs : Nat → ClassId} {ad : Nat → Nat} {b0 : Nat} (C : Ctx p l s m args meth c D cs ad b0 RX5 cX5_fewest 3 (some .int)) (hT : ∀ x ∈ c.exceptionTable.toList, False)    {r9 : Int32} {W9 : VT}     :
    ∀ (x1 : Int32) (V : VT), d_X5_fewest_33 x1 V = some (r9, W9) → AW p l e (rmOf 18 0) s m args below meth c D cs ad b0 (QF below D cs ad b0 W9 ((rI r9) ad) args s 0) 3 0 V [(0, .ref (ad 109)), (1, .int x1)] [] 33 := by
  refine lo1W_ind (P := fun x1 V => AW p l e (rmOf 18 0) s m args below meth c D cs ad b0 (QF below D cs ad b0 W9 ((rI r9) ad) args s 0) 3 0 V [(0, .ref (ad 109)), (1, .int x1)] [] 33) ?_ FU
  intro k33 hk33 x1 V h
  unfold d_X5_fewest_33b at h
  refine a_iload_n (q := 1) C dX5_fewest_33 rfl rfl ?_
  refine a_iconst (v := (5 : Int32)) C dX5_fewest_34 rfl ?_
  refine a_icmp_gt (tgt := 55) C dX5_fewest_35 (by decide) (fun c1 => ?_) (fun c1 => ?_)
  · have h := it_t c1 h
    refine a_sub (lv' := [(0, .ref (ad 109)), (1, .int x1)]) [0, 1] rfl ?_
    exact w_X5_fewest_55 C hT x1 V h
  · have h := it_f c1 h
    refine a_aload_n (q := 0) C dX5_fewest_38 rfl rfl ?_
    refine a_iconst (v := (0 : Int32)) C dX5_fewest_39 rfl ?_
    refine a_iload_n (q := 1) C dX5_fewest_40 rfl rfl ?_
    refine a_iconst (v := (-1 : Int32)) C dX5_fewest_41 rfl ?_
    refine a_iconst (v := (-1 : Int32)) C dX5_fewest_42 rfl ?_
    obtain ⟨r4, V3, g2, h⟩ := bw_spec h
    refine a_cVi (a := 109) (st := []) C dX5_fewest_43 cv_RX5_144 (w_X5_waysFrom (0 : Int32) x1 (-1 : Int32) (-1 : Int32)  V r4 V3 g2) rfl rfl rfl rfl rfl ⟨Nat.le_of_ble_eq_true rfl, Nat.le_of_ble_eq_true rfl, Nat.le_of_ble_eq_true rfl, Nat.le_of_ble_eq_true rfl⟩ (Nat.le_of_ble_eq_true rfl) ?_
    refine a_if_ne (tgt := 55) C dX5_fewest_46 (by decide) (fun c5 => ?_) (fun c5 => ?_)
    · have h := it_f c5 h
      refine a_sub (lv' := [(0, .ref (ad 109)), (1, .int x1)]) [0, 1] rfl ?_
      exact w_X5_fewest_55 C hT x1 V3 h
    · have h := it_t c5 h
      refine a_iinc (q := 1) (v := (x1 + (1 : Int32))) (lv' := [(1, .int (x1 + (1 : Int32))), (0, .ref (ad 109))]) C dX5_fewest_49 rfl rfl (by decide) rfl ?_
      refine a_goto (tgt := 33) C dX5_fewest_52 (by decide) ?_
      refine a_sub (lv' := [(0, .ref (ad 109)), (1, .int (x1 + (1 : Int32)))]) [1, 0] rfl ?_
      exact hk33 (x1 + (1 : Int32)) V3 h
set_option maxRecDepth 20000 in
set_option maxHeartbeats 4000000 in
theorem w_X5_fewest_4 {p : Program} {l : Launch} {e : Env} {s : State} {m : MethodId} {args : Array Value} {below : List Frame} {meth : Method} {c : Code} {D : va_G} {cs : Nat → ClassId} {ad : Nat → Nat} {b0 : Nat} (C : Ctx p l s m args meth c D cs ad b0 RX5 cX5_fewest 3 (some .int)) (hT : ∀ x ∈ c.exceptionTable.toList, False)    {r9 : Int32} {W9 : VT}     :
    ∀ (x1 x2 : Int32) (V : VT), d_X5_fewest_4 x1 x2 V = some (r9, W9) → AW p l e (rmOf 18 0) s m args below meth c D cs ad b0 (QF below D cs ad b0 W9 ((rI r9) ad) args s 0) 3 0 V [(0, .ref (ad 109)), (1, .int x1), (2, .int x2)] [] 4 := by
  refine lo2W_ind (P := fun x1 x2 V => AW p l e (rmOf 18 0) s m args below meth c D cs ad b0 (QF below D cs ad b0 W9 ((rI r9) ad) args s 0) 3 0 V [(0, .ref (ad 109)), (1, .int x1), (2, .int x2)] [] 4) ?_ FU
  intro k4 hk4 x1 x2 V h
  unfold d_X5_fewest_4b at h
  refine a_iload_n (q := 2) C dX5_fewest_4 rfl rfl ?_
  refine a_aload_n (q := 0) C dX5_fewest_5 rfl rfl ?_
  refine a_getr (a := 109) (t := 110) C dX5_fewest_6 fl_RX5_7 rfl rfl ?_
  refine a_iconst (v := (0 : Int32)) C dX5_fewest_9 rfl ?_
  refine a_iald (a := 110) (x := (V 110 0)) C dX5_fewest_10 rfl (in_lit (by decide)) rfl ?_
  refine a_icmp_ge (tgt := 33) C dX5_fewest_11 (by decide) (fun c1 => ?_) (fun c1 => ?_)
  · have h := it_t c1 h
    refine a_sub (lv' := [(0, .ref (ad 109)), (1, .int x1)]) [0, 1] rfl ?_
    exact w_X5_fewest_33 C hT x1 V h
  · have h := it_f c1 h
    refine a_iload_n (q := 1) C dX5_fewest_14 rfl rfl ?_
    refine a_aload_n (q := 0) C dX5_fewest_15 rfl rfl ?_
    refine a_iload_n (q := 2) C dX5_fewest_16 rfl rfl ?_
    refine a_iconst (v := (1 : Int32)) C dX5_fewest_17 rfl ?_
    obtain ⟨r3, g2, h⟩ := bd_spec h
    refine a_cVi (a := 109) (st := [.int x1]) C dX5_fewest_18 cv_RX5_63 (w_X5_of x2 (1 : Int32)  V r3 g2) rfl rfl rfl rfl rfl ⟨Nat.le_of_ble_eq_true rfl, Nat.le_of_ble_eq_true rfl, Nat.le_of_ble_eq_true rfl, Nat.le_of_ble_eq_true rfl⟩ (Nat.le_of_ble_eq_true rfl) ?_
    refine a_iconst (v := (1 : Int32)) C dX5_fewest_21 rfl ?_
    refine a_iadd C dX5_fewest_22 ?_
    obtain ⟨r5, g4, h⟩ := bd_spec h
    refine a_cSi (st := []) C dX5_fewest_23 cv_RX5_157 (w_X5_more x1 (r3 + (1 : Int32))  V r5 g4) rfl rfl rfl ⟨Nat.le_of_ble_eq_true rfl, Nat.le_of_ble_eq_true rfl, Nat.le_of_ble_eq_true rfl, Nat.le_of_ble_eq_true rfl⟩ (Nat.le_of_ble_eq_true rfl) ?_
    refine a_istore_n (lv' := [(1, .int r5), (0, .ref (ad 109)), (2, .int x2)]) C dX5_fewest_26 rfl (by decide) rfl ?_
    refine a_iinc (q := 2) (v := (x2 + (1 : Int32))) (lv' := [(2, .int (x2 + (1 : Int32))), (1, .int r5), (0, .ref (ad 109))]) C dX5_fewest_27 rfl rfl (by decide) rfl ?_
    refine a_goto (tgt := 4) C dX5_fewest_30 (by decide) ?_
    refine a_sub (lv' := [(0, .ref (ad 109)), (1, .int r5), (2, .int (x2 + (1 : Int32)))]) [2, 1, 0] rfl ?_
    exact hk4 r5 (x2 + (1 : Int32)) V h
set_option maxRecDepth 20000 in
set_option maxHeartbeats 4000000 in
theorem w_X5_fewest   (V : VT) (r9 : Int32) (W9 : VT) (h : d_X5_fewest  V = some (r9, W9)) : AM 18 0 yX5_fewest (.code yX5_fewest cX5_fewest 3 (some .int)) (fun ad => [.ref (ad 109)]) V W9 (rI r9) := by
  unfold d_X5_fewest at h
  refine AM.of (by decide +kernel) (fun ad => Nat.le_of_ble_eq_true rfl) (fun {p l e s m args below meth c D cs ad b0} C hT => ?_)
  have C : Ctx p l s m args meth c D cs ad b0 RX5 cX5_fewest 3 (some .int) := C
  refine a_sub (lv' := [(0, .ref (ad 109))]) [0] rfl ?_
  refine a_iconst (v := (1 : Int32)) C dX5_fewest_0 rfl ?_
  refine a_istore_n (lv' := [(1, .int (1 : Int32)), (0, .ref (ad 109))]) C dX5_fewest_1 rfl (by decide) rfl ?_
  refine a_iconst (v := (0 : Int32)) C dX5_fewest_2 rfl ?_
  refine a_istore_n (lv' := [(2, .int (0 : Int32)), (1, .int (1 : Int32)), (0, .ref (ad 109))]) C dX5_fewest_3 rfl (by decide) rfl ?_
  refine a_sub (lv' := [(0, .ref (ad 109)), (1, .int (1 : Int32)), (2, .int (0 : Int32))]) [2, 1, 0] rfl ?_
  exact w_X5_fewest_4 C hT (1 : Int32) (0 : Int32) V h
set_option maxRecDepth 20000 in
set_option maxHeartbeats 4000000 in
theorem w_X5_areAll_2 {p : Program} {l : Launch} {e : Env} {s : State} {m : MethodId} {args : Array Value} {below : List Frame} {meth : Method} {c : Code} {D : va_G} {cs : Nat → ClassId} {ad : Nat → Nat} {b0 : Nat} (C : Ctx p l s m args meth c D cs ad b0 RX5 cX5_areAll 3 (some .boolean)) (hT : ∀ x ∈ c.exceptionTable.toList, False)   {V : VT} {r9 : Int32}     :
    ∀ (x1 x2 : Int32) , d_X5_areAll_2 V x1 x2 = some r9 → AW p l e (rmOf 2 0) s m args below meth c D cs ad b0 (QF below D cs ad b0 V ((rI r9) ad) args s 0) 3 0 V [(0, .ref (ad 109)), (1, .int x1), (2, .int x2)] [] 2 := by
  refine lo2_ind (P := fun x1 x2 => AW p l e (rmOf 2 0) s m args below meth c D cs ad b0 (QF below D cs ad b0 V ((rI r9) ad) args s 0) 3 0 V [(0, .ref (ad 109)), (1, .int x1), (2, .int x2)] [] 2) ?_ FU
  intro k2 hk2 x1 x2 h
  unfold d_X5_areAll_2b at h
  refine a_iload_n (q := 2) C dX5_areAll_2 rfl rfl ?_
  refine a_aload_n (q := 0) C dX5_areAll_3 rfl rfl ?_
  refine a_getr (a := 109) (t := 110) C dX5_areAll_4 fl_RX5_7 rfl rfl ?_
  refine a_iconst (v := (0 : Int32)) C dX5_areAll_7 rfl ?_
  refine a_iald (a := 110) (x := (V 110 0)) C dX5_areAll_8 rfl (in_lit (by decide)) rfl ?_
  refine a_icmp_ge (tgt := 49) C dX5_areAll_9 (by decide) (fun c1 => ?_) (fun c1 => ?_)
  · have h := it_t c1 h
    refine a_iconst (v := (1 : Int32)) C dX5_areAll_49 rfl ?_
    obtain rfl := ret1 h
    exact a_zret C dX5_areAll_50 rfl rfl (by decide) rfl rfl
  · have h := it_f c1 h
    refine a_iload_n (q := 1) C dX5_areAll_12 rfl rfl ?_
    refine a_iload_n (q := 2) C dX5_areAll_13 rfl rfl ?_
    refine a_ishr C dX5_areAll_14 ?_
    refine a_iconst (v := (1 : Int32)) C dX5_areAll_15 rfl ?_
    refine a_iand C dX5_areAll_16 ?_
    refine a_iconst (v := (1 : Int32)) C dX5_areAll_17 rfl ?_
    refine a_icmp_ne (tgt := 43) C dX5_areAll_18 (by decide) (fun c2 => ?_) (fun c2 => ?_)
    · have h := it_f c2 h
      refine a_iinc (q := 2) (v := (x2 + (1 : Int32))) (lv' := [(2, .int (x2 + (1 : Int32))), (0, .ref (ad 109)), (1, .int x1)]) C dX5_areAll_43 rfl rfl (by decide) rfl ?_
      refine a_goto (tgt := 2) C dX5_areAll_46 (by decide) ?_
      refine a_sub (lv' := [(0, .ref (ad 109)), (1, .int x1), (2, .int (x2 + (1 : Int32)))]) [1, 2, 0] rfl ?_
      exact hk2 x1 (x2 + (1 : Int32)) h
    · have h := it_t c2 h
      refine a_iload_n (q := 1) C dX5_areAll_21 rfl rfl ?_
      refine a_aload_n (q := 0) C dX5_areAll_22 rfl rfl ?_
      refine a_getr (a := 109) (t := 110) C dX5_areAll_23 fl_RX5_7 rfl rfl ?_
      refine a_bipush (v := (29 : Int32)) C dX5_areAll_26 rfl ?_
      refine a_iload_n (q := 2) C dX5_areAll_28 rfl rfl ?_
      refine a_iadd C dX5_areAll_29 ?_
      obtain ⟨z3, h⟩ := asr_spec h
      refine a_iald (a := 110) (x := (V 110 ((29 : Int32) + x2).toNatClampNeg)) C dX5_areAll_30 rfl (inb_in z3) rfl ?_
      refine a_iconst (v := (1 : Int32)) C dX5_areAll_31 rfl ?_
      refine a_iload_n (q := 2) C dX5_areAll_32 rfl rfl ?_
      refine a_ishl C dX5_areAll_33 ?_
      refine a_ior C dX5_areAll_34 ?_
      refine a_iconst (v := (-1 : Int32)) C dX5_areAll_35 rfl ?_
      refine a_ixor C dX5_areAll_36 ?_
      refine a_iand C dX5_areAll_37 ?_
      refine a_if_eq (tgt := 43) C dX5_areAll_38 (by decide) (fun c4 => ?_) (fun c4 => ?_)
      · have h := it_t c4 h
        refine a_iinc (q := 2) (v := (x2 + (1 : Int32))) (lv' := [(2, .int (x2 + (1 : Int32))), (0, .ref (ad 109)), (1, .int x1)]) C dX5_areAll_43 rfl rfl (by decide) rfl ?_
        refine a_goto (tgt := 2) C dX5_areAll_46 (by decide) ?_
        refine a_sub (lv' := [(0, .ref (ad 109)), (1, .int x1), (2, .int (x2 + (1 : Int32)))]) [1, 2, 0] rfl ?_
        exact hk2 x1 (x2 + (1 : Int32)) h
      · have h := it_f c4 h
        refine a_iconst (v := (0 : Int32)) C dX5_areAll_41 rfl ?_
        obtain rfl := ret1 h
        exact a_zret C dX5_areAll_42 rfl rfl (by decide) rfl rfl
set_option maxRecDepth 20000 in
set_option maxHeartbeats 4000000 in
theorem w_X5_areAll (x1 : Int32)  (V : VT) (r9 : Int32) (h : d_X5_areAll x1 V = some r9) : AM 2 0 yX5_areAll (.code yX5_areAll cX5_areAll 3 (some .boolean)) (fun ad => [.ref (ad 109), .int x1]) V V (rI r9) := by
  unfold d_X5_areAll at h
  refine AM.of (by decide +kernel) (fun ad => Nat.le_of_ble_eq_true rfl) (fun {p l e s m args below meth c D cs ad b0} C hT => ?_)
  have C : Ctx p l s m args meth c D cs ad b0 RX5 cX5_areAll 3 (some .boolean) := C
  refine a_sub (lv' := [(0, .ref (ad 109)), (1, .int x1)]) [0, 1] rfl ?_
  refine a_iconst (v := (0 : Int32)) C dX5_areAll_0 rfl ?_
  refine a_istore_n (lv' := [(2, .int (0 : Int32)), (0, .ref (ad 109)), (1, .int x1)]) C dX5_areAll_1 rfl (by decide) rfl ?_
  refine a_sub (lv' := [(0, .ref (ad 109)), (1, .int x1), (2, .int (0 : Int32))]) [1, 2, 0] rfl ?_
  exact w_X5_areAll_2 C hT x1 (0 : Int32) h
set_option maxRecDepth 20000 in
set_option maxHeartbeats 4000000 in
theorem w_X5_clique_26 {p : Program} {l : Launch} {e : Env} {s : State} {m : MethodId} {args : Array Value} {below : List Frame} {meth : Method} {c : Code} {D : va_G} {cs : Nat → ClassId} {ad : Nat → Nat} {b0 : Nat} (C : Ctx p l s m args meth c D cs ad b0 RX5 cX5_clique 5 (some .int)) (hT : ∀ x ∈ c.exceptionTable.toList, False)    {r9 : Int32} {W9 : VT} {k9 : Int32 → Int32 → VT → Option (Int32 × VT)}   (hk9 : ∀ (x1 x2 : Int32) (V : VT), k9 x1 x2 V = some (r9, W9) → AW p l e (rmOf 3 0) s m args below meth c D cs ad b0 (QF below D cs ad b0 W9 ((rI r9) ad) args s 0) 5 0 V [(0, .ref (ad 109)), (1, .int x1), (2, .int x2)] [] 9) :
    ∀ (x1 x2 x3 x4 : Int32) (V : VT), d_X5_clique_26 k9 x1 x2 x3 x4 V = some (r9, W9) → AW p l e (rmOf 3 0) s m args below meth c D cs ad b0 (QF below D cs ad b0 W9 ((rI r9) ad) args s 0) 5 0 V [(0, .ref (ad 109)), (1, .int x1), (2, .int x2), (3, .int x3), (4, .int x4)] [] 26 := by
  refine lo4W_ind (P := fun x1 x2 x3 x4 V => AW p l e (rmOf 3 0) s m args below meth c D cs ad b0 (QF below D cs ad b0 W9 ((rI r9) ad) args s 0) 5 0 V [(0, .ref (ad 109)), (1, .int x1), (2, .int x2), (3, .int x3), (4, .int x4)] [] 26) ?_ FU
  intro k26 hk26 x1 x2 x3 x4 V h
  unfold d_X5_clique_26b at h
  refine a_iload (q := 4) C dX5_clique_26 rfl ?_
  refine a_aload_n (q := 0) C dX5_clique_28 rfl rfl ?_
  refine a_getr (a := 109) (t := 110) C dX5_clique_29 fl_RX5_7 rfl rfl ?_
  refine a_iconst (v := (0 : Int32)) C dX5_clique_32 rfl ?_
  refine a_iald (a := 110) (x := (V 110 0)) C dX5_clique_33 rfl (in_lit (by decide)) rfl ?_
  refine a_icmp_ge (tgt := 52) C dX5_clique_34 (by decide) (fun c1 => ?_) (fun c1 => ?_)
  · have h := it_t c1 h
    refine a_iload_n (q := 3) C dX5_clique_52 rfl rfl ?_
    refine a_iload_n (q := 1) C dX5_clique_53 rfl rfl ?_
    refine a_icmp_le (tgt := 67) C dX5_clique_54 (by decide) (fun c2 => ?_) (fun c2 => ?_)
    · have h := it_t c2 h
      refine a_iinc (q := 2) (v := (x2 + (1 : Int32))) (lv' := [(2, .int (x2 + (1 : Int32))), (0, .ref (ad 109)), (1, .int x1), (3, .int x3), (4, .int x4)]) C dX5_clique_67 rfl rfl (by decide) rfl ?_
      refine a_goto (tgt := 9) C dX5_clique_70 (by decide) ?_
      refine a_sub (lv' := [(0, .ref (ad 109)), (1, .int x1), (2, .int (x2 + (1 : Int32)))]) [1, 2, 0] rfl ?_
      exact hk9 x1 (x2 + (1 : Int32)) V h
    · have h := it_f c2 h
      refine a_aload_n (q := 0) C dX5_clique_57 rfl rfl ?_
      refine a_iload_n (q := 2) C dX5_clique_58 rfl rfl ?_
      obtain ⟨r4, g3, h⟩ := bd_spec h
      refine a_cVi (a := 109) (st := []) C dX5_clique_59 cv_RX5_160 (w_X5_areAll x2  V r4 g3) rfl rfl rfl rfl rfl ⟨Nat.le_of_ble_eq_true rfl, Nat.le_of_ble_eq_true rfl, Nat.le_of_ble_eq_true rfl, Nat.le_of_ble_eq_true rfl⟩ (Nat.le_of_ble_eq_true rfl) ?_
      refine a_if_eq (tgt := 67) C dX5_clique_62 (by decide) (fun c5 => ?_) (fun c5 => ?_)
      · have h := it_t c5 h
        refine a_iinc (q := 2) (v := (x2 + (1 : Int32))) (lv' := [(2, .int (x2 + (1 : Int32))), (0, .ref (ad 109)), (1, .int x1), (3, .int x3), (4, .int x4)]) C dX5_clique_67 rfl rfl (by decide) rfl ?_
        refine a_goto (tgt := 9) C dX5_clique_70 (by decide) ?_
        refine a_sub (lv' := [(0, .ref (ad 109)), (1, .int x1), (2, .int (x2 + (1 : Int32)))]) [1, 2, 0] rfl ?_
        exact hk9 x1 (x2 + (1 : Int32)) V h
      · have h := it_f c5 h
        refine a_iload_n (q := 3) C dX5_clique_65 rfl rfl ?_
        refine a_istore_n (lv' := [(1, .int x3), (0, .ref (ad 109)), (2, .int x2), (3, .int x3), (4, .int x4)]) C dX5_clique_66 rfl (by decide) rfl ?_
        refine a_iinc (q := 2) (v := (x2 + (1 : Int32))) (lv' := [(2, .int (x2 + (1 : Int32))), (1, .int x3), (0, .ref (ad 109)), (3, .int x3), (4, .int x4)]) C dX5_clique_67 rfl rfl (by decide) rfl ?_
        refine a_goto (tgt := 9) C dX5_clique_70 (by decide) ?_
        refine a_sub (lv' := [(0, .ref (ad 109)), (1, .int x3), (2, .int (x2 + (1 : Int32)))]) [2, 1, 0] rfl ?_
        exact hk9 x3 (x2 + (1 : Int32)) V h
  · have h := it_f c1 h
    refine a_iload_n (q := 3) C dX5_clique_37 rfl rfl ?_
    refine a_iload_n (q := 2) C dX5_clique_38 rfl rfl ?_
    refine a_iload (q := 4) C dX5_clique_39 rfl ?_
    refine a_ishr C dX5_clique_41 ?_
    refine a_iconst (v := (1 : Int32)) C dX5_clique_42 rfl ?_
    refine a_iand C dX5_clique_43 ?_
    refine a_iadd C dX5_clique_44 ?_
    refine a_istore_n (lv' := [(3, .int (x3 + ((x2 >>> (x4 &&& 31)) &&& (1 : Int32)))), (0, .ref (ad 109)), (1, .int x1), (2, .int x2), (4, .int x4)]) C dX5_clique_45 rfl (by decide) rfl ?_
    refine a_iinc (q := 4) (v := (x4 + (1 : Int32))) (lv' := [(4, .int (x4 + (1 : Int32))), (3, .int (x3 + ((x2 >>> (x4 &&& 31)) &&& (1 : Int32)))), (0, .ref (ad 109)), (1, .int x1), (2, .int x2)]) C dX5_clique_46 rfl rfl (by decide) rfl ?_
    refine a_goto (tgt := 26) C dX5_clique_49 (by decide) ?_
    refine a_sub (lv' := [(0, .ref (ad 109)), (1, .int x1), (2, .int x2), (3, .int (x3 + ((x2 >>> (x4 &&& 31)) &&& (1 : Int32)))), (4, .int (x4 + (1 : Int32)))]) [2, 3, 4, 1, 0] rfl ?_
    exact hk26 x1 x2 (x3 + ((x2 >>> (x4 &&& 31)) &&& (1 : Int32))) (x4 + (1 : Int32)) V h
set_option maxRecDepth 20000 in
set_option maxHeartbeats 4000000 in
theorem w_X5_clique_9 {p : Program} {l : Launch} {e : Env} {s : State} {m : MethodId} {args : Array Value} {below : List Frame} {meth : Method} {c : Code} {D : va_G} {cs : Nat → ClassId} {ad : Nat → Nat} {b0 : Nat} (C : Ctx p l s m args meth c D cs ad b0 RX5 cX5_clique 5 (some .int)) (hT : ∀ x ∈ c.exceptionTable.toList, False)    {r9 : Int32} {W9 : VT}     :
    ∀ (x1 x2 : Int32) (V : VT), d_X5_clique_9 x1 x2 V = some (r9, W9) → AW p l e (rmOf 3 0) s m args below meth c D cs ad b0 (QF below D cs ad b0 W9 ((rI r9) ad) args s 0) 5 0 V [(0, .ref (ad 109)), (1, .int x1), (2, .int x2)] [] 9 := by
  refine lo2W_ind (P := fun x1 x2 V => AW p l e (rmOf 3 0) s m args below meth c D cs ad b0 (QF below D cs ad b0 W9 ((rI r9) ad) args s 0) 5 0 V [(0, .ref (ad 109)), (1, .int x1), (2, .int x2)] [] 9) ?_ FU
  intro k9 hk9 x1 x2 V h
  unfold d_X5_clique_9b at h
  refine a_iload_n (q := 2) C dX5_clique_9 rfl rfl ?_
  refine a_iconst (v := (1 : Int32)) C dX5_clique_10 rfl ?_
  refine a_aload_n (q := 0) C dX5_clique_11 rfl rfl ?_
  refine a_getr (a := 109) (t := 110) C dX5_clique_12 fl_RX5_7 rfl rfl ?_
  refine a_iconst (v := (0 : Int32)) C dX5_clique_15 rfl ?_
  refine a_iald (a := 110) (x := (V 110 0)) C dX5_clique_16 rfl (in_lit (by decide)) rfl ?_
  refine a_ishl C dX5_clique_17 ?_
  refine a_icmp_ge (tgt := 73) C dX5_clique_18 (by decide) (fun c1 => ?_) (fun c1 => ?_)
  · have h := it_t c1 h
    refine a_iload_n (q := 1) C dX5_clique_73 rfl rfl ?_
    obtain ⟨rfl, rfl⟩ := ret2 h
    exact a_iret C dX5_clique_74 rfl (by decide) rfl rfl
  · have h := it_f c1 h
    refine a_iconst (v := (0 : Int32)) C dX5_clique_21 rfl ?_
    refine a_istore_n (lv' := [(3, .int (0 : Int32)), (0, .ref (ad 109)), (1, .int x1), (2, .int x2)]) C dX5_clique_22 rfl (by decide) rfl ?_
    refine a_iconst (v := (0 : Int32)) C dX5_clique_23 rfl ?_
    refine a_istore (lv' := [(4, .int (0 : Int32)), (3, .int (0 : Int32)), (0, .ref (ad 109)), (1, .int x1), (2, .int x2)]) C dX5_clique_24 (by decide) rfl ?_
    refine a_sub (lv' := [(0, .ref (ad 109)), (1, .int x1), (2, .int x2), (3, .int (0 : Int32)), (4, .int (0 : Int32))]) [2, 3, 4, 1, 0] rfl ?_
    exact w_X5_clique_26 C hT hk9 x1 x2 (0 : Int32) (0 : Int32) V h
set_option maxRecDepth 20000 in
set_option maxHeartbeats 4000000 in
theorem w_X5_clique   (V : VT) (r9 : Int32) (W9 : VT) (h : d_X5_clique  V = some (r9, W9)) : AM 3 0 yX5_clique (.code yX5_clique cX5_clique 5 (some .int)) (fun ad => [.ref (ad 109)]) V W9 (rI r9) := by
  unfold d_X5_clique at h
  refine AM.of (by decide +kernel) (fun ad => Nat.le_of_ble_eq_true rfl) (fun {p l e s m args below meth c D cs ad b0} C hT => ?_)
  have C : Ctx p l s m args meth c D cs ad b0 RX5 cX5_clique 5 (some .int) := C
  refine a_sub (lv' := [(0, .ref (ad 109))]) [0] rfl ?_
  refine a_aload_n (q := 0) C dX5_clique_0 rfl rfl ?_
  refine a_iconst (v := (0 : Int32)) C dX5_clique_1 rfl ?_
  refine a_puti (a := 109) C dX5_clique_2 fp_RX5_39 rfl rfl rfl rfl ?_
  refine a_iconst (v := (0 : Int32)) C dX5_clique_5 rfl ?_
  refine a_istore_n (lv' := [(1, .int (0 : Int32)), (0, .ref (ad 109))]) C dX5_clique_6 rfl (by decide) rfl ?_
  refine a_iconst (v := (0 : Int32)) C dX5_clique_7 rfl ?_
  refine a_istore_n (lv' := [(2, .int (0 : Int32)), (1, .int (0 : Int32)), (0, .ref (ad 109))]) C dX5_clique_8 rfl (by decide) rfl ?_
  refine a_sub (lv' := [(0, .ref (ad 109)), (1, .int (0 : Int32)), (2, .int (0 : Int32))]) [2, 1, 0] rfl ?_
  exact w_X5_clique_9 C hT (0 : Int32) (0 : Int32) (up2 V 109 7 (0 : Int32)) h
set_option maxRecDepth 20000 in
set_option maxHeartbeats 4000000 in
theorem w_X5_writes (x1 : Int32)  (V : VT) (W9 : VT) (h : d_X5_writes x1 V = some W9) : AM 2 0 yX5_writes (.code yX5_writes cX5_writes 2 (none)) (fun ad => [.ref (ad 109), .int x1]) V W9 (rV) := by
  unfold d_X5_writes at h
  refine AM.of (by decide +kernel) (fun ad => Nat.le_of_ble_eq_true rfl) (fun {p l e s m args below meth c D cs ad b0} C hT => ?_)
  have C : Ctx p l s m args meth c D cs ad b0 RX5 cX5_writes 2 (none) := C
  refine a_sub (lv' := [(0, .ref (ad 109)), (1, .int x1)]) [0, 1] rfl ?_
  refine a_aload_n (q := 0) C dX5_writes_0 rfl rfl ?_
  refine a_getr (a := 109) (t := 115) C dX5_writes_1 fl_RX5_29 rfl rfl ?_
  refine a_aload_n (q := 0) C dX5_writes_4 rfl rfl ?_
  refine a_geti (a := 109) (x := (V 109 14)) C dX5_writes_5 fl_RX5_163 rfl rfl rfl ?_
  refine a_iload_n (q := 1) C dX5_writes_8 rfl rfl ?_
  refine a_i2c (v := (x1.toUInt32 % 65536).toInt32) C dX5_writes_9 rfl ?_
  obtain ⟨z1, h⟩ := asr_spec h
  refine a_cast (a := 115) C dX5_writes_10 rfl (inb_in z1) ?_
  refine a_aload_n (q := 0) C dX5_writes_11 rfl rfl ?_
  refine a_dup C dX5_writes_12 rfl ?_
  refine a_geti (a := 109) (x := (V 109 14)) C dX5_writes_13 fl_RX5_163 rfl rfl rfl ?_
  refine a_iconst (v := (1 : Int32)) C dX5_writes_16 rfl ?_
  refine a_iadd C dX5_writes_17 ?_
  refine a_puti (a := 109) C dX5_writes_18 fp_RX5_163 rfl rfl rfl rfl ?_
  obtain rfl := ret1 h
  exact a_vret C dX5_writes_21 rfl (by decide) rfl rfl
set_option maxRecDepth 20000 in
set_option maxHeartbeats 4000000 in
theorem w_X5_line_109 {p : Program} {l : Launch} {e : Env} {s : State} {m : MethodId} {args : Array Value} {below : List Frame} {meth : Method} {c : Code} {D : va_G} {cs : Nat → ClassId} {ad : Nat → Nat} {b0 : Nat} (C : Ctx p l s m args meth c D cs ad b0 RX5 cX5_line 4 (some .int)) (hT : ∀ x ∈ c.exceptionTable.toList, False)    {r9 : Int32} {W9 : VT} {k77 : Int32 → Int32 → Int32 → VT → Option (Int32 × VT)}   (hk77 : ∀ (x1 x2 x3 : Int32) (V : VT), k77 x1 x2 x3 V = some (r9, W9) → AW p l e (rmOf 7 0) s m args below meth c D cs ad b0 (QF below D cs ad b0 W9 ((rI r9) ad) args s 0) 4 0 V [(0, .ref (ad 109)), (1, .int x1), (2, .int x2), (3, .int x3)] [] 77) :
    ∀ (x1 x3 : Int32) (V : VT), d_X5_line_109 k77 x1 x3 V = some (r9, W9) → AW p l e (rmOf 7 0) s m args below meth c D cs ad b0 (QF below D cs ad b0 W9 ((rI r9) ad) args s 0) 4 0 V [(0, .ref (ad 109)), (1, .int x1), (3, .int x3)] [] 109 := by
  intro x1 x3 V h
  unfold d_X5_line_109 at h
  refine a_aload_n (q := 0) C dX5_line_109 rfl rfl ?_
  refine a_bipush (v := (48 : Int32)) C dX5_line_110 rfl ?_
  refine a_iload_n (q := 2) C dX5_line_112 rfl rfl ?_
  refine a_iadd C dX5_line_113 ?_
  obtain ⟨V2, g1, h⟩ := bd_spec h
  refine a_cVv (a := 109) (st := []) C dX5_line_114 cv_RX5_166 (w_X5_writes ((48 : Int32) + x3)  V V2 g1) rfl rfl rfl rfl rfl ⟨Nat.le_of_ble_eq_true rfl, Nat.le_of_ble_eq_true rfl, Nat.le_of_ble_eq_true rfl, Nat.le_of_ble_eq_true rfl⟩ (Nat.le_of_ble_eq_true rfl) ?_
  refine a_iconst (v := (0 : Int32)) C dX5_line_117 rfl ?_
  refine a_istore_n (lv' := [(2, .int (0 : Int32)), (0, .ref (ad 109)), (1, .int x1), (3, .int x3)]) C dX5_line_118 rfl (by decide) rfl ?_
  refine a_iinc (q := 3) (v := (x3 + (1 : Int32))) (lv' := [(3, .int (x3 + (1 : Int32))), (2, .int (0 : Int32)), (0, .ref (ad 109)), (1, .int x1)]) C dX5_line_119 rfl rfl (by decide) rfl ?_
  refine a_goto (tgt := 77) C dX5_line_122 (by decide) ?_
  refine a_sub (lv' := [(0, .ref (ad 109)), (1, .int x1), (2, .int (0 : Int32)), (3, .int (x3 + (1 : Int32)))]) [2, 3, 1, 0] rfl ?_
  exact hk77 x1 (0 : Int32) (x3 + (1 : Int32)) V2 h
set_option maxRecDepth 20000 in
set_option maxHeartbeats 4000000 in
theorem w_X5_line_77 {p : Program} {l : Launch} {e : Env} {s : State} {m : MethodId} {args : Array Value} {below : List Frame} {meth : Method} {c : Code} {D : va_G} {cs : Nat → ClassId} {ad : Nat → Nat} {b0 : Nat} (C : Ctx p l s m args meth c D cs ad b0 RX5 cX5_line 4 (some .int)) (hT : ∀ x ∈ c.exceptionTable.toList, False)    {r9 : Int32} {W9 : VT}     :
    ∀ (x1 x2 x3 : Int32) (V : VT), d_X5_line_77 x1 x2 x3 V = some (r9, W9) → AW p l e (rmOf 7 0) s m args below meth c D cs ad b0 (QF below D cs ad b0 W9 ((rI r9) ad) args s 0) 4 0 V [(0, .ref (ad 109)), (1, .int x1), (2, .int x2), (3, .int x3)] [] 77 := by
  refine lo3W_ind (P := fun x1 x2 x3 V => AW p l e (rmOf 7 0) s m args below meth c D cs ad b0 (QF below D cs ad b0 W9 ((rI r9) ad) args s 0) 4 0 V [(0, .ref (ad 109)), (1, .int x1), (2, .int x2), (3, .int x3)] [] 77) ?_ FU
  intro k77 hk77 x1 x2 x3 V h
  unfold d_X5_line_77b at h
  refine a_iload_n (q := 3) C dX5_line_77 rfl rfl ?_
  refine a_aload_n (q := 0) C dX5_line_78 rfl rfl ?_
  refine a_getr (a := 109) (t := 110) C dX5_line_79 fl_RX5_7 rfl rfl ?_
  refine a_iconst (v := (0 : Int32)) C dX5_line_82 rfl ?_
  refine a_iald (a := 110) (x := (V 110 0)) C dX5_line_83 rfl (in_lit (by decide)) rfl ?_
  refine a_icmp_ge (tgt := 125) C dX5_line_84 (by decide) (fun c1 => ?_) (fun c1 => ?_)
  · have h := it_t c1 h
    refine a_aload_n (q := 0) C dX5_line_125 rfl rfl ?_
    refine a_bipush (v := (41 : Int32)) C dX5_line_126 rfl ?_
    obtain ⟨V3, g2, h⟩ := bd_spec h
    refine a_cVv (a := 109) (st := []) C dX5_line_128 cv_RX5_166 (w_X5_writes (41 : Int32)  V V3 g2) rfl rfl rfl rfl rfl ⟨Nat.le_of_ble_eq_true rfl, Nat.le_of_ble_eq_true rfl, Nat.le_of_ble_eq_true rfl, Nat.le_of_ble_eq_true rfl⟩ (Nat.le_of_ble_eq_true rfl) ?_
    refine a_aload_n (q := 0) C dX5_line_131 rfl rfl ?_
    refine a_iload_n (q := 1) C dX5_line_132 rfl rfl ?_
    obtain ⟨r5, g4, h⟩ := bd_spec h
    refine a_cVi (a := 109) (st := []) C dX5_line_133 cv_RX5_132 (w_X5_isStuck x1  V3 r5 g4) rfl rfl rfl rfl rfl ⟨Nat.le_of_ble_eq_true rfl, Nat.le_of_ble_eq_true rfl, Nat.le_of_ble_eq_true rfl, Nat.le_of_ble_eq_true rfl⟩ (Nat.le_of_ble_eq_true rfl) ?_
    refine a_if_eq (tgt := 145) C dX5_line_136 (by decide) (fun c6 => ?_) (fun c6 => ?_)
    · have h := it_t c6 h
      refine a_aload_n (q := 0) C dX5_line_145 rfl rfl ?_
      refine a_geti (a := 109) (x := (V3 109 14)) C dX5_line_146 fl_RX5_163 rfl rfl rfl ?_
      obtain ⟨rfl, rfl⟩ := ret2 h
      exact a_iret C dX5_line_149 rfl (by decide) rfl rfl
    · have h := it_f c6 h
      refine a_aload_n (q := 0) C dX5_line_139 rfl rfl ?_
      refine a_bipush (v := (33 : Int32)) C dX5_line_140 rfl ?_
      obtain ⟨V8, g7, h⟩ := bd_spec h
      refine a_cVv (a := 109) (st := []) C dX5_line_142 cv_RX5_166 (w_X5_writes (33 : Int32)  V3 V8 g7) rfl rfl rfl rfl rfl ⟨Nat.le_of_ble_eq_true rfl, Nat.le_of_ble_eq_true rfl, Nat.le_of_ble_eq_true rfl, Nat.le_of_ble_eq_true rfl⟩ (Nat.le_of_ble_eq_true rfl) ?_
      refine a_aload_n (q := 0) C dX5_line_145 rfl rfl ?_
      refine a_geti (a := 109) (x := (V8 109 14)) C dX5_line_146 fl_RX5_163 rfl rfl rfl ?_
      obtain ⟨rfl, rfl⟩ := ret2 h
      exact a_iret C dX5_line_149 rfl (by decide) rfl rfl
  · have h := it_f c1 h
    refine a_aload_n (q := 0) C dX5_line_87 rfl rfl ?_
    refine a_iload_n (q := 1) C dX5_line_88 rfl rfl ?_
    refine a_iload_n (q := 3) C dX5_line_89 rfl rfl ?_
    obtain ⟨r10, g9, h⟩ := bd_spec h
    refine a_cVi (a := 109) (st := []) C dX5_line_90 cv_RX5_67 (w_X5_touches x1 x3  V r10 g9) rfl rfl rfl rfl rfl ⟨Nat.le_of_ble_eq_true rfl, Nat.le_of_ble_eq_true rfl, Nat.le_of_ble_eq_true rfl, Nat.le_of_ble_eq_true rfl⟩ (Nat.le_of_ble_eq_true rfl) ?_
    refine a_if_ne (tgt := 99) C dX5_line_93 (by decide) (fun c11 => ?_) (fun c11 => ?_)
    · have h := it_f c11 h
      refine a_iload_n (q := 2) C dX5_line_99 rfl rfl ?_
      refine a_if_ne (tgt := 109) C dX5_line_100 (by decide) (fun c12 => ?_) (fun c12 => ?_)
      · have h := it_f c12 h
        refine a_sub (lv' := [(0, .ref (ad 109)), (1, .int x1), (3, .int x3)]) [0, 1, 3] rfl ?_
        exact w_X5_line_109 C hT hk77 x1 x3 V h
      · have h := it_t c12 h
        refine a_aload_n (q := 0) C dX5_line_103 rfl rfl ?_
        refine a_bipush (v := (44 : Int32)) C dX5_line_104 rfl ?_
        obtain ⟨V14, g13, h⟩ := bd_spec h
        refine a_cVv (a := 109) (st := []) C dX5_line_106 cv_RX5_166 (w_X5_writes (44 : Int32)  V V14 g13) rfl rfl rfl rfl rfl ⟨Nat.le_of_ble_eq_true rfl, Nat.le_of_ble_eq_true rfl, Nat.le_of_ble_eq_true rfl, Nat.le_of_ble_eq_true rfl⟩ (Nat.le_of_ble_eq_true rfl) ?_
        refine a_sub (lv' := [(0, .ref (ad 109)), (1, .int x1), (3, .int x3)]) [0, 1, 3] rfl ?_
        exact w_X5_line_109 C hT hk77 x1 x3 V14 h
    · have h := it_t c11 h
      refine a_goto (tgt := 119) C dX5_line_96 (by decide) ?_
      refine a_iinc (q := 3) (v := (x3 + (1 : Int32))) (lv' := [(3, .int (x3 + (1 : Int32))), (0, .ref (ad 109)), (1, .int x1), (2, .int x2)]) C dX5_line_119 rfl rfl (by decide) rfl ?_
      refine a_goto (tgt := 77) C dX5_line_122 (by decide) ?_
      refine a_sub (lv' := [(0, .ref (ad 109)), (1, .int x1), (2, .int x2), (3, .int (x3 + (1 : Int32)))]) [1, 2, 3, 0] rfl ?_
      exact hk77 x1 x2 (x3 + (1 : Int32)) V h
set_option maxRecDepth 20000 in
set_option maxHeartbeats 4000000 in
theorem w_X5_line_64 {p : Program} {l : Launch} {e : Env} {s : State} {m : MethodId} {args : Array Value} {below : List Frame} {meth : Method} {c : Code} {D : va_G} {cs : Nat → ClassId} {ad : Nat → Nat} {b0 : Nat} (C : Ctx p l s m args meth c D cs ad b0 RX5 cX5_line 4 (some .int)) (hT : ∀ x ∈ c.exceptionTable.toList, False)    {r9 : Int32} {W9 : VT}     :
    ∀ (x1 s0 : Int32) (V : VT), d_X5_line_64 x1 s0 V = some (r9, W9) → AW p l e (rmOf 7 0) s m args below meth c D cs ad b0 (QF below D cs ad b0 W9 ((rI r9) ad) args s 0) 4 0 V [(0, .ref (ad 109)), (1, .int x1)] [.int s0, .ref (ad 109)] 64 := by
  intro x1 s0 V h
  unfold d_X5_line_64 at h
  obtain ⟨V2, g1, h⟩ := bd_spec h
  refine a_cVv (a := 109) (st := []) C dX5_line_64 cv_RX5_166 (w_X5_writes s0  V V2 g1) rfl rfl rfl rfl rfl ⟨Nat.le_of_ble_eq_true rfl, Nat.le_of_ble_eq_true rfl, Nat.le_of_ble_eq_true rfl, Nat.le_of_ble_eq_true rfl⟩ (Nat.le_of_ble_eq_true rfl) ?_
  refine a_aload_n (q := 0) C dX5_line_67 rfl rfl ?_
  refine a_bipush (v := (40 : Int32)) C dX5_line_68 rfl ?_
  obtain ⟨V4, g3, h⟩ := bd_spec h
  refine a_cVv (a := 109) (st := []) C dX5_line_70 cv_RX5_166 (w_X5_writes (40 : Int32)  V2 V4 g3) rfl rfl rfl rfl rfl ⟨Nat.le_of_ble_eq_true rfl, Nat.le_of_ble_eq_true rfl, Nat.le_of_ble_eq_true rfl, Nat.le_of_ble_eq_true rfl⟩ (Nat.le_of_ble_eq_true rfl) ?_
  refine a_iconst (v := (1 : Int32)) C dX5_line_73 rfl ?_
  refine a_istore_n (lv' := [(2, .int (1 : Int32)), (0, .ref (ad 109)), (1, .int x1)]) C dX5_line_74 rfl (by decide) rfl ?_
  refine a_iconst (v := (0 : Int32)) C dX5_line_75 rfl ?_
  refine a_istore_n (lv' := [(3, .int (0 : Int32)), (2, .int (1 : Int32)), (0, .ref (ad 109)), (1, .int x1)]) C dX5_line_76 rfl (by decide) rfl ?_
  refine a_sub (lv' := [(0, .ref (ad 109)), (1, .int x1), (2, .int (1 : Int32)), (3, .int (0 : Int32))]) [2, 3, 1, 0] rfl ?_
  exact w_X5_line_77 C hT x1 (1 : Int32) (0 : Int32) V4 h
set_option maxRecDepth 20000 in
set_option maxHeartbeats 4000000 in
theorem w_X5_line_14 {p : Program} {l : Launch} {e : Env} {s : State} {m : MethodId} {args : Array Value} {below : List Frame} {meth : Method} {c : Code} {D : va_G} {cs : Nat → ClassId} {ad : Nat → Nat} {b0 : Nat} (C : Ctx p l s m args meth c D cs ad b0 RX5 cX5_line 4 (some .int)) (hT : ∀ x ∈ c.exceptionTable.toList, False)    {r9 : Int32} {W9 : VT}     :
    ∀ (x1 s0 : Int32) (V : VT), d_X5_line_14 x1 s0 V = some (r9, W9) → AW p l e (rmOf 7 0) s m args below meth c D cs ad b0 (QF below D cs ad b0 W9 ((rI r9) ad) args s 0) 4 0 V [(0, .ref (ad 109)), (1, .int x1)] [.int s0, .ref (ad 109)] 14 := by
  intro x1 s0 V h
  unfold d_X5_line_14 at h
  obtain ⟨r3, V2, g1, h⟩ := bw_spec h
  refine a_cVi (a := 109) (st := []) C dX5_line_14 cv_RX5_71 (w_X5_fails s0  V r3 V2 g1) rfl rfl rfl rfl rfl ⟨Nat.le_of_ble_eq_true rfl, Nat.le_of_ble_eq_true rfl, Nat.le_of_ble_eq_true rfl, Nat.le_of_ble_eq_true rfl⟩ (Nat.le_of_ble_eq_true rfl) ?_
  refine a_if_eq (tgt := 22) C dX5_line_17 (by decide) (fun c4 => ?_) (fun c4 => ?_)
  · have h := it_t c4 h
    refine a_aload_n (q := 0) C dX5_line_22 rfl rfl ?_
    refine a_iconst (v := (0 : Int32)) C dX5_line_23 rfl ?_
    refine a_puti (a := 109) C dX5_line_24 fp_RX5_163 rfl rfl rfl rfl ?_
    refine a_aload_n (q := 0) C dX5_line_27 rfl rfl ?_
    refine a_bipush (v := (48 : Int32)) C dX5_line_28 rfl ?_
    refine a_iload_n (q := 1) C dX5_line_30 rfl rfl ?_
    refine a_iadd C dX5_line_31 ?_
    obtain ⟨V6, g5, h⟩ := bd_spec h
    refine a_cVv (a := 109) (st := []) C dX5_line_32 cv_RX5_166 (w_X5_writes ((48 : Int32) + x1)  (up2 V2 109 14 (0 : Int32)) V6 g5) rfl rfl rfl rfl rfl ⟨Nat.le_of_ble_eq_true rfl, Nat.le_of_ble_eq_true rfl, Nat.le_of_ble_eq_true rfl, Nat.le_of_ble_eq_true rfl⟩ (Nat.le_of_ble_eq_true rfl) ?_
    refine a_aload_n (q := 0) C dX5_line_35 rfl rfl ?_
    refine a_bipush (v := (58 : Int32)) C dX5_line_36 rfl ?_
    obtain ⟨V8, g7, h⟩ := bd_spec h
    refine a_cVv (a := 109) (st := []) C dX5_line_38 cv_RX5_166 (w_X5_writes (58 : Int32)  V6 V8 g7) rfl rfl rfl rfl rfl ⟨Nat.le_of_ble_eq_true rfl, Nat.le_of_ble_eq_true rfl, Nat.le_of_ble_eq_true rfl, Nat.le_of_ble_eq_true rfl⟩ (Nat.le_of_ble_eq_true rfl) ?_
    refine a_aload_n (q := 0) C dX5_line_41 rfl rfl ?_
    refine a_aload_n (q := 0) C dX5_line_42 rfl rfl ?_
    refine a_iload_n (q := 1) C dX5_line_43 rfl rfl ?_
    obtain ⟨r10, g9, h⟩ := bd_spec h
    refine a_cVi (a := 109) (st := [.ref (ad 109)]) C dX5_line_44 cv_RX5_90 (w_X5_isPainted x1  V8 r10 g9) rfl rfl rfl rfl rfl ⟨Nat.le_of_ble_eq_true rfl, Nat.le_of_ble_eq_true rfl, Nat.le_of_ble_eq_true rfl, Nat.le_of_ble_eq_true rfl⟩ (Nat.le_of_ble_eq_true rfl) ?_
    refine a_if_eq (tgt := 62) C dX5_line_47 (by decide) (fun c11 => ?_) (fun c11 => ?_)
    · have h := it_t c11 h
      refine a_bipush (v := (45 : Int32)) C dX5_line_62 rfl ?_
      refine a_sub (lv' := [(0, .ref (ad 109)), (1, .int x1)]) [0, 1] rfl ?_
      exact w_X5_line_64 C hT x1 (45 : Int32) V8 h
    · have h := it_f c11 h
      refine a_bipush (v := (48 : Int32)) C dX5_line_50 rfl ?_
      refine a_aload_n (q := 0) C dX5_line_52 rfl rfl ?_
      refine a_iload_n (q := 1) C dX5_line_53 rfl rfl ?_
      refine a_iconst (v := (1 : Int32)) C dX5_line_54 rfl ?_
      obtain ⟨r13, g12, h⟩ := bd_spec h
      refine a_cVi (a := 109) (st := [.int (48 : Int32), .ref (ad 109)]) C dX5_line_55 cv_RX5_63 (w_X5_of x1 (1 : Int32)  V8 r13 g12) rfl rfl rfl rfl rfl ⟨Nat.le_of_ble_eq_true rfl, Nat.le_of_ble_eq_true rfl, Nat.le_of_ble_eq_true rfl, Nat.le_of_ble_eq_true rfl⟩ (Nat.le_of_ble_eq_true rfl) ?_
      refine a_iadd C dX5_line_58 ?_
      refine a_goto (tgt := 64) C dX5_line_59 (by decide) ?_
      refine a_sub (lv' := [(0, .ref (ad 109)), (1, .int x1)]) [0, 1] rfl ?_
      exact w_X5_line_64 C hT x1 ((48 : Int32) + r13) V8 h
  · have h := it_f c4 h
    refine a_iconst (v := (0 : Int32)) C dX5_line_20 rfl ?_
    obtain ⟨rfl, rfl⟩ := ret2 h
    exact a_iret C dX5_line_21 rfl (by decide) rfl rfl
set_option maxRecDepth 20000 in
set_option maxHeartbeats 4000000 in
theorem w_X5_line (x1 : Int32)  (V : VT) (r9 : Int32) (W9 : VT) (h : d_X5_line x1 V = some (r9, W9)) : AM 7 0 yX5_line (.code yX5_line cX5_line 4 (some .int)) (fun ad => [.ref (ad 109), .int x1]) V W9 (rI r9) := by
  unfold d_X5_line at h
  refine AM.of (by decide +kernel) (fun ad => Nat.le_of_ble_eq_true rfl) (fun {p l e s m args below meth c D cs ad b0} C hT => ?_)
  have C : Ctx p l s m args meth c D cs ad b0 RX5 cX5_line 4 (some .int) := C
  refine a_sub (lv' := [(0, .ref (ad 109)), (1, .int x1)]) [0, 1] rfl ?_
  refine a_aload_n (q := 0) C dX5_line_0 rfl rfl ?_
  refine a_aload_n (q := 0) C dX5_line_1 rfl rfl ?_
  refine a_iload_n (q := 1) C dX5_line_2 rfl rfl ?_
  obtain ⟨r2, g1, h⟩ := bd_spec h
  refine a_cVi (a := 109) (st := [.ref (ad 109)]) C dX5_line_3 cv_RX5_87 (w_X5_isCountry x1  V r2 g1) rfl rfl rfl rfl rfl ⟨Nat.le_of_ble_eq_true rfl, Nat.le_of_ble_eq_true rfl, Nat.le_of_ble_eq_true rfl, Nat.le_of_ble_eq_true rfl⟩ (Nat.le_of_ble_eq_true rfl) ?_
  refine a_if_eq (tgt := 13) C dX5_line_6 (by decide) (fun c3 => ?_) (fun c3 => ?_)
  · have h := it_t c3 h
    refine a_iconst (v := (1 : Int32)) C dX5_line_13 rfl ?_
    refine a_sub (lv' := [(0, .ref (ad 109)), (1, .int x1)]) [0, 1] rfl ?_
    exact w_X5_line_14 C hT x1 (1 : Int32) V h
  · have h := it_f c3 h
    refine a_iconst (v := (0 : Int32)) C dX5_line_9 rfl ?_
    refine a_goto (tgt := 14) C dX5_line_10 (by decide) ?_
    refine a_sub (lv' := [(0, .ref (ad 109)), (1, .int x1)]) [0, 1] rfl ?_
    exact w_X5_line_14 C hT x1 (0 : Int32) V h
set_option maxRecDepth 20000 in
set_option maxHeartbeats 4000000 in
theorem w_X5_character_20 {p : Program} {l : Launch} {e : Env} {s : State} {m : MethodId} {args : Array Value} {below : List Frame} {meth : Method} {c : Code} {D : va_G} {cs : Nat → ClassId} {ad : Nat → Nat} {b0 : Nat} (C : Ctx p l s m args meth c D cs ad b0 RX5 cX5_character 2 (some .char)) (hT : ∀ x ∈ c.exceptionTable.toList, False)    {r9 : Int32} {W9 : VT}     :
    ∀ (x1 s0 : Int32) (V : VT), d_X5_character_20 x1 s0 V = some (r9, W9) → AW p l e (rmOf 3 0) s m args below meth c D cs ad b0 (QF below D cs ad b0 W9 ((rI r9) ad) args s 0) 2 0 V [(0, .ref (ad 109)), (1, .int x1)] [.int s0, .ref (ad 109)] 20 := by
  intro x1 s0 V h
  unfold d_X5_character_20 at h
  obtain ⟨r3, V2, g1, h⟩ := bw_spec h
  refine a_cVi (a := 109) (st := []) C dX5_character_20 cv_RX5_71 (w_X5_fails s0  V r3 V2 g1) rfl rfl rfl rfl rfl ⟨Nat.le_of_ble_eq_true rfl, Nat.le_of_ble_eq_true rfl, Nat.le_of_ble_eq_true rfl, Nat.le_of_ble_eq_true rfl⟩ (Nat.le_of_ble_eq_true rfl) ?_
  refine a_if_eq (tgt := 31) C dX5_character_23 (by decide) (fun c4 => ?_) (fun c4 => ?_)
  · have h := it_t c4 h
    refine a_aload_n (q := 0) C dX5_character_31 rfl rfl ?_
    refine a_getr (a := 109) (t := 115) C dX5_character_32 fl_RX5_29 rfl rfl ?_
    refine a_iload_n (q := 1) C dX5_character_35 rfl rfl ?_
    obtain ⟨z5, h⟩ := asr_spec h
    refine a_cald (a := 115) (x := (V2 115 x1.toNatClampNeg)) C dX5_character_36 rfl (inb_in z5) rfl ?_
    obtain ⟨z6, h⟩ := asr_spec h
    obtain ⟨rfl, rfl⟩ := ret2 h
    exact a_zret C dX5_character_37 rfl (cok_n z6) (by decide) rfl rfl
  · have h := it_f c4 h
    refine a_bipush (v := (32 : Int32)) C dX5_character_26 rfl ?_
    refine a_goto (tgt := 37) C dX5_character_28 (by decide) ?_
    obtain ⟨rfl, rfl⟩ := ret2 h
    exact a_zret C dX5_character_37 rfl rfl (by decide) rfl rfl
set_option maxRecDepth 20000 in
set_option maxHeartbeats 4000000 in
theorem w_X5_character (x1 : Int32)  (V : VT) (r9 : Int32) (W9 : VT) (h : d_X5_character x1 V = some (r9, W9)) : AM 3 0 yX5_character (.code yX5_character cX5_character 2 (some .char)) (fun ad => [.ref (ad 109), .int x1]) V W9 (rI r9) := by
  unfold d_X5_character at h
  refine AM.of (by decide +kernel) (fun ad => Nat.le_of_ble_eq_true rfl) (fun {p l e s m args below meth c D cs ad b0} C hT => ?_)
  have C : Ctx p l s m args meth c D cs ad b0 RX5 cX5_character 2 (some .char) := C
  refine a_sub (lv' := [(0, .ref (ad 109)), (1, .int x1)]) [0, 1] rfl ?_
  refine a_aload_n (q := 0) C dX5_character_0 rfl rfl ?_
  refine a_iload_n (q := 1) C dX5_character_1 rfl rfl ?_
  refine a_iconst (v := (0 : Int32)) C dX5_character_2 rfl ?_
  refine a_aload_n (q := 0) C dX5_character_3 rfl rfl ?_
  refine a_geti (a := 109) (x := (V 109 14)) C dX5_character_4 fl_RX5_163 rfl rfl rfl ?_
  refine a_iconst (v := (1 : Int32)) C dX5_character_7 rfl ?_
  refine a_isub C dX5_character_8 ?_
  obtain ⟨r2, g1, h⟩ := bd_spec h
  refine a_cSi (st := [.ref (ad 109)]) C dX5_character_9 cv_RX5_59 (w_X5_in x1 (0 : Int32) ((V 109 14) - (1 : Int32))  V r2 g1) rfl rfl rfl ⟨Nat.le_of_ble_eq_true rfl, Nat.le_of_ble_eq_true rfl, Nat.le_of_ble_eq_true rfl, Nat.le_of_ble_eq_true rfl⟩ (Nat.le_of_ble_eq_true rfl) ?_
  refine a_if_eq (tgt := 19) C dX5_character_12 (by decide) (fun c3 => ?_) (fun c3 => ?_)
  · have h := it_t c3 h
    refine a_iconst (v := (1 : Int32)) C dX5_character_19 rfl ?_
    refine a_sub (lv' := [(0, .ref (ad 109)), (1, .int x1)]) [0, 1] rfl ?_
    exact w_X5_character_20 C hT x1 (1 : Int32) V h
  · have h := it_f c3 h
    refine a_iconst (v := (0 : Int32)) C dX5_character_15 rfl ?_
    refine a_goto (tgt := 20) C dX5_character_16 (by decide) ?_
    refine a_sub (lv' := [(0, .ref (ad 109)), (1, .int x1)]) [0, 1] rfl ?_
    exact w_X5_character_20 C hT x1 (0 : Int32) V h
set_option maxRecDepth 20000 in
set_option maxHeartbeats 4000000 in
theorem w_X5_append_15 {p : Program} {l : Launch} {e : Env} {s : State} {m : MethodId} {args : Array Value} {below : List Frame} {meth : Method} {c : Code} {D : va_G} {cs : Nat → ClassId} {ad : Nat → Nat} {b0 : Nat} (C : Ctx p l s m args meth c D cs ad b0 RX5 cX5_append 2 (some .int)) (hT : ∀ x ∈ c.exceptionTable.toList, False)    {r9 : Int32} {W9 : VT}     :
    ∀ (x1 s0 : Int32) (V : VT), d_X5_append_15 x1 s0 V = some (r9, W9) → AW p l e (rmOf 3 0) s m args below meth c D cs ad b0 (QF below D cs ad b0 W9 ((rI r9) ad) args s 0) 2 0 V [(0, .ref (ad 109)), (1, .int x1)] [.int s0, .ref (ad 109)] 15 := by
  intro x1 s0 V h
  unfold d_X5_append_15 at h
  obtain ⟨r3, V2, g1, h⟩ := bw_spec h
  refine a_cVi (a := 109) (st := []) C dX5_append_15 cv_RX5_71 (w_X5_fails s0  V r3 V2 g1) rfl rfl rfl rfl rfl ⟨Nat.le_of_ble_eq_true rfl, Nat.le_of_ble_eq_true rfl, Nat.le_of_ble_eq_true rfl, Nat.le_of_ble_eq_true rfl⟩ (Nat.le_of_ble_eq_true rfl) ?_
  refine a_if_eq (tgt := 23) C dX5_append_18 (by decide) (fun c4 => ?_) (fun c4 => ?_)
  · have h := it_t c4 h
    refine a_aload_n (q := 0) C dX5_append_23 rfl rfl ?_
    refine a_getr (a := 109) (t := 114) C dX5_append_24 fl_RX5_22 rfl rfl ?_
    refine a_aload_n (q := 0) C dX5_append_27 rfl rfl ?_
    refine a_geti (a := 109) (x := (V2 109 11)) C dX5_append_28 fl_RX5_170 rfl rfl rfl ?_
    refine a_iload_n (q := 1) C dX5_append_31 rfl rfl ?_
    obtain ⟨z5, h⟩ := asr_spec h
    refine a_iast (a := 114) C dX5_append_32 rfl (inb_in z5) ?_
    refine a_aload_n (q := 0) C dX5_append_33 rfl rfl ?_
    refine a_dup C dX5_append_34 rfl ?_
    refine a_geti (a := 109) (x := (V2 109 11)) C dX5_append_35 fl_RX5_170 rfl rfl rfl ?_
    refine a_iconst (v := (1 : Int32)) C dX5_append_38 rfl ?_
    refine a_iadd C dX5_append_39 ?_
    refine a_puti (a := 109) C dX5_append_40 fp_RX5_170 rfl rfl rfl rfl ?_
    refine a_aload_n (q := 0) C dX5_append_43 rfl rfl ?_
    refine a_geti (a := 109) (x := ((V2 109 11) + (1 : Int32))) C dX5_append_44 fl_RX5_170 rfl rfl rfl ?_
    obtain ⟨rfl, rfl⟩ := ret2 h
    exact a_iret C dX5_append_47 rfl (by decide) rfl rfl
  · have h := it_f c4 h
    refine a_iconst (v := (0 : Int32)) C dX5_append_21 rfl ?_
    obtain ⟨rfl, rfl⟩ := ret2 h
    exact a_iret C dX5_append_22 rfl (by decide) rfl rfl
set_option maxRecDepth 20000 in
set_option maxHeartbeats 4000000 in
theorem w_X5_append (x1 : Int32)  (V : VT) (r9 : Int32) (W9 : VT) (h : d_X5_append x1 V = some (r9, W9)) : AM 3 0 yX5_append (.code yX5_append cX5_append 2 (some .int)) (fun ad => [.ref (ad 109), .int x1]) V W9 (rI r9) := by
  unfold d_X5_append at h
  refine AM.of (by decide +kernel) (fun ad => Nat.le_of_ble_eq_true rfl) (fun {p l e s m args below meth c D cs ad b0} C hT => ?_)
  have C : Ctx p l s m args meth c D cs ad b0 RX5 cX5_append 2 (some .int) := C
  refine a_sub (lv' := [(0, .ref (ad 109)), (1, .int x1)]) [0, 1] rfl ?_
  refine a_aload_n (q := 0) C dX5_append_0 rfl rfl ?_
  refine a_aload_n (q := 0) C dX5_append_1 rfl rfl ?_
  refine a_geti (a := 109) (x := (V 109 11)) C dX5_append_2 fl_RX5_170 rfl rfl rfl ?_
  refine a_bipush (v := (60 : Int32)) C dX5_append_5 rfl ?_
  refine a_icmp_ne (tgt := 14) C dX5_append_7 (by decide) (fun c1 => ?_) (fun c1 => ?_)
  · have h := it_f c1 h
    refine a_iconst (v := (0 : Int32)) C dX5_append_14 rfl ?_
    refine a_sub (lv' := [(0, .ref (ad 109)), (1, .int x1)]) [0, 1] rfl ?_
    exact w_X5_append_15 C hT x1 (0 : Int32) V h
  · have h := it_t c1 h
    refine a_iconst (v := (1 : Int32)) C dX5_append_10 rfl ?_
    refine a_goto (tgt := 15) C dX5_append_11 (by decide) ?_
    refine a_sub (lv' := [(0, .ref (ad 109)), (1, .int x1)]) [0, 1] rfl ?_
    exact w_X5_append_15 C hT x1 (1 : Int32) V h
set_option maxRecDepth 20000 in
set_option maxHeartbeats 4000000 in
theorem w_X5_here   (V : VT) (r9 : Int32) (h : d_X5_here  V = some r9) : AM 2 0 yX5_here (.code yX5_here cX5_here 1 (some .int)) (fun ad => [.ref (ad 109)]) V V (rI r9) := by
  unfold d_X5_here at h
  refine AM.of (by decide +kernel) (fun ad => Nat.le_of_ble_eq_true rfl) (fun {p l e s m args below meth c D cs ad b0} C hT => ?_)
  have C : Ctx p l s m args meth c D cs ad b0 RX5 cX5_here 1 (some .int) := C
  refine a_sub (lv' := [(0, .ref (ad 109))]) [0] rfl ?_
  refine a_aload_n (q := 0) C dX5_here_0 rfl rfl ?_
  refine a_geti (a := 109) (x := (V 109 16)) C dX5_here_1 fl_RX5_173 rfl rfl rfl ?_
  refine a_aload_n (q := 0) C dX5_here_4 rfl rfl ?_
  refine a_geti (a := 109) (x := (V 109 11)) C dX5_here_5 fl_RX5_170 rfl rfl rfl ?_
  refine a_icmp_ge (tgt := 23) C dX5_here_8 (by decide) (fun c1 => ?_) (fun c1 => ?_)
  · have h := it_t c1 h
    refine a_iconst (v := (-1 : Int32)) C dX5_here_23 rfl ?_
    obtain rfl := ret1 h
    exact a_iret C dX5_here_24 rfl (by decide) rfl rfl
  · have h := it_f c1 h
    refine a_aload_n (q := 0) C dX5_here_11 rfl rfl ?_
    refine a_getr (a := 109) (t := 114) C dX5_here_12 fl_RX5_22 rfl rfl ?_
    refine a_aload_n (q := 0) C dX5_here_15 rfl rfl ?_
    refine a_geti (a := 109) (x := (V 109 16)) C dX5_here_16 fl_RX5_173 rfl rfl rfl ?_
    obtain ⟨z2, h⟩ := asr_spec h
    refine a_iald (a := 114) (x := (V 114 (V 109 16).toNatClampNeg)) C dX5_here_19 rfl (inb_in z2) rfl ?_
    refine a_goto (tgt := 24) C dX5_here_20 (by decide) ?_
    obtain rfl := ret1 h
    exact a_iret C dX5_here_24 rfl (by decide) rfl rfl
set_option maxRecDepth 20000 in
set_option maxHeartbeats 4000000 in
theorem w_X5_skips (x1 : Int32)  (V : VT) (r9 : Int32) (W9 : VT) (h : d_X5_skips x1 V = some (r9, W9)) : AM 3 0 yX5_skips (.code yX5_skips cX5_skips 2 (some .boolean)) (fun ad => [.ref (ad 109), .int x1]) V W9 (rI r9) := by
  unfold d_X5_skips at h
  refine AM.of (by decide +kernel) (fun ad => Nat.le_of_ble_eq_true rfl) (fun {p l e s m args below meth c D cs ad b0} C hT => ?_)
  have C : Ctx p l s m args meth c D cs ad b0 RX5 cX5_skips 2 (some .boolean) := C
  refine a_sub (lv' := [(0, .ref (ad 109)), (1, .int x1)]) [0, 1] rfl ?_
  refine a_aload_n (q := 0) C dX5_skips_0 rfl rfl ?_
  obtain ⟨r2, g1, h⟩ := bd_spec h
  refine a_cVi (a := 109) (st := []) C dX5_skips_1 cv_RX5_176 (w_X5_here   V r2 g1) rfl rfl rfl rfl rfl ⟨Nat.le_of_ble_eq_true rfl, Nat.le_of_ble_eq_true rfl, Nat.le_of_ble_eq_true rfl, Nat.le_of_ble_eq_true rfl⟩ (Nat.le_of_ble_eq_true rfl) ?_
  refine a_iload_n (q := 1) C dX5_skips_4 rfl rfl ?_
  refine a_icmp_eq (tgt := 10) C dX5_skips_5 (by decide) (fun c3 => ?_) (fun c3 => ?_)
  · have h := it_t c3 h
    refine a_aload_n (q := 0) C dX5_skips_10 rfl rfl ?_
    refine a_dup C dX5_skips_11 rfl ?_
    refine a_geti (a := 109) (x := (V 109 16)) C dX5_skips_12 fl_RX5_173 rfl rfl rfl ?_
    refine a_iconst (v := (1 : Int32)) C dX5_skips_15 rfl ?_
    refine a_iadd C dX5_skips_16 ?_
    refine a_puti (a := 109) C dX5_skips_17 fp_RX5_173 rfl rfl rfl rfl ?_
    refine a_iconst (v := (1 : Int32)) C dX5_skips_20 rfl ?_
    obtain ⟨rfl, rfl⟩ := ret2 h
    exact a_zret C dX5_skips_21 rfl rfl (by decide) rfl rfl
  · have h := it_f c3 h
    refine a_iconst (v := (0 : Int32)) C dX5_skips_8 rfl ?_
    obtain ⟨rfl, rfl⟩ := ret2 h
    exact a_zret C dX5_skips_9 rfl rfl (by decide) rfl rfl
set_option maxRecDepth 20000 in
set_option maxHeartbeats 4000000 in
theorem w_X5_number_25 {p : Program} {l : Launch} {e : Env} {s : State} {m : MethodId} {args : Array Value} {below : List Frame} {meth : Method} {c : Code} {D : va_G} {cs : Nat → ClassId} {ad : Nat → Nat} {b0 : Nat} (C : Ctx p l s m args meth c D cs ad b0 RX5 cX5_number 4 (some .boolean)) (hT : ∀ x ∈ c.exceptionTable.toList, False)    {r9 : Int32} {W9 : VT}     :
    ∀ (x1 x2 x3 : Int32) (V : VT), d_X5_number_25 x1 x2 x3 V = some (r9, W9) → AW p l e (rmOf 3 0) s m args below meth c D cs ad b0 (QF below D cs ad b0 W9 ((rI r9) ad) args s 0) 4 0 V [(0, .ref (ad 109)), (1, .int x1), (2, .int x2), (3, .int x3)] [] 25 := by
  refine lo3W_ind (P := fun x1 x2 x3 V => AW p l e (rmOf 3 0) s m args below meth c D cs ad b0 (QF below D cs ad b0 W9 ((rI r9) ad) args s 0) 4 0 V [(0, .ref (ad 109)), (1, .int x1), (2, .int x2), (3, .int x3)] [] 25) ?_ FU
  intro k25 hk25 x1 x2 x3 V h
  unfold d_X5_number_25b at h
  refine a_iload_n (q := 3) C dX5_number_25 rfl rfl ?_
  refine a_iload_n (q := 2) C dX5_number_26 rfl rfl ?_
  refine a_icmp_ge (tgt := 83) C dX5_number_27 (by decide) (fun c1 => ?_) (fun c1 => ?_)
  · have h := it_t c1 h
    refine a_iconst (v := (1 : Int32)) C dX5_number_83 rfl ?_
    obtain ⟨rfl, rfl⟩ := ret2 h
    exact a_zret C dX5_number_84 rfl rfl (by decide) rfl rfl
  · have h := it_f c1 h
    refine a_aload_n (q := 0) C dX5_number_30 rfl rfl ?_
    obtain ⟨r3, g2, h⟩ := bd_spec h
    refine a_cVi (a := 109) (st := []) C dX5_number_31 cv_RX5_176 (w_X5_here   V r3 g2) rfl rfl rfl rfl rfl ⟨Nat.le_of_ble_eq_true rfl, Nat.le_of_ble_eq_true rfl, Nat.le_of_ble_eq_true rfl, Nat.le_of_ble_eq_true rfl⟩ (Nat.le_of_ble_eq_true rfl) ?_
    refine a_bipush (v := (48 : Int32)) C dX5_number_34 rfl ?_
    refine a_bipush (v := (57 : Int32)) C dX5_number_36 rfl ?_
    obtain ⟨r5, g4, h⟩ := bd_spec h
    refine a_cSi (st := []) C dX5_number_38 cv_RX5_59 (w_X5_in r3 (48 : Int32) (57 : Int32)  V r5 g4) rfl rfl rfl ⟨Nat.le_of_ble_eq_true rfl, Nat.le_of_ble_eq_true rfl, Nat.le_of_ble_eq_true rfl, Nat.le_of_ble_eq_true rfl⟩ (Nat.le_of_ble_eq_true rfl) ?_
    refine a_if_eq (tgt := 83) C dX5_number_41 (by decide) (fun c6 => ?_) (fun c6 => ?_)
    · have h := it_t c6 h
      refine a_iconst (v := (1 : Int32)) C dX5_number_83 rfl ?_
      obtain ⟨rfl, rfl⟩ := ret2 h
      exact a_zret C dX5_number_84 rfl rfl (by decide) rfl rfl
    · have h := it_f c6 h
      refine a_aload_n (q := 0) C dX5_number_44 rfl rfl ?_
      refine a_getr (a := 109) (t := 117) C dX5_number_45 fl_RX5_36 rfl rfl ?_
      refine a_iload_n (q := 1) C dX5_number_48 rfl rfl ?_
      refine a_bipush (v := (10 : Int32)) C dX5_number_49 rfl ?_
      refine a_aload_n (q := 0) C dX5_number_51 rfl rfl ?_
      refine a_getr (a := 109) (t := 117) C dX5_number_52 fl_RX5_36 rfl rfl ?_
      refine a_iload_n (q := 1) C dX5_number_55 rfl rfl ?_
      obtain ⟨z7, h⟩ := asr_spec h
      refine a_iald (a := 117) (x := (V 117 x1.toNatClampNeg)) C dX5_number_56 rfl (inb_in z7) rfl ?_
      refine a_imul C dX5_number_57 ?_
      refine a_aload_n (q := 0) C dX5_number_58 rfl rfl ?_
      obtain ⟨r9, g8, h⟩ := bd_spec h
      refine a_cVi (a := 109) (st := [.int ((10 : Int32) * (V 117 x1.toNatClampNeg)), .int x1, .ref (ad 117)]) C dX5_number_59 cv_RX5_176 (w_X5_here   V r9 g8) rfl rfl rfl rfl rfl ⟨Nat.le_of_ble_eq_true rfl, Nat.le_of_ble_eq_true rfl, Nat.le_of_ble_eq_true rfl, Nat.le_of_ble_eq_true rfl⟩ (Nat.le_of_ble_eq_true rfl) ?_
      refine a_iadd C dX5_number_62 ?_
      refine a_bipush (v := (48 : Int32)) C dX5_number_63 rfl ?_
      refine a_isub C dX5_number_65 ?_
      obtain ⟨z10, h⟩ := asr_spec h
      refine a_iast (a := 117) C dX5_number_66 rfl (inb_in z10) ?_
      refine a_aload_n (q := 0) C dX5_number_67 rfl rfl ?_
      refine a_dup C dX5_number_68 rfl ?_
      refine a_geti (a := 109) (x := (V 109 16)) C dX5_number_69 fl_RX5_173 rfl rfl rfl ?_
      refine a_iconst (v := (1 : Int32)) C dX5_number_72 rfl ?_
      refine a_iadd C dX5_number_73 ?_
      refine a_puti (a := 109) C dX5_number_74 fp_RX5_173 rfl rfl rfl rfl ?_
      refine a_iinc (q := 3) (v := (x3 + (1 : Int32))) (lv' := [(3, .int (x3 + (1 : Int32))), (0, .ref (ad 109)), (1, .int x1), (2, .int x2)]) C dX5_number_77 rfl rfl (by decide) rfl ?_
      refine a_goto (tgt := 25) C dX5_number_80 (by decide) ?_
      refine a_sub (lv' := [(0, .ref (ad 109)), (1, .int x1), (2, .int x2), (3, .int (x3 + (1 : Int32)))]) [1, 2, 3, 0] rfl ?_
      exact hk25 x1 x2 (x3 + (1 : Int32)) (up2 (up2 V 117 x1.toNatClampNeg ((((10 : Int32) * (V 117 x1.toNatClampNeg)) + r9) - (48 : Int32))) 109 16 ((V 109 16) + (1 : Int32))) h
set_option maxRecDepth 20000 in
set_option maxHeartbeats 4000000 in
theorem w_X5_number (x1 : Int32) (x2 : Int32)  (V : VT) (r9 : Int32) (W9 : VT) (h : d_X5_number x1 x2 V = some (r9, W9)) : AM 3 0 yX5_number (.code yX5_number cX5_number 4 (some .boolean)) (fun ad => [.ref (ad 109), .int x1, .int x2]) V W9 (rI r9) := by
  unfold d_X5_number at h
  refine AM.of (by decide +kernel) (fun ad => Nat.le_of_ble_eq_true rfl) (fun {p l e s m args below meth c D cs ad b0} C hT => ?_)
  have C : Ctx p l s m args meth c D cs ad b0 RX5 cX5_number 4 (some .boolean) := C
  refine a_sub (lv' := [(0, .ref (ad 109)), (1, .int x1), (2, .int x2)]) [0, 1, 2] rfl ?_
  refine a_aload_n (q := 0) C dX5_number_0 rfl rfl ?_
  obtain ⟨r2, g1, h⟩ := bd_spec h
  refine a_cVi (a := 109) (st := []) C dX5_number_1 cv_RX5_176 (w_X5_here   V r2 g1) rfl rfl rfl rfl rfl ⟨Nat.le_of_ble_eq_true rfl, Nat.le_of_ble_eq_true rfl, Nat.le_of_ble_eq_true rfl, Nat.le_of_ble_eq_true rfl⟩ (Nat.le_of_ble_eq_true rfl) ?_
  refine a_bipush (v := (48 : Int32)) C dX5_number_4 rfl ?_
  refine a_bipush (v := (57 : Int32)) C dX5_number_6 rfl ?_
  obtain ⟨r4, g3, h⟩ := bd_spec h
  refine a_cSi (st := []) C dX5_number_8 cv_RX5_59 (w_X5_in r2 (48 : Int32) (57 : Int32)  V r4 g3) rfl rfl rfl ⟨Nat.le_of_ble_eq_true rfl, Nat.le_of_ble_eq_true rfl, Nat.le_of_ble_eq_true rfl, Nat.le_of_ble_eq_true rfl⟩ (Nat.le_of_ble_eq_true rfl) ?_
  refine a_if_ne (tgt := 16) C dX5_number_11 (by decide) (fun c5 => ?_) (fun c5 => ?_)
  · have h := it_f c5 h
    refine a_aload_n (q := 0) C dX5_number_16 rfl rfl ?_
    refine a_getr (a := 109) (t := 117) C dX5_number_17 fl_RX5_36 rfl rfl ?_
    refine a_iload_n (q := 1) C dX5_number_20 rfl rfl ?_
    refine a_iconst (v := (0 : Int32)) C dX5_number_21 rfl ?_
    obtain ⟨z6, h⟩ := asr_spec h
    refine a_iast (a := 117) C dX5_number_22 rfl (inb_in z6) ?_
    refine a_iconst (v := (0 : Int32)) C dX5_number_23 rfl ?_
    refine a_istore_n (lv' := [(3, .int (0 : Int32)), (0, .ref (ad 109)), (1, .int x1), (2, .int x2)]) C dX5_number_24 rfl (by decide) rfl ?_
    refine a_sub (lv' := [(0, .ref (ad 109)), (1, .int x1), (2, .int x2), (3, .int (0 : Int32))]) [1, 2, 3, 0] rfl ?_
    exact w_X5_number_25 C hT x1 x2 (0 : Int32) (up2 V 117 x1.toNatClampNeg (0 : Int32)) h
  · have h := it_t c5 h
    refine a_iconst (v := (0 : Int32)) C dX5_number_14 rfl ?_
    obtain ⟨rfl, rfl⟩ := ret2 h
    exact a_zret C dX5_number_15 rfl rfl (by decide) rfl rfl
set_option maxRecDepth 20000 in
set_option maxHeartbeats 4000000 in
theorem w_X5_orderHere   (V : VT) (r9 : Int32) (W9 : VT) (h : d_X5_orderHere  V = some (r9, W9)) : AM 4 0 yX5_orderHere (.code yX5_orderHere cX5_orderHere 2 (some .boolean)) (fun ad => [.ref (ad 109)]) V W9 (rI r9) := by
  unfold d_X5_orderHere at h
  refine AM.of (by decide +kernel) (fun ad => Nat.le_of_ble_eq_true rfl) (fun {p l e s m args below meth c D cs ad b0} C hT => ?_)
  have C : Ctx p l s m args meth c D cs ad b0 RX5 cX5_orderHere 2 (some .boolean) := C
  refine a_sub (lv' := [(0, .ref (ad 109))]) [0] rfl ?_
  refine a_iconst (v := (4 : Int32)) C dX5_orderHere_0 rfl ?_
  refine a_aload_n (q := 0) C dX5_orderHere_1 rfl rfl ?_
  refine a_geti (a := 109) (x := (V 109 18)) C dX5_orderHere_2 fl_RX5_179 rfl rfl rfl ?_
  refine a_imul C dX5_orderHere_5 ?_
  refine a_istore_n (lv' := [(1, .int ((4 : Int32) * (V 109 18))), (0, .ref (ad 109))]) C dX5_orderHere_6 rfl (by decide) rfl ?_
  refine a_aload_n (q := 1) C dX5_orderHere_7 rfl rfl ?_
  refine a_getr (a := 109) (t := 117) C dX5_orderHere_8 fl_RX5_36 rfl rfl ?_
  refine a_iload_n (q := 0) C dX5_orderHere_11 rfl rfl ?_
  refine a_aload_n (q := 1) C dX5_orderHere_12 rfl rfl ?_
  obtain ⟨r2, g1, h⟩ := bd_spec h
  refine a_cVi (a := 109) (st := [.int ((4 : Int32) * (V 109 18)), .ref (ad 117)]) C dX5_orderHere_13 cv_RX5_176 (w_X5_here   V r2 g1) rfl rfl rfl rfl rfl ⟨Nat.le_of_ble_eq_true rfl, Nat.le_of_ble_eq_true rfl, Nat.le_of_ble_eq_true rfl, Nat.le_of_ble_eq_true rfl⟩ (Nat.le_of_ble_eq_true rfl) ?_
  obtain ⟨z3, h⟩ := asr_spec h
  refine a_iast (a := 117) C dX5_orderHere_16 rfl (inb_in z3) ?_
  refine a_aload_n (q := 1) C dX5_orderHere_17 rfl rfl ?_
  refine a_bipush (v := (112 : Int32)) C dX5_orderHere_18 rfl ?_
  obtain ⟨r6, V5, g4, h⟩ := bw_spec h
  refine a_cVi (a := 109) (st := []) C dX5_orderHere_20 cv_RX5_182 (w_X5_skips (112 : Int32)  (up2 V 117 ((4 : Int32) * (V 109 18)).toNatClampNeg r2) r6 V5 g4) rfl rfl rfl rfl rfl ⟨Nat.le_of_ble_eq_true rfl, Nat.le_of_ble_eq_true rfl, Nat.le_of_ble_eq_true rfl, Nat.le_of_ble_eq_true rfl⟩ (Nat.le_of_ble_eq_true rfl) ?_
  refine a_if_eq (tgt := 63) C dX5_orderHere_23 (by decide) (fun c7 => ?_) (fun c7 => ?_)
  · have h := it_t c7 h
    refine a_aload_n (q := 1) C dX5_orderHere_63 rfl rfl ?_
    refine a_bipush (v := (98 : Int32)) C dX5_orderHere_64 rfl ?_
    obtain ⟨r10, V9, g8, h⟩ := bw_spec h
    refine a_cVi (a := 109) (st := []) C dX5_orderHere_66 cv_RX5_182 (w_X5_skips (98 : Int32)  V5 r10 V9 g8) rfl rfl rfl rfl rfl ⟨Nat.le_of_ble_eq_true rfl, Nat.le_of_ble_eq_true rfl, Nat.le_of_ble_eq_true rfl, Nat.le_of_ble_eq_true rfl⟩ (Nat.le_of_ble_eq_true rfl) ?_
    refine a_if_eq (tgt := 109) C dX5_orderHere_69 (by decide) (fun c11 => ?_) (fun c11 => ?_)
    · have h := it_t c11 h
      refine a_aload_n (q := 1) C dX5_orderHere_109 rfl rfl ?_
      refine a_bipush (v := (119 : Int32)) C dX5_orderHere_110 rfl ?_
      obtain ⟨r14, V13, g12, h⟩ := bw_spec h
      refine a_cVi (a := 109) (st := []) C dX5_orderHere_112 cv_RX5_182 (w_X5_skips (119 : Int32)  V9 r14 V13 g12) rfl rfl rfl rfl rfl ⟨Nat.le_of_ble_eq_true rfl, Nat.le_of_ble_eq_true rfl, Nat.le_of_ble_eq_true rfl, Nat.le_of_ble_eq_true rfl⟩ (Nat.le_of_ble_eq_true rfl) ?_
      refine a_if_eq (tgt := 175) C dX5_orderHere_115 (by decide) (fun c15 => ?_) (fun c15 => ?_)
      · have h := it_t c15 h
        refine a_aload_n (q := 1) C dX5_orderHere_175 rfl rfl ?_
        refine a_bipush (v := (104 : Int32)) C dX5_orderHere_176 rfl ?_
        obtain ⟨r18, V17, g16, h⟩ := bw_spec h
        refine a_cVi (a := 109) (st := []) C dX5_orderHere_178 cv_RX5_182 (w_X5_skips (104 : Int32)  V13 r18 V17 g16) rfl rfl rfl rfl rfl ⟨Nat.le_of_ble_eq_true rfl, Nat.le_of_ble_eq_true rfl, Nat.le_of_ble_eq_true rfl, Nat.le_of_ble_eq_true rfl⟩ (Nat.le_of_ble_eq_true rfl) ?_
        refine a_if_eq (tgt := 193) C dX5_orderHere_181 (by decide) (fun c19 => ?_) (fun c19 => ?_)
        · have h := it_t c19 h
          refine a_aload_n (q := 1) C dX5_orderHere_193 rfl rfl ?_
          refine a_bipush (v := (106 : Int32)) C dX5_orderHere_194 rfl ?_
          obtain ⟨r22, V21, g20, h⟩ := bw_spec h
          refine a_cVi (a := 109) (st := []) C dX5_orderHere_196 cv_RX5_182 (w_X5_skips (106 : Int32)  V17 r22 V21 g20) rfl rfl rfl rfl rfl ⟨Nat.le_of_ble_eq_true rfl, Nat.le_of_ble_eq_true rfl, Nat.le_of_ble_eq_true rfl, Nat.le_of_ble_eq_true rfl⟩ (Nat.le_of_ble_eq_true rfl) ?_
          refine a_if_eq (tgt := 239) C dX5_orderHere_199 (by decide) (fun c23 => ?_) (fun c23 => ?_)
          · have h := it_t c23 h
            refine a_aload_n (q := 1) C dX5_orderHere_239 rfl rfl ?_
            refine a_bipush (v := (120 : Int32)) C dX5_orderHere_240 rfl ?_
            obtain ⟨r26, V25, g24, h⟩ := bw_spec h
            refine a_cVi (a := 109) (st := []) C dX5_orderHere_242 cv_RX5_182 (w_X5_skips (120 : Int32)  V21 r26 V25 g24) rfl rfl rfl rfl rfl ⟨Nat.le_of_ble_eq_true rfl, Nat.le_of_ble_eq_true rfl, Nat.le_of_ble_eq_true rfl, Nat.le_of_ble_eq_true rfl⟩ (Nat.le_of_ble_eq_true rfl) ?_
            refine a_if_ne (tgt := 257) C dX5_orderHere_245 (by decide) (fun c27 => ?_) (fun c27 => ?_)
            · have h := it_f c27 h
              refine a_iconst (v := (1 : Int32)) C dX5_orderHere_257 rfl ?_
              refine a_goto (tgt := 262) C dX5_orderHere_258 (by decide) ?_
              obtain ⟨rfl, rfl⟩ := ret2 h
              exact a_zret C dX5_orderHere_262 rfl rfl (by decide) rfl rfl
            · have h := it_t c27 h
              refine a_aload_n (q := 1) C dX5_orderHere_248 rfl rfl ?_
              refine a_bipush (v := (102 : Int32)) C dX5_orderHere_249 rfl ?_
              obtain ⟨r30, V29, g28, h⟩ := bw_spec h
              refine a_cVi (a := 109) (st := []) C dX5_orderHere_251 cv_RX5_182 (w_X5_skips (102 : Int32)  V25 r30 V29 g28) rfl rfl rfl rfl rfl ⟨Nat.le_of_ble_eq_true rfl, Nat.le_of_ble_eq_true rfl, Nat.le_of_ble_eq_true rfl, Nat.le_of_ble_eq_true rfl⟩ (Nat.le_of_ble_eq_true rfl) ?_
              refine a_if_eq (tgt := 261) C dX5_orderHere_254 (by decide) (fun c31 => ?_) (fun c31 => ?_)
              · have h := it_t c31 h
                refine a_iconst (v := (0 : Int32)) C dX5_orderHere_261 rfl ?_
                obtain ⟨rfl, rfl⟩ := ret2 h
                exact a_zret C dX5_orderHere_262 rfl rfl (by decide) rfl rfl
              · have h := it_f c31 h
                refine a_iconst (v := (1 : Int32)) C dX5_orderHere_257 rfl ?_
                refine a_goto (tgt := 262) C dX5_orderHere_258 (by decide) ?_
                obtain ⟨rfl, rfl⟩ := ret2 h
                exact a_zret C dX5_orderHere_262 rfl rfl (by decide) rfl rfl
          · have h := it_f c23 h
            refine a_aload_n (q := 1) C dX5_orderHere_202 rfl rfl ?_
            refine a_iload_n (q := 0) C dX5_orderHere_203 rfl rfl ?_
            refine a_iconst (v := (1 : Int32)) C dX5_orderHere_204 rfl ?_
            refine a_iadd C dX5_orderHere_205 ?_
            refine a_iconst (v := (1 : Int32)) C dX5_orderHere_206 rfl ?_
            obtain ⟨r34, V33, g32, h⟩ := bw_spec h
            refine a_cVi (a := 109) (st := []) C dX5_orderHere_207 cv_RX5_185 (w_X5_number (((4 : Int32) * (V 109 18)) + (1 : Int32)) (1 : Int32)  V21 r34 V33 g32) rfl rfl rfl rfl rfl ⟨Nat.le_of_ble_eq_true rfl, Nat.le_of_ble_eq_true rfl, Nat.le_of_ble_eq_true rfl, Nat.le_of_ble_eq_true rfl⟩ (Nat.le_of_ble_eq_true rfl) ?_
            refine a_if_eq (tgt := 237) C dX5_orderHere_210 (by decide) (fun c35 => ?_) (fun c35 => ?_)
            · have h := it_t c35 h
              refine a_iconst (v := (0 : Int32)) C dX5_orderHere_237 rfl ?_
              obtain ⟨rfl, rfl⟩ := ret2 h
              exact a_zret C dX5_orderHere_238 rfl rfl (by decide) rfl rfl
            · have h := it_f c35 h
              refine a_aload_n (q := 1) C dX5_orderHere_213 rfl rfl ?_
              refine a_bipush (v := (43 : Int32)) C dX5_orderHere_214 rfl ?_
              obtain ⟨r38, V37, g36, h⟩ := bw_spec h
              refine a_cVi (a := 109) (st := []) C dX5_orderHere_216 cv_RX5_182 (w_X5_skips (43 : Int32)  V33 r38 V37 g36) rfl rfl rfl rfl rfl ⟨Nat.le_of_ble_eq_true rfl, Nat.le_of_ble_eq_true rfl, Nat.le_of_ble_eq_true rfl, Nat.le_of_ble_eq_true rfl⟩ (Nat.le_of_ble_eq_true rfl) ?_
              refine a_if_eq (tgt := 237) C dX5_orderHere_219 (by decide) (fun c39 => ?_) (fun c39 => ?_)
              · have h := it_t c39 h
                refine a_iconst (v := (0 : Int32)) C dX5_orderHere_237 rfl ?_
                obtain ⟨rfl, rfl⟩ := ret2 h
                exact a_zret C dX5_orderHere_238 rfl rfl (by decide) rfl rfl
              · have h := it_f c39 h
                refine a_aload_n (q := 1) C dX5_orderHere_222 rfl rfl ?_
                refine a_iload_n (q := 0) C dX5_orderHere_223 rfl rfl ?_
                refine a_iconst (v := (2 : Int32)) C dX5_orderHere_224 rfl ?_
                refine a_iadd C dX5_orderHere_225 ?_
                refine a_iconst (v := (2 : Int32)) C dX5_orderHere_226 rfl ?_
                obtain ⟨r42, V41, g40, h⟩ := bw_spec h
                refine a_cVi (a := 109) (st := []) C dX5_orderHere_227 cv_RX5_185 (w_X5_number (((4 : Int32) * (V 109 18)) + (2 : Int32)) (2 : Int32)  V37 r42 V41 g40) rfl rfl rfl rfl rfl ⟨Nat.le_of_ble_eq_true rfl, Nat.le_of_ble_eq_true rfl, Nat.le_of_ble_eq_true rfl, Nat.le_of_ble_eq_true rfl⟩ (Nat.le_of_ble_eq_true rfl) ?_
                refine a_if_eq (tgt := 237) C dX5_orderHere_230 (by decide) (fun c43 => ?_) (fun c43 => ?_)
                · have h := it_t c43 h
                  refine a_iconst (v := (0 : Int32)) C dX5_orderHere_237 rfl ?_
                  obtain ⟨rfl, rfl⟩ := ret2 h
                  exact a_zret C dX5_orderHere_238 rfl rfl (by decide) rfl rfl
                · have h := it_f c43 h
                  refine a_iconst (v := (1 : Int32)) C dX5_orderHere_233 rfl ?_
                  refine a_goto (tgt := 238) C dX5_orderHere_234 (by decide) ?_
                  obtain ⟨rfl, rfl⟩ := ret2 h
                  exact a_zret C dX5_orderHere_238 rfl rfl (by decide) rfl rfl
        · have h := it_f c19 h
          refine a_aload_n (q := 1) C dX5_orderHere_184 rfl rfl ?_
          refine a_iload_n (q := 0) C dX5_orderHere_185 rfl rfl ?_
          refine a_iconst (v := (1 : Int32)) C dX5_orderHere_186 rfl ?_
          refine a_iadd C dX5_orderHere_187 ?_
          refine a_iconst (v := (2 : Int32)) C dX5_orderHere_188 rfl ?_
          obtain ⟨r46, V45, g44, h⟩ := bw_spec h
          refine a_cVi (a := 109) (st := []) C dX5_orderHere_189 cv_RX5_185 (w_X5_number (((4 : Int32) * (V 109 18)) + (1 : Int32)) (2 : Int32)  V17 r46 V45 g44) rfl rfl rfl rfl rfl ⟨Nat.le_of_ble_eq_true rfl, Nat.le_of_ble_eq_true rfl, Nat.le_of_ble_eq_true rfl, Nat.le_of_ble_eq_true rfl⟩ (Nat.le_of_ble_eq_true rfl) ?_
          obtain ⟨z47, h⟩ := asr_spec h
          obtain ⟨rfl, rfl⟩ := ret2 h
          exact a_zret C dX5_orderHere_192 rfl (zok_n z47) (by decide) rfl rfl
      · have h := it_f c15 h
        refine a_aload_n (q := 1) C dX5_orderHere_118 rfl rfl ?_
        refine a_iload_n (q := 0) C dX5_orderHere_119 rfl rfl ?_
        refine a_iconst (v := (1 : Int32)) C dX5_orderHere_120 rfl ?_
        refine a_iadd C dX5_orderHere_121 ?_
        refine a_iconst (v := (1 : Int32)) C dX5_orderHere_122 rfl ?_
        obtain ⟨r50, V49, g48, h⟩ := bw_spec h
        refine a_cVi (a := 109) (st := []) C dX5_orderHere_123 cv_RX5_185 (w_X5_number (((4 : Int32) * (V 109 18)) + (1 : Int32)) (1 : Int32)  V13 r50 V49 g48) rfl rfl rfl rfl rfl ⟨Nat.le_of_ble_eq_true rfl, Nat.le_of_ble_eq_true rfl, Nat.le_of_ble_eq_true rfl, Nat.le_of_ble_eq_true rfl⟩ (Nat.le_of_ble_eq_true rfl) ?_
        refine a_if_eq (tgt := 173) C dX5_orderHere_126 (by decide) (fun c51 => ?_) (fun c51 => ?_)
        · have h := it_t c51 h
          refine a_iconst (v := (0 : Int32)) C dX5_orderHere_173 rfl ?_
          obtain ⟨rfl, rfl⟩ := ret2 h
          exact a_zret C dX5_orderHere_174 rfl rfl (by decide) rfl rfl
        · have h := it_f c51 h
          refine a_aload_n (q := 1) C dX5_orderHere_129 rfl rfl ?_
          refine a_bipush (v := (61 : Int32)) C dX5_orderHere_130 rfl ?_
          obtain ⟨r54, V53, g52, h⟩ := bw_spec h
          refine a_cVi (a := 109) (st := []) C dX5_orderHere_132 cv_RX5_182 (w_X5_skips (61 : Int32)  V49 r54 V53 g52) rfl rfl rfl rfl rfl ⟨Nat.le_of_ble_eq_true rfl, Nat.le_of_ble_eq_true rfl, Nat.le_of_ble_eq_true rfl, Nat.le_of_ble_eq_true rfl⟩ (Nat.le_of_ble_eq_true rfl) ?_
          refine a_if_eq (tgt := 173) C dX5_orderHere_135 (by decide) (fun c55 => ?_) (fun c55 => ?_)
          · have h := it_t c55 h
            refine a_iconst (v := (0 : Int32)) C dX5_orderHere_173 rfl ?_
            obtain ⟨rfl, rfl⟩ := ret2 h
            exact a_zret C dX5_orderHere_174 rfl rfl (by decide) rfl rfl
          · have h := it_f c55 h
            refine a_aload_n (q := 1) C dX5_orderHere_138 rfl rfl ?_
            refine a_iload_n (q := 0) C dX5_orderHere_139 rfl rfl ?_
            refine a_iconst (v := (2 : Int32)) C dX5_orderHere_140 rfl ?_
            refine a_iadd C dX5_orderHere_141 ?_
            refine a_iconst (v := (1 : Int32)) C dX5_orderHere_142 rfl ?_
            obtain ⟨r58, V57, g56, h⟩ := bw_spec h
            refine a_cVi (a := 109) (st := []) C dX5_orderHere_143 cv_RX5_185 (w_X5_number (((4 : Int32) * (V 109 18)) + (2 : Int32)) (1 : Int32)  V53 r58 V57 g56) rfl rfl rfl rfl rfl ⟨Nat.le_of_ble_eq_true rfl, Nat.le_of_ble_eq_true rfl, Nat.le_of_ble_eq_true rfl, Nat.le_of_ble_eq_true rfl⟩ (Nat.le_of_ble_eq_true rfl) ?_
            refine a_if_eq (tgt := 173) C dX5_orderHere_146 (by decide) (fun c59 => ?_) (fun c59 => ?_)
            · have h := it_t c59 h
              refine a_iconst (v := (0 : Int32)) C dX5_orderHere_173 rfl ?_
              obtain ⟨rfl, rfl⟩ := ret2 h
              exact a_zret C dX5_orderHere_174 rfl rfl (by decide) rfl rfl
            · have h := it_f c59 h
              refine a_aload_n (q := 1) C dX5_orderHere_149 rfl rfl ?_
              refine a_bipush (v := (42 : Int32)) C dX5_orderHere_150 rfl ?_
              obtain ⟨r62, V61, g60, h⟩ := bw_spec h
              refine a_cVi (a := 109) (st := []) C dX5_orderHere_152 cv_RX5_182 (w_X5_skips (42 : Int32)  V57 r62 V61 g60) rfl rfl rfl rfl rfl ⟨Nat.le_of_ble_eq_true rfl, Nat.le_of_ble_eq_true rfl, Nat.le_of_ble_eq_true rfl, Nat.le_of_ble_eq_true rfl⟩ (Nat.le_of_ble_eq_true rfl) ?_
              refine a_if_eq (tgt := 173) C dX5_orderHere_155 (by decide) (fun c63 => ?_) (fun c63 => ?_)
              · have h := it_t c63 h
                refine a_iconst (v := (0 : Int32)) C dX5_orderHere_173 rfl ?_
                obtain ⟨rfl, rfl⟩ := ret2 h
                exact a_zret C dX5_orderHere_174 rfl rfl (by decide) rfl rfl
              · have h := it_f c63 h
                refine a_aload_n (q := 1) C dX5_orderHere_158 rfl rfl ?_
                refine a_iload_n (q := 0) C dX5_orderHere_159 rfl rfl ?_
                refine a_iconst (v := (3 : Int32)) C dX5_orderHere_160 rfl ?_
                refine a_iadd C dX5_orderHere_161 ?_
                refine a_iconst (v := (1 : Int32)) C dX5_orderHere_162 rfl ?_
                obtain ⟨r66, V65, g64, h⟩ := bw_spec h
                refine a_cVi (a := 109) (st := []) C dX5_orderHere_163 cv_RX5_185 (w_X5_number (((4 : Int32) * (V 109 18)) + (3 : Int32)) (1 : Int32)  V61 r66 V65 g64) rfl rfl rfl rfl rfl ⟨Nat.le_of_ble_eq_true rfl, Nat.le_of_ble_eq_true rfl, Nat.le_of_ble_eq_true rfl, Nat.le_of_ble_eq_true rfl⟩ (Nat.le_of_ble_eq_true rfl) ?_
                refine a_if_eq (tgt := 173) C dX5_orderHere_166 (by decide) (fun c67 => ?_) (fun c67 => ?_)
                · have h := it_t c67 h
                  refine a_iconst (v := (0 : Int32)) C dX5_orderHere_173 rfl ?_
                  obtain ⟨rfl, rfl⟩ := ret2 h
                  exact a_zret C dX5_orderHere_174 rfl rfl (by decide) rfl rfl
                · have h := it_f c67 h
                  refine a_iconst (v := (1 : Int32)) C dX5_orderHere_169 rfl ?_
                  refine a_goto (tgt := 174) C dX5_orderHere_170 (by decide) ?_
                  obtain ⟨rfl, rfl⟩ := ret2 h
                  exact a_zret C dX5_orderHere_174 rfl rfl (by decide) rfl rfl
    · have h := it_f c11 h
      refine a_aload_n (q := 1) C dX5_orderHere_72 rfl rfl ?_
      refine a_iload_n (q := 0) C dX5_orderHere_73 rfl rfl ?_
      refine a_iconst (v := (1 : Int32)) C dX5_orderHere_74 rfl ?_
      refine a_iadd C dX5_orderHere_75 ?_
      refine a_iconst (v := (1 : Int32)) C dX5_orderHere_76 rfl ?_
      obtain ⟨r70, V69, g68, h⟩ := bw_spec h
      refine a_cVi (a := 109) (st := []) C dX5_orderHere_77 cv_RX5_185 (w_X5_number (((4 : Int32) * (V 109 18)) + (1 : Int32)) (1 : Int32)  V9 r70 V69 g68) rfl rfl rfl rfl rfl ⟨Nat.le_of_ble_eq_true rfl, Nat.le_of_ble_eq_true rfl, Nat.le_of_ble_eq_true rfl, Nat.le_of_ble_eq_true rfl⟩ (Nat.le_of_ble_eq_true rfl) ?_
      refine a_if_eq (tgt := 107) C dX5_orderHere_80 (by decide) (fun c71 => ?_) (fun c71 => ?_)
      · have h := it_t c71 h
        refine a_iconst (v := (0 : Int32)) C dX5_orderHere_107 rfl ?_
        obtain ⟨rfl, rfl⟩ := ret2 h
        exact a_zret C dX5_orderHere_108 rfl rfl (by decide) rfl rfl
      · have h := it_f c71 h
        refine a_aload_n (q := 1) C dX5_orderHere_83 rfl rfl ?_
        refine a_bipush (v := (45 : Int32)) C dX5_orderHere_84 rfl ?_
        obtain ⟨r74, V73, g72, h⟩ := bw_spec h
        refine a_cVi (a := 109) (st := []) C dX5_orderHere_86 cv_RX5_182 (w_X5_skips (45 : Int32)  V69 r74 V73 g72) rfl rfl rfl rfl rfl ⟨Nat.le_of_ble_eq_true rfl, Nat.le_of_ble_eq_true rfl, Nat.le_of_ble_eq_true rfl, Nat.le_of_ble_eq_true rfl⟩ (Nat.le_of_ble_eq_true rfl) ?_
        refine a_if_eq (tgt := 107) C dX5_orderHere_89 (by decide) (fun c75 => ?_) (fun c75 => ?_)
        · have h := it_t c75 h
          refine a_iconst (v := (0 : Int32)) C dX5_orderHere_107 rfl ?_
          obtain ⟨rfl, rfl⟩ := ret2 h
          exact a_zret C dX5_orderHere_108 rfl rfl (by decide) rfl rfl
        · have h := it_f c75 h
          refine a_aload_n (q := 1) C dX5_orderHere_92 rfl rfl ?_
          refine a_iload_n (q := 0) C dX5_orderHere_93 rfl rfl ?_
          refine a_iconst (v := (2 : Int32)) C dX5_orderHere_94 rfl ?_
          refine a_iadd C dX5_orderHere_95 ?_
          refine a_iconst (v := (1 : Int32)) C dX5_orderHere_96 rfl ?_
          obtain ⟨r78, V77, g76, h⟩ := bw_spec h
          refine a_cVi (a := 109) (st := []) C dX5_orderHere_97 cv_RX5_185 (w_X5_number (((4 : Int32) * (V 109 18)) + (2 : Int32)) (1 : Int32)  V73 r78 V77 g76) rfl rfl rfl rfl rfl ⟨Nat.le_of_ble_eq_true rfl, Nat.le_of_ble_eq_true rfl, Nat.le_of_ble_eq_true rfl, Nat.le_of_ble_eq_true rfl⟩ (Nat.le_of_ble_eq_true rfl) ?_
          refine a_if_eq (tgt := 107) C dX5_orderHere_100 (by decide) (fun c79 => ?_) (fun c79 => ?_)
          · have h := it_t c79 h
            refine a_iconst (v := (0 : Int32)) C dX5_orderHere_107 rfl ?_
            obtain ⟨rfl, rfl⟩ := ret2 h
            exact a_zret C dX5_orderHere_108 rfl rfl (by decide) rfl rfl
          · have h := it_f c79 h
            refine a_iconst (v := (1 : Int32)) C dX5_orderHere_103 rfl ?_
            refine a_goto (tgt := 108) C dX5_orderHere_104 (by decide) ?_
            obtain ⟨rfl, rfl⟩ := ret2 h
            exact a_zret C dX5_orderHere_108 rfl rfl (by decide) rfl rfl
  · have h := it_f c7 h
    refine a_aload_n (q := 1) C dX5_orderHere_26 rfl rfl ?_
    refine a_iload_n (q := 0) C dX5_orderHere_27 rfl rfl ?_
    refine a_iconst (v := (1 : Int32)) C dX5_orderHere_28 rfl ?_
    refine a_iadd C dX5_orderHere_29 ?_
    refine a_iconst (v := (1 : Int32)) C dX5_orderHere_30 rfl ?_
    obtain ⟨r82, V81, g80, h⟩ := bw_spec h
    refine a_cVi (a := 109) (st := []) C dX5_orderHere_31 cv_RX5_185 (w_X5_number (((4 : Int32) * (V 109 18)) + (1 : Int32)) (1 : Int32)  V5 r82 V81 g80) rfl rfl rfl rfl rfl ⟨Nat.le_of_ble_eq_true rfl, Nat.le_of_ble_eq_true rfl, Nat.le_of_ble_eq_true rfl, Nat.le_of_ble_eq_true rfl⟩ (Nat.le_of_ble_eq_true rfl) ?_
    refine a_if_eq (tgt := 61) C dX5_orderHere_34 (by decide) (fun c83 => ?_) (fun c83 => ?_)
    · have h := it_t c83 h
      refine a_iconst (v := (0 : Int32)) C dX5_orderHere_61 rfl ?_
      obtain ⟨rfl, rfl⟩ := ret2 h
      exact a_zret C dX5_orderHere_62 rfl rfl (by decide) rfl rfl
    · have h := it_f c83 h
      refine a_aload_n (q := 1) C dX5_orderHere_37 rfl rfl ?_
      refine a_bipush (v := (61 : Int32)) C dX5_orderHere_38 rfl ?_
      obtain ⟨r86, V85, g84, h⟩ := bw_spec h
      refine a_cVi (a := 109) (st := []) C dX5_orderHere_40 cv_RX5_182 (w_X5_skips (61 : Int32)  V81 r86 V85 g84) rfl rfl rfl rfl rfl ⟨Nat.le_of_ble_eq_true rfl, Nat.le_of_ble_eq_true rfl, Nat.le_of_ble_eq_true rfl, Nat.le_of_ble_eq_true rfl⟩ (Nat.le_of_ble_eq_true rfl) ?_
      refine a_if_eq (tgt := 61) C dX5_orderHere_43 (by decide) (fun c87 => ?_) (fun c87 => ?_)
      · have h := it_t c87 h
        refine a_iconst (v := (0 : Int32)) C dX5_orderHere_61 rfl ?_
        obtain ⟨rfl, rfl⟩ := ret2 h
        exact a_zret C dX5_orderHere_62 rfl rfl (by decide) rfl rfl
      · have h := it_f c87 h
        refine a_aload_n (q := 1) C dX5_orderHere_46 rfl rfl ?_
        refine a_iload_n (q := 0) C dX5_orderHere_47 rfl rfl ?_
        refine a_iconst (v := (2 : Int32)) C dX5_orderHere_48 rfl ?_
        refine a_iadd C dX5_orderHere_49 ?_
        refine a_iconst (v := (1 : Int32)) C dX5_orderHere_50 rfl ?_
        obtain ⟨r90, V89, g88, h⟩ := bw_spec h
        refine a_cVi (a := 109) (st := []) C dX5_orderHere_51 cv_RX5_185 (w_X5_number (((4 : Int32) * (V 109 18)) + (2 : Int32)) (1 : Int32)  V85 r90 V89 g88) rfl rfl rfl rfl rfl ⟨Nat.le_of_ble_eq_true rfl, Nat.le_of_ble_eq_true rfl, Nat.le_of_ble_eq_true rfl, Nat.le_of_ble_eq_true rfl⟩ (Nat.le_of_ble_eq_true rfl) ?_
        refine a_if_eq (tgt := 61) C dX5_orderHere_54 (by decide) (fun c91 => ?_) (fun c91 => ?_)
        · have h := it_t c91 h
          refine a_iconst (v := (0 : Int32)) C dX5_orderHere_61 rfl ?_
          obtain ⟨rfl, rfl⟩ := ret2 h
          exact a_zret C dX5_orderHere_62 rfl rfl (by decide) rfl rfl
        · have h := it_f c91 h
          refine a_iconst (v := (1 : Int32)) C dX5_orderHere_57 rfl ?_
          refine a_goto (tgt := 62) C dX5_orderHere_58 (by decide) ?_
          obtain ⟨rfl, rfl⟩ := ret2 h
          exact a_zret C dX5_orderHere_62 rfl rfl (by decide) rfl rfl
set_option maxRecDepth 20000 in
set_option maxHeartbeats 4000000 in
theorem w_X5_isText_10 {p : Program} {l : Launch} {e : Env} {s : State} {m : MethodId} {args : Array Value} {below : List Frame} {meth : Method} {c : Code} {D : va_G} {cs : Nat → ClassId} {ad : Nat → Nat} {b0 : Nat} (C : Ctx p l s m args meth c D cs ad b0 RX5 cX5_isText 1 (some .boolean)) (hT : ∀ x ∈ c.exceptionTable.toList, False)    {r9 : Int32} {W9 : VT}     :
    ∀ (V : VT), d_X5_isText_10 V = some (r9, W9) → AW p l e (rmOf 5 0) s m args below meth c D cs ad b0 (QF below D cs ad b0 W9 ((rI r9) ad) args s 0) 1 0 V [(0, .ref (ad 109))] [] 10 := by
  refine lo0W_ind (P := fun V => AW p l e (rmOf 5 0) s m args below meth c D cs ad b0 (QF below D cs ad b0 W9 ((rI r9) ad) args s 0) 1 0 V [(0, .ref (ad 109))] [] 10) ?_ FU
  intro k10 hk10 V h
  unfold d_X5_isText_10b at h
  refine a_aload_n (q := 0) C dX5_isText_10 rfl rfl ?_
  obtain ⟨r3, V2, g1, h⟩ := bw_spec h
  refine a_cVi (a := 109) (st := []) C dX5_isText_11 cv_RX5_188 (w_X5_orderHere   V r3 V2 g1) rfl rfl rfl rfl rfl ⟨Nat.le_of_ble_eq_true rfl, Nat.le_of_ble_eq_true rfl, Nat.le_of_ble_eq_true rfl, Nat.le_of_ble_eq_true rfl⟩ (Nat.le_of_ble_eq_true rfl) ?_
  refine a_if_ne (tgt := 19) C dX5_isText_14 (by decide) (fun c4 => ?_) (fun c4 => ?_)
  · have h := it_f c4 h
    refine a_aload_n (q := 0) C dX5_isText_19 rfl rfl ?_
    refine a_dup C dX5_isText_20 rfl ?_
    refine a_geti (a := 109) (x := (V2 109 18)) C dX5_isText_21 fl_RX5_179 rfl rfl rfl ?_
    refine a_iconst (v := (1 : Int32)) C dX5_isText_24 rfl ?_
    refine a_iadd C dX5_isText_25 ?_
    refine a_puti (a := 109) C dX5_isText_26 fp_RX5_179 rfl rfl rfl rfl ?_
    refine a_aload_n (q := 0) C dX5_isText_29 rfl rfl ?_
    refine a_bipush (v := (59 : Int32)) C dX5_isText_30 rfl ?_
    obtain ⟨r7, V6, g5, h⟩ := bw_spec h
    refine a_cVi (a := 109) (st := []) C dX5_isText_32 cv_RX5_182 (w_X5_skips (59 : Int32)  (up2 V2 109 18 ((V2 109 18) + (1 : Int32))) r7 V6 g5) rfl rfl rfl rfl rfl ⟨Nat.le_of_ble_eq_true rfl, Nat.le_of_ble_eq_true rfl, Nat.le_of_ble_eq_true rfl, Nat.le_of_ble_eq_true rfl⟩ (Nat.le_of_ble_eq_true rfl) ?_
    refine a_if_ne (tgt := 10) C dX5_isText_35 (by decide) (fun c8 => ?_) (fun c8 => ?_)
    · have h := it_f c8 h
      refine a_sub (lv' := [(0, .ref (ad 109))]) [0] rfl ?_
      exact hk10 V6 h
    · have h := it_t c8 h
      refine a_aload_n (q := 0) C dX5_isText_38 rfl rfl ?_
      refine a_geti (a := 109) (x := (V6 109 16)) C dX5_isText_39 fl_RX5_173 rfl rfl rfl ?_
      refine a_aload_n (q := 0) C dX5_isText_42 rfl rfl ?_
      refine a_geti (a := 109) (x := (V6 109 11)) C dX5_isText_43 fl_RX5_170 rfl rfl rfl ?_
      refine a_icmp_ne (tgt := 53) C dX5_isText_46 (by decide) (fun c9 => ?_) (fun c9 => ?_)
      · have h := it_f c9 h
        refine a_iconst (v := (0 : Int32)) C dX5_isText_53 rfl ?_
        obtain ⟨rfl, rfl⟩ := ret2 h
        exact a_zret C dX5_isText_54 rfl rfl (by decide) rfl rfl
      · have h := it_t c9 h
        refine a_iconst (v := (1 : Int32)) C dX5_isText_49 rfl ?_
        refine a_goto (tgt := 54) C dX5_isText_50 (by decide) ?_
        obtain ⟨rfl, rfl⟩ := ret2 h
        exact a_zret C dX5_isText_54 rfl rfl (by decide) rfl rfl
  · have h := it_t c4 h
    refine a_iconst (v := (0 : Int32)) C dX5_isText_17 rfl ?_
    obtain ⟨rfl, rfl⟩ := ret2 h
    exact a_zret C dX5_isText_18 rfl rfl (by decide) rfl rfl
set_option maxRecDepth 20000 in
set_option maxHeartbeats 4000000 in
theorem w_X5_isText   (V : VT) (r9 : Int32) (W9 : VT) (h : d_X5_isText  V = some (r9, W9)) : AM 5 0 yX5_isText (.code yX5_isText cX5_isText 1 (some .boolean)) (fun ad => [.ref (ad 109)]) V W9 (rI r9) := by
  unfold d_X5_isText at h
  refine AM.of (by decide +kernel) (fun ad => Nat.le_of_ble_eq_true rfl) (fun {p l e s m args below meth c D cs ad b0} C hT => ?_)
  have C : Ctx p l s m args meth c D cs ad b0 RX5 cX5_isText 1 (some .boolean) := C
  refine a_sub (lv' := [(0, .ref (ad 109))]) [0] rfl ?_
  refine a_aload_n (q := 0) C dX5_isText_0 rfl rfl ?_
  refine a_iconst (v := (0 : Int32)) C dX5_isText_1 rfl ?_
  refine a_puti (a := 109) C dX5_isText_2 fp_RX5_173 rfl rfl rfl rfl ?_
  refine a_aload_n (q := 0) C dX5_isText_5 rfl rfl ?_
  refine a_iconst (v := (0 : Int32)) C dX5_isText_6 rfl ?_
  refine a_puti (a := 109) C dX5_isText_7 fp_RX5_179 rfl rfl rfl rfl ?_
  refine a_sub (lv' := [(0, .ref (ad 109))]) [0] rfl ?_
  exact w_X5_isText_10 C hT (up2 (up2 V 109 16 (0 : Int32)) 109 18 (0 : Int32)) h
set_option maxRecDepth 20000 in
set_option maxHeartbeats 4000000 in
theorem w_X5_carries (x1 : Int32)  (V : VT) (r9 : Int32) (W9 : VT) (h : d_X5_carries x1 V = some (r9, W9)) : AM 8 0 yX5_carries (.code yX5_carries cX5_carries 2 (some .int)) (fun ad => [.ref (ad 109), .int x1]) V W9 (rI r9) := by
  unfold d_X5_carries at h
  refine AM.of (by decide +kernel) (fun ad => Nat.le_of_ble_eq_true rfl) (fun {p l e s m args below meth c D cs ad b0} C hT => ?_)
  have C : Ctx p l s m args meth c D cs ad b0 RX5 cX5_carries 2 (some .int) := C
  refine a_sub (lv' := [(0, .ref (ad 109)), (1, .int x1)]) [0, 1] rfl ?_
  refine a_aload_n (q := 0) C dX5_carries_0 rfl rfl ?_
  refine a_getr (a := 109) (t := 117) C dX5_carries_1 fl_RX5_36 rfl rfl ?_
  refine a_iload_n (q := 1) C dX5_carries_4 rfl rfl ?_
  obtain ⟨z1, h⟩ := asr_spec h
  refine a_iald (a := 117) (x := (V 117 x1.toNatClampNeg)) C dX5_carries_5 rfl (inb_in z1) rfl ?_
  by_cases c2 : (V 117 x1.toNatClampNeg) = (98 : Int32)
  · have h := it_t c2 h
    refine a_lsw (tgt := 85) C dX5_carries_6 (by decide) ((by rw [c2] <;> rfl)) (by decide) ?_
    refine a_aload_n (q := 0) C dX5_carries_85 rfl rfl ?_
    refine a_aload_n (q := 0) C dX5_carries_86 rfl rfl ?_
    refine a_getr (a := 109) (t := 117) C dX5_carries_87 fl_RX5_36 rfl rfl ?_
    refine a_iload_n (q := 1) C dX5_carries_90 rfl rfl ?_
    refine a_iconst (v := (1 : Int32)) C dX5_carries_91 rfl ?_
    refine a_iadd C dX5_carries_92 ?_
    obtain ⟨z3, h⟩ := asr_spec h
    refine a_iald (a := 117) (x := (V 117 (x1 + (1 : Int32)).toNatClampNeg)) C dX5_carries_93 rfl (inb_in z3) rfl ?_
    refine a_aload_n (q := 0) C dX5_carries_94 rfl rfl ?_
    refine a_getr (a := 109) (t := 117) C dX5_carries_95 fl_RX5_36 rfl rfl ?_
    refine a_iload_n (q := 1) C dX5_carries_98 rfl rfl ?_
    refine a_iconst (v := (2 : Int32)) C dX5_carries_99 rfl ?_
    refine a_iadd C dX5_carries_100 ?_
    obtain ⟨z4, h⟩ := asr_spec h
    refine a_iald (a := 117) (x := (V 117 (x1 + (2 : Int32)).toNatClampNeg)) C dX5_carries_101 rfl (inb_in z4) rfl ?_
    obtain ⟨r7, V6, g5, h⟩ := bw_spec h
    refine a_cVi (a := 109) (st := []) C dX5_carries_102 cv_RX5_195 (w_X5_border (V 117 (x1 + (1 : Int32)).toNatClampNeg) (V 117 (x1 + (2 : Int32)).toNatClampNeg)  V r7 V6 g5) rfl rfl rfl rfl rfl ⟨Nat.le_of_ble_eq_true rfl, Nat.le_of_ble_eq_true rfl, Nat.le_of_ble_eq_true rfl, Nat.le_of_ble_eq_true rfl⟩ (Nat.le_of_ble_eq_true rfl) ?_
    obtain ⟨rfl, rfl⟩ := ret2 h
    exact a_iret C dX5_carries_105 rfl (by decide) rfl rfl
  · have h := it_f c2 h
    by_cases c8 : (V 117 x1.toNatClampNeg) = (104 : Int32)
    · have h := it_t c8 h
      refine a_lsw (tgt := 135) C dX5_carries_6 (by decide) ((by rw [c8] <;> rfl)) (by decide) ?_
      refine a_aload_n (q := 0) C dX5_carries_135 rfl rfl ?_
      refine a_aload_n (q := 0) C dX5_carries_136 rfl rfl ?_
      refine a_getr (a := 109) (t := 117) C dX5_carries_137 fl_RX5_36 rfl rfl ?_
      refine a_iload_n (q := 1) C dX5_carries_140 rfl rfl ?_
      refine a_iconst (v := (1 : Int32)) C dX5_carries_141 rfl ?_
      refine a_iadd C dX5_carries_142 ?_
      obtain ⟨z9, h⟩ := asr_spec h
      refine a_iald (a := 117) (x := (V 117 (x1 + (1 : Int32)).toNatClampNeg)) C dX5_carries_143 rfl (inb_in z9) rfl ?_
      obtain ⟨r12, V11, g10, h⟩ := bw_spec h
      refine a_cVi (a := 109) (st := []) C dX5_carries_144 cv_RX5_201 (w_X5_hues (V 117 (x1 + (1 : Int32)).toNatClampNeg)  V r12 V11 g10) rfl rfl rfl rfl rfl ⟨Nat.le_of_ble_eq_true rfl, Nat.le_of_ble_eq_true rfl, Nat.le_of_ble_eq_true rfl, Nat.le_of_ble_eq_true rfl⟩ (Nat.le_of_ble_eq_true rfl) ?_
      obtain ⟨rfl, rfl⟩ := ret2 h
      exact a_iret C dX5_carries_147 rfl (by decide) rfl rfl
    · have h := it_f c8 h
      by_cases c13 : (V 117 x1.toNatClampNeg) = (106 : Int32)
      · have h := it_t c13 h
        refine a_lsw (tgt := 148) C dX5_carries_6 (by decide) ((by rw [c13] <;> rfl)) (by decide) ?_
        refine a_aload_n (q := 0) C dX5_carries_148 rfl rfl ?_
        refine a_aload_n (q := 0) C dX5_carries_149 rfl rfl ?_
        refine a_getr (a := 109) (t := 117) C dX5_carries_150 fl_RX5_36 rfl rfl ?_
        refine a_iload_n (q := 1) C dX5_carries_153 rfl rfl ?_
        refine a_iconst (v := (1 : Int32)) C dX5_carries_154 rfl ?_
        refine a_iadd C dX5_carries_155 ?_
        obtain ⟨z14, h⟩ := asr_spec h
        refine a_iald (a := 117) (x := (V 117 (x1 + (1 : Int32)).toNatClampNeg)) C dX5_carries_156 rfl (inb_in z14) rfl ?_
        refine a_aload_n (q := 0) C dX5_carries_157 rfl rfl ?_
        refine a_getr (a := 109) (t := 117) C dX5_carries_158 fl_RX5_36 rfl rfl ?_
        refine a_iload_n (q := 1) C dX5_carries_161 rfl rfl ?_
        refine a_iconst (v := (2 : Int32)) C dX5_carries_162 rfl ?_
        refine a_iadd C dX5_carries_163 ?_
        obtain ⟨z15, h⟩ := asr_spec h
        refine a_iald (a := 117) (x := (V 117 (x1 + (2 : Int32)).toNatClampNeg)) C dX5_carries_164 rfl (inb_in z15) rfl ?_
        obtain ⟨r18, V17, g16, h⟩ := bw_spec h
        refine a_cVi (a := 109) (st := []) C dX5_carries_165 cv_RX5_204 (w_X5_pots (V 117 (x1 + (1 : Int32)).toNatClampNeg) (V 117 (x1 + (2 : Int32)).toNatClampNeg)  V r18 V17 g16) rfl rfl rfl rfl rfl ⟨Nat.le_of_ble_eq_true rfl, Nat.le_of_ble_eq_true rfl, Nat.le_of_ble_eq_true rfl, Nat.le_of_ble_eq_true rfl⟩ (Nat.le_of_ble_eq_true rfl) ?_
        obtain ⟨rfl, rfl⟩ := ret2 h
        exact a_iret C dX5_carries_168 rfl (by decide) rfl rfl
      · have h := it_f c13 h
        by_cases c19 : (V 117 x1.toNatClampNeg) = (112 : Int32)
        · have h := it_t c19 h
          refine a_lsw (tgt := 64) C dX5_carries_6 (by decide) ((by rw [c19] <;> rfl)) (by decide) ?_
          refine a_aload_n (q := 0) C dX5_carries_64 rfl rfl ?_
          refine a_aload_n (q := 0) C dX5_carries_65 rfl rfl ?_
          refine a_getr (a := 109) (t := 117) C dX5_carries_66 fl_RX5_36 rfl rfl ?_
          refine a_iload_n (q := 1) C dX5_carries_69 rfl rfl ?_
          refine a_iconst (v := (1 : Int32)) C dX5_carries_70 rfl ?_
          refine a_iadd C dX5_carries_71 ?_
          obtain ⟨z20, h⟩ := asr_spec h
          refine a_iald (a := 117) (x := (V 117 (x1 + (1 : Int32)).toNatClampNeg)) C dX5_carries_72 rfl (inb_in z20) rfl ?_
          refine a_aload_n (q := 0) C dX5_carries_73 rfl rfl ?_
          refine a_getr (a := 109) (t := 117) C dX5_carries_74 fl_RX5_36 rfl rfl ?_
          refine a_iload_n (q := 1) C dX5_carries_77 rfl rfl ?_
          refine a_iconst (v := (2 : Int32)) C dX5_carries_78 rfl ?_
          refine a_iadd C dX5_carries_79 ?_
          obtain ⟨z21, h⟩ := asr_spec h
          refine a_iald (a := 117) (x := (V 117 (x1 + (2 : Int32)).toNatClampNeg)) C dX5_carries_80 rfl (inb_in z21) rfl ?_
          obtain ⟨r24, V23, g22, h⟩ := bw_spec h
          refine a_cVi (a := 109) (st := []) C dX5_carries_81 cv_RX5_192 (w_X5_paint (V 117 (x1 + (1 : Int32)).toNatClampNeg) (V 117 (x1 + (2 : Int32)).toNatClampNeg)  V r24 V23 g22) rfl rfl rfl rfl rfl ⟨Nat.le_of_ble_eq_true rfl, Nat.le_of_ble_eq_true rfl, Nat.le_of_ble_eq_true rfl, Nat.le_of_ble_eq_true rfl⟩ (Nat.le_of_ble_eq_true rfl) ?_
          obtain ⟨rfl, rfl⟩ := ret2 h
          exact a_iret C dX5_carries_84 rfl (by decide) rfl rfl
        · have h := it_f c19 h
          by_cases c25 : (V 117 x1.toNatClampNeg) = (119 : Int32)
          · have h := it_t c25 h
            refine a_lsw (tgt := 106) C dX5_carries_6 (by decide) ((by rw [c25] <;> rfl)) (by decide) ?_
            refine a_aload_n (q := 0) C dX5_carries_106 rfl rfl ?_
            refine a_aload_n (q := 0) C dX5_carries_107 rfl rfl ?_
            refine a_getr (a := 109) (t := 117) C dX5_carries_108 fl_RX5_36 rfl rfl ?_
            refine a_iload_n (q := 1) C dX5_carries_111 rfl rfl ?_
            refine a_iconst (v := (1 : Int32)) C dX5_carries_112 rfl ?_
            refine a_iadd C dX5_carries_113 ?_
            obtain ⟨z26, h⟩ := asr_spec h
            refine a_iald (a := 117) (x := (V 117 (x1 + (1 : Int32)).toNatClampNeg)) C dX5_carries_114 rfl (inb_in z26) rfl ?_
            refine a_aload_n (q := 0) C dX5_carries_115 rfl rfl ?_
            refine a_getr (a := 109) (t := 117) C dX5_carries_116 fl_RX5_36 rfl rfl ?_
            refine a_iload_n (q := 1) C dX5_carries_119 rfl rfl ?_
            refine a_iconst (v := (2 : Int32)) C dX5_carries_120 rfl ?_
            refine a_iadd C dX5_carries_121 ?_
            obtain ⟨z27, h⟩ := asr_spec h
            refine a_iald (a := 117) (x := (V 117 (x1 + (2 : Int32)).toNatClampNeg)) C dX5_carries_122 rfl (inb_in z27) rfl ?_
            refine a_aload_n (q := 0) C dX5_carries_123 rfl rfl ?_
            refine a_getr (a := 109) (t := 117) C dX5_carries_124 fl_RX5_36 rfl rfl ?_
            refine a_iload_n (q := 1) C dX5_carries_127 rfl rfl ?_
            refine a_iconst (v := (3 : Int32)) C dX5_carries_128 rfl ?_
            refine a_iadd C dX5_carries_129 ?_
            obtain ⟨z28, h⟩ := asr_spec h
            refine a_iald (a := 117) (x := (V 117 (x1 + (3 : Int32)).toNatClampNeg)) C dX5_carries_130 rfl (inb_in z28) rfl ?_
            obtain ⟨r31, V30, g29, h⟩ := bw_spec h
            refine a_cVi (a := 109) (st := []) C dX5_carries_131 cv_RX5_198 (w_X5_wish (V 117 (x1 + (1 : Int32)).toNatClampNeg) (V 117 (x1 + (2 : Int32)).toNatClampNeg) (V 117 (x1 + (3 : Int32)).toNatClampNeg)  V r31 V30 g29) rfl rfl rfl rfl rfl ⟨Nat.le_of_ble_eq_true rfl, Nat.le_of_ble_eq_true rfl, Nat.le_of_ble_eq_true rfl, Nat.le_of_ble_eq_true rfl⟩ (Nat.le_of_ble_eq_true rfl) ?_
            obtain ⟨rfl, rfl⟩ := ret2 h
            exact a_iret C dX5_carries_134 rfl (by decide) rfl rfl
          · have h := it_f c25 h
            by_cases c32 : (V 117 x1.toNatClampNeg) = (120 : Int32)
            · have h := it_t c32 h
              refine a_lsw (tgt := 169) C dX5_carries_6 (by decide) ((by rw [c32] <;> rfl)) (by decide) ?_
              refine a_aload_n (q := 0) C dX5_carries_169 rfl rfl ?_
              obtain ⟨r35, V34, g33, h⟩ := bw_spec h
              refine a_cVi (a := 109) (st := []) C dX5_carries_170 cv_RX5_207 (w_X5_back   V r35 V34 g33) rfl rfl rfl rfl rfl ⟨Nat.le_of_ble_eq_true rfl, Nat.le_of_ble_eq_true rfl, Nat.le_of_ble_eq_true rfl, Nat.le_of_ble_eq_true rfl⟩ (Nat.le_of_ble_eq_true rfl) ?_
              obtain ⟨rfl, rfl⟩ := ret2 h
              exact a_iret C dX5_carries_173 rfl (by decide) rfl rfl
            · have h := it_f c32 h
              refine a_lsw (tgt := 174) C dX5_carries_6 (by decide) (((lv_osw c2 rfl).trans ((lv_osw c8 rfl).trans ((lv_osw c13 rfl).trans ((lv_osw c19 rfl).trans ((lv_osw c25 rfl).trans ((lv_osw c32 rfl).trans (rfl)))))))) (by first | decide | rfl) ?_
              refine a_aload_n (q := 0) C dX5_carries_174 rfl rfl ?_
              obtain ⟨r38, V37, g36, h⟩ := bw_spec h
              refine a_cVi (a := 109) (st := []) C dX5_carries_175 cv_RX5_210 (w_X5_fill   V r38 V37 g36) rfl rfl rfl rfl rfl ⟨Nat.le_of_ble_eq_true rfl, Nat.le_of_ble_eq_true rfl, Nat.le_of_ble_eq_true rfl, Nat.le_of_ble_eq_true rfl⟩ (Nat.le_of_ble_eq_true rfl) ?_
              obtain ⟨rfl, rfl⟩ := ret2 h
              exact a_iret C dX5_carries_178 rfl (by decide) rfl rfl
set_option maxRecDepth 20000 in
set_option maxHeartbeats 4000000 in
theorem w_X5_isRefusal_40 {p : Program} {l : Launch} {e : Env} {s : State} {m : MethodId} {args : Array Value} {below : List Frame} {meth : Method} {c : Code} {D : va_G} {cs : Nat → ClassId} {ad : Nat → Nat} {b0 : Nat} (C : Ctx p l s m args meth c D cs ad b0 RX5 cX5_isRefusal 2 (some .boolean)) (hT : ∀ x ∈ c.exceptionTable.toList, False)   {V : VT} {r9 : Int32}     :
    d_X5_isRefusal_40 V = some r9 → AW p l e (rmOf 2 0) s m args below meth c D cs ad b0 (QF below D cs ad b0 V ((rI r9) ad) args s 0) 2 0 V [(0, .ref (ad 109))] [] 40 := by
  intro  h
  unfold d_X5_isRefusal_40 at h
  refine a_aload_n (q := 0) C dX5_isRefusal_40 rfl rfl ?_
  refine a_geti (a := 109) (x := (V 109 7)) C dX5_isRefusal_41 fl_RX5_39 rfl rfl rfl ?_
  refine a_iconst (v := (2 : Int32)) C dX5_isRefusal_44 rfl ?_
  refine a_icmp_ne (tgt := 52) C dX5_isRefusal_45 (by decide) (fun c1 => ?_) (fun c1 => ?_)
  · have h := it_f c1 h
    refine a_iconst (v := (0 : Int32)) C dX5_isRefusal_52 rfl ?_
    obtain rfl := ret1 h
    exact a_zret C dX5_isRefusal_53 rfl rfl (by decide) rfl rfl
  · have h := it_t c1 h
    refine a_iconst (v := (1 : Int32)) C dX5_isRefusal_48 rfl ?_
    refine a_goto (tgt := 53) C dX5_isRefusal_49 (by decide) ?_
    obtain rfl := ret1 h
    exact a_zret C dX5_isRefusal_53 rfl rfl (by decide) rfl rfl
set_option maxRecDepth 20000 in
set_option maxHeartbeats 4000000 in
theorem w_X5_isRefusal (x1 : Int32)  (V : VT) (r9 : Int32) (h : d_X5_isRefusal x1 V = some r9) : AM 2 0 yX5_isRefusal (.code yX5_isRefusal cX5_isRefusal 2 (some .boolean)) (fun ad => [.ref (ad 109), .int x1]) V V (rI r9) := by
  unfold d_X5_isRefusal at h
  refine AM.of (by decide +kernel) (fun ad => Nat.le_of_ble_eq_true rfl) (fun {p l e s m args below meth c D cs ad b0} C hT => ?_)
  have C : Ctx p l s m args meth c D cs ad b0 RX5 cX5_isRefusal 2 (some .boolean) := C
  refine a_sub (lv' := [(0, .ref (ad 109)), (1, .int x1)]) [0, 1] rfl ?_
  refine a_iload_n (q := 1) C dX5_isRefusal_0 rfl rfl ?_
  refine a_bipush (v := (120 : Int32)) C dX5_isRefusal_1 rfl ?_
  refine a_icmp_ne (tgt := 22) C dX5_isRefusal_3 (by decide) (fun c1 => ?_) (fun c1 => ?_)
  · have h := it_f c1 h
    refine a_iload_n (q := 1) C dX5_isRefusal_22 rfl rfl ?_
    refine a_bipush (v := (112 : Int32)) C dX5_isRefusal_23 rfl ?_
    refine a_icmp_eq (tgt := 40) C dX5_isRefusal_25 (by decide) (fun c2 => ?_) (fun c2 => ?_)
    · have h := it_t c2 h
      refine a_sub (lv' := [(0, .ref (ad 109))]) [0] rfl ?_
      exact w_X5_isRefusal_40 C hT h
    · have h := it_f c2 h
      refine a_iload_n (q := 1) C dX5_isRefusal_28 rfl rfl ?_
      refine a_bipush (v := (98 : Int32)) C dX5_isRefusal_29 rfl ?_
      refine a_icmp_eq (tgt := 40) C dX5_isRefusal_31 (by decide) (fun c3 => ?_) (fun c3 => ?_)
      · have h := it_t c3 h
        refine a_sub (lv' := [(0, .ref (ad 109))]) [0] rfl ?_
        exact w_X5_isRefusal_40 C hT h
      · have h := it_f c3 h
        refine a_iload_n (q := 1) C dX5_isRefusal_34 rfl rfl ?_
        refine a_bipush (v := (104 : Int32)) C dX5_isRefusal_35 rfl ?_
        refine a_icmp_ne (tgt := 52) C dX5_isRefusal_37 (by decide) (fun c4 => ?_) (fun c4 => ?_)
        · have h := it_f c4 h
          refine a_iconst (v := (0 : Int32)) C dX5_isRefusal_52 rfl ?_
          obtain rfl := ret1 h
          exact a_zret C dX5_isRefusal_53 rfl rfl (by decide) rfl rfl
        · have h := it_t c4 h
          refine a_sub (lv' := [(0, .ref (ad 109))]) [0] rfl ?_
          exact w_X5_isRefusal_40 C hT h
  · have h := it_t c1 h
    refine a_aload_n (q := 0) C dX5_isRefusal_6 rfl rfl ?_
    refine a_geti (a := 109) (x := (V 109 7)) C dX5_isRefusal_7 fl_RX5_39 rfl rfl rfl ?_
    refine a_iconst (v := (1 : Int32)) C dX5_isRefusal_10 rfl ?_
    refine a_icmp_ne (tgt := 18) C dX5_isRefusal_11 (by decide) (fun c5 => ?_) (fun c5 => ?_)
    · have h := it_f c5 h
      refine a_iconst (v := (0 : Int32)) C dX5_isRefusal_18 rfl ?_
      refine a_goto (tgt := 53) C dX5_isRefusal_19 (by decide) ?_
      obtain rfl := ret1 h
      exact a_zret C dX5_isRefusal_53 rfl rfl (by decide) rfl rfl
    · have h := it_t c5 h
      refine a_iconst (v := (1 : Int32)) C dX5_isRefusal_14 rfl ?_
      refine a_goto (tgt := 53) C dX5_isRefusal_15 (by decide) ?_
      obtain rfl := ret1 h
      exact a_zret C dX5_isRefusal_53 rfl rfl (by decide) rfl rfl
set_option maxRecDepth 20000 in
set_option maxHeartbeats 4000000 in
theorem w_X5_read_143 {p : Program} {l : Launch} {e : Env} {s : State} {m : MethodId} {args : Array Value} {below : List Frame} {meth : Method} {c : Code} {D : va_G} {cs : Nat → ClassId} {ad : Nat → Nat} {b0 : Nat} (C : Ctx p l s m args meth c D cs ad b0 RX5 cX5_read 4 (some .int)) (hT : ∀ x ∈ c.exceptionTable.toList, False)    {r9 : Int32} {W9 : VT}     :
    ∀ (x3 s0 : Int32) (V : VT), d_X5_read_143 x3 s0 V = some (r9, W9) → AW p l e (rmOf 9 0) s m args below meth c D cs ad b0 (QF below D cs ad b0 W9 ((rI r9) ad) args s 0) 4 0 V [(3, .int x3)] [.int s0, .ref (ad 109)] 143 := by
  intro x3 s0 V h
  unfold d_X5_read_143 at h
  refine a_puti (a := 109) C dX5_read_143 fp_RX5_39 rfl rfl rfl rfl ?_
  refine a_iload_n (q := 0) C dX5_read_146 rfl rfl ?_
  refine a_if_ge (tgt := 154) C dX5_read_147 (by decide) (fun c1 => ?_) (fun c1 => ?_)
  · have h := it_t c1 h
    refine a_iconst (v := (0 : Int32)) C dX5_read_154 rfl ?_
    obtain ⟨rfl, rfl⟩ := ret2 h
    exact a_iret C dX5_read_155 rfl (by decide) rfl rfl
  · have h := it_f c1 h
    refine a_iload_n (q := 0) C dX5_read_150 rfl rfl ?_
    refine a_goto (tgt := 155) C dX5_read_151 (by decide) ?_
    obtain ⟨rfl, rfl⟩ := ret2 h
    exact a_iret C dX5_read_155 rfl (by decide) rfl rfl
set_option maxRecDepth 20000 in
set_option maxHeartbeats 4000000 in
theorem w_X5_read_95 {p : Program} {l : Launch} {e : Env} {s : State} {m : MethodId} {args : Array Value} {below : List Frame} {meth : Method} {c : Code} {D : va_G} {cs : Nat → ClassId} {ad : Nat → Nat} {b0 : Nat} (C : Ctx p l s m args meth c D cs ad b0 RX5 cX5_read 4 (some .int)) (hT : ∀ x ∈ c.exceptionTable.toList, False)    {r9 : Int32} {W9 : VT}     :
    ∀ (x2 x3 : Int32) (V : VT), d_X5_read_95 x2 x3 V = some (r9, W9) → AW p l e (rmOf 9 0) s m args below meth c D cs ad b0 (QF below D cs ad b0 W9 ((rI r9) ad) args s 0) 4 0 V [(0, .ref (ad 109)), (2, .int x2), (3, .int x3)] [] 95 := by
  intro x2 x3 V h
  unfold d_X5_read_95 at h
  refine a_aload_n (q := 0) C dX5_read_95 rfl rfl ?_
  refine a_iconst (v := (0 : Int32)) C dX5_read_96 rfl ?_
  refine a_puti (a := 109) C dX5_read_97 fp_RX5_48 rfl rfl rfl rfl ?_
  refine a_aload_n (q := 0) C dX5_read_100 rfl rfl ?_
  refine a_geti (a := 109) (x := (V 109 7)) C dX5_read_101 fl_RX5_39 rfl rfl rfl ?_
  refine a_if_le (tgt := 156) C dX5_read_104 (by decide) (fun c1 => ?_) (fun c1 => ?_)
  · have h := it_t c1 h
    refine a_aload_n (q := 0) C dX5_read_156 rfl rfl ?_
    refine a_aload_n (q := 0) C dX5_read_157 rfl rfl ?_
    refine a_getr (a := 109) (t := 113) C dX5_read_158 fl_RX5_19 rfl rfl ?_
    obtain ⟨V3, g2, h⟩ := bd_spec h
    refine a_cVv (a := 109) (st := []) C dX5_read_161 cv_RX5_79 (w_X5_keeps 113 rfl (up2 V 109 6 (0 : Int32)) V3 g2) rfl rfl rfl rfl rfl ⟨Nat.le_of_ble_eq_true rfl, Nat.le_of_ble_eq_true rfl, Nat.le_of_ble_eq_true rfl, Nat.le_of_ble_eq_true rfl⟩ (Nat.le_of_ble_eq_true rfl) ?_
    refine a_aload_n (q := 0) C dX5_read_164 rfl rfl ?_
    refine a_geti (a := 109) (x := (V3 109 18)) C dX5_read_165 fl_RX5_179 rfl rfl rfl ?_
    obtain ⟨rfl, rfl⟩ := ret2 h
    exact a_iret C dX5_read_168 rfl (by decide) rfl rfl
  · have h := it_f c1 h
    refine a_aload_n (q := 0) C dX5_read_107 rfl rfl ?_
    refine a_getr (a := 109) (t := 113) C dX5_read_108 fl_RX5_19 rfl rfl ?_
    refine a_iconst (v := (0 : Int32)) C dX5_read_111 rfl ?_
    refine a_aload_n (q := 0) C dX5_read_112 rfl rfl ?_
    refine a_getr (a := 109) (t := 110) C dX5_read_113 fl_RX5_7 rfl rfl ?_
    refine a_iconst (v := (0 : Int32)) C dX5_read_116 rfl ?_
    obtain ⟨V5, g4, h⟩ := bd_spec h
    refine a_cSv (st := []) C dX5_read_117 cv_RX5_55 (w_X5_copies 113 (0 : Int32) 110 (0 : Int32) rfl rfl (up2 V 109 6 (0 : Int32)) V5 g4) rfl rfl rfl ⟨Nat.le_of_ble_eq_true rfl, Nat.le_of_ble_eq_true rfl, Nat.le_of_ble_eq_true rfl, Nat.le_of_ble_eq_true rfl⟩ (Nat.le_of_ble_eq_true rfl) ?_
    refine a_aload_n (q := 0) C dX5_read_120 rfl rfl ?_
    refine a_aload_n (q := 0) C dX5_read_121 rfl rfl ?_
    refine a_aload_n (q := 0) C dX5_read_122 rfl rfl ?_
    refine a_getr (a := 109) (t := 117) C dX5_read_123 fl_RX5_36 rfl rfl ?_
    refine a_iconst (v := (4 : Int32)) C dX5_read_126 rfl ?_
    refine a_iload_n (q := 1) C dX5_read_127 rfl rfl ?_
    refine a_imul C dX5_read_128 ?_
    refine a_iconst (v := (4 : Int32)) C dX5_read_129 rfl ?_
    refine a_isub C dX5_read_130 ?_
    obtain ⟨z6, h⟩ := asr_spec h
    refine a_iald (a := 117) (x := (V5 117 (((4 : Int32) * x2) - (4 : Int32)).toNatClampNeg)) C dX5_read_131 rfl (inb_in z6) rfl ?_
    obtain ⟨r8, g7, h⟩ := bd_spec h
    refine a_cVi (a := 109) (st := [.ref (ad 109)]) C dX5_read_132 cv_RX5_219 (w_X5_isRefusal (V5 117 (((4 : Int32) * x2) - (4 : Int32)).toNatClampNeg)  V5 r8 g7) rfl rfl rfl rfl rfl ⟨Nat.le_of_ble_eq_true rfl, Nat.le_of_ble_eq_true rfl, Nat.le_of_ble_eq_true rfl, Nat.le_of_ble_eq_true rfl⟩ (Nat.le_of_ble_eq_true rfl) ?_
    refine a_if_eq (tgt := 142) C dX5_read_135 (by decide) (fun c9 => ?_) (fun c9 => ?_)
    · have h := it_t c9 h
      refine a_iconst (v := (1 : Int32)) C dX5_read_142 rfl ?_
      refine a_sub (lv' := [(3, .int x3)]) [2] rfl ?_
      exact w_X5_read_143 C hT x3 (1 : Int32) V5 h
    · have h := it_f c9 h
      refine a_iconst (v := (2 : Int32)) C dX5_read_138 rfl ?_
      refine a_goto (tgt := 143) C dX5_read_139 (by decide) ?_
      refine a_sub (lv' := [(3, .int x3)]) [2] rfl ?_
      exact w_X5_read_143 C hT x3 (2 : Int32) V5 h
set_option maxRecDepth 20000 in
set_option maxHeartbeats 4000000 in
theorem w_X5_read_66 {p : Program} {l : Launch} {e : Env} {s : State} {m : MethodId} {args : Array Value} {below : List Frame} {meth : Method} {c : Code} {D : va_G} {cs : Nat → ClassId} {ad : Nat → Nat} {b0 : Nat} (C : Ctx p l s m args meth c D cs ad b0 RX5 cX5_read 4 (some .int)) (hT : ∀ x ∈ c.exceptionTable.toList, False)    {r9 : Int32} {W9 : VT}     :
    ∀ (x2 x3 : Int32) (V : VT), d_X5_read_66 x2 x3 V = some (r9, W9) → AW p l e (rmOf 9 0) s m args below meth c D cs ad b0 (QF below D cs ad b0 W9 ((rI r9) ad) args s 0) 4 0 V [(0, .ref (ad 109)), (2, .int x2), (3, .int x3)] [] 66 := by
  refine lo2W_ind (P := fun x2 x3 V => AW p l e (rmOf 9 0) s m args below meth c D cs ad b0 (QF below D cs ad b0 W9 ((rI r9) ad) args s 0) 4 0 V [(0, .ref (ad 109)), (2, .int x2), (3, .int x3)] [] 66) ?_ FU
  intro k66 hk66 x2 x3 V h
  unfold d_X5_read_66b at h
  refine a_iload_n (q := 1) C dX5_read_66 rfl rfl ?_
  refine a_aload_n (q := 0) C dX5_read_67 rfl rfl ?_
  refine a_geti (a := 109) (x := (V 109 18)) C dX5_read_68 fl_RX5_179 rfl rfl rfl ?_
  refine a_icmp_ge (tgt := 95) C dX5_read_71 (by decide) (fun c1 => ?_) (fun c1 => ?_)
  · have h := it_t c1 h
    refine a_sub (lv' := [(0, .ref (ad 109)), (2, .int x2), (3, .int x3)]) [0, 1, 2] rfl ?_
    exact w_X5_read_95 C hT x2 x3 V h
  · have h := it_f c1 h
    refine a_aload_n (q := 0) C dX5_read_74 rfl rfl ?_
    refine a_geti (a := 109) (x := (V 109 7)) C dX5_read_75 fl_RX5_39 rfl rfl rfl ?_
    refine a_if_ne (tgt := 95) C dX5_read_78 (by decide) (fun c2 => ?_) (fun c2 => ?_)
    · have h := it_f c2 h
      refine a_sub (lv' := [(0, .ref (ad 109)), (2, .int x2), (3, .int x3)]) [0, 1, 2] rfl ?_
      exact w_X5_read_95 C hT x2 x3 V h
    · have h := it_t c2 h
      refine a_aload_n (q := 0) C dX5_read_81 rfl rfl ?_
      refine a_iconst (v := (4 : Int32)) C dX5_read_82 rfl ?_
      refine a_iload_n (q := 1) C dX5_read_83 rfl rfl ?_
      refine a_imul C dX5_read_84 ?_
      obtain ⟨r5, V4, g3, h⟩ := bw_spec h
      refine a_cVi (a := 109) (st := []) C dX5_read_85 cv_RX5_216 (w_X5_carries ((4 : Int32) * x2)  V r5 V4 g3) rfl rfl rfl rfl rfl ⟨Nat.le_of_ble_eq_true rfl, Nat.le_of_ble_eq_true rfl, Nat.le_of_ble_eq_true rfl, Nat.le_of_ble_eq_true rfl⟩ (Nat.le_of_ble_eq_true rfl) ?_
      refine a_istore_n (lv' := [(3, .int r5), (0, .ref (ad 109)), (2, .int x2)]) C dX5_read_88 rfl (by decide) rfl ?_
      refine a_iinc (q := 2) (v := (x2 + (1 : Int32))) (lv' := [(2, .int (x2 + (1 : Int32))), (3, .int r5), (0, .ref (ad 109))]) C dX5_read_89 rfl rfl (by decide) rfl ?_
      refine a_goto (tgt := 66) C dX5_read_92 (by decide) ?_
      refine a_sub (lv' := [(0, .ref (ad 109)), (2, .int (x2 + (1 : Int32))), (3, .int r5)]) [2, 0, 1] rfl ?_
      exact hk66 (x2 + (1 : Int32)) r5 V4 h
set_option maxRecDepth 20000 in
set_option maxHeartbeats 4000000 in
theorem w_X5_read_36 {p : Program} {l : Launch} {e : Env} {s : State} {m : MethodId} {args : Array Value} {below : List Frame} {meth : Method} {c : Code} {D : va_G} {cs : Nat → ClassId} {ad : Nat → Nat} {b0 : Nat} (C : Ctx p l s m args meth c D cs ad b0 RX5 cX5_read 4 (some .int)) (hT : ∀ x ∈ c.exceptionTable.toList, False)    {r9 : Int32} {W9 : VT}     :
    ∀ (s0 : Int32) (V : VT), d_X5_read_36 s0 V = some (r9, W9) → AW p l e (rmOf 9 0) s m args below meth c D cs ad b0 (QF below D cs ad b0 W9 ((rI r9) ad) args s 0) 4 0 V [(0, .ref (ad 109))] [.int s0, .ref (ad 109)] 36 := by
  intro s0 V h
  unfold d_X5_read_36 at h
  obtain ⟨r3, V2, g1, h⟩ := bw_spec h
  refine a_cVi (a := 109) (st := []) C dX5_read_36 cv_RX5_71 (w_X5_fails s0  V r3 V2 g1) rfl rfl rfl rfl rfl ⟨Nat.le_of_ble_eq_true rfl, Nat.le_of_ble_eq_true rfl, Nat.le_of_ble_eq_true rfl, Nat.le_of_ble_eq_true rfl⟩ (Nat.le_of_ble_eq_true rfl) ?_
  refine a_if_eq (tgt := 44) C dX5_read_39 (by decide) (fun c4 => ?_) (fun c4 => ?_)
  · have h := it_t c4 h
    refine a_aload_n (q := 0) C dX5_read_44 rfl rfl ?_
    refine a_getr (a := 109) (t := 110) C dX5_read_45 fl_RX5_7 rfl rfl ?_
    refine a_iconst (v := (0 : Int32)) C dX5_read_48 rfl ?_
    refine a_aload_n (q := 0) C dX5_read_49 rfl rfl ?_
    refine a_getr (a := 109) (t := 113) C dX5_read_50 fl_RX5_19 rfl rfl ?_
    refine a_iconst (v := (0 : Int32)) C dX5_read_53 rfl ?_
    obtain ⟨V6, g5, h⟩ := bd_spec h
    refine a_cSv (st := []) C dX5_read_54 cv_RX5_55 (w_X5_copies 110 (0 : Int32) 113 (0 : Int32) rfl rfl V2 V6 g5) rfl rfl rfl ⟨Nat.le_of_ble_eq_true rfl, Nat.le_of_ble_eq_true rfl, Nat.le_of_ble_eq_true rfl, Nat.le_of_ble_eq_true rfl⟩ (Nat.le_of_ble_eq_true rfl) ?_
    refine a_aload_n (q := 0) C dX5_read_57 rfl rfl ?_
    refine a_iconst (v := (1 : Int32)) C dX5_read_58 rfl ?_
    refine a_puti (a := 109) C dX5_read_59 fp_RX5_48 rfl rfl rfl rfl ?_
    refine a_iconst (v := (0 : Int32)) C dX5_read_62 rfl ?_
    refine a_istore_n (lv' := [(2, .int (0 : Int32)), (0, .ref (ad 109))]) C dX5_read_63 rfl (by decide) rfl ?_
    refine a_iconst (v := (0 : Int32)) C dX5_read_64 rfl ?_
    refine a_istore_n (lv' := [(3, .int (0 : Int32)), (2, .int (0 : Int32)), (0, .ref (ad 109))]) C dX5_read_65 rfl (by decide) rfl ?_
    refine a_sub (lv' := [(0, .ref (ad 109)), (2, .int (0 : Int32)), (3, .int (0 : Int32))]) [2, 1, 0] rfl ?_
    exact w_X5_read_66 C hT (0 : Int32) (0 : Int32) (up2 V6 109 6 (1 : Int32)) h
  · have h := it_f c4 h
    refine a_iconst (v := (0 : Int32)) C dX5_read_42 rfl ?_
    obtain ⟨rfl, rfl⟩ := ret2 h
    exact a_iret C dX5_read_43 rfl (by decide) rfl rfl
set_option maxRecDepth 20000 in
set_option maxHeartbeats 4000000 in
theorem w_X5_read_18 {p : Program} {l : Launch} {e : Env} {s : State} {m : MethodId} {args : Array Value} {below : List Frame} {meth : Method} {c : Code} {D : va_G} {cs : Nat → ClassId} {ad : Nat → Nat} {b0 : Nat} (C : Ctx p l s m args meth c D cs ad b0 RX5 cX5_read 4 (some .int)) (hT : ∀ x ∈ c.exceptionTable.toList, False)    {r9 : Int32} {W9 : VT}     :
    ∀ (x1 s0 : Int32) (V : VT), d_X5_read_18 x1 s0 V = some (r9, W9) → AW p l e (rmOf 9 0) s m args below meth c D cs ad b0 (QF below D cs ad b0 W9 ((rI r9) ad) args s 0) 4 0 V [(0, .ref (ad 109)), (1, .int x1)] [.int s0, .ref (ad 109)] 18 := by
  intro x1 s0 V h
  unfold d_X5_read_18 at h
  refine a_puti (a := 109) C dX5_read_18 fp_RX5_25 rfl rfl rfl rfl ?_
  refine a_aload_n (q := 0) C dX5_read_21 rfl rfl ?_
  refine a_iconst (v := (0 : Int32)) C dX5_read_22 rfl ?_
  refine a_puti (a := 109) C dX5_read_23 fp_RX5_170 rfl rfl rfl rfl ?_
  refine a_aload_n (q := 0) C dX5_read_26 rfl rfl ?_
  refine a_iload_n (q := 1) C dX5_read_27 rfl rfl ?_
  refine a_if_eq (tgt := 35) C dX5_read_28 (by decide) (fun c1 => ?_) (fun c1 => ?_)
  · have h := it_t c1 h
    refine a_iconst (v := (1 : Int32)) C dX5_read_35 rfl ?_
    refine a_sub (lv' := [(0, .ref (ad 109))]) [0] rfl ?_
    exact w_X5_read_36 C hT (1 : Int32) (up2 (up2 V 109 12 s0) 109 11 (0 : Int32)) h
  · have h := it_f c1 h
    refine a_iconst (v := (0 : Int32)) C dX5_read_31 rfl ?_
    refine a_goto (tgt := 36) C dX5_read_32 (by decide) ?_
    refine a_sub (lv' := [(0, .ref (ad 109))]) [0] rfl ?_
    exact w_X5_read_36 C hT (0 : Int32) (up2 (up2 V 109 12 s0) 109 11 (0 : Int32)) h
set_option maxRecDepth 20000 in
set_option maxHeartbeats 4000000 in
theorem w_X5_read   (V : VT) (r9 : Int32) (W9 : VT) (h : d_X5_read  V = some (r9, W9)) : AM 9 0 yX5_read (.code yX5_read cX5_read 4 (some .int)) (fun ad => [.ref (ad 109)]) V W9 (rI r9) := by
  unfold d_X5_read at h
  refine AM.of (by decide +kernel) (fun ad => Nat.le_of_ble_eq_true rfl) (fun {p l e s m args below meth c D cs ad b0} C hT => ?_)
  have C : Ctx p l s m args meth c D cs ad b0 RX5 cX5_read 4 (some .int) := C
  refine a_sub (lv' := [(0, .ref (ad 109))]) [0] rfl ?_
  refine a_aload_n (q := 0) C dX5_read_0 rfl rfl ?_
  obtain ⟨r3, V2, g1, h⟩ := bw_spec h
  refine a_cVi (a := 109) (st := []) C dX5_read_1 cv_RX5_213 (w_X5_isText   V r3 V2 g1) rfl rfl rfl rfl rfl ⟨Nat.le_of_ble_eq_true rfl, Nat.le_of_ble_eq_true rfl, Nat.le_of_ble_eq_true rfl, Nat.le_of_ble_eq_true rfl⟩ (Nat.le_of_ble_eq_true rfl) ?_
  refine a_istore_n (lv' := [(1, .int r3), (0, .ref (ad 109))]) C dX5_read_4 rfl (by decide) rfl ?_
  refine a_aload_n (q := 1) C dX5_read_5 rfl rfl ?_
  refine a_iload_n (q := 0) C dX5_read_6 rfl rfl ?_
  refine a_if_eq (tgt := 14) C dX5_read_7 (by decide) (fun c4 => ?_) (fun c4 => ?_)
  · have h := it_t c4 h
    refine a_aload_n (q := 1) C dX5_read_14 rfl rfl ?_
    refine a_geti (a := 109) (x := (V2 109 16)) C dX5_read_15 fl_RX5_173 rfl rfl rfl ?_
    refine a_sub (lv' := [(0, .ref (ad 109)), (1, .int r3)]) [1, 0] rfl ?_
    exact w_X5_read_18 C hT r3 (V2 109 16) V2 h
  · have h := it_f c4 h
    refine a_iconst (v := (-1 : Int32)) C dX5_read_10 rfl ?_
    refine a_goto (tgt := 18) C dX5_read_11 (by decide) ?_
    refine a_sub (lv' := [(0, .ref (ad 109)), (1, .int r3)]) [1, 0] rfl ?_
    exact w_X5_read_18 C hT r3 (-1 : Int32) V2 h
set_option maxRecDepth 20000 in
set_option maxHeartbeats 4000000 in
theorem w_X5_errorPosition   (V : VT) (r9 : Int32) (W9 : VT) (h : d_X5_errorPosition  V = some (r9, W9)) : AM 2 0 yX5_errorPosition (.code yX5_errorPosition cX5_errorPosition 1 (some .int)) (fun ad => [.ref (ad 109)]) V W9 (rI r9) := by
  unfold d_X5_errorPosition at h
  refine AM.of (by decide +kernel) (fun ad => Nat.le_of_ble_eq_true rfl) (fun {p l e s m args below meth c D cs ad b0} C hT => ?_)
  have C : Ctx p l s m args meth c D cs ad b0 RX5 cX5_errorPosition 1 (some .int) := C
  refine a_sub (lv' := [(0, .ref (ad 109))]) [0] rfl ?_
  refine a_aload_n (q := 0) C dX5_errorPosition_0 rfl rfl ?_
  refine a_iconst (v := (0 : Int32)) C dX5_errorPosition_1 rfl ?_
  refine a_puti (a := 109) C dX5_errorPosition_2 fp_RX5_39 rfl rfl rfl rfl ?_
  refine a_aload_n (q := 0) C dX5_errorPosition_5 rfl rfl ?_
  refine a_geti (a := 109) (x := (V 109 12)) C dX5_errorPosition_6 fl_RX5_25 rfl rfl rfl ?_
  obtain ⟨rfl, rfl⟩ := ret2 h
  exact a_iret C dX5_errorPosition_9 rfl (by decide) rfl rfl
set_option maxRecDepth 20000 in
set_option maxHeartbeats 4000000 in
theorem w_X5_refusal_13 {p : Program} {l : Launch} {e : Env} {s : State} {m : MethodId} {args : Array Value} {below : List Frame} {meth : Method} {c : Code} {D : va_G} {cs : Nat → ClassId} {ad : Nat → Nat} {b0 : Nat} (C : Ctx p l s m args meth c D cs ad b0 RX5 cX5_refusal 2 (some .int)) (hT : ∀ x ∈ c.exceptionTable.toList, False)    {r9 : Int32} {W9 : VT}     :
    ∀ (x1 s0 : Int32) (V : VT), d_X5_refusal_13 x1 s0 V = some (r9, W9) → AW p l e (rmOf 3 0) s m args below meth c D cs ad b0 (QF below D cs ad b0 W9 ((rI r9) ad) args s 0) 2 0 V [(0, .ref (ad 109)), (1, .int x1)] [.int s0, .ref (ad 109)] 13 := by
  intro x1 s0 V h
  unfold d_X5_refusal_13 at h
  obtain ⟨r3, V2, g1, h⟩ := bw_spec h
  refine a_cVi (a := 109) (st := []) C dX5_refusal_13 cv_RX5_71 (w_X5_fails s0  V r3 V2 g1) rfl rfl rfl rfl rfl ⟨Nat.le_of_ble_eq_true rfl, Nat.le_of_ble_eq_true rfl, Nat.le_of_ble_eq_true rfl, Nat.le_of_ble_eq_true rfl⟩ (Nat.le_of_ble_eq_true rfl) ?_
  refine a_if_eq (tgt := 23) C dX5_refusal_16 (by decide) (fun c4 => ?_) (fun c4 => ?_)
  · have h := it_t c4 h
    refine a_iload_n (q := 1) C dX5_refusal_23 rfl rfl ?_
    refine a_if_eq (tgt := 34) C dX5_refusal_24 (by decide) (fun c5 => ?_) (fun c5 => ?_)
    · have h := it_t c5 h
      refine a_aload_n (q := 0) C dX5_refusal_34 rfl rfl ?_
      refine a_geti (a := 109) (x := (V2 109 8)) C dX5_refusal_35 fl_RX5_42 rfl rfl rfl ?_
      obtain ⟨rfl, rfl⟩ := ret2 h
      exact a_iret C dX5_refusal_38 rfl (by decide) rfl rfl
    · have h := it_f c5 h
      refine a_aload_n (q := 0) C dX5_refusal_27 rfl rfl ?_
      refine a_geti (a := 109) (x := (V2 109 9)) C dX5_refusal_28 fl_RX5_45 rfl rfl rfl ?_
      refine a_goto (tgt := 38) C dX5_refusal_31 (by decide) ?_
      obtain ⟨rfl, rfl⟩ := ret2 h
      exact a_iret C dX5_refusal_38 rfl (by decide) rfl rfl
  · have h := it_f c4 h
    refine a_iconst (v := (0 : Int32)) C dX5_refusal_19 rfl ?_
    refine a_goto (tgt := 38) C dX5_refusal_20 (by decide) ?_
    obtain ⟨rfl, rfl⟩ := ret2 h
    exact a_iret C dX5_refusal_38 rfl (by decide) rfl rfl
set_option maxRecDepth 20000 in
set_option maxHeartbeats 4000000 in
theorem w_X5_refusal (x1 : Int32)  (V : VT) (r9 : Int32) (W9 : VT) (h : d_X5_refusal x1 V = some (r9, W9)) : AM 3 0 yX5_refusal (.code yX5_refusal cX5_refusal 2 (some .int)) (fun ad => [.ref (ad 109), .int x1]) V W9 (rI r9) := by
  unfold d_X5_refusal at h
  refine AM.of (by decide +kernel) (fun ad => Nat.le_of_ble_eq_true rfl) (fun {p l e s m args below meth c D cs ad b0} C hT => ?_)
  have C : Ctx p l s m args meth c D cs ad b0 RX5 cX5_refusal 2 (some .int) := C
  refine a_sub (lv' := [(0, .ref (ad 109)), (1, .int x1)]) [0, 1] rfl ?_
  refine a_aload_n (q := 0) C dX5_refusal_0 rfl rfl ?_
  refine a_aload_n (q := 0) C dX5_refusal_1 rfl rfl ?_
  refine a_geti (a := 109) (x := (V 109 8)) C dX5_refusal_2 fl_RX5_42 rfl rfl rfl ?_
  refine a_if_ne (tgt := 12) C dX5_refusal_5 (by decide) (fun c1 => ?_) (fun c1 => ?_)
  · have h := it_f c1 h
    refine a_iconst (v := (0 : Int32)) C dX5_refusal_12 rfl ?_
    refine a_sub (lv' := [(0, .ref (ad 109)), (1, .int x1)]) [0, 1] rfl ?_
    exact w_X5_refusal_13 C hT x1 (0 : Int32) V h
  · have h := it_t c1 h
    refine a_iconst (v := (1 : Int32)) C dX5_refusal_8 rfl ?_
    refine a_goto (tgt := 13) C dX5_refusal_9 (by decide) ?_
    refine a_sub (lv' := [(0, .ref (ad 109)), (1, .int x1)]) [0, 1] rfl ?_
    exact w_X5_refusal_13 C hT x1 (1 : Int32) V h
set_option maxRecDepth 20000 in
set_option maxHeartbeats 4000000 in
theorem w_X5_sumOf_4 {p : Program} {l : Launch} {e : Env} {s : State} {m : MethodId} {args : Array Value} {below : List Frame} {meth : Method} {c : Code} {D : va_G} {cs : Nat → ClassId} {ad : Nat → Nat} {b0 : Nat} (C : Ctx p l s m args meth c D cs ad b0 RX5 cX5_sumOf 4 (some .int)) (hT : ∀ x ∈ c.exceptionTable.toList, False)   {V : VT} {r9 : Int32}     :
    ∀ (x1 x2 x3 : Int32) , d_X5_sumOf_4 V x1 x2 x3 = some r9 → AW p l e (rmOf 2 0) s m args below meth c D cs ad b0 (QF below D cs ad b0 V ((rI r9) ad) args s 0) 4 0 V [(0, .ref (ad 109)), (1, .int x1), (2, .int x2), (3, .int x3)] [] 4 := by
  refine lo3_ind (P := fun x1 x2 x3 => AW p l e (rmOf 2 0) s m args below meth c D cs ad b0 (QF below D cs ad b0 V ((rI r9) ad) args s 0) 4 0 V [(0, .ref (ad 109)), (1, .int x1), (2, .int x2), (3, .int x3)] [] 4) ?_ FU
  intro k4 hk4 x1 x2 x3 h
  unfold d_X5_sumOf_4b at h
  refine a_iload_n (q := 3) C dX5_sumOf_4 rfl rfl ?_
  refine a_iconst (v := (5 : Int32)) C dX5_sumOf_5 rfl ?_
  refine a_icmp_ge (tgt := 26) C dX5_sumOf_6 (by decide) (fun c1 => ?_) (fun c1 => ?_)
  · have h := it_t c1 h
    refine a_iload_n (q := 2) C dX5_sumOf_26 rfl rfl ?_
    obtain rfl := ret1 h
    exact a_iret C dX5_sumOf_27 rfl (by decide) rfl rfl
  · have h := it_f c1 h
    refine a_iload_n (q := 2) C dX5_sumOf_9 rfl rfl ?_
    refine a_aload_n (q := 0) C dX5_sumOf_10 rfl rfl ?_
    refine a_getr (a := 109) (t := 110) C dX5_sumOf_11 fl_RX5_7 rfl rfl ?_
    refine a_iload_n (q := 1) C dX5_sumOf_14 rfl rfl ?_
    refine a_iload_n (q := 3) C dX5_sumOf_15 rfl rfl ?_
    refine a_iadd C dX5_sumOf_16 ?_
    obtain ⟨z2, h⟩ := asr_spec h
    refine a_iald (a := 110) (x := (V 110 (x1 + x3).toNatClampNeg)) C dX5_sumOf_17 rfl (inb_in z2) rfl ?_
    refine a_iadd C dX5_sumOf_18 ?_
    refine a_istore_n (lv' := [(2, .int (x2 + (V 110 (x1 + x3).toNatClampNeg))), (0, .ref (ad 109)), (1, .int x1), (3, .int x3)]) C dX5_sumOf_19 rfl (by decide) rfl ?_
    refine a_iinc (q := 3) (v := (x3 + (1 : Int32))) (lv' := [(3, .int (x3 + (1 : Int32))), (2, .int (x2 + (V 110 (x1 + x3).toNatClampNeg))), (0, .ref (ad 109)), (1, .int x1)]) C dX5_sumOf_20 rfl rfl (by decide) rfl ?_
    refine a_goto (tgt := 4) C dX5_sumOf_23 (by decide) ?_
    refine a_sub (lv' := [(0, .ref (ad 109)), (1, .int x1), (2, .int (x2 + (V 110 (x1 + x3).toNatClampNeg))), (3, .int (x3 + (1 : Int32)))]) [2, 3, 1, 0] rfl ?_
    exact hk4 x1 (x2 + (V 110 (x1 + x3).toNatClampNeg)) (x3 + (1 : Int32)) h
set_option maxRecDepth 20000 in
set_option maxHeartbeats 4000000 in
theorem w_X5_sumOf (x1 : Int32)  (V : VT) (r9 : Int32) (h : d_X5_sumOf x1 V = some r9) : AM 2 0 yX5_sumOf (.code yX5_sumOf cX5_sumOf 4 (some .int)) (fun ad => [.ref (ad 109), .int x1]) V V (rI r9) := by
  unfold d_X5_sumOf at h
  refine AM.of (by decide +kernel) (fun ad => Nat.le_of_ble_eq_true rfl) (fun {p l e s m args below meth c D cs ad b0} C hT => ?_)
  have C : Ctx p l s m args meth c D cs ad b0 RX5 cX5_sumOf 4 (some .int) := C
  refine a_sub (lv' := [(0, .ref (ad 109)), (1, .int x1)]) [0, 1] rfl ?_
  refine a_iconst (v := (0 : Int32)) C dX5_sumOf_0 rfl ?_
  refine a_istore_n (lv' := [(2, .int (0 : Int32)), (0, .ref (ad 109)), (1, .int x1)]) C dX5_sumOf_1 rfl (by decide) rfl ?_
  refine a_iconst (v := (0 : Int32)) C dX5_sumOf_2 rfl ?_
  refine a_istore_n (lv' := [(3, .int (0 : Int32)), (2, .int (0 : Int32)), (0, .ref (ad 109)), (1, .int x1)]) C dX5_sumOf_3 rfl (by decide) rfl ?_
  refine a_sub (lv' := [(0, .ref (ad 109)), (1, .int x1), (2, .int (0 : Int32)), (3, .int (0 : Int32))]) [2, 3, 1, 0] rfl ?_
  exact w_X5_sumOf_4 C hT x1 (0 : Int32) (0 : Int32) h
set_option maxRecDepth 20000 in
set_option maxHeartbeats 4000000 in
theorem w_X5_paintedMany   (V : VT) (r9 : Int32) (h : d_X5_paintedMany  V = some r9) : AM 5 0 yX5_paintedMany (.code yX5_paintedMany cX5_paintedMany 1 (some .int)) (fun ad => [.ref (ad 109)]) V V (rI r9) := by
  unfold d_X5_paintedMany at h
  refine AM.of (by decide +kernel) (fun ad => Nat.le_of_ble_eq_true rfl) (fun {p l e s m args below meth c D cs ad b0} C hT => ?_)
  have C : Ctx p l s m args meth c D cs ad b0 RX5 cX5_paintedMany 1 (some .int) := C
  refine a_sub (lv' := [(0, .ref (ad 109))]) [0] rfl ?_
  refine a_aload_n (q := 0) C dX5_paintedMany_0 rfl rfl ?_
  refine a_getr (a := 109) (t := 110) C dX5_paintedMany_1 fl_RX5_7 rfl rfl ?_
  refine a_iconst (v := (0 : Int32)) C dX5_paintedMany_4 rfl ?_
  refine a_iald (a := 110) (x := (V 110 0)) C dX5_paintedMany_5 rfl (in_lit (by decide)) rfl ?_
  refine a_aload_n (q := 0) C dX5_paintedMany_6 rfl rfl ?_
  obtain ⟨r2, g1, h⟩ := bd_spec h
  refine a_cVi (a := 109) (st := [.int (V 110 0)]) C dX5_paintedMany_7 cv_RX5_151 (w_X5_left   V r2 g1) rfl rfl rfl rfl rfl ⟨Nat.le_of_ble_eq_true rfl, Nat.le_of_ble_eq_true rfl, Nat.le_of_ble_eq_true rfl, Nat.le_of_ble_eq_true rfl⟩ (Nat.le_of_ble_eq_true rfl) ?_
  refine a_isub C dX5_paintedMany_10 ?_
  obtain rfl := ret1 h
  exact a_iret C dX5_paintedMany_11 rfl (by decide) rfl rfl
set_option maxRecDepth 20000 in
set_option maxHeartbeats 4000000 in
theorem w_X5_stuckMany_4 {p : Program} {l : Launch} {e : Env} {s : State} {m : MethodId} {args : Array Value} {below : List Frame} {meth : Method} {c : Code} {D : va_G} {cs : Nat → ClassId} {ad : Nat → Nat} {b0 : Nat} (C : Ctx p l s m args meth c D cs ad b0 RX5 cX5_stuckMany 3 (some .int)) (hT : ∀ x ∈ c.exceptionTable.toList, False)   {V : VT} {r9 : Int32}     :
    ∀ (x1 x2 : Int32) , d_X5_stuckMany_4 V x1 x2 = some r9 → AW p l e (rmOf 7 0) s m args below meth c D cs ad b0 (QF below D cs ad b0 V ((rI r9) ad) args s 0) 3 0 V [(0, .ref (ad 109)), (1, .int x1), (2, .int x2)] [] 4 := by
  refine lo2_ind (P := fun x1 x2 => AW p l e (rmOf 7 0) s m args below meth c D cs ad b0 (QF below D cs ad b0 V ((rI r9) ad) args s 0) 3 0 V [(0, .ref (ad 109)), (1, .int x1), (2, .int x2)] [] 4) ?_ FU
  intro k4 hk4 x1 x2 h
  unfold d_X5_stuckMany_4b at h
  refine a_iload_n (q := 2) C dX5_stuckMany_4 rfl rfl ?_
  refine a_aload_n (q := 0) C dX5_stuckMany_5 rfl rfl ?_
  refine a_getr (a := 109) (t := 110) C dX5_stuckMany_6 fl_RX5_7 rfl rfl ?_
  refine a_iconst (v := (0 : Int32)) C dX5_stuckMany_9 rfl ?_
  refine a_iald (a := 110) (x := (V 110 0)) C dX5_stuckMany_10 rfl (in_lit (by decide)) rfl ?_
  refine a_icmp_ge (tgt := 36) C dX5_stuckMany_11 (by decide) (fun c1 => ?_) (fun c1 => ?_)
  · have h := it_t c1 h
    refine a_iload_n (q := 1) C dX5_stuckMany_36 rfl rfl ?_
    obtain rfl := ret1 h
    exact a_iret C dX5_stuckMany_37 rfl (by decide) rfl rfl
  · have h := it_f c1 h
    refine a_iload_n (q := 1) C dX5_stuckMany_14 rfl rfl ?_
    refine a_aload_n (q := 0) C dX5_stuckMany_15 rfl rfl ?_
    refine a_iload_n (q := 2) C dX5_stuckMany_16 rfl rfl ?_
    obtain ⟨r3, g2, h⟩ := bd_spec h
    refine a_cVi (a := 109) (st := [.int x1]) C dX5_stuckMany_17 cv_RX5_132 (w_X5_isStuck x2  V r3 g2) rfl rfl rfl rfl rfl ⟨Nat.le_of_ble_eq_true rfl, Nat.le_of_ble_eq_true rfl, Nat.le_of_ble_eq_true rfl, Nat.le_of_ble_eq_true rfl⟩ (Nat.le_of_ble_eq_true rfl) ?_
    refine a_if_eq (tgt := 27) C dX5_stuckMany_20 (by decide) (fun c4 => ?_) (fun c4 => ?_)
    · have h := it_t c4 h
      refine a_iconst (v := (0 : Int32)) C dX5_stuckMany_27 rfl ?_
      refine a_iadd C dX5_stuckMany_28 ?_
      refine a_istore_n (lv' := [(1, .int (x1 + (0 : Int32))), (0, .ref (ad 109)), (2, .int x2)]) C dX5_stuckMany_29 rfl (by decide) rfl ?_
      refine a_iinc (q := 2) (v := (x2 + (1 : Int32))) (lv' := [(2, .int (x2 + (1 : Int32))), (1, .int (x1 + (0 : Int32))), (0, .ref (ad 109))]) C dX5_stuckMany_30 rfl rfl (by decide) rfl ?_
      refine a_goto (tgt := 4) C dX5_stuckMany_33 (by decide) ?_
      refine a_sub (lv' := [(0, .ref (ad 109)), (1, .int (x1 + (0 : Int32))), (2, .int (x2 + (1 : Int32)))]) [2, 1, 0] rfl ?_
      exact hk4 (x1 + (0 : Int32)) (x2 + (1 : Int32)) h
    · have h := it_f c4 h
      refine a_iconst (v := (1 : Int32)) C dX5_stuckMany_23 rfl ?_
      refine a_goto (tgt := 28) C dX5_stuckMany_24 (by decide) ?_
      refine a_iadd C dX5_stuckMany_28 ?_
      refine a_istore_n (lv' := [(1, .int (x1 + (1 : Int32))), (0, .ref (ad 109)), (2, .int x2)]) C dX5_stuckMany_29 rfl (by decide) rfl ?_
      refine a_iinc (q := 2) (v := (x2 + (1 : Int32))) (lv' := [(2, .int (x2 + (1 : Int32))), (1, .int (x1 + (1 : Int32))), (0, .ref (ad 109))]) C dX5_stuckMany_30 rfl rfl (by decide) rfl ?_
      refine a_goto (tgt := 4) C dX5_stuckMany_33 (by decide) ?_
      refine a_sub (lv' := [(0, .ref (ad 109)), (1, .int (x1 + (1 : Int32))), (2, .int (x2 + (1 : Int32)))]) [2, 1, 0] rfl ?_
      exact hk4 (x1 + (1 : Int32)) (x2 + (1 : Int32)) h
set_option maxRecDepth 20000 in
set_option maxHeartbeats 4000000 in
theorem w_X5_stuckMany   (V : VT) (r9 : Int32) (h : d_X5_stuckMany  V = some r9) : AM 7 0 yX5_stuckMany (.code yX5_stuckMany cX5_stuckMany 3 (some .int)) (fun ad => [.ref (ad 109)]) V V (rI r9) := by
  unfold d_X5_stuckMany at h
  refine AM.of (by decide +kernel) (fun ad => Nat.le_of_ble_eq_true rfl) (fun {p l e s m args below meth c D cs ad b0} C hT => ?_)
  have C : Ctx p l s m args meth c D cs ad b0 RX5 cX5_stuckMany 3 (some .int) := C
  refine a_sub (lv' := [(0, .ref (ad 109))]) [0] rfl ?_
  refine a_iconst (v := (0 : Int32)) C dX5_stuckMany_0 rfl ?_
  refine a_istore_n (lv' := [(1, .int (0 : Int32)), (0, .ref (ad 109))]) C dX5_stuckMany_1 rfl (by decide) rfl ?_
  refine a_iconst (v := (0 : Int32)) C dX5_stuckMany_2 rfl ?_
  refine a_istore_n (lv' := [(2, .int (0 : Int32)), (1, .int (0 : Int32)), (0, .ref (ad 109))]) C dX5_stuckMany_3 rfl (by decide) rfl ?_
  refine a_sub (lv' := [(0, .ref (ad 109)), (1, .int (0 : Int32)), (2, .int (0 : Int32))]) [2, 1, 0] rfl ?_
  exact w_X5_stuckMany_4 C hT (0 : Int32) (0 : Int32) h
set_option maxRecDepth 20000 in
set_option maxHeartbeats 4000000 in
theorem w_X5_wishes_4 {p : Program} {l : Launch} {e : Env} {s : State} {m : MethodId} {args : Array Value} {below : List Frame} {meth : Method} {c : Code} {D : va_G} {cs : Nat → ClassId} {ad : Nat → Nat} {b0 : Nat} (C : Ctx p l s m args meth c D cs ad b0 RX5 cX5_wishes 4 (some .int)) (hT : ∀ x ∈ c.exceptionTable.toList, False)   {V : VT} {r9 : Int32}     :
    ∀ (x1 x2 x3 : Int32) , d_X5_wishes_4 V x1 x2 x3 = some r9 → AW p l e (rmOf 5 0) s m args below meth c D cs ad b0 (QF below D cs ad b0 V ((rI r9) ad) args s 0) 4 0 V [(0, .ref (ad 109)), (1, .int x1), (2, .int x2), (3, .int x3)] [] 4 := by
  refine lo3_ind (P := fun x1 x2 x3 => AW p l e (rmOf 5 0) s m args below meth c D cs ad b0 (QF below D cs ad b0 V ((rI r9) ad) args s 0) 4 0 V [(0, .ref (ad 109)), (1, .int x1), (2, .int x2), (3, .int x3)] [] 4) ?_ FU
  intro k4 hk4 x1 x2 x3 h
  unfold d_X5_wishes_4b at h
  refine a_iload_n (q := 3) C dX5_wishes_4 rfl rfl ?_
  refine a_aload_n (q := 0) C dX5_wishes_5 rfl rfl ?_
  refine a_getr (a := 109) (t := 110) C dX5_wishes_6 fl_RX5_7 rfl rfl ?_
  refine a_iconst (v := (0 : Int32)) C dX5_wishes_9 rfl ?_
  refine a_iald (a := 110) (x := (V 110 0)) C dX5_wishes_10 rfl (in_lit (by decide)) rfl ?_
  refine a_icmp_ge (tgt := 49) C dX5_wishes_11 (by decide) (fun c1 => ?_) (fun c1 => ?_)
  · have h := it_t c1 h
    refine a_iload_n (q := 2) C dX5_wishes_49 rfl rfl ?_
    obtain rfl := ret1 h
    exact a_iret C dX5_wishes_50 rfl (by decide) rfl rfl
  · have h := it_f c1 h
    refine a_iload_n (q := 2) C dX5_wishes_14 rfl rfl ?_
    refine a_aload_n (q := 0) C dX5_wishes_15 rfl rfl ?_
    refine a_iload_n (q := 3) C dX5_wishes_16 rfl rfl ?_
    refine a_iconst (v := (2 : Int32)) C dX5_wishes_17 rfl ?_
    obtain ⟨r3, g2, h⟩ := bd_spec h
    refine a_cVi (a := 109) (st := [.int x2]) C dX5_wishes_18 cv_RX5_63 (w_X5_of x3 (2 : Int32)  V r3 g2) rfl rfl rfl rfl rfl ⟨Nat.le_of_ble_eq_true rfl, Nat.le_of_ble_eq_true rfl, Nat.le_of_ble_eq_true rfl, Nat.le_of_ble_eq_true rfl⟩ (Nat.le_of_ble_eq_true rfl) ?_
    refine a_if_lt (tgt := 40) C dX5_wishes_21 (by decide) (fun c4 => ?_) (fun c4 => ?_)
    · have h := it_t c4 h
      refine a_iconst (v := (0 : Int32)) C dX5_wishes_40 rfl ?_
      refine a_iadd C dX5_wishes_41 ?_
      refine a_istore_n (lv' := [(2, .int (x2 + (0 : Int32))), (0, .ref (ad 109)), (1, .int x1), (3, .int x3)]) C dX5_wishes_42 rfl (by decide) rfl ?_
      refine a_iinc (q := 3) (v := (x3 + (1 : Int32))) (lv' := [(3, .int (x3 + (1 : Int32))), (2, .int (x2 + (0 : Int32))), (0, .ref (ad 109)), (1, .int x1)]) C dX5_wishes_43 rfl rfl (by decide) rfl ?_
      refine a_goto (tgt := 4) C dX5_wishes_46 (by decide) ?_
      refine a_sub (lv' := [(0, .ref (ad 109)), (1, .int x1), (2, .int (x2 + (0 : Int32))), (3, .int (x3 + (1 : Int32)))]) [2, 3, 1, 0] rfl ?_
      exact hk4 x1 (x2 + (0 : Int32)) (x3 + (1 : Int32)) h
    · have h := it_f c4 h
      refine a_iload_n (q := 1) C dX5_wishes_24 rfl rfl ?_
      refine a_if_eq (tgt := 36) C dX5_wishes_25 (by decide) (fun c5 => ?_) (fun c5 => ?_)
      · have h := it_t c5 h
        refine a_iconst (v := (1 : Int32)) C dX5_wishes_36 rfl ?_
        refine a_goto (tgt := 41) C dX5_wishes_37 (by decide) ?_
        refine a_iadd C dX5_wishes_41 ?_
        refine a_istore_n (lv' := [(2, .int (x2 + (1 : Int32))), (0, .ref (ad 109)), (1, .int x1), (3, .int x3)]) C dX5_wishes_42 rfl (by decide) rfl ?_
        refine a_iinc (q := 3) (v := (x3 + (1 : Int32))) (lv' := [(3, .int (x3 + (1 : Int32))), (2, .int (x2 + (1 : Int32))), (0, .ref (ad 109)), (1, .int x1)]) C dX5_wishes_43 rfl rfl (by decide) rfl ?_
        refine a_goto (tgt := 4) C dX5_wishes_46 (by decide) ?_
        refine a_sub (lv' := [(0, .ref (ad 109)), (1, .int x1), (2, .int (x2 + (1 : Int32))), (3, .int (x3 + (1 : Int32)))]) [2, 3, 1, 0] rfl ?_
        exact hk4 x1 (x2 + (1 : Int32)) (x3 + (1 : Int32)) h
      · have h := it_f c5 h
        refine a_aload_n (q := 0) C dX5_wishes_28 rfl rfl ?_
        refine a_iload_n (q := 3) C dX5_wishes_29 rfl rfl ?_
        obtain ⟨r7, g6, h⟩ := bd_spec h
        refine a_cVi (a := 109) (st := [.int x2]) C dX5_wishes_30 cv_RX5_141 (w_X5_isFulfilled x3  V r7 g6) rfl rfl rfl rfl rfl ⟨Nat.le_of_ble_eq_true rfl, Nat.le_of_ble_eq_true rfl, Nat.le_of_ble_eq_true rfl, Nat.le_of_ble_eq_true rfl⟩ (Nat.le_of_ble_eq_true rfl) ?_
        refine a_if_eq (tgt := 40) C dX5_wishes_33 (by decide) (fun c8 => ?_) (fun c8 => ?_)
        · have h := it_t c8 h
          refine a_iconst (v := (0 : Int32)) C dX5_wishes_40 rfl ?_
          refine a_iadd C dX5_wishes_41 ?_
          refine a_istore_n (lv' := [(2, .int (x2 + (0 : Int32))), (0, .ref (ad 109)), (1, .int x1), (3, .int x3)]) C dX5_wishes_42 rfl (by decide) rfl ?_
          refine a_iinc (q := 3) (v := (x3 + (1 : Int32))) (lv' := [(3, .int (x3 + (1 : Int32))), (2, .int (x2 + (0 : Int32))), (0, .ref (ad 109)), (1, .int x1)]) C dX5_wishes_43 rfl rfl (by decide) rfl ?_
          refine a_goto (tgt := 4) C dX5_wishes_46 (by decide) ?_
          refine a_sub (lv' := [(0, .ref (ad 109)), (1, .int x1), (2, .int (x2 + (0 : Int32))), (3, .int (x3 + (1 : Int32)))]) [2, 3, 1, 0] rfl ?_
          exact hk4 x1 (x2 + (0 : Int32)) (x3 + (1 : Int32)) h
        · have h := it_f c8 h
          refine a_iconst (v := (1 : Int32)) C dX5_wishes_36 rfl ?_
          refine a_goto (tgt := 41) C dX5_wishes_37 (by decide) ?_
          refine a_iadd C dX5_wishes_41 ?_
          refine a_istore_n (lv' := [(2, .int (x2 + (1 : Int32))), (0, .ref (ad 109)), (1, .int x1), (3, .int x3)]) C dX5_wishes_42 rfl (by decide) rfl ?_
          refine a_iinc (q := 3) (v := (x3 + (1 : Int32))) (lv' := [(3, .int (x3 + (1 : Int32))), (2, .int (x2 + (1 : Int32))), (0, .ref (ad 109)), (1, .int x1)]) C dX5_wishes_43 rfl rfl (by decide) rfl ?_
          refine a_goto (tgt := 4) C dX5_wishes_46 (by decide) ?_
          refine a_sub (lv' := [(0, .ref (ad 109)), (1, .int x1), (2, .int (x2 + (1 : Int32))), (3, .int (x3 + (1 : Int32)))]) [2, 3, 1, 0] rfl ?_
          exact hk4 x1 (x2 + (1 : Int32)) (x3 + (1 : Int32)) h
set_option maxRecDepth 20000 in
set_option maxHeartbeats 4000000 in
theorem w_X5_wishes (x1 : Int32)  (V : VT) (r9 : Int32) (h : d_X5_wishes x1 V = some r9) : AM 5 0 yX5_wishes (.code yX5_wishes cX5_wishes 4 (some .int)) (fun ad => [.ref (ad 109), .int x1]) V V (rI r9) := by
  unfold d_X5_wishes at h
  refine AM.of (by decide +kernel) (fun ad => Nat.le_of_ble_eq_true rfl) (fun {p l e s m args below meth c D cs ad b0} C hT => ?_)
  have C : Ctx p l s m args meth c D cs ad b0 RX5 cX5_wishes 4 (some .int) := C
  refine a_sub (lv' := [(0, .ref (ad 109)), (1, .int x1)]) [0, 1] rfl ?_
  refine a_iconst (v := (0 : Int32)) C dX5_wishes_0 rfl ?_
  refine a_istore_n (lv' := [(2, .int (0 : Int32)), (0, .ref (ad 109)), (1, .int x1)]) C dX5_wishes_1 rfl (by decide) rfl ?_
  refine a_iconst (v := (0 : Int32)) C dX5_wishes_2 rfl ?_
  refine a_istore_n (lv' := [(3, .int (0 : Int32)), (2, .int (0 : Int32)), (0, .ref (ad 109)), (1, .int x1)]) C dX5_wishes_3 rfl (by decide) rfl ?_
  refine a_sub (lv' := [(0, .ref (ad 109)), (1, .int x1), (2, .int (0 : Int32)), (3, .int (0 : Int32))]) [2, 3, 1, 0] rfl ?_
  exact w_X5_wishes_4 C hT x1 (0 : Int32) (0 : Int32) h
set_option maxRecDepth 20000 in
set_option maxHeartbeats 4000000 in
theorem w_X5_account_16 {p : Program} {l : Launch} {e : Env} {s : State} {m : MethodId} {args : Array Value} {below : List Frame} {meth : Method} {c : Code} {D : va_G} {cs : Nat → ClassId} {ad : Nat → Nat} {b0 : Nat} (C : Ctx p l s m args meth c D cs ad b0 RX5 cX5_account 2 (some .int)) (hT : ∀ x ∈ c.exceptionTable.toList, False)    {r9 : Int32} {W9 : VT}     :
    ∀ (x1 s0 : Int32) (V : VT), d_X5_account_16 x1 s0 V = some (r9, W9) → AW p l e (rmOf 8 0) s m args below meth c D cs ad b0 (QF below D cs ad b0 W9 ((rI r9) ad) args s 0) 2 0 V [(0, .ref (ad 109)), (1, .int x1)] [.int s0, .ref (ad 109)] 16 := by
  intro x1 s0 V h
  unfold d_X5_account_16 at h
  obtain ⟨r3, V2, g1, h⟩ := bw_spec h
  refine a_cVi (a := 109) (st := []) C dX5_account_16 cv_RX5_71 (w_X5_fails s0  V r3 V2 g1) rfl rfl rfl rfl rfl ⟨Nat.le_of_ble_eq_true rfl, Nat.le_of_ble_eq_true rfl, Nat.le_of_ble_eq_true rfl, Nat.le_of_ble_eq_true rfl⟩ (Nat.le_of_ble_eq_true rfl) ?_
  refine a_if_eq (tgt := 24) C dX5_account_19 (by decide) (fun c4 => ?_) (fun c4 => ?_)
  · have h := it_t c4 h
    refine a_iload_n (q := 1) C dX5_account_24 rfl rfl ?_
    by_cases c5 : x1 = (0 : Int32)
    · have h := it_t c5 h
      refine a_tswIn (tgt := 88) (v := (0 : Int32)) C dX5_account_25 c5 (by decide) (by decide) rfl (by decide) ?_
      refine a_aload_n (q := 0) C dX5_account_88 rfl rfl ?_
      refine a_getr (a := 109) (t := 110) C dX5_account_89 fl_RX5_7 rfl rfl ?_
      refine a_iconst (v := (0 : Int32)) C dX5_account_92 rfl ?_
      refine a_iald (a := 110) (x := (V2 110 0)) C dX5_account_93 rfl (in_lit (by decide)) rfl ?_
      obtain ⟨rfl, rfl⟩ := ret2 h
      exact a_iret C dX5_account_94 rfl (by decide) rfl rfl
    · have h := it_f c5 h
      by_cases c6 : x1 = (1 : Int32)
      · have h := it_t c6 h
        refine a_tswIn (tgt := 95) (v := (1 : Int32)) C dX5_account_25 c6 (by decide) (by decide) rfl (by decide) ?_
        refine a_aload_n (q := 0) C dX5_account_95 rfl rfl ?_
        obtain ⟨r8, g7, h⟩ := bd_spec h
        refine a_cVi (a := 109) (st := []) C dX5_account_96 cv_RX5_93 (w_X5_borders   V2 r8 g7) rfl rfl rfl rfl rfl ⟨Nat.le_of_ble_eq_true rfl, Nat.le_of_ble_eq_true rfl, Nat.le_of_ble_eq_true rfl, Nat.le_of_ble_eq_true rfl⟩ (Nat.le_of_ble_eq_true rfl) ?_
        obtain ⟨rfl, rfl⟩ := ret2 h
        exact a_iret C dX5_account_99 rfl (by decide) rfl rfl
      · have h := it_f c6 h
        by_cases c9 : x1 = (2 : Int32)
        · have h := it_t c9 h
          refine a_tswIn (tgt := 100) (v := (2 : Int32)) C dX5_account_25 c9 (by decide) (by decide) rfl (by decide) ?_
          refine a_aload_n (q := 0) C dX5_account_100 rfl rfl ?_
          refine a_getr (a := 109) (t := 110) C dX5_account_101 fl_RX5_7 rfl rfl ?_
          refine a_bipush (v := (36 : Int32)) C dX5_account_104 rfl ?_
          refine a_iald (a := 110) (x := (V2 110 36)) C dX5_account_106 rfl (in_lit (by decide)) rfl ?_
          obtain ⟨rfl, rfl⟩ := ret2 h
          exact a_iret C dX5_account_107 rfl (by decide) rfl rfl
        · have h := it_f c9 h
          by_cases c10 : x1 = (3 : Int32)
          · have h := it_t c10 h
            refine a_tswIn (tgt := 108) (v := (3 : Int32)) C dX5_account_25 c10 (by decide) (by decide) rfl (by decide) ?_
            refine a_aload_n (q := 0) C dX5_account_108 rfl rfl ?_
            obtain ⟨r12, g11, h⟩ := bd_spec h
            refine a_cVi (a := 109) (st := []) C dX5_account_109 cv_RX5_222 (w_X5_paintedMany   V2 r12 g11) rfl rfl rfl rfl rfl ⟨Nat.le_of_ble_eq_true rfl, Nat.le_of_ble_eq_true rfl, Nat.le_of_ble_eq_true rfl, Nat.le_of_ble_eq_true rfl⟩ (Nat.le_of_ble_eq_true rfl) ?_
            obtain ⟨rfl, rfl⟩ := ret2 h
            exact a_iret C dX5_account_112 rfl (by decide) rfl rfl
          · have h := it_f c10 h
            by_cases c13 : x1 = (4 : Int32)
            · have h := it_t c13 h
              refine a_tswIn (tgt := 113) (v := (4 : Int32)) C dX5_account_25 c13 (by decide) (by decide) rfl (by decide) ?_
              refine a_aload_n (q := 0) C dX5_account_113 rfl rfl ?_
              obtain ⟨r15, g14, h⟩ := bd_spec h
              refine a_cVi (a := 109) (st := []) C dX5_account_114 cv_RX5_225 (w_X5_stuckMany   V2 r15 g14) rfl rfl rfl rfl rfl ⟨Nat.le_of_ble_eq_true rfl, Nat.le_of_ble_eq_true rfl, Nat.le_of_ble_eq_true rfl, Nat.le_of_ble_eq_true rfl⟩ (Nat.le_of_ble_eq_true rfl) ?_
              obtain ⟨rfl, rfl⟩ := ret2 h
              exact a_iret C dX5_account_117 rfl (by decide) rfl rfl
            · have h := it_f c13 h
              by_cases c16 : x1 = (5 : Int32)
              · have h := it_t c16 h
                refine a_tswIn (tgt := 118) (v := (5 : Int32)) C dX5_account_25 c16 (by decide) (by decide) rfl (by decide) ?_
                refine a_aload_n (q := 0) C dX5_account_118 rfl rfl ?_
                refine a_getr (a := 109) (t := 110) C dX5_account_119 fl_RX5_7 rfl rfl ?_
                refine a_bipush (v := (47 : Int32)) C dX5_account_122 rfl ?_
                refine a_iald (a := 110) (x := (V2 110 47)) C dX5_account_124 rfl (in_lit (by decide)) rfl ?_
                obtain ⟨rfl, rfl⟩ := ret2 h
                exact a_iret C dX5_account_125 rfl (by decide) rfl rfl
              · have h := it_f c16 h
                by_cases c17 : x1 = (6 : Int32)
                · have h := it_t c17 h
                  refine a_tswIn (tgt := 126) (v := (6 : Int32)) C dX5_account_25 c17 (by decide) (by decide) rfl (by decide) ?_
                  refine a_aload_n (q := 0) C dX5_account_126 rfl rfl ?_
                  refine a_bipush (v := (37 : Int32)) C dX5_account_127 rfl ?_
                  obtain ⟨r19, g18, h⟩ := bd_spec h
                  refine a_cVi (a := 109) (st := []) C dX5_account_129 cv_RX5_228 (w_X5_sumOf (37 : Int32)  V2 r19 g18) rfl rfl rfl rfl rfl ⟨Nat.le_of_ble_eq_true rfl, Nat.le_of_ble_eq_true rfl, Nat.le_of_ble_eq_true rfl, Nat.le_of_ble_eq_true rfl⟩ (Nat.le_of_ble_eq_true rfl) ?_
                  obtain ⟨rfl, rfl⟩ := ret2 h
                  exact a_iret C dX5_account_132 rfl (by decide) rfl rfl
                · have h := it_f c17 h
                  by_cases c20 : x1 = (7 : Int32)
                  · have h := it_t c20 h
                    refine a_tswIn (tgt := 133) (v := (7 : Int32)) C dX5_account_25 c20 (by decide) (by decide) rfl (by decide) ?_
                    refine a_aload_n (q := 0) C dX5_account_133 rfl rfl ?_
                    refine a_bipush (v := (42 : Int32)) C dX5_account_134 rfl ?_
                    obtain ⟨r22, g21, h⟩ := bd_spec h
                    refine a_cVi (a := 109) (st := []) C dX5_account_136 cv_RX5_228 (w_X5_sumOf (42 : Int32)  V2 r22 g21) rfl rfl rfl rfl rfl ⟨Nat.le_of_ble_eq_true rfl, Nat.le_of_ble_eq_true rfl, Nat.le_of_ble_eq_true rfl, Nat.le_of_ble_eq_true rfl⟩ (Nat.le_of_ble_eq_true rfl) ?_
                    obtain ⟨rfl, rfl⟩ := ret2 h
                    exact a_iret C dX5_account_139 rfl (by decide) rfl rfl
                  · have h := it_f c20 h
                    by_cases c23 : x1 = (8 : Int32)
                    · have h := it_t c23 h
                      refine a_tswIn (tgt := 140) (v := (8 : Int32)) C dX5_account_25 c23 (by decide) (by decide) rfl (by decide) ?_
                      refine a_aload_n (q := 0) C dX5_account_140 rfl rfl ?_
                      refine a_getr (a := 109) (t := 110) C dX5_account_141 fl_RX5_7 rfl rfl ?_
                      refine a_bipush (v := (55 : Int32)) C dX5_account_144 rfl ?_
                      refine a_iald (a := 110) (x := (V2 110 55)) C dX5_account_146 rfl (in_lit (by decide)) rfl ?_
                      obtain ⟨rfl, rfl⟩ := ret2 h
                      exact a_iret C dX5_account_147 rfl (by decide) rfl rfl
                    · have h := it_f c23 h
                      by_cases c24 : x1 = (9 : Int32)
                      · have h := it_t c24 h
                        refine a_tswIn (tgt := 148) (v := (9 : Int32)) C dX5_account_25 c24 (by decide) (by decide) rfl (by decide) ?_
                        refine a_aload_n (q := 0) C dX5_account_148 rfl rfl ?_
                        refine a_iconst (v := (0 : Int32)) C dX5_account_149 rfl ?_
                        obtain ⟨r26, g25, h⟩ := bd_spec h
                        refine a_cVi (a := 109) (st := []) C dX5_account_150 cv_RX5_231 (w_X5_wishes (0 : Int32)  V2 r26 g25) rfl rfl rfl rfl rfl ⟨Nat.le_of_ble_eq_true rfl, Nat.le_of_ble_eq_true rfl, Nat.le_of_ble_eq_true rfl, Nat.le_of_ble_eq_true rfl⟩ (Nat.le_of_ble_eq_true rfl) ?_
                        obtain ⟨rfl, rfl⟩ := ret2 h
                        exact a_iret C dX5_account_153 rfl (by decide) rfl rfl
                      · have h := it_f c24 h
                        by_cases c27 : x1 = (10 : Int32)
                        · have h := it_t c27 h
                          refine a_tswIn (tgt := 154) (v := (10 : Int32)) C dX5_account_25 c27 (by decide) (by decide) rfl (by decide) ?_
                          refine a_aload_n (q := 0) C dX5_account_154 rfl rfl ?_
                          refine a_iconst (v := (1 : Int32)) C dX5_account_155 rfl ?_
                          obtain ⟨r29, g28, h⟩ := bd_spec h
                          refine a_cVi (a := 109) (st := []) C dX5_account_156 cv_RX5_231 (w_X5_wishes (1 : Int32)  V2 r29 g28) rfl rfl rfl rfl rfl ⟨Nat.le_of_ble_eq_true rfl, Nat.le_of_ble_eq_true rfl, Nat.le_of_ble_eq_true rfl, Nat.le_of_ble_eq_true rfl⟩ (Nat.le_of_ble_eq_true rfl) ?_
                          obtain ⟨rfl, rfl⟩ := ret2 h
                          exact a_iret C dX5_account_159 rfl (by decide) rfl rfl
                        · have h := it_f c27 h
                          by_cases c30 : x1 = (11 : Int32)
                          · have h := it_t c30 h
                            refine a_tswIn (tgt := 160) (v := (11 : Int32)) C dX5_account_25 c30 (by decide) (by decide) rfl (by decide) ?_
                            refine a_aload_n (q := 0) C dX5_account_160 rfl rfl ?_
                            refine a_geti (a := 109) (x := (V2 109 11)) C dX5_account_161 fl_RX5_170 rfl rfl rfl ?_
                            obtain ⟨rfl, rfl⟩ := ret2 h
                            exact a_iret C dX5_account_164 rfl (by decide) rfl rfl
                          · have h := it_f c30 h
                            refine a_tswOut (tgt := 165) C dX5_account_25 (by have q0 := lv_neT (a := 0) c5 rfl; have q1 := lv_neT (a := 1) c6 rfl; have q2 := lv_neT (a := 2) c9 rfl; have q3 := lv_neT (a := 3) c10 rfl; have q4 := lv_neT (a := 4) c13 rfl; have q5 := lv_neT (a := 5) c16 rfl; have q6 := lv_neT (a := 6) c17 rfl; have q7 := lv_neT (a := 7) c20 rfl; have q8 := lv_neT (a := 8) c23 rfl; have q9 := lv_neT (a := 9) c24 rfl; have q10 := lv_neT (a := 10) c27 rfl; have q11 := lv_neT (a := 11) c30 rfl; omega) (by decide) ?_
                            refine a_aload_n (q := 0) C dX5_account_165 rfl rfl ?_
                            refine a_geti (a := 109) (x := (V2 109 5)) C dX5_account_166 fl_RX5_52 rfl rfl rfl ?_
                            obtain ⟨rfl, rfl⟩ := ret2 h
                            exact a_iret C dX5_account_169 rfl (by decide) rfl rfl
  · have h := it_f c4 h
    refine a_iconst (v := (0 : Int32)) C dX5_account_22 rfl ?_
    obtain ⟨rfl, rfl⟩ := ret2 h
    exact a_iret C dX5_account_23 rfl (by decide) rfl rfl
set_option maxRecDepth 20000 in
set_option maxHeartbeats 4000000 in
theorem w_X5_account (x1 : Int32)  (V : VT) (r9 : Int32) (W9 : VT) (h : d_X5_account x1 V = some (r9, W9)) : AM 8 0 yX5_account (.code yX5_account cX5_account 2 (some .int)) (fun ad => [.ref (ad 109), .int x1]) V W9 (rI r9) := by
  unfold d_X5_account at h
  refine AM.of (by decide +kernel) (fun ad => Nat.le_of_ble_eq_true rfl) (fun {p l e s m args below meth c D cs ad b0} C hT => ?_)
  have C : Ctx p l s m args meth c D cs ad b0 RX5 cX5_account 2 (some .int) := C
  refine a_sub (lv' := [(0, .ref (ad 109)), (1, .int x1)]) [0, 1] rfl ?_
  refine a_aload_n (q := 0) C dX5_account_0 rfl rfl ?_
  refine a_iload_n (q := 1) C dX5_account_1 rfl rfl ?_
  refine a_iconst (v := (0 : Int32)) C dX5_account_2 rfl ?_
  refine a_bipush (v := (12 : Int32)) C dX5_account_3 rfl ?_
  obtain ⟨r2, g1, h⟩ := bd_spec h
  refine a_cSi (st := [.ref (ad 109)]) C dX5_account_5 cv_RX5_59 (w_X5_in x1 (0 : Int32) (12 : Int32)  V r2 g1) rfl rfl rfl ⟨Nat.le_of_ble_eq_true rfl, Nat.le_of_ble_eq_true rfl, Nat.le_of_ble_eq_true rfl, Nat.le_of_ble_eq_true rfl⟩ (Nat.le_of_ble_eq_true rfl) ?_
  refine a_if_eq (tgt := 15) C dX5_account_8 (by decide) (fun c3 => ?_) (fun c3 => ?_)
  · have h := it_t c3 h
    refine a_iconst (v := (1 : Int32)) C dX5_account_15 rfl ?_
    refine a_sub (lv' := [(0, .ref (ad 109)), (1, .int x1)]) [0, 1] rfl ?_
    exact w_X5_account_16 C hT x1 (1 : Int32) V h
  · have h := it_f c3 h
    refine a_iconst (v := (0 : Int32)) C dX5_account_11 rfl ?_
    refine a_goto (tgt := 16) C dX5_account_12 (by decide) ?_
    refine a_sub (lv' := [(0, .ref (ad 109)), (1, .int x1)]) [0, 1] rfl ?_
    exact w_X5_account_16 C hT x1 (0 : Int32) V h
set_option maxRecDepth 20000 in
set_option maxHeartbeats 4000000 in
theorem w_X5_isWell_100 {p : Program} {l : Launch} {e : Env} {s : State} {m : MethodId} {args : Array Value} {below : List Frame} {meth : Method} {c : Code} {D : va_G} {cs : Nat → ClassId} {ad : Nat → Nat} {b0 : Nat} (C : Ctx p l s m args meth c D cs ad b0 RX5 cX5_isWell 3 (some .boolean)) (hT : ∀ x ∈ c.exceptionTable.toList, False)    {r9 : Int32} {W9 : VT} {k72 : Int32 → VT → Option (Int32 × VT)}   (hk72 : ∀ (x1 : Int32) (V : VT), k72 x1 V = some (r9, W9) → AW p l e (rmOf 6 0) s m args below meth c D cs ad b0 (QF below D cs ad b0 W9 ((rI r9) ad) args s 0) 3 0 V [(0, .ref (ad 109)), (1, .int x1)] [] 72) :
    ∀ (x1 s0 s1 : Int32) (V : VT), d_X5_isWell_100 k72 x1 s0 s1 V = some (r9, W9) → AW p l e (rmOf 6 0) s m args below meth c D cs ad b0 (QF below D cs ad b0 W9 ((rI r9) ad) args s 0) 3 0 V [(0, .ref (ad 109)), (1, .int x1)] [.int s0, .int s1] 100 := by
  intro x1 s0 s1 V h
  unfold d_X5_isWell_100 at h
  refine a_icmp_eq (tgt := 105) C dX5_isWell_100 (by decide) (fun c1 => ?_) (fun c1 => ?_)
  · have h := it_t c1 h
    refine a_iinc (q := 1) (v := (x1 + (1 : Int32))) (lv' := [(1, .int (x1 + (1 : Int32))), (0, .ref (ad 109))]) C dX5_isWell_105 rfl rfl (by decide) rfl ?_
    refine a_goto (tgt := 72) C dX5_isWell_108 (by decide) ?_
    refine a_sub (lv' := [(0, .ref (ad 109)), (1, .int (x1 + (1 : Int32)))]) [1, 0] rfl ?_
    exact hk72 (x1 + (1 : Int32)) V h
  · have h := it_f c1 h
    refine a_iconst (v := (0 : Int32)) C dX5_isWell_103 rfl ?_
    obtain ⟨rfl, rfl⟩ := ret2 h
    exact a_zret C dX5_isWell_104 rfl rfl (by decide) rfl rfl
set_option maxRecDepth 20000 in
set_option maxHeartbeats 4000000 in
theorem w_X5_isWell_72 {p : Program} {l : Launch} {e : Env} {s : State} {m : MethodId} {args : Array Value} {below : List Frame} {meth : Method} {c : Code} {D : va_G} {cs : Nat → ClassId} {ad : Nat → Nat} {b0 : Nat} (C : Ctx p l s m args meth c D cs ad b0 RX5 cX5_isWell 3 (some .boolean)) (hT : ∀ x ∈ c.exceptionTable.toList, False)    {r9 : Int32} {W9 : VT}     :
    ∀ (x1 : Int32) (V : VT), d_X5_isWell_72 x1 V = some (r9, W9) → AW p l e (rmOf 6 0) s m args below meth c D cs ad b0 (QF below D cs ad b0 W9 ((rI r9) ad) args s 0) 3 0 V [(0, .ref (ad 109)), (1, .int x1)] [] 72 := by
  refine lo1W_ind (P := fun x1 V => AW p l e (rmOf 6 0) s m args below meth c D cs ad b0 (QF below D cs ad b0 W9 ((rI r9) ad) args s 0) 3 0 V [(0, .ref (ad 109)), (1, .int x1)] [] 72) ?_ FU
  intro k72 hk72 x1 V h
  unfold d_X5_isWell_72b at h
  refine a_iload_n (q := 1) C dX5_isWell_72 rfl rfl ?_
  refine a_aload_n (q := 0) C dX5_isWell_73 rfl rfl ?_
  refine a_getr (a := 109) (t := 110) C dX5_isWell_74 fl_RX5_7 rfl rfl ?_
  refine a_iconst (v := (0 : Int32)) C dX5_isWell_77 rfl ?_
  refine a_iald (a := 110) (x := (V 110 0)) C dX5_isWell_78 rfl (in_lit (by decide)) rfl ?_
  refine a_icmp_ge (tgt := 111) C dX5_isWell_79 (by decide) (fun c1 => ?_) (fun c1 => ?_)
  · have h := it_t c1 h
    refine a_aload_n (q := 0) C dX5_isWell_111 rfl rfl ?_
    refine a_getr (a := 109) (t := 110) C dX5_isWell_112 fl_RX5_7 rfl rfl ?_
    refine a_bipush (v := (47 : Int32)) C dX5_isWell_115 rfl ?_
    refine a_iald (a := 110) (x := (V 110 47)) C dX5_isWell_117 rfl (in_lit (by decide)) rfl ?_
    refine a_aload_n (q := 0) C dX5_isWell_118 rfl rfl ?_
    obtain ⟨r3, g2, h⟩ := bd_spec h
    refine a_cVi (a := 109) (st := [.int (V 110 47)]) C dX5_isWell_119 cv_RX5_222 (w_X5_paintedMany   V r3 g2) rfl rfl rfl rfl rfl ⟨Nat.le_of_ble_eq_true rfl, Nat.le_of_ble_eq_true rfl, Nat.le_of_ble_eq_true rfl, Nat.le_of_ble_eq_true rfl⟩ (Nat.le_of_ble_eq_true rfl) ?_
    refine a_icmp_ne (tgt := 129) C dX5_isWell_122 (by decide) (fun c4 => ?_) (fun c4 => ?_)
    · have h := it_f c4 h
      refine a_iconst (v := (0 : Int32)) C dX5_isWell_129 rfl ?_
      obtain ⟨rfl, rfl⟩ := ret2 h
      exact a_zret C dX5_isWell_130 rfl rfl (by decide) rfl rfl
    · have h := it_t c4 h
      refine a_iconst (v := (1 : Int32)) C dX5_isWell_125 rfl ?_
      refine a_goto (tgt := 130) C dX5_isWell_126 (by decide) ?_
      obtain ⟨rfl, rfl⟩ := ret2 h
      exact a_zret C dX5_isWell_130 rfl rfl (by decide) rfl rfl
  · have h := it_f c1 h
    refine a_aload_n (q := 0) C dX5_isWell_82 rfl rfl ?_
    refine a_iload_n (q := 1) C dX5_isWell_83 rfl rfl ?_
    obtain ⟨r6, g5, h⟩ := bd_spec h
    refine a_cVi (a := 109) (st := []) C dX5_isWell_84 cv_RX5_90 (w_X5_isPainted x1  V r6 g5) rfl rfl rfl rfl rfl ⟨Nat.le_of_ble_eq_true rfl, Nat.le_of_ble_eq_true rfl, Nat.le_of_ble_eq_true rfl, Nat.le_of_ble_eq_true rfl⟩ (Nat.le_of_ble_eq_true rfl) ?_
    refine a_aload_n (q := 0) C dX5_isWell_87 rfl rfl ?_
    refine a_iload_n (q := 1) C dX5_isWell_88 rfl rfl ?_
    obtain ⟨r8, g7, h⟩ := bd_spec h
    refine a_cVi (a := 109) (st := [.int r6]) C dX5_isWell_89 cv_RX5_110 (w_X5_placeOf x1  V r8 g7) rfl rfl rfl rfl rfl ⟨Nat.le_of_ble_eq_true rfl, Nat.le_of_ble_eq_true rfl, Nat.le_of_ble_eq_true rfl, Nat.le_of_ble_eq_true rfl⟩ (Nat.le_of_ble_eq_true rfl) ?_
    refine a_if_lt (tgt := 99) C dX5_isWell_92 (by decide) (fun c9 => ?_) (fun c9 => ?_)
    · have h := it_t c9 h
      refine a_iconst (v := (0 : Int32)) C dX5_isWell_99 rfl ?_
      refine a_sub (lv' := [(0, .ref (ad 109)), (1, .int x1)]) [0, 1] rfl ?_
      exact w_X5_isWell_100 C hT hk72 x1 (0 : Int32) r6 V h
    · have h := it_f c9 h
      refine a_iconst (v := (1 : Int32)) C dX5_isWell_95 rfl ?_
      refine a_goto (tgt := 100) C dX5_isWell_96 (by decide) ?_
      refine a_sub (lv' := [(0, .ref (ad 109)), (1, .int x1)]) [0, 1] rfl ?_
      exact w_X5_isWell_100 C hT hk72 x1 (1 : Int32) r6 V h
set_option maxRecDepth 20000 in
set_option maxHeartbeats 4000000 in
theorem w_X5_isWell_19 {p : Program} {l : Launch} {e : Env} {s : State} {m : MethodId} {args : Array Value} {below : List Frame} {meth : Method} {c : Code} {D : va_G} {cs : Nat → ClassId} {ad : Nat → Nat} {b0 : Nat} (C : Ctx p l s m args meth c D cs ad b0 RX5 cX5_isWell 3 (some .boolean)) (hT : ∀ x ∈ c.exceptionTable.toList, False)    {r9 : Int32} {W9 : VT} {k7 : Int32 → VT → Option (Int32 × VT)}   (hk7 : ∀ (x1 : Int32) (V : VT), k7 x1 V = some (r9, W9) → AW p l e (rmOf 6 0) s m args below meth c D cs ad b0 (QF below D cs ad b0 W9 ((rI r9) ad) args s 0) 3 0 V [(0, .ref (ad 109)), (1, .int x1)] [] 7) :
    ∀ (x1 x2 : Int32) (V : VT), d_X5_isWell_19 k7 x1 x2 V = some (r9, W9) → AW p l e (rmOf 6 0) s m args below meth c D cs ad b0 (QF below D cs ad b0 W9 ((rI r9) ad) args s 0) 3 0 V [(0, .ref (ad 109)), (1, .int x1), (2, .int x2)] [] 19 := by
  refine lo2W_ind (P := fun x1 x2 V => AW p l e (rmOf 6 0) s m args below meth c D cs ad b0 (QF below D cs ad b0 W9 ((rI r9) ad) args s 0) 3 0 V [(0, .ref (ad 109)), (1, .int x1), (2, .int x2)] [] 19) ?_ FU
  intro k19 hk19 x1 x2 V h
  unfold d_X5_isWell_19b at h
  refine a_iload_n (q := 2) C dX5_isWell_19 rfl rfl ?_
  refine a_iload_n (q := 1) C dX5_isWell_20 rfl rfl ?_
  refine a_icmp_ge (tgt := 64) C dX5_isWell_21 (by decide) (fun c1 => ?_) (fun c1 => ?_)
  · have h := it_t c1 h
    refine a_iinc (q := 1) (v := (x1 + (1 : Int32))) (lv' := [(1, .int (x1 + (1 : Int32))), (0, .ref (ad 109)), (2, .int x2)]) C dX5_isWell_64 rfl rfl (by decide) rfl ?_
    refine a_goto (tgt := 7) C dX5_isWell_67 (by decide) ?_
    refine a_sub (lv' := [(0, .ref (ad 109)), (1, .int (x1 + (1 : Int32)))]) [1, 0] rfl ?_
    exact hk7 (x1 + (1 : Int32)) V h
  · have h := it_f c1 h
    refine a_aload_n (q := 0) C dX5_isWell_24 rfl rfl ?_
    refine a_iload_n (q := 1) C dX5_isWell_25 rfl rfl ?_
    refine a_iload_n (q := 2) C dX5_isWell_26 rfl rfl ?_
    obtain ⟨r3, g2, h⟩ := bd_spec h
    refine a_cVi (a := 109) (st := []) C dX5_isWell_27 cv_RX5_67 (w_X5_touches x1 x2  V r3 g2) rfl rfl rfl rfl rfl ⟨Nat.le_of_ble_eq_true rfl, Nat.le_of_ble_eq_true rfl, Nat.le_of_ble_eq_true rfl, Nat.le_of_ble_eq_true rfl⟩ (Nat.le_of_ble_eq_true rfl) ?_
    refine a_if_eq (tgt := 58) C dX5_isWell_30 (by decide) (fun c4 => ?_) (fun c4 => ?_)
    · have h := it_t c4 h
      refine a_iinc (q := 2) (v := (x2 + (1 : Int32))) (lv' := [(2, .int (x2 + (1 : Int32))), (0, .ref (ad 109)), (1, .int x1)]) C dX5_isWell_58 rfl rfl (by decide) rfl ?_
      refine a_goto (tgt := 19) C dX5_isWell_61 (by decide) ?_
      refine a_sub (lv' := [(0, .ref (ad 109)), (1, .int x1), (2, .int (x2 + (1 : Int32)))]) [1, 2, 0] rfl ?_
      exact hk19 x1 (x2 + (1 : Int32)) V h
    · have h := it_f c4 h
      refine a_aload_n (q := 0) C dX5_isWell_33 rfl rfl ?_
      refine a_iload_n (q := 1) C dX5_isWell_34 rfl rfl ?_
      obtain ⟨r6, g5, h⟩ := bd_spec h
      refine a_cVi (a := 109) (st := []) C dX5_isWell_35 cv_RX5_90 (w_X5_isPainted x1  V r6 g5) rfl rfl rfl rfl rfl ⟨Nat.le_of_ble_eq_true rfl, Nat.le_of_ble_eq_true rfl, Nat.le_of_ble_eq_true rfl, Nat.le_of_ble_eq_true rfl⟩ (Nat.le_of_ble_eq_true rfl) ?_
      refine a_if_eq (tgt := 58) C dX5_isWell_38 (by decide) (fun c7 => ?_) (fun c7 => ?_)
      · have h := it_t c7 h
        refine a_iinc (q := 2) (v := (x2 + (1 : Int32))) (lv' := [(2, .int (x2 + (1 : Int32))), (0, .ref (ad 109)), (1, .int x1)]) C dX5_isWell_58 rfl rfl (by decide) rfl ?_
        refine a_goto (tgt := 19) C dX5_isWell_61 (by decide) ?_
        refine a_sub (lv' := [(0, .ref (ad 109)), (1, .int x1), (2, .int (x2 + (1 : Int32)))]) [1, 2, 0] rfl ?_
        exact hk19 x1 (x2 + (1 : Int32)) V h
      · have h := it_f c7 h
        refine a_aload_n (q := 0) C dX5_isWell_41 rfl rfl ?_
        refine a_iload_n (q := 1) C dX5_isWell_42 rfl rfl ?_
        refine a_iconst (v := (1 : Int32)) C dX5_isWell_43 rfl ?_
        obtain ⟨r9, g8, h⟩ := bd_spec h
        refine a_cVi (a := 109) (st := []) C dX5_isWell_44 cv_RX5_63 (w_X5_of x1 (1 : Int32)  V r9 g8) rfl rfl rfl rfl rfl ⟨Nat.le_of_ble_eq_true rfl, Nat.le_of_ble_eq_true rfl, Nat.le_of_ble_eq_true rfl, Nat.le_of_ble_eq_true rfl⟩ (Nat.le_of_ble_eq_true rfl) ?_
        refine a_aload_n (q := 0) C dX5_isWell_47 rfl rfl ?_
        refine a_iload_n (q := 2) C dX5_isWell_48 rfl rfl ?_
        refine a_iconst (v := (1 : Int32)) C dX5_isWell_49 rfl ?_
        obtain ⟨r11, g10, h⟩ := bd_spec h
        refine a_cVi (a := 109) (st := [.int r9]) C dX5_isWell_50 cv_RX5_63 (w_X5_of x2 (1 : Int32)  V r11 g10) rfl rfl rfl rfl rfl ⟨Nat.le_of_ble_eq_true rfl, Nat.le_of_ble_eq_true rfl, Nat.le_of_ble_eq_true rfl, Nat.le_of_ble_eq_true rfl⟩ (Nat.le_of_ble_eq_true rfl) ?_
        refine a_icmp_ne (tgt := 58) C dX5_isWell_53 (by decide) (fun c12 => ?_) (fun c12 => ?_)
        · have h := it_f c12 h
          refine a_iinc (q := 2) (v := (x2 + (1 : Int32))) (lv' := [(2, .int (x2 + (1 : Int32))), (0, .ref (ad 109)), (1, .int x1)]) C dX5_isWell_58 rfl rfl (by decide) rfl ?_
          refine a_goto (tgt := 19) C dX5_isWell_61 (by decide) ?_
          refine a_sub (lv' := [(0, .ref (ad 109)), (1, .int x1), (2, .int (x2 + (1 : Int32)))]) [1, 2, 0] rfl ?_
          exact hk19 x1 (x2 + (1 : Int32)) V h
        · have h := it_t c12 h
          refine a_iconst (v := (0 : Int32)) C dX5_isWell_56 rfl ?_
          obtain ⟨rfl, rfl⟩ := ret2 h
          exact a_zret C dX5_isWell_57 rfl rfl (by decide) rfl rfl
set_option maxRecDepth 20000 in
set_option maxHeartbeats 4000000 in
theorem w_X5_isWell_7 {p : Program} {l : Launch} {e : Env} {s : State} {m : MethodId} {args : Array Value} {below : List Frame} {meth : Method} {c : Code} {D : va_G} {cs : Nat → ClassId} {ad : Nat → Nat} {b0 : Nat} (C : Ctx p l s m args meth c D cs ad b0 RX5 cX5_isWell 3 (some .boolean)) (hT : ∀ x ∈ c.exceptionTable.toList, False)    {r9 : Int32} {W9 : VT}     :
    ∀ (x1 : Int32) (V : VT), d_X5_isWell_7 x1 V = some (r9, W9) → AW p l e (rmOf 6 0) s m args below meth c D cs ad b0 (QF below D cs ad b0 W9 ((rI r9) ad) args s 0) 3 0 V [(0, .ref (ad 109)), (1, .int x1)] [] 7 := by
  refine lo1W_ind (P := fun x1 V => AW p l e (rmOf 6 0) s m args below meth c D cs ad b0 (QF below D cs ad b0 W9 ((rI r9) ad) args s 0) 3 0 V [(0, .ref (ad 109)), (1, .int x1)] [] 7) ?_ FU
  intro k7 hk7 x1 V h
  unfold d_X5_isWell_7b at h
  refine a_iload_n (q := 1) C dX5_isWell_7 rfl rfl ?_
  refine a_aload_n (q := 0) C dX5_isWell_8 rfl rfl ?_
  refine a_getr (a := 109) (t := 110) C dX5_isWell_9 fl_RX5_7 rfl rfl ?_
  refine a_iconst (v := (0 : Int32)) C dX5_isWell_12 rfl ?_
  refine a_iald (a := 110) (x := (V 110 0)) C dX5_isWell_13 rfl (in_lit (by decide)) rfl ?_
  refine a_icmp_ge (tgt := 70) C dX5_isWell_14 (by decide) (fun c1 => ?_) (fun c1 => ?_)
  · have h := it_t c1 h
    refine a_iconst (v := (0 : Int32)) C dX5_isWell_70 rfl ?_
    refine a_istore_n (lv' := [(1, .int (0 : Int32)), (0, .ref (ad 109))]) C dX5_isWell_71 rfl (by decide) rfl ?_
    refine a_sub (lv' := [(0, .ref (ad 109)), (1, .int (0 : Int32))]) [1, 0] rfl ?_
    exact w_X5_isWell_72 C hT (0 : Int32) V h
  · have h := it_f c1 h
    refine a_iconst (v := (0 : Int32)) C dX5_isWell_17 rfl ?_
    refine a_istore_n (lv' := [(2, .int (0 : Int32)), (0, .ref (ad 109)), (1, .int x1)]) C dX5_isWell_18 rfl (by decide) rfl ?_
    refine a_sub (lv' := [(0, .ref (ad 109)), (1, .int x1), (2, .int (0 : Int32))]) [1, 2, 0] rfl ?_
    exact w_X5_isWell_19 C hT hk7 x1 (0 : Int32) V h
set_option maxRecDepth 20000 in
set_option maxHeartbeats 4000000 in
theorem w_X5_isWell   (V : VT) (r9 : Int32) (W9 : VT) (h : d_X5_isWell  V = some (r9, W9)) : AM 6 0 yX5_isWell (.code yX5_isWell cX5_isWell 3 (some .boolean)) (fun ad => [.ref (ad 109)]) V W9 (rI r9) := by
  unfold d_X5_isWell at h
  refine AM.of (by decide +kernel) (fun ad => Nat.le_of_ble_eq_true rfl) (fun {p l e s m args below meth c D cs ad b0} C hT => ?_)
  have C : Ctx p l s m args meth c D cs ad b0 RX5 cX5_isWell 3 (some .boolean) := C
  refine a_sub (lv' := [(0, .ref (ad 109))]) [0] rfl ?_
  refine a_aload_n (q := 0) C dX5_isWell_0 rfl rfl ?_
  refine a_iconst (v := (0 : Int32)) C dX5_isWell_1 rfl ?_
  refine a_puti (a := 109) C dX5_isWell_2 fp_RX5_39 rfl rfl rfl rfl ?_
  refine a_iconst (v := (0 : Int32)) C dX5_isWell_5 rfl ?_
  refine a_istore_n (lv' := [(1, .int (0 : Int32)), (0, .ref (ad 109))]) C dX5_isWell_6 rfl (by decide) rfl ?_
  refine a_sub (lv' := [(0, .ref (ad 109)), (1, .int (0 : Int32))]) [1, 0] rfl ?_
  exact w_X5_isWell_7 C hT (0 : Int32) (up2 V 109 7 (0 : Int32)) h
set_option maxRecDepth 20000 in
set_option maxHeartbeats 4000000 in
theorem w_X5_meanSize_54 {p : Program} {l : Launch} {e : Env} {s : State} {m : MethodId} {args : Array Value} {below : List Frame} {meth : Method} {c : Code} {D : va_G} {cs : Nat → ClassId} {ad : Nat → Nat} {b0 : Nat} (C : Ctx p l s m args meth c D cs ad b0 RX5 cX5_meanSize 3 (some .double)) (hT : ∀ x ∈ c.exceptionTable.toList, False)    {r9 : UInt64} {W9 : VT}     :
    ∀ (x1 s0 : Int32) (V : VT), d_X5_meanSize_54 x1 s0 V = some (r9, W9) → AW p l e (rmOf 6 0) s m args below meth c D cs ad b0 (QF below D cs ad b0 W9 ((rD r9) ad) args s 0) 3 0 V [(0, .ref (ad 109)), (1, .int x1)] [.int s0, .ref (ad 109)] 54 := by
  intro x1 s0 V h
  unfold d_X5_meanSize_54 at h
  obtain ⟨r3, V2, g1, h⟩ := bw_spec h
  refine a_cVi (a := 109) (st := []) C dX5_meanSize_54 cv_RX5_71 (w_X5_fails s0  V r3 V2 g1) rfl rfl rfl rfl rfl ⟨Nat.le_of_ble_eq_true rfl, Nat.le_of_ble_eq_true rfl, Nat.le_of_ble_eq_true rfl, Nat.le_of_ble_eq_true rfl⟩ (Nat.le_of_ble_eq_true rfl) ?_
  refine a_if_eq (tgt := 64) C dX5_meanSize_57 (by decide) (fun c4 => ?_) (fun c4 => ?_)
  · have h := it_t c4 h
    refine a_iload_n (q := 1) C dX5_meanSize_64 rfl rfl ?_
    refine a_i2d C dX5_meanSize_65 ?_
    refine a_aload_n (q := 0) C dX5_meanSize_66 rfl rfl ?_
    obtain ⟨r6, g5, h⟩ := bd_spec h
    refine a_cVi (a := 109) (st := [.double (FP.i2d x1)]) C dX5_meanSize_67 cv_RX5_222 (w_X5_paintedMany   V2 r6 g5) rfl rfl rfl rfl rfl ⟨Nat.le_of_ble_eq_true rfl, Nat.le_of_ble_eq_true rfl, Nat.le_of_ble_eq_true rfl, Nat.le_of_ble_eq_true rfl⟩ (Nat.le_of_ble_eq_true rfl) ?_
    refine a_i2d C dX5_meanSize_70 ?_
    obtain ⟨z7, h⟩ := asr_spec h
    refine a_ddiv C dX5_meanSize_71 (n64ok_of z7) ?_
    obtain ⟨rfl, rfl⟩ := ret2 h
    exact a_dret C dX5_meanSize_72 rfl (by decide) rfl rfl
  · have h := it_f c4 h
    refine a_dconst0 C dX5_meanSize_60 ?_
    refine a_goto (tgt := 72) C dX5_meanSize_61 (by decide) ?_
    obtain ⟨rfl, rfl⟩ := ret2 h
    exact a_dret C dX5_meanSize_72 rfl (by decide) rfl rfl
set_option maxRecDepth 20000 in
set_option maxHeartbeats 4000000 in
theorem w_X5_meanSize_4 {p : Program} {l : Launch} {e : Env} {s : State} {m : MethodId} {args : Array Value} {below : List Frame} {meth : Method} {c : Code} {D : va_G} {cs : Nat → ClassId} {ad : Nat → Nat} {b0 : Nat} (C : Ctx p l s m args meth c D cs ad b0 RX5 cX5_meanSize 3 (some .double)) (hT : ∀ x ∈ c.exceptionTable.toList, False)    {r9 : UInt64} {W9 : VT}     :
    ∀ (x1 x2 : Int32) (V : VT), d_X5_meanSize_4 x1 x2 V = some (r9, W9) → AW p l e (rmOf 6 0) s m args below meth c D cs ad b0 (QF below D cs ad b0 W9 ((rD r9) ad) args s 0) 3 0 V [(0, .ref (ad 109)), (1, .int x1), (2, .int x2)] [] 4 := by
  refine lo2W_ind (P := fun x1 x2 V => AW p l e (rmOf 6 0) s m args below meth c D cs ad b0 (QF below D cs ad b0 W9 ((rD r9) ad) args s 0) 3 0 V [(0, .ref (ad 109)), (1, .int x1), (2, .int x2)] [] 4) ?_ FU
  intro k4 hk4 x1 x2 V h
  unfold d_X5_meanSize_4b at h
  refine a_iload_n (q := 2) C dX5_meanSize_4 rfl rfl ?_
  refine a_aload_n (q := 0) C dX5_meanSize_5 rfl rfl ?_
  refine a_getr (a := 109) (t := 110) C dX5_meanSize_6 fl_RX5_7 rfl rfl ?_
  refine a_iconst (v := (0 : Int32)) C dX5_meanSize_9 rfl ?_
  refine a_iald (a := 110) (x := (V 110 0)) C dX5_meanSize_10 rfl (in_lit (by decide)) rfl ?_
  refine a_icmp_ge (tgt := 41) C dX5_meanSize_11 (by decide) (fun c1 => ?_) (fun c1 => ?_)
  · have h := it_t c1 h
    refine a_aload_n (q := 0) C dX5_meanSize_41 rfl rfl ?_
    refine a_aload_n (q := 0) C dX5_meanSize_42 rfl rfl ?_
    obtain ⟨r3, g2, h⟩ := bd_spec h
    refine a_cVi (a := 109) (st := [.ref (ad 109)]) C dX5_meanSize_43 cv_RX5_222 (w_X5_paintedMany   V r3 g2) rfl rfl rfl rfl rfl ⟨Nat.le_of_ble_eq_true rfl, Nat.le_of_ble_eq_true rfl, Nat.le_of_ble_eq_true rfl, Nat.le_of_ble_eq_true rfl⟩ (Nat.le_of_ble_eq_true rfl) ?_
    refine a_if_ne (tgt := 53) C dX5_meanSize_46 (by decide) (fun c4 => ?_) (fun c4 => ?_)
    · have h := it_f c4 h
      refine a_iconst (v := (0 : Int32)) C dX5_meanSize_53 rfl ?_
      refine a_sub (lv' := [(0, .ref (ad 109)), (1, .int x1)]) [0, 1] rfl ?_
      exact w_X5_meanSize_54 C hT x1 (0 : Int32) V h
    · have h := it_t c4 h
      refine a_iconst (v := (1 : Int32)) C dX5_meanSize_49 rfl ?_
      refine a_goto (tgt := 54) C dX5_meanSize_50 (by decide) ?_
      refine a_sub (lv' := [(0, .ref (ad 109)), (1, .int x1)]) [0, 1] rfl ?_
      exact w_X5_meanSize_54 C hT x1 (1 : Int32) V h
  · have h := it_f c1 h
    refine a_iload_n (q := 1) C dX5_meanSize_14 rfl rfl ?_
    refine a_aload_n (q := 0) C dX5_meanSize_15 rfl rfl ?_
    refine a_iload_n (q := 2) C dX5_meanSize_16 rfl rfl ?_
    obtain ⟨r6, g5, h⟩ := bd_spec h
    refine a_cVi (a := 109) (st := [.int x1]) C dX5_meanSize_17 cv_RX5_90 (w_X5_isPainted x2  V r6 g5) rfl rfl rfl rfl rfl ⟨Nat.le_of_ble_eq_true rfl, Nat.le_of_ble_eq_true rfl, Nat.le_of_ble_eq_true rfl, Nat.le_of_ble_eq_true rfl⟩ (Nat.le_of_ble_eq_true rfl) ?_
    refine a_if_eq (tgt := 32) C dX5_meanSize_20 (by decide) (fun c7 => ?_) (fun c7 => ?_)
    · have h := it_t c7 h
      refine a_iconst (v := (0 : Int32)) C dX5_meanSize_32 rfl ?_
      refine a_iadd C dX5_meanSize_33 ?_
      refine a_istore_n (lv' := [(1, .int (x1 + (0 : Int32))), (0, .ref (ad 109)), (2, .int x2)]) C dX5_meanSize_34 rfl (by decide) rfl ?_
      refine a_iinc (q := 2) (v := (x2 + (1 : Int32))) (lv' := [(2, .int (x2 + (1 : Int32))), (1, .int (x1 + (0 : Int32))), (0, .ref (ad 109))]) C dX5_meanSize_35 rfl rfl (by decide) rfl ?_
      refine a_goto (tgt := 4) C dX5_meanSize_38 (by decide) ?_
      refine a_sub (lv' := [(0, .ref (ad 109)), (1, .int (x1 + (0 : Int32))), (2, .int (x2 + (1 : Int32)))]) [2, 1, 0] rfl ?_
      exact hk4 (x1 + (0 : Int32)) (x2 + (1 : Int32)) V h
    · have h := it_f c7 h
      refine a_aload_n (q := 0) C dX5_meanSize_23 rfl rfl ?_
      refine a_iload_n (q := 2) C dX5_meanSize_24 rfl rfl ?_
      refine a_iconst (v := (0 : Int32)) C dX5_meanSize_25 rfl ?_
      obtain ⟨r9, g8, h⟩ := bd_spec h
      refine a_cVi (a := 109) (st := [.int x1]) C dX5_meanSize_26 cv_RX5_63 (w_X5_of x2 (0 : Int32)  V r9 g8) rfl rfl rfl rfl rfl ⟨Nat.le_of_ble_eq_true rfl, Nat.le_of_ble_eq_true rfl, Nat.le_of_ble_eq_true rfl, Nat.le_of_ble_eq_true rfl⟩ (Nat.le_of_ble_eq_true rfl) ?_
      refine a_goto (tgt := 33) C dX5_meanSize_29 (by decide) ?_
      refine a_iadd C dX5_meanSize_33 ?_
      refine a_istore_n (lv' := [(1, .int (x1 + r9)), (0, .ref (ad 109)), (2, .int x2)]) C dX5_meanSize_34 rfl (by decide) rfl ?_
      refine a_iinc (q := 2) (v := (x2 + (1 : Int32))) (lv' := [(2, .int (x2 + (1 : Int32))), (1, .int (x1 + r9)), (0, .ref (ad 109))]) C dX5_meanSize_35 rfl rfl (by decide) rfl ?_
      refine a_goto (tgt := 4) C dX5_meanSize_38 (by decide) ?_
      refine a_sub (lv' := [(0, .ref (ad 109)), (1, .int (x1 + r9)), (2, .int (x2 + (1 : Int32)))]) [2, 1, 0] rfl ?_
      exact hk4 (x1 + r9) (x2 + (1 : Int32)) V h
set_option maxRecDepth 20000 in
set_option maxHeartbeats 4000000 in
theorem w_X5_meanSize   (V : VT) (r9 : UInt64) (W9 : VT) (h : d_X5_meanSize  V = some (r9, W9)) : AM 6 0 yX5_meanSize (.code yX5_meanSize cX5_meanSize 3 (some .double)) (fun ad => [.ref (ad 109)]) V W9 (rD r9) := by
  unfold d_X5_meanSize at h
  refine AM.of (by decide +kernel) (fun ad => Nat.le_of_ble_eq_true rfl) (fun {p l e s m args below meth c D cs ad b0} C hT => ?_)
  have C : Ctx p l s m args meth c D cs ad b0 RX5 cX5_meanSize 3 (some .double) := C
  refine a_sub (lv' := [(0, .ref (ad 109))]) [0] rfl ?_
  refine a_iconst (v := (0 : Int32)) C dX5_meanSize_0 rfl ?_
  refine a_istore_n (lv' := [(1, .int (0 : Int32)), (0, .ref (ad 109))]) C dX5_meanSize_1 rfl (by decide) rfl ?_
  refine a_iconst (v := (0 : Int32)) C dX5_meanSize_2 rfl ?_
  refine a_istore_n (lv' := [(2, .int (0 : Int32)), (1, .int (0 : Int32)), (0, .ref (ad 109))]) C dX5_meanSize_3 rfl (by decide) rfl ?_
  refine a_sub (lv' := [(0, .ref (ad 109)), (1, .int (0 : Int32)), (2, .int (0 : Int32))]) [2, 1, 0] rfl ?_
  exact w_X5_meanSize_4 C hT (0 : Int32) (0 : Int32) V h
set_option maxRecDepth 20000 in
set_option maxHeartbeats 4000000 in
theorem w_X5_painted_15 {p : Program} {l : Launch} {e : Env} {s : State} {m : MethodId} {args : Array Value} {below : List Frame} {meth : Method} {c : Code} {D : va_G} {cs : Nat → ClassId} {ad : Nat → Nat} {b0 : Nat} (C : Ctx p l s m args meth c D cs ad b0 RX5 cX5_painted 1 (some .float)) (hT : ∀ x ∈ c.exceptionTable.toList, False)    {r9 : UInt32} {W9 : VT}     :
    ∀ (s0 : Int32) (V : VT), d_X5_painted_15 s0 V = some (r9, W9) → AW p l e (rmOf 6 0) s m args below meth c D cs ad b0 (QF below D cs ad b0 W9 ((rF r9) ad) args s 0) 1 0 V [(0, .ref (ad 109))] [.int s0, .ref (ad 109)] 15 := by
  intro s0 V h
  unfold d_X5_painted_15 at h
  obtain ⟨r3, V2, g1, h⟩ := bw_spec h
  refine a_cVi (a := 109) (st := []) C dX5_painted_15 cv_RX5_71 (w_X5_fails s0  V r3 V2 g1) rfl rfl rfl rfl rfl ⟨Nat.le_of_ble_eq_true rfl, Nat.le_of_ble_eq_true rfl, Nat.le_of_ble_eq_true rfl, Nat.le_of_ble_eq_true rfl⟩ (Nat.le_of_ble_eq_true rfl) ?_
  refine a_if_eq (tgt := 25) C dX5_painted_18 (by decide) (fun c4 => ?_) (fun c4 => ?_)
  · have h := it_t c4 h
    refine a_aload_n (q := 0) C dX5_painted_25 rfl rfl ?_
    obtain ⟨r6, g5, h⟩ := bd_spec h
    refine a_cVi (a := 109) (st := []) C dX5_painted_26 cv_RX5_222 (w_X5_paintedMany   V2 r6 g5) rfl rfl rfl rfl rfl ⟨Nat.le_of_ble_eq_true rfl, Nat.le_of_ble_eq_true rfl, Nat.le_of_ble_eq_true rfl, Nat.le_of_ble_eq_true rfl⟩ (Nat.le_of_ble_eq_true rfl) ?_
    refine a_i2f C dX5_painted_29 ?_
    refine a_aload_n (q := 0) C dX5_painted_30 rfl rfl ?_
    refine a_getr (a := 109) (t := 110) C dX5_painted_31 fl_RX5_7 rfl rfl ?_
    refine a_iconst (v := (0 : Int32)) C dX5_painted_34 rfl ?_
    refine a_iald (a := 110) (x := (V2 110 0)) C dX5_painted_35 rfl (in_lit (by decide)) rfl ?_
    refine a_i2f C dX5_painted_36 ?_
    obtain ⟨z7, h⟩ := asr_spec h
    refine a_fdiv C dX5_painted_37 (n32ok_of z7) ?_
    obtain ⟨rfl, rfl⟩ := ret2 h
    exact a_fret C dX5_painted_38 rfl (by decide) rfl rfl
  · have h := it_f c4 h
    refine a_fconst0 C dX5_painted_21 ?_
    refine a_goto (tgt := 38) C dX5_painted_22 (by decide) ?_
    obtain ⟨rfl, rfl⟩ := ret2 h
    exact a_fret C dX5_painted_38 rfl (by decide) rfl rfl
set_option maxRecDepth 20000 in
set_option maxHeartbeats 4000000 in
theorem w_X5_painted   (V : VT) (r9 : UInt32) (W9 : VT) (h : d_X5_painted  V = some (r9, W9)) : AM 6 0 yX5_painted (.code yX5_painted cX5_painted 1 (some .float)) (fun ad => [.ref (ad 109)]) V W9 (rF r9) := by
  unfold d_X5_painted at h
  refine AM.of (by decide +kernel) (fun ad => Nat.le_of_ble_eq_true rfl) (fun {p l e s m args below meth c D cs ad b0} C hT => ?_)
  have C : Ctx p l s m args meth c D cs ad b0 RX5 cX5_painted 1 (some .float) := C
  refine a_sub (lv' := [(0, .ref (ad 109))]) [0] rfl ?_
  refine a_aload_n (q := 0) C dX5_painted_0 rfl rfl ?_
  refine a_aload_n (q := 0) C dX5_painted_1 rfl rfl ?_
  refine a_getr (a := 109) (t := 110) C dX5_painted_2 fl_RX5_7 rfl rfl ?_
  refine a_iconst (v := (0 : Int32)) C dX5_painted_5 rfl ?_
  refine a_iald (a := 110) (x := (V 110 0)) C dX5_painted_6 rfl (in_lit (by decide)) rfl ?_
  refine a_if_ne (tgt := 14) C dX5_painted_7 (by decide) (fun c1 => ?_) (fun c1 => ?_)
  · have h := it_f c1 h
    refine a_iconst (v := (0 : Int32)) C dX5_painted_14 rfl ?_
    refine a_sub (lv' := [(0, .ref (ad 109))]) [0] rfl ?_
    exact w_X5_painted_15 C hT (0 : Int32) V h
  · have h := it_t c1 h
    refine a_iconst (v := (1 : Int32)) C dX5_painted_10 rfl ?_
    refine a_goto (tgt := 15) C dX5_painted_11 (by decide) ?_
    refine a_sub (lv' := [(0, .ref (ad 109))]) [0] rfl ?_
    exact w_X5_painted_15 C hT (1 : Int32) V h
set_option maxRecDepth 20000 in
set_option maxHeartbeats 4000000 in
theorem w_X5_undo_13 {p : Program} {l : Launch} {e : Env} {s : State} {m : MethodId} {args : Array Value} {below : List Frame} {meth : Method} {c : Code} {D : va_G} {cs : Nat → ClassId} {ad : Nat → Nat} {b0 : Nat} (C : Ctx p l s m args meth c D cs ad b0 RX5 cX5_undo 1 (some .int)) (hT : ∀ x ∈ c.exceptionTable.toList, False)    {r9 : Int32} {W9 : VT}     :
    ∀ (s0 : Int32) (V : VT), d_X5_undo_13 s0 V = some (r9, W9) → AW p l e (rmOf 3 0) s m args below meth c D cs ad b0 (QF below D cs ad b0 W9 ((rI r9) ad) args s 0) 1 0 V [(0, .ref (ad 109))] [.int s0, .ref (ad 109)] 13 := by
  intro s0 V h
  unfold d_X5_undo_13 at h
  obtain ⟨r3, V2, g1, h⟩ := bw_spec h
  refine a_cVi (a := 109) (st := []) C dX5_undo_13 cv_RX5_71 (w_X5_fails s0  V r3 V2 g1) rfl rfl rfl rfl rfl ⟨Nat.le_of_ble_eq_true rfl, Nat.le_of_ble_eq_true rfl, Nat.le_of_ble_eq_true rfl, Nat.le_of_ble_eq_true rfl⟩ (Nat.le_of_ble_eq_true rfl) ?_
  refine a_if_eq (tgt := 21) C dX5_undo_16 (by decide) (fun c4 => ?_) (fun c4 => ?_)
  · have h := it_t c4 h
    refine a_aload_n (q := 0) C dX5_undo_21 rfl rfl ?_
    refine a_dup C dX5_undo_22 rfl ?_
    refine a_geti (a := 109) (x := (V2 109 5)) C dX5_undo_23 fl_RX5_52 rfl rfl rfl ?_
    refine a_iconst (v := (1 : Int32)) C dX5_undo_26 rfl ?_
    refine a_isub C dX5_undo_27 ?_
    refine a_puti (a := 109) C dX5_undo_28 fp_RX5_52 rfl rfl rfl rfl ?_
    refine a_aload_n (q := 0) C dX5_undo_31 rfl rfl ?_
    refine a_getr (a := 109) (t := 111) C dX5_undo_32 fl_RX5_13 rfl rfl ?_
    refine a_bipush (v := (56 : Int32)) C dX5_undo_35 rfl ?_
    refine a_aload_n (q := 0) C dX5_undo_37 rfl rfl ?_
    refine a_geti (a := 109) (x := ((V2 109 5) - (1 : Int32))) C dX5_undo_38 fl_RX5_52 rfl rfl rfl ?_
    refine a_imul C dX5_undo_41 ?_
    refine a_aload_n (q := 0) C dX5_undo_42 rfl rfl ?_
    refine a_getr (a := 109) (t := 110) C dX5_undo_43 fl_RX5_7 rfl rfl ?_
    refine a_iconst (v := (0 : Int32)) C dX5_undo_46 rfl ?_
    obtain ⟨V6, g5, h⟩ := bd_spec h
    refine a_cSv (st := []) C dX5_undo_47 cv_RX5_55 (w_X5_copies 111 ((56 : Int32) * ((V2 109 5) - (1 : Int32))) 110 (0 : Int32) rfl rfl (up2 V2 109 5 ((V2 109 5) - (1 : Int32))) V6 g5) rfl rfl rfl ⟨Nat.le_of_ble_eq_true rfl, Nat.le_of_ble_eq_true rfl, Nat.le_of_ble_eq_true rfl, Nat.le_of_ble_eq_true rfl⟩ (Nat.le_of_ble_eq_true rfl) ?_
    refine a_aload_n (q := 0) C dX5_undo_50 rfl rfl ?_
    refine a_geti (a := 109) (x := (V6 109 5)) C dX5_undo_51 fl_RX5_52 rfl rfl rfl ?_
    obtain ⟨rfl, rfl⟩ := ret2 h
    exact a_iret C dX5_undo_54 rfl (by decide) rfl rfl
  · have h := it_f c4 h
    refine a_iconst (v := (0 : Int32)) C dX5_undo_19 rfl ?_
    obtain ⟨rfl, rfl⟩ := ret2 h
    exact a_iret C dX5_undo_20 rfl (by decide) rfl rfl
set_option maxRecDepth 20000 in
set_option maxHeartbeats 4000000 in
theorem w_X5_undo   (V : VT) (r9 : Int32) (W9 : VT) (h : d_X5_undo  V = some (r9, W9)) : AM 3 0 yX5_undo (.code yX5_undo cX5_undo 1 (some .int)) (fun ad => [.ref (ad 109)]) V W9 (rI r9) := by
  unfold d_X5_undo at h
  refine AM.of (by decide +kernel) (fun ad => Nat.le_of_ble_eq_true rfl) (fun {p l e s m args below meth c D cs ad b0} C hT => ?_)
  have C : Ctx p l s m args meth c D cs ad b0 RX5 cX5_undo 1 (some .int) := C
  refine a_sub (lv' := [(0, .ref (ad 109))]) [0] rfl ?_
  refine a_aload_n (q := 0) C dX5_undo_0 rfl rfl ?_
  refine a_aload_n (q := 0) C dX5_undo_1 rfl rfl ?_
  refine a_geti (a := 109) (x := (V 109 5)) C dX5_undo_2 fl_RX5_52 rfl rfl rfl ?_
  refine a_if_ne (tgt := 12) C dX5_undo_5 (by decide) (fun c1 => ?_) (fun c1 => ?_)
  · have h := it_f c1 h
    refine a_iconst (v := (0 : Int32)) C dX5_undo_12 rfl ?_
    refine a_sub (lv' := [(0, .ref (ad 109))]) [0] rfl ?_
    exact w_X5_undo_13 C hT (0 : Int32) V h
  · have h := it_t c1 h
    refine a_iconst (v := (1 : Int32)) C dX5_undo_8 rfl ?_
    refine a_goto (tgt := 13) C dX5_undo_9 (by decide) ?_
    refine a_sub (lv' := [(0, .ref (ad 109))]) [0] rfl ?_
    exact w_X5_undo_13 C hT (1 : Int32) V h
set_option maxRecDepth 20000 in
set_option maxHeartbeats 4000000 in
theorem w_X5_save   (V : VT) (r9 : Int32) (W9 : VT) (h : d_X5_save  V = some (r9, W9)) : AM 3 0 yX5_save (.code yX5_save cX5_save 1 (some .int)) (fun ad => [.ref (ad 109)]) V W9 (rI r9) := by
  unfold d_X5_save at h
  refine AM.of (by decide +kernel) (fun ad => Nat.le_of_ble_eq_true rfl) (fun {p l e s m args below meth c D cs ad b0} C hT => ?_)
  have C : Ctx p l s m args meth c D cs ad b0 RX5 cX5_save 1 (some .int) := C
  refine a_sub (lv' := [(0, .ref (ad 109))]) [0] rfl ?_
  refine a_aload_n (q := 0) C dX5_save_0 rfl rfl ?_
  refine a_iconst (v := (0 : Int32)) C dX5_save_1 rfl ?_
  refine a_puti (a := 109) C dX5_save_2 fp_RX5_39 rfl rfl rfl rfl ?_
  refine a_aload_n (q := 0) C dX5_save_5 rfl rfl ?_
  refine a_iconst (v := (1 : Int32)) C dX5_save_6 rfl ?_
  refine a_puti (a := 109) C dX5_save_7 fp_RX5_235 rfl rfl rfl rfl ?_
  refine a_aload_n (q := 0) C dX5_save_10 rfl rfl ?_
  refine a_getr (a := 109) (t := 110) C dX5_save_11 fl_RX5_7 rfl rfl ?_
  refine a_iconst (v := (0 : Int32)) C dX5_save_14 rfl ?_
  refine a_aload_n (q := 0) C dX5_save_15 rfl rfl ?_
  refine a_getr (a := 109) (t := 112) C dX5_save_16 fl_RX5_16 rfl rfl ?_
  refine a_iconst (v := (0 : Int32)) C dX5_save_19 rfl ?_
  obtain ⟨V2, g1, h⟩ := bd_spec h
  refine a_cSv (st := []) C dX5_save_20 cv_RX5_55 (w_X5_copies 110 (0 : Int32) 112 (0 : Int32) rfl rfl (up2 (up2 V 109 7 (0 : Int32)) 109 4 (1 : Int32)) V2 g1) rfl rfl rfl ⟨Nat.le_of_ble_eq_true rfl, Nat.le_of_ble_eq_true rfl, Nat.le_of_ble_eq_true rfl, Nat.le_of_ble_eq_true rfl⟩ (Nat.le_of_ble_eq_true rfl) ?_
  refine a_aload_n (q := 0) C dX5_save_23 rfl rfl ?_
  refine a_getr (a := 109) (t := 110) C dX5_save_24 fl_RX5_7 rfl rfl ?_
  refine a_iconst (v := (0 : Int32)) C dX5_save_27 rfl ?_
  refine a_iald (a := 110) (x := (V2 110 0)) C dX5_save_28 rfl (in_lit (by decide)) rfl ?_
  obtain ⟨rfl, rfl⟩ := ret2 h
  exact a_iret C dX5_save_29 rfl (by decide) rfl rfl
set_option maxRecDepth 20000 in
set_option maxHeartbeats 4000000 in
theorem w_X5_restore_13 {p : Program} {l : Launch} {e : Env} {s : State} {m : MethodId} {args : Array Value} {below : List Frame} {meth : Method} {c : Code} {D : va_G} {cs : Nat → ClassId} {ad : Nat → Nat} {b0 : Nat} (C : Ctx p l s m args meth c D cs ad b0 RX5 cX5_restore 1 (some .int)) (hT : ∀ x ∈ c.exceptionTable.toList, False)    {r9 : Int32} {W9 : VT}     :
    ∀ (s0 : Int32) (V : VT), d_X5_restore_13 s0 V = some (r9, W9) → AW p l e (rmOf 3 0) s m args below meth c D cs ad b0 (QF below D cs ad b0 W9 ((rI r9) ad) args s 0) 1 0 V [(0, .ref (ad 109))] [.int s0, .ref (ad 109)] 13 := by
  intro s0 V h
  unfold d_X5_restore_13 at h
  obtain ⟨r3, V2, g1, h⟩ := bw_spec h
  refine a_cVi (a := 109) (st := []) C dX5_restore_13 cv_RX5_71 (w_X5_fails s0  V r3 V2 g1) rfl rfl rfl rfl rfl ⟨Nat.le_of_ble_eq_true rfl, Nat.le_of_ble_eq_true rfl, Nat.le_of_ble_eq_true rfl, Nat.le_of_ble_eq_true rfl⟩ (Nat.le_of_ble_eq_true rfl) ?_
  refine a_if_eq (tgt := 21) C dX5_restore_16 (by decide) (fun c4 => ?_) (fun c4 => ?_)
  · have h := it_t c4 h
    refine a_aload_n (q := 0) C dX5_restore_21 rfl rfl ?_
    refine a_getr (a := 109) (t := 112) C dX5_restore_22 fl_RX5_16 rfl rfl ?_
    refine a_iconst (v := (0 : Int32)) C dX5_restore_25 rfl ?_
    refine a_aload_n (q := 0) C dX5_restore_26 rfl rfl ?_
    refine a_getr (a := 109) (t := 110) C dX5_restore_27 fl_RX5_7 rfl rfl ?_
    refine a_iconst (v := (0 : Int32)) C dX5_restore_30 rfl ?_
    obtain ⟨V6, g5, h⟩ := bd_spec h
    refine a_cSv (st := []) C dX5_restore_31 cv_RX5_55 (w_X5_copies 112 (0 : Int32) 110 (0 : Int32) rfl rfl V2 V6 g5) rfl rfl rfl ⟨Nat.le_of_ble_eq_true rfl, Nat.le_of_ble_eq_true rfl, Nat.le_of_ble_eq_true rfl, Nat.le_of_ble_eq_true rfl⟩ (Nat.le_of_ble_eq_true rfl) ?_
    refine a_aload_n (q := 0) C dX5_restore_34 rfl rfl ?_
    refine a_iconst (v := (0 : Int32)) C dX5_restore_35 rfl ?_
    refine a_puti (a := 109) C dX5_restore_36 fp_RX5_52 rfl rfl rfl rfl ?_
    refine a_aload_n (q := 0) C dX5_restore_39 rfl rfl ?_
    refine a_getr (a := 109) (t := 110) C dX5_restore_40 fl_RX5_7 rfl rfl ?_
    refine a_iconst (v := (0 : Int32)) C dX5_restore_43 rfl ?_
    refine a_iald (a := 110) (x := (V6 110 0)) C dX5_restore_44 rfl (in_lit (by decide)) rfl ?_
    obtain ⟨rfl, rfl⟩ := ret2 h
    exact a_iret C dX5_restore_45 rfl (by decide) rfl rfl
  · have h := it_f c4 h
    refine a_iconst (v := (0 : Int32)) C dX5_restore_19 rfl ?_
    obtain ⟨rfl, rfl⟩ := ret2 h
    exact a_iret C dX5_restore_20 rfl (by decide) rfl rfl
set_option maxRecDepth 20000 in
set_option maxHeartbeats 4000000 in
theorem w_X5_restore   (V : VT) (r9 : Int32) (W9 : VT) (h : d_X5_restore  V = some (r9, W9)) : AM 3 0 yX5_restore (.code yX5_restore cX5_restore 1 (some .int)) (fun ad => [.ref (ad 109)]) V W9 (rI r9) := by
  unfold d_X5_restore at h
  refine AM.of (by decide +kernel) (fun ad => Nat.le_of_ble_eq_true rfl) (fun {p l e s m args below meth c D cs ad b0} C hT => ?_)
  have C : Ctx p l s m args meth c D cs ad b0 RX5 cX5_restore 1 (some .int) := C
  refine a_sub (lv' := [(0, .ref (ad 109))]) [0] rfl ?_
  refine a_aload_n (q := 0) C dX5_restore_0 rfl rfl ?_
  refine a_aload_n (q := 0) C dX5_restore_1 rfl rfl ?_
  refine a_geti (a := 109) (x := (V 109 4)) C dX5_restore_2 fl_RX5_235 rfl rfl rfl ?_
  refine a_if_eq (tgt := 12) C dX5_restore_5 (by decide) (fun c1 => ?_) (fun c1 => ?_)
  · have h := it_t c1 h
    refine a_iconst (v := (1 : Int32)) C dX5_restore_12 rfl ?_
    refine a_sub (lv' := [(0, .ref (ad 109))]) [0] rfl ?_
    exact w_X5_restore_13 C hT (1 : Int32) V h
  · have h := it_f c1 h
    refine a_iconst (v := (0 : Int32)) C dX5_restore_8 rfl ?_
    refine a_goto (tgt := 13) C dX5_restore_9 (by decide) ?_
    refine a_sub (lv' := [(0, .ref (ad 109))]) [0] rfl ?_
    exact w_X5_restore_13 C hT (0 : Int32) V h
