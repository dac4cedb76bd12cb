/-! strings: length and charAt of the shapes' constants -/
theorem ds_str {x : Int32} {V : VT} (i : Nat) (h : d_X2_shapeOf x V = some (some i)) : isStr i = true := by
  unfold d_X2_shapeOf at h
  by_cases c98 : x = (98 : Int32)
  · have h := it_t c98 h
    cases h
    rfl
  have h := it_f c98 h
  by_cases c99 : x = (99 : Int32)
  · have h := it_t c99 h
    cases h
  have h := it_f c99 h
  by_cases c100 : x = (100 : Int32)
  · have h := it_t c100 h
    cases h
  have h := it_f c100 h
  by_cases c101 : x = (101 : Int32)
  · have h := it_t c101 h
    cases h
  have h := it_f c101 h
  by_cases c102 : x = (102 : Int32)
  · have h := it_t c102 h
    cases h
    rfl
  have h := it_f c102 h
  by_cases c103 : x = (103 : Int32)
  · have h := it_t c103 h
    cases h
  have h := it_f c103 h
  by_cases c104 : x = (104 : Int32)
  · have h := it_t c104 h
    cases h
    rfl
  have h := it_f c104 h
  by_cases c105 : x = (105 : Int32)
  · have h := it_t c105 h
    cases h
  have h := it_f c105 h
  by_cases c106 : x = (106 : Int32)
  · have h := it_t c106 h
    cases h
    rfl
  have h := it_f c106 h
  by_cases c107 : x = (107 : Int32)
  · have h := it_t c107 h
    cases h
  have h := it_f c107 h
  by_cases c108 : x = (108 : Int32)
  · have h := it_t c108 h
    cases h
  have h := it_f c108 h
  by_cases c109 : x = (109 : Int32)
  · have h := it_t c109 h
    cases h
  have h := it_f c109 h
  by_cases c110 : x = (110 : Int32)
  · have h := it_t c110 h
    cases h
  have h := it_f c110 h
  by_cases c111 : x = (111 : Int32)
  · have h := it_t c111 h
    cases h
  have h := it_f c111 h
  by_cases c112 : x = (112 : Int32)
  · have h := it_t c112 h
    cases h
    rfl
  have h := it_f c112 h
  by_cases c113 : x = (113 : Int32)
  · have h := it_t c113 h
    cases h
  have h := it_f c113 h
  by_cases c114 : x = (114 : Int32)
  · have h := it_t c114 h
    cases h
  have h := it_f c114 h
  by_cases c115 : x = (115 : Int32)
  · have h := it_t c115 h
    cases h
  have h := it_f c115 h
  by_cases c116 : x = (116 : Int32)
  · have h := it_t c116 h
    cases h
  have h := it_f c116 h
  by_cases c117 : x = (117 : Int32)
  · have h := it_t c117 h
    cases h
  have h := it_f c117 h
  by_cases c118 : x = (118 : Int32)
  · have h := it_t c118 h
    cases h
  have h := it_f c118 h
  by_cases c119 : x = (119 : Int32)
  · have h := it_t c119 h
    cases h
    rfl
  have h := it_f c119 h
  by_cases c120 : x = (120 : Int32)
  · have h := it_t c120 h
    cases h
    rfl
  have h := it_f c120 h
  cases h
section RS
variable {p : Program} {l : Launch} {e : Env} {R : Room} {s : State} {m : MethodId} {args : Array Value} {below : List Frame} {meth : Method} {c : Code} {D : va_G} {cs : Nat → ClassId} {ad : Nat → Nat} {b0 : Nat} {Q : State → Prop} {nL k : Nat} {V V' : VT} {lv : List (Nat × Value)} {st st0 : List Value} {pc : Nat} {own : String} {cc : ByteArray} {ret : Option FieldType}
theorem isStr_lt {i : Nat} (h : isStr i = true) : i < 6 := of_decide_eq_true h
theorem a_sgetV (C : Ctx p l s m args meth c D cs ad b0 own cc nL ret) {idx i : Nat} (hdg : decode cc pc = .ok (.getfield idx, 3)) (hl : Cond.fieldLink own idx "java/lang/String" "value" "[B" ∈ UW) (hi : isStr i = true)
    (kk : AW p l e R s m args below meth c D cs ad b0 Q nL k V lv (.ref (ad (210 + i)) :: st) (pc + 3)) : AW p l e R s m args below meth c D cs ad b0 Q nL k V lv (.ref (ad (200 + i)) :: st) pc :=
  fun H locs ls hP hS h => vk_getf C.1 C.2.1 (C.2.2.2.2.2.2.2.2.2.2.2.2.2.2.1.1 i (isStr_lt hi)).2.2.1 hS C.2.2.2.1 (C.2.2.2.2.1 _ hl) (fun _ h => h) hdg (kk H locs ls hP hS h)
theorem a_sgetC (C : Ctx p l s m args meth c D cs ad b0 own cc nL ret) {idx i : Nat} (hdg : decode cc pc = .ok (.getfield idx, 3)) (hl : Cond.fieldLink own idx "java/lang/String" "coder" "B" ∈ UW) (hi : isStr i = true)
    (kk : AW p l e R s m args below meth c D cs ad b0 Q nL k V lv (.int 0 :: st) (pc + 3)) : AW p l e R s m args below meth c D cs ad b0 Q nL k V lv (.ref (ad (200 + i)) :: st) pc :=
  fun H locs ls hP hS h => vk_getf C.1 C.2.1 (C.2.2.2.2.2.2.2.2.2.2.2.2.2.2.1.1 i (isStr_lt hi)).2.1 hS C.2.2.2.1 (C.2.2.2.2.1 _ hl) (fun _ h => h) hdg (kk H locs ls hP hS h)
theorem a_salen (C : Ctx p l s m args meth c D cs ad b0 own cc nL ret) {i : Nat} (hdg : decode cc pc = .ok (.arraylength, 1)) (hi : isStr i = true)
    (kk : AW p l e R s m args below meth c D cs ad b0 Q nL k V lv (.int (nI (strLen.getD i 0)) :: st) (pc + 1)) : AW p l e R s m args below meth c D cs ad b0 Q nL k V lv (.ref (ad (210 + i)) :: st) pc :=
  fun H locs ls hP hS h => va_tlen C.1 C.2.1 (C.2.2.2.2.2.2.2.2.2.2.2.2.2.2.1.1 i (isStr_lt hi)).2.2.2 hS rfl hdg (kk H locs ls hP hS h)
theorem a_sbald (C : Ctx p l s m args meth c D cs ad b0 own cc nL ret) {i : Nat} {j : Int32} (hdg : decode cc pc = .ok (.baload, 1)) (hi : isStr i = true) (hin : vp_in j (strLen.getD i 0))
    (kk : AW p l e R s m args below meth c D cs ad b0 Q nL k V lv (.int ((strByt.getD i []).getD j.toNatClampNeg 0) :: st) (pc + 1)) : AW p l e R s m args below meth c D cs ad b0 Q nL k V lv (.int j :: .ref (ad (210 + i)) :: st) pc :=
  fun H locs ls hP hS h => va_tb C.1 C.2.1 (C.2.2.2.2.2.2.2.2.2.2.2.2.2.2.1.1 i (isStr_lt hi)).2.2.2 hS hin rfl hdg (kk H locs ls hP hS h)
theorem a_scs (C : Ctx p l s m args meth c D cs ad b0 own cc nL ret) {idx : Nat} (hdg : decode cc pc = .ok (.getstatic idx, 3)) (hl : Cond.fieldLink own idx "java/lang/String" "COMPACT_STRINGS" "Z" ∈ UW)
    (kk : AW p l e R s m args below meth c D cs ad b0 Q nL k V lv (.int 1 :: st) (pc + 3)) : AW p l e R s m args below meth c D cs ad b0 Q nL k V lv st pc :=
  fun H locs ls hP hS h => va_gets C.1 C.2.1 C.2.2.2.2.2.2.2.2.2.2.2.2.2.2.2.2.2.1 hS C.2.2.2.1 (C.2.2.2.2.1 _ hl) (fun _ h => h) hdg (kk H locs ls hP hS h)
theorem a_sfm (C : Ctx p l s m args meth c D cs ad b0 own cc nL ret) {idx : Nat} (hdg : decode cc pc = .ok (.getstatic idx, 3)) (hl : Cond.fieldLink own idx "jdk/internal/util/Preconditions" "SIOOBE_FORMATTER" "Ljava/util/function/BiFunction;" ∈ UW)
    (kk : ∀ v : Value, (v = .null ∨ ∃ t, v = .ref t) → AW p l e R s m args below meth c D cs ad b0 Q nL k V lv (v :: st) (pc + 3)) : AW p l e R s m args below meth c D cs ad b0 Q nL k V lv st pc := by
  intro H locs ls hP hS h
  rcases C.2.2.2.2.2.2.2.2.2.2.2.2.2.2.2.2.2.2.1 with hz | ⟨t, hz⟩
  · exact va_gets C.1 C.2.1 hz hS C.2.2.2.1 (C.2.2.2.2.1 _ hl) (fun _ h => h) hdg (kk _ (Or.inl rfl) H locs ls hP hS h)
  · exact va_gets C.1 C.2.1 hz hS C.2.2.2.1 (C.2.2.2.2.1 _ hl) (fun _ h => h) hdg (kk _ (Or.inr ⟨t, rfl⟩) H locs ls hP hS h)
/-- a call on a string -/
theorem a_callStr (C : Ctx p l s m args meth c D cs ad b0 own cc nL ret) {idx i n mL d' : Nat} {y : MethodName} {b : ByteArray} {ret' : Option FieldType} {As : (Nat → Nat) → List Value} {As1 : List Value} {x : Int32}
    (hdg : decode cc pc = .ok (.invokevirtual idx, 3)) (cv : CV own idx y b mL ret' n) (hy : y.cls = "java/lang/String") (hi : isStr i = true) (hM : AM d' 0 y (.code y b mL ret') As V V (rI x)) (hA : As ad = .ref (ad (200 + i)) :: As1) (hn : As1.length = n) (hst : st0 = As1.reverse ++ .ref (ad (200 + i)) :: st)
    (hR : d' + 1 ≤ R.frames ∧ 8 + (mL + 11) + 64 * d' ≤ R.locals ∧ k ≤ R.cells ∧ 6 * k ≤ R.slots) (hw : (st.map fun v => v.category).sum ≤ 8)
    (kk : AW p l e R s m args below meth c D cs ad b0 Q nL k V lv (.int x :: st) (pc + 3)) : AW p l e R s m args below meth c D cs ad b0 Q nL k V lv st0 pc := by
  intro H locs ls hP hS hl
  obtain ⟨c1, c2, c3, c4, c5, c6, c7, c8⟩ := cv
  obtain ⟨hx, hb, hml, ho, hts, hfl, -, -, hAd, hb0, hST⟩ := id C
  have hM1 := hM l hfl D cs ad b0 hAd
  have hP0 : ∀ U : State, U.heap = H → s.WarmedH U.vm → va_Pc (As ad) (P0 D cs ad b0 V) (Value.ref (ad (200 + i)) :: As1).toArray U := fun U hU hW => ⟨by rw [hA], P0_at C hP hS hU hW⟩
  have hG : ∀ w ∈ (Cond.code y b mL ret' :: UW), w ∈ UW ∧ ((w.onTables && w.keeps) = true ∨ ∃ ty, w = .arrayClass ty) := by
    intro w hw9
    rcases List.mem_cons.mp hw9 with rfl | h
    · exact ⟨c5, good_of_word (uw_good c5)⟩
    · exact ⟨h, good_of_word (uw_good h)⟩
  have hrun := vx_runV (p := p) (e := e) (R := R) (below := below) (meth := meth) (H := H) (locs := locs) (cells := k) (slots := 6 * k) (b := ad (200 + i)) (As := As1) (rest := st) (g := F0 m pc ls st0) ⟨hx, hb, hml, ho, hts⟩ hM1
    ⟨⟨rfl, rfl, hR.1, hR.2.1, pay_in hts hG, List.mem_cons_self, hts _ c5, hts _ c4, ⟨c6, c7⟩, fun sig h => by rw [h] at c8; exact (Option.some.inj c8).symm, hts _ c1⟩, hts _ c2, hts _ c3⟩
    ⟨P0_blind, by rw [hy]; exact vk_recv (adK := fun j => ad (200 + j)) (i := i) hST.2.2.2.2.1 (isStr_lt hi) hS, hP0⟩ rfl hn hl.1 hst (lv_room hw) hdg ⟨hR.2.2.1, hR.2.2.2⟩
  exact a_after hrun hS hl (fun v hv => by cases hv; exact kk) (fun E hE => by cases hE)
end RS
theorem cs_coder : CV RJ0 335 yJ0_coder_7d493 cJ0_coder_7d493 1 (some .byte) 0 := ⟨uw_in 923 (by decide +kernel) rfl, uw_in 924 (by decide +kernel) rfl, uw_in 925 (by decide +kernel) rfl, uw_in 80 (by decide +kernel) rfl, uw_in 926 (by decide +kernel) rfl, ⟨by decide +kernel, by decide +kernel, by decide +kernel⟩⟩
theorem cs_isL : CV RJ0 492 yJ0_isLatin1_aae02 cJ0_isLatin1_aae02 1 (some .boolean) 0 := ⟨uw_in 933 (by decide +kernel) rfl, uw_in 934 (by decide +kernel) rfl, uw_in 935 (by decide +kernel) rfl, uw_in 80 (by decide +kernel) rfl, uw_in 936 (by decide +kernel) rfl, ⟨by decide +kernel, by decide +kernel, by decide +kernel⟩⟩
theorem cs_l1 : CSt RJ0 495 yJ1_charAt_3b067 cJ1_charAt_3b067 2 (some .char) 2 := ⟨uw_in 937 (by decide +kernel) rfl, uw_in 938 (by decide +kernel) rfl, uw_in 84 (by decide +kernel) rfl, uw_in 939 (by decide +kernel) rfl, ⟨by decide +kernel, by decide +kernel, by decide +kernel⟩⟩
theorem cs_ci : CSt RJ1 9 yJ0_checkIndex_df160 cJ0_checkIndex_df160 2 none 2 := ⟨uw_in 940 (by decide +kernel) rfl, uw_in 941 (by decide +kernel) rfl, uw_in 80 (by decide +kernel) rfl, uw_in 942 (by decide +kernel) rfl, ⟨by decide +kernel, by decide +kernel, by decide +kernel⟩⟩
theorem cs_pc : CSt RJ0 1059 yJ3_checkIndex_8e157 cJ3_checkIndex_8e157 3 (some .int) 3 := ⟨uw_in 945 (by decide +kernel) rfl, uw_in 946 (by decide +kernel) rfl, uw_in 85 (by decide +kernel) rfl, uw_in 947 (by decide +kernel) rfl, ⟨by decide +kernel, by decide +kernel, by decide +kernel⟩⟩
theorem cs_len : CV RX2 40 yJ0_length_8abf5 cJ0_length_8abf5 1 (some .int) 0 := ⟨uw_in 919 (by decide +kernel) rfl, uw_in 920 (by decide +kernel) rfl, uw_in 921 (by decide +kernel) rfl, uw_in 80 (by decide +kernel) rfl, uw_in 922 (by decide +kernel) rfl, ⟨by decide +kernel, by decide +kernel, by decide +kernel⟩⟩
theorem cs_ch : CV RX2 45 yJ0_charAt_5068e cJ0_charAt_5068e 2 (some .char) 1 := ⟨uw_in 929 (by decide +kernel) rfl, uw_in 930 (by decide +kernel) rfl, uw_in 931 (by decide +kernel) rfl, uw_in 80 (by decide +kernel) rfl, uw_in 932 (by decide +kernel) rfl, ⟨by decide +kernel, by decide +kernel, by decide +kernel⟩⟩
theorem fs_val : Cond.fieldLink RJ0 9 "java/lang/String" "value" "[B" ∈ UW := uw_in 1495 (by decide +kernel) rfl
theorem fs_cod : Cond.fieldLink RJ0 15 "java/lang/String" "coder" "B" ∈ UW := uw_in 1496 (by decide +kernel) rfl
theorem fs_cs : Cond.fieldLink RJ0 38 "java/lang/String" "COMPACT_STRINGS" "Z" ∈ UW := uw_in 927 (by decide +kernel) rfl
theorem fs_fm : Cond.fieldLink RJ0 1053 "jdk/internal/util/Preconditions" "SIOOBE_FORMATTER" "Ljava/util/function/BiFunction;" ∈ UW := uw_in 943 (by decide +kernel) rfl
theorem st_all : ∀ i, i < 6 → strLen.getD i 0 < 10 ∧ ∀ k, k < strLen.getD i 0 → ((strByt.getD i []).getD k 0 &&& 255).toUInt32 % 65536 = ((strByt.getD i []).getD k 0 &&& 255).toUInt32 ∧ cok (strCh i k) = true := by decide +kernel
set_option maxRecDepth 20000 in
theorem w_coder (i : Nat) (hi : isStr i = true) (V : VT) : AM 2 0 yJ0_coder_7d493 (.code yJ0_coder_7d493 cJ0_coder_7d493 1 (some .byte)) (fun ad => [.ref (ad (200 + i))]) V V (rI 0) := by
  refine AM.of (by decide +kernel) (fun ad => Nat.le_of_ble_eq_true rfl) (fun {p l e s m args below meth c D cs ad b0} C hT => ?_)
  have C : Ctx p l s m args meth c D cs ad b0 RJ0 cJ0_coder_7d493 1 (some .byte) := C
  refine a_sub (lv' := [(0, .ref (ad (200 + i)))]) [0] rfl ?_
  refine a_scs C dJ0_coder_7d493_0 fs_cs ?_
  refine a_if_eq (tgt := 13) C dJ0_coder_7d493_3 (by decide) (fun q => absurd q (by decide)) (fun _ => ?_)
  refine a_aload_n (q := 0) C dJ0_coder_7d493_6 rfl rfl ?_
  refine a_sgetC C dJ0_coder_7d493_7 fs_cod hi ?_
  refine a_goto (tgt := 14) C dJ0_coder_7d493_10 (by decide) ?_
  exact a_zret C dJ0_coder_7d493_14 rfl rfl (by decide) rfl rfl
set_option maxRecDepth 20000 in
theorem w_isL (i : Nat) (hi : isStr i = true) (V : VT) : AM 2 0 yJ0_isLatin1_aae02 (.code yJ0_isLatin1_aae02 cJ0_isLatin1_aae02 1 (some .boolean)) (fun ad => [.ref (ad (200 + i))]) V V (rI 1) := by
  refine AM.of (by decide +kernel) (fun ad => Nat.le_of_ble_eq_true rfl) (fun {p l e s m args below meth c D cs ad b0} C hT => ?_)
  have C : Ctx p l s m args meth c D cs ad b0 RJ0 cJ0_isLatin1_aae02 1 (some .boolean) := C
  refine a_sub (lv' := [(0, .ref (ad (200 + i)))]) [0] rfl ?_
  refine a_scs C dJ0_isLatin1_aae02_0 fs_cs ?_
  refine a_if_eq (tgt := 17) C dJ0_isLatin1_aae02_3 (by decide) (fun q => absurd q (by decide)) (fun _ => ?_)
  refine a_aload_n (q := 0) C dJ0_isLatin1_aae02_6 rfl rfl ?_
  refine a_sgetC C dJ0_isLatin1_aae02_7 fs_cod hi ?_
  refine a_if_ne (tgt := 17) C dJ0_isLatin1_aae02_10 (by decide) (fun q => absurd rfl q) (fun _ => ?_)
  refine a_iconst (v := 1) C dJ0_isLatin1_aae02_13 rfl ?_
  refine a_goto (tgt := 18) C dJ0_isLatin1_aae02_14 (by decide) ?_
  exact a_zret C dJ0_isLatin1_aae02_18 rfl rfl (by decide) rfl rfl
set_option maxRecDepth 20000 in
theorem w_strLen (i : Nat) (hi : isStr i = true) (V : VT) : AM 3 0 yJ0_length_8abf5 (.code yJ0_length_8abf5 cJ0_length_8abf5 1 (some .int)) (fun ad => [.ref (ad (200 + i))]) V V (rI (nI (strLen.getD i 0))) := by
  refine AM.of (by decide +kernel) (fun ad => Nat.le_of_ble_eq_true rfl) (fun {p l e s m args below meth c D cs ad b0} C hT => ?_)
  have C : Ctx p l s m args meth c D cs ad b0 RJ0 cJ0_length_8abf5 1 (some .int) := C
  refine a_sub (lv' := [(0, .ref (ad (200 + i)))]) [0] rfl ?_
  refine a_aload_n (q := 0) C dJ0_length_8abf5_0 rfl rfl ?_
  refine a_sgetV C dJ0_length_8abf5_1 fs_val hi ?_
  refine a_salen C dJ0_length_8abf5_4 hi ?_
  refine a_aload_n (q := 0) C dJ0_length_8abf5_5 rfl rfl ?_
  refine a_callStr (i := i) (st := [.int (nI (strLen.getD i 0))]) C dJ0_length_8abf5_6 cs_coder rfl hi (w_coder i hi V) rfl rfl rfl ⟨Nat.le_of_ble_eq_true rfl, Nat.le_of_ble_eq_true rfl, Nat.le_of_ble_eq_true rfl, Nat.le_of_ble_eq_true rfl⟩ (Nat.le_of_ble_eq_true rfl) ?_
  refine a_ishr C dJ0_length_8abf5_9 ?_
  exact a_iret C dJ0_length_8abf5_10 rfl (by decide) rfl (by rw [sb_shr0])
set_option maxRecDepth 20000 in
theorem w_pc (x y : Int32) (v : Value) (hv : v = .null ∨ ∃ t, v = .ref t) (h0 : ¬ x < 0) (h1 : x < y) (V : VT) : AM 2 0 yJ3_checkIndex_8e157 (.code yJ3_checkIndex_8e157 cJ3_checkIndex_8e157 3 (some .int)) (fun _ => [.int x, .int y, v]) V V (rI x) := by
  refine AM.of (by decide +kernel) (fun ad => by rcases hv with rfl | ⟨t, rfl⟩ <;> exact Nat.le_of_ble_eq_true rfl) (fun {p l e s m args below meth c D cs ad b0} C hT => ?_)
  have C : Ctx p l s m args meth c D cs ad b0 RJ3 cJ3_checkIndex_8e157 3 (some .int) := C
  refine a_sub (lv' := [(0, .int x), (1, .int y)]) [0, 1] rfl ?_
  refine a_iload_n (q := 0) C dJ3_checkIndex_8e157_0 rfl rfl ?_
  refine a_if_lt (tgt := 9) C dJ3_checkIndex_8e157_1 (by decide) (fun q => absurd q h0) (fun _ => ?_)
  refine a_iload_n (q := 0) C dJ3_checkIndex_8e157_4 rfl rfl ?_
  refine a_iload_n (q := 1) C dJ3_checkIndex_8e157_5 rfl rfl ?_
  refine a_icmp_lt (tgt := 16) C dJ3_checkIndex_8e157_6 (by decide) (fun _ => ?_) (fun q => absurd h1 q)
  refine a_iload_n (q := 0) C dJ3_checkIndex_8e157_16 rfl rfl ?_
  exact a_iret C dJ3_checkIndex_8e157_17 rfl (by decide) rfl rfl
theorem a_popv {p : Program} {l : Launch} {e : Env} {R : Room} {s : State} {m : MethodId} {args : Array Value} {below : List Frame} {meth : Method} {c : Code} {D : va_G} {cs : Nat → ClassId} {ad : Nat → Nat} {b0 : Nat} {Q : State → Prop} {nL k : Nat} {V : VT} {lv : List (Nat × Value)} {st : List Value} {pc : Nat} {v w : Value} (h : v = w)
    (kk : AW p l e R s m args below meth c D cs ad b0 Q nL k V lv (w :: st) pc) : AW p l e R s m args below meth c D cs ad b0 Q nL k V lv (v :: st) pc := h ▸ kk
set_option maxRecDepth 20000 in
theorem w_ci (x y : Int32) (h0 : ¬ x < 0) (h1 : x < y) (V : VT) : AM 3 0 yJ0_checkIndex_df160 (.code yJ0_checkIndex_df160 cJ0_checkIndex_df160 2 none) (fun _ => [.int x, .int y]) V V rV := by
  refine AM.of (by decide +kernel) (fun ad => Nat.le_of_ble_eq_true rfl) (fun {p l e s m args below meth c D cs ad b0} C hT => ?_)
  have C : Ctx p l s m args meth c D cs ad b0 RJ0 cJ0_checkIndex_df160 2 none := C
  refine a_sub (lv' := [(0, .int x), (1, .int y)]) [0, 1] rfl ?_
  refine a_iload_n (q := 0) C dJ0_checkIndex_df160_0 rfl rfl ?_
  refine a_iload_n (q := 1) C dJ0_checkIndex_df160_1 rfl rfl ?_
  refine a_sfm C dJ0_checkIndex_df160_2 fs_fm (fun v hv => ?_)
  refine a_cSi (st := []) C dJ0_checkIndex_df160_5 cs_pc (w_pc x y v hv h0 h1 V) rfl rfl rfl ⟨Nat.le_of_ble_eq_true rfl, Nat.le_of_ble_eq_true rfl, Nat.le_of_ble_eq_true rfl, Nat.le_of_ble_eq_true rfl⟩ (Nat.le_of_ble_eq_true rfl) ?_
  refine a_pop C dJ0_checkIndex_df160_8 rfl ?_
  exact a_vret C dJ0_checkIndex_df160_9 rfl (by decide) rfl rfl
set_option maxRecDepth 20000 in
theorem w_l1 (i k : Nat) (hi : isStr i = true) (hk : k < strLen.getD i 0) (V : VT) : AM 4 0 yJ1_charAt_3b067 (.code yJ1_charAt_3b067 cJ1_charAt_3b067 2 (some .char)) (fun ad => [.ref (ad (210 + i)), .int (nI k)]) V V (rI (strCh i k)) := by
  obtain ⟨hl, hb⟩ := st_all i (isStr_lt hi)
  obtain ⟨hc, hok⟩ := hb k hk
  refine AM.of (by decide +kernel) (fun ad => Nat.le_of_ble_eq_true rfl) (fun {p l e s m args below meth c D cs ad b0} C hT => ?_)
  have C : Ctx p l s m args meth c D cs ad b0 RJ1 cJ1_charAt_3b067 2 (some .char) := C
  refine a_sub (lv' := [(0, .ref (ad (210 + i))), (1, .int (nI k))]) [0, 1] rfl ?_
  refine a_iload_n (q := 1) C dJ1_charAt_3b067_0 rfl rfl ?_
  refine a_aload_n (q := 0) C dJ1_charAt_3b067_1 rfl rfl ?_
  refine a_salen C dJ1_charAt_3b067_2 hi ?_
  refine a_cSv (st := []) C dJ1_charAt_3b067_3 cs_ci (w_ci (nI k) (nI (strLen.getD i 0)) (nI_pos (by omega)) (nI_lt hk (by omega)) V) rfl rfl rfl ⟨Nat.le_of_ble_eq_true rfl, Nat.le_of_ble_eq_true rfl, Nat.le_of_ble_eq_true rfl, Nat.le_of_ble_eq_true rfl⟩ (Nat.le_of_ble_eq_true rfl) ?_
  refine a_aload_n (q := 0) C dJ1_charAt_3b067_6 rfl rfl ?_
  refine a_iload_n (q := 1) C dJ1_charAt_3b067_7 rfl rfl ?_
  refine a_sbald C dJ1_charAt_3b067_8 hi (vp_in_nI hk (by omega)) ?_
  refine a_sipush (v := 255) C dJ1_charAt_3b067_9 rfl ?_
  refine a_iand C dJ1_charAt_3b067_12 ?_
  refine a_i2c (v := strCh i k) C dJ1_charAt_3b067_13 (by
    unfold strCh
    rw [nI_clamp (by omega), hc]
    rfl) ?_
  exact a_zret C dJ1_charAt_3b067_14 rfl (cok_n hok) (by decide) rfl rfl
set_option maxRecDepth 20000 in
theorem w_strCh (i k : Nat) (hi : isStr i = true) (hk : k < strLen.getD i 0) (V : VT) : AM 5 0 yJ0_charAt_5068e (.code yJ0_charAt_5068e cJ0_charAt_5068e 2 (some .char)) (fun ad => [.ref (ad (200 + i)), .int (nI k)]) V V (rI (strCh i k)) := by
  obtain ⟨hl, hb⟩ := st_all i (isStr_lt hi)
  obtain ⟨hc, hok⟩ := hb k hk
  refine AM.of (by decide +kernel) (fun ad => Nat.le_of_ble_eq_true rfl) (fun {p l e s m args below meth c D cs ad b0} C hT => ?_)
  have C : Ctx p l s m args meth c D cs ad b0 RJ0 cJ0_charAt_5068e 2 (some .char) := C
  refine a_sub (lv' := [(0, .ref (ad (200 + i))), (1, .int (nI k))]) [0, 1] rfl ?_
  refine a_aload_n (q := 0) C dJ0_charAt_5068e_0 rfl rfl ?_
  refine a_callStr (i := i) (st := []) C dJ0_charAt_5068e_1 cs_isL rfl hi (w_isL i hi V) rfl rfl rfl ⟨Nat.le_of_ble_eq_true rfl, Nat.le_of_ble_eq_true rfl, Nat.le_of_ble_eq_true rfl, Nat.le_of_ble_eq_true rfl⟩ (Nat.le_of_ble_eq_true rfl) ?_
  refine a_if_eq (tgt := 16) C dJ0_charAt_5068e_4 (by decide) (fun q => absurd q (by decide)) (fun _ => ?_)
  refine a_aload_n (q := 0) C dJ0_charAt_5068e_7 rfl rfl ?_
  refine a_sgetV C dJ0_charAt_5068e_8 fs_val hi ?_
  refine a_iload_n (q := 1) C dJ0_charAt_5068e_11 rfl rfl ?_
  refine a_cSi (st := []) C dJ0_charAt_5068e_12 cs_l1 (w_l1 i k hi hk V) rfl rfl rfl ⟨Nat.le_of_ble_eq_true rfl, Nat.le_of_ble_eq_true rfl, Nat.le_of_ble_eq_true rfl, Nat.le_of_ble_eq_true rfl⟩ (Nat.le_of_ble_eq_true rfl) ?_
  exact a_zret C dJ0_charAt_5068e_15 rfl (cok_n hok) (by decide) rfl rfl
section RT
variable {p : Program} {l : Launch} {e : Env} {R : Room} {s : State} {m : MethodId} {args : Array Value} {below : List Frame} {meth : Method} {c : Code} {D : va_G} {cs : Nat → ClassId} {ad : Nat → Nat} {b0 : Nat} {Q : State → Prop} {nL k : Nat} {V : VT} {lv : List (Nat × Value)} {st : List Value} {pc : Nat} {cc : ByteArray} {ret : Option FieldType}
theorem a_strLen (C : Ctx p l s m args meth c D cs ad b0 RX2 cc nL ret) {i : Nat} (hdg : decode cc pc = .ok (.invokevirtual 40, 3)) (hi : isStr i = true) (hR : 3 + 1 ≤ R.frames ∧ 8 + (1 + 11) + 64 * 3 ≤ R.locals ∧ k ≤ R.cells ∧ 6 * k ≤ R.slots) (hw : (st.map fun v => v.category).sum ≤ 8)
    (kk : AW p l e R s m args below meth c D cs ad b0 Q nL k V lv (.int (nI (strLen.getD i 0)) :: st) (pc + 3)) : AW p l e R s m args below meth c D cs ad b0 Q nL k V lv (.ref (ad (200 + i)) :: st) pc :=
  a_callStr (i := i) (st := st) C hdg cs_len rfl hi (w_strLen i hi V) rfl rfl rfl hR hw kk
theorem a_strCh (C : Ctx p l s m args meth c D cs ad b0 RX2 cc nL ret) {i : Nat} {j : Int32} (hdg : decode cc pc = .ok (.invokevirtual 45, 3)) (hi : isStr i = true) (hin : inb j (strLen.getD i 0) = true) (hR : 5 + 1 ≤ R.frames ∧ 8 + (2 + 11) + 64 * 5 ≤ R.locals ∧ k ≤ R.cells ∧ 6 * k ≤ R.slots) (hw : (st.map fun v => v.category).sum ≤ 8)
    (kk : AW p l e R s m args below meth c D cs ad b0 Q nL k V lv (.int (strCh i j.toNatClampNeg) :: st) (pc + 3)) : AW p l e R s m args below meth c D cs ad b0 Q nL k V lv (.int j :: .ref (ad (200 + i)) :: st) pc := by
  obtain ⟨hl, hb⟩ := st_all i (isStr_lt hi)
  obtain ⟨q, hq, rfl⟩ := inb_of hin (by omega)
  rw [nI_clamp (by omega)] at kk
  exact a_callStr (i := i) (st := st) C hdg cs_ch rfl hi (w_strCh i q hi hq V) rfl rfl rfl hR hw kk
end RT
