/-! THE LAW: the rules that its body needs besides -/
def CSX (own : String) (idx : Nat) (y : MethodName) (b : ByteArray) (mL : Nat) (ret : Option FieldType) (hh : List (Nat × Nat × Nat × Nat)) (n : Nat) : Prop :=
  Cond.methodLink own idx y ∈ UW ∧ Cond.static y ∈ UW ∧ Cond.initialized y.cls ∈ UW ∧ Cond.codeWith y b mL ret hh ∈ UW ∧ (y.cls ≠ "java/lang/invoke/MethodHandle" ∧ y.cls ≠ "java/lang/invoke/VarHandle" ∧ (parseMethodDescriptor y.desc).map (fun d => d.parameters.length) = some n)
section RLAW
variable {p : Program} {l : Launch} {e : Env} {R : Room} {s : State} {m : MethodId} {args : Array Value} {below : List Frame} {meth : Method} {c : Code} {D : va_G} {cs : Nat → ClassId} {ad : Nat → Nat} {b0 : Nat} {Q : State → Prop} {nL k : Nat} {V V' : VT} {lv : List (Nat × Value)} {st st0 : List Value} {pc : Nat} {own : String} {cc : ByteArray} {ret : Option FieldType}
theorem a_callSX (C : Ctx p l s m args meth c D cs ad b0 own cc nL ret) {idx n mL d' k' : Nat} {y : MethodName} {b : ByteArray} {ret' : Option FieldType} {hh : List (Nat × Nat × Nat × Nat)} {As : (Nat → Nat) → List Value} {As1 : List Value} {r : (Nat → Nat) → OutV}
    (hdg : decode cc pc = .ok (.invokestatic idx, 3)) (cv : CSX own idx y b mL ret' hh n) (hM : AM d' k' y (.codeWith y b mL ret' hh) As V V' r) (hA : As ad = As1) (hn : As1.length = n) (hst : st0 = As1.reverse ++ st)
    (hR : d' + 1 ≤ R.frames ∧ 8 + (mL + 11) + 64 * d' ≤ R.locals ∧ k + k' ≤ R.cells ∧ 6 * k + 6 * k' ≤ R.slots) (hw : (st.map fun v => v.category).sum ≤ 8)
    (kn : ∀ v : Option Value, r ad = .inl v → AW p l e R s m args below meth c D cs ad b0 Q nL (k + k') V' lv (v.toList ++ st) (pc + 3))
    (kx : ∀ E : String, r ad = .inr E → AX p l e R s m args below meth c D cs ad b0 Q nL (k + k') V' lv E pc) : AW p l e R s m args below meth c D cs ad b0 Q nL k V lv st0 pc := by
  intro H locs ls hP hS hl
  obtain ⟨c1, c2, c4, c5, c6, c7, c8⟩ := cv
  obtain ⟨hx, hb, hml, ho, hts, hfl, -, -, hAd, hb0, hST⟩ := id C
  have hM1 := hM l hfl D cs ad b0 hAd
  have hP0 : ∀ U : State, U.heap = H → s.WarmedH U.vm → va_Pc (As ad) (P0 D cs ad b0 V) As1.toArray U := fun U hU hW => ⟨by rw [hA], P0_at C hP hS hU hW⟩
  have hG : ∀ w ∈ (Cond.codeWith y b mL ret' hh :: UW), w ∈ UW ∧ ((w.onTables && w.keeps) = true ∨ ∃ ty, w = .arrayClass ty) := by
    intro w hw9
    rcases List.mem_cons.mp hw9 with rfl | h
    · exact ⟨c5, good_of_word (uw_good c5)⟩
    · exact ⟨h, good_of_word (uw_good h)⟩
  have hrun := vx_runSX (p := p) (e := e) (R := R) (below := below) (meth := meth) (H := H) (locs := locs) (cells := k) (slots := 6 * k) (As := As1) (rest := st) (g := F0 m pc ls st0) (hh := hh) ⟨hx, hb, hml, ho, hts⟩ hM1
    ⟨⟨rfl, rfl, hR.1, hR.2.1, pay_in hts hG, List.mem_cons_self⟩, hts _ c5, hts _ c4, ⟨c6, c7⟩, fun sig h => by rw [h] at c8; exact (Option.some.inj c8).symm, hts _ c1, hts _ c2⟩
    ⟨P0_blind, hP0⟩ rfl hn hl.1 hst (lv_room hw) hdg ⟨hR.2.2.1, hR.2.2.2⟩
  exact a_after hrun hS hl kn kx
theorem a_cSX (C : Ctx p l s m args meth c D cs ad b0 own cc nL ret) {x : Int32} {idx n mL d' k' : Nat} {y : MethodName} {b : ByteArray} {ret' : Option FieldType} {hh : List (Nat × Nat × Nat × Nat)} {As : (Nat → Nat) → List Value} {As1 : List Value} (hdg : decode cc pc = .ok (.invokestatic idx, 3)) (cv : CSX own idx y b mL ret' hh n) (hM : AM d' k' y (.codeWith y b mL ret' hh) As V V' (rI x)) (hA : As ad = As1) (hn : As1.length = n) (hst : st0 = As1.reverse ++ st)
    (hR : d' + 1 ≤ R.frames ∧ 8 + (mL + 11) + 64 * d' ≤ R.locals ∧ k + k' ≤ R.cells ∧ 6 * k + 6 * k' ≤ R.slots) (hw : (st.map fun v => v.category).sum ≤ 8)
    (kk : AW p l e R s m args below meth c D cs ad b0 Q nL (k + k') V' lv (.int x :: st) (pc + 3)) : AW p l e R s m args below meth c D cs ad b0 Q nL k V lv st0 pc := a_callSX C hdg cv hM hA hn hst hR hw (fun v hv => by cases hv; exact kk) (fun E hE => by cases hE)
/-- the law's script -/
theorem a_sld (C : Ctx p l s m args meth c D cs ad b0 own cc nL ret) {b L : Nat} {xs : Nat → Int32} (hX : va_X b L xs s s.heap) (hbl : b < b0) {i : Int32} {q : Nat} (hi : i = nI q) (hq : q < L) (hL : L < 2 ^ 31) (hdg : decode cc pc = .ok (.iaload, 1))
    (kk : AW p l e R s m args below meth c D cs ad b0 Q nL k V lv (.int (xs q) :: st) (pc + 1)) : AW p l e R s m args below meth c D cs ad b0 Q nL k V lv (.int i :: .ref b :: st) pc := by
  intro H locs ls hP hS hl
  subst hi
  refine va_sld C.1 C.2.1 hX (Nat.lt_of_lt_of_le hbl C.2.2.2.2.2.2.2.2.2.1) (fun h => absurd h (Nat.not_le.mpr hbl)) hS (vp_in_nI hq (by omega)) hdg ?_
  rw [nI_clamp (by omega)]
  exact kk H locs ls hP hS hl
theorem a_slen (C : Ctx p l s m args meth c D cs ad b0 own cc nL ret) {b L : Nat} {xs : Nat → Int32} (hX : va_X b L xs s s.heap) (hbl : b < b0) (hdg : decode cc pc = .ok (.arraylength, 1))
    (kk : AW p l e R s m args below meth c D cs ad b0 Q nL k V lv (.int (nI L) :: st) (pc + 1)) : AW p l e R s m args below meth c D cs ad b0 Q nL k V lv (.ref b :: st) pc := by
  intro H locs ls hP hS hl
  exact va_slen C.1 C.2.1 hX (Nat.lt_of_lt_of_le hbl C.2.2.2.2.2.2.2.2.2.1) (fun h => absurd h (Nat.not_le.mpr hbl)) hS hdg (kk H locs ls hP hS hl)
theorem lv_lcmpE {H : Heap} {locs : List Loc} {ls : Array Slot} {cells slots : Nat} (hexec : p.tables.exec = Jvm.exec) (hb : c.code = cc) {x : Int64} (hdg : decode cc pc = .ok (.lcmp, 1))
    (kk : W p l e R s m args below meth c H locs cells slots Q (F0 m (pc + 1) ls (.int 0 :: st))) : W p l e R s m args below meth c H locs cells slots Q (F0 m pc ls (.long x :: .long x :: st)) := by
  intro T hT X
  obtain ⟨t, a, b⟩ := kk T hT X
  refine ⟨t, ?_, b⟩
  have h1 : ¬ x > x := fun q => absurd q (by simp)
  have h2 : (x == x) = true := by simp
  jvm_step X.here [X.here.top, hexec, hb, hdg, h1, h2]
  exact a
theorem a_lcmpE (C : Ctx p l s m args meth c D cs ad b0 own cc nL ret) {x y : Int32} (hxy : x = y) (hdg : decode cc pc = .ok (.lcmp, 1))
    (kk : AW p l e R s m args below meth c D cs ad b0 Q nL k V lv (.int 0 :: st) (pc + 1)) : AW p l e R s m args below meth c D cs ad b0 Q nL k V lv (.long y.toInt64 :: .long x.toInt64 :: st) pc := by
  subst hxy
  exact fun H locs ls hP hS hl => lv_lcmpE C.1 C.2.1 hdg (kk H locs ls hP hS hl)
theorem a_dcmp (C : Ctx p l s m args meth c D cs ad b0 own cc nL ret) {x y : UInt64} {op : CmpOp} (hdg : decode cc pc = .ok (.dcmp op, 1))
    (kk : AW p l e R s m args below meth c D cs ad b0 Q nL k V lv (.int (Op.cmpValue (FP.dcmp x y) op) :: st) (pc + 1)) : AW p l e R s m args below meth c D cs ad b0 Q nL k V lv (.double y :: .double x :: st) pc :=
  fun H locs ls hP hS hl => lv_dcmp C.1 C.2.1 hdg (kk H locs ls hP hS hl)
theorem a_dload (C : Ctx p l s m args meth c D cs ad b0 own cc nL ret) {i q : Nat} {x : UInt64} (hdg : decode cc pc = .ok (.dload i, 2)) (hq : lv[q]? = some (i, .double x))
    (kk : AW p l e R s m args below meth c D cs ad b0 Q nL k V lv (.double x :: st) (pc + 2)) : AW p l e R s m args below meth c D cs ad b0 Q nL k V lv st pc :=
  fun H locs ls hP hS hl => lv_dload C.1 C.2.1 hdg (lv_at hl q hq) (kk H locs ls hP hS hl)
theorem a_fload (C : Ctx p l s m args meth c D cs ad b0 own cc nL ret) {i q : Nat} {x : UInt32} (hdg : decode cc pc = .ok (.fload i, 2)) (hq : lv[q]? = some (i, .float x))
    (kk : AW p l e R s m args below meth c D cs ad b0 Q nL k V lv (.float x :: st) (pc + 2)) : AW p l e R s m args below meth c D cs ad b0 Q nL k V lv st pc :=
  fun H locs ls hP hS hl => lv_fload C.1 C.2.1 hdg (lv_at hl q hq) (kk H locs ls hP hS hl)
theorem a_dstore (C : Ctx p l s m args meth c D cs ad b0 own cc nL ret) {i : Nat} {x : UInt64} {lv' : List (Nat × Value)} (hdg : decode cc pc = .ok (.dstore i, 2)) (hn : i + 1 < nL) (hl : (i, Value.double x) :: lv.filter (fun q => !(q.1 == i) && (!(q.1 == i + 1) && !(q.1 + 1 == i && q.2.category == 2))) = lv')
    (kk : AW p l e R s m args below meth c D cs ad b0 Q nL k V lv' st (pc + 2)) : AW p l e R s m args below meth c D cs ad b0 Q nL k V lv (.double x :: st) pc :=
  fun H locs ls hP hS h => lv_dstore C.1 C.2.1 hdg h hn hl (fun ls' h' => kk H locs ls' hP hS h')
theorem a_fstore (C : Ctx p l s m args meth c D cs ad b0 own cc nL ret) {i : Nat} {x : UInt32} {lv' : List (Nat × Value)} (hdg : decode cc pc = .ok (.fstore i, 2)) (hn : i < nL) (hl : (i, Value.float x) :: lv.filter (fun q => !(q.1 == i) && !(q.1 + 1 == i && q.2.category == 2)) = lv')
    (kk : AW p l e R s m args below meth c D cs ad b0 Q nL k V lv' st (pc + 2)) : AW p l e R s m args below meth c D cs ad b0 Q nL k V lv (.float x :: st) pc :=
  fun H locs ls hP hS h => lv_fstore C.1 C.2.1 hdg h hn hl (fun ls' h' => kk H locs ls' hP hS h')
end RLAW
