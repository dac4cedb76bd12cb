/-! THE RULES that end a method, throw, call -/
theorem Ctx.exec {p : Program} {l : Launch} {s : State} {m : MethodId} {args : Array Value} {meth : Method} {c : Code} {D : va_G} {cs : Nat → ClassId} {ad : Nat → Nat} {b0 : Nat} {own : String} {cc : ByteArray} {nL : Nat} {ret : Option FieldType} (C : Ctx p l s m args meth c D cs ad b0 own cc nL ret) :
    p.tables.exec = Jvm.exec ∧ c.code = cc ∧ c.maxLocals = nL ∧ s.vm.findClass own = some m.cls ∧ (∀ w ∈ UW, w.before args s = true) := ⟨C.1, C.2.1, C.2.2.1, C.2.2.2.1, C.2.2.2.2.1⟩
section RE
variable {p : Program} {l : Launch} {e : Env} {R : Room} {s : State} {m : MethodId} {args : Array Value} {below : List Frame} {meth : Method} {c : Code} {D : va_G} {cs : Nat → ClassId} {ad : Nat → Nat} {b0 : Nat} {Q : State → Prop} {nL k K : Nat} {V V' : VT} {lv : List (Nat × Value)} {st : List Value} {pc : Nat} {own : String} {cc : ByteArray} {ret : Option FieldType} {r : OutV}
abbrev QF (below : List Frame) (D : va_G) (cs : Nat → ClassId) (ad : Nat → Nat) (b0 : Nat) (V : VT) (r : OutV) (args : Array Value) (s : State) (K : Nat) : State → Prop := vx_MQ below (QR D cs ad b0 V r) (XR D cs ad b0 V r) args s K (6 * K) (fun q => b0 ≤ q)
theorem a_iret (C : Ctx p l s m args meth c D cs ad b0 own cc nL ret) {x : Int32} (hdg : decode cc pc = .ok (.ireturn, 1)) (hret : ret = some .int) (hk : k ≤ K) (hV : V' = V) (hr : r = .inl (some (.int x))) :
    AW p l e R s m args below meth c D cs ad b0 (QF below D cs ad b0 V' r args s K) nL k V lv [.int x] pc := by
  intro H locs ls hP hS hl
  subst hV
  have hr9 : meth.sig.returnType = some .int := by rw [← hret]; exact C.2.2.2.2.2.2.2.1
  exact vx_ret (W.widen hk (Nat.mul_le_mul_left 6 hk) (W.iret C.1 C.2.1 hr9 (fun t ht _ => ⟨⟨_, hr, rfl, by rw [ht]; exact hP⟩, hS.F ht⟩) hS.2.2 hdg (hlocks := C.2.2.2.2.2.2.1)))
theorem a_zret (C : Ctx p l s m args meth c D cs ad b0 own cc nL ret) {x : Int32} {ty : FieldType} (hdg : decode cc pc = .ok (.ireturn, 1)) (hret : ret = some ty) (hn : narrow ty (.int x) = .int x) (hk : k ≤ K) (hV : V' = V) (hr : r = .inl (some (.int x))) :
    AW p l e R s m args below meth c D cs ad b0 (QF below D cs ad b0 V' r args s K) nL k V lv [.int x] pc := by
  intro H locs ls hP hS hl
  subst hV
  have hr9 : meth.sig.returnType = some ty := by rw [← hret]; exact C.2.2.2.2.2.2.2.1
  exact vx_ret (W.widen hk (Nat.mul_le_mul_left 6 hk) (W.zret C.1 C.2.1 hr9 hn (fun t ht _ => ⟨⟨_, hr, rfl, by rw [ht]; exact hP⟩, hS.F ht⟩) hS.2.2 hdg (hlocks := C.2.2.2.2.2.2.1)))
theorem a_vret (C : Ctx p l s m args meth c D cs ad b0 own cc nL ret) (hdg : decode cc pc = .ok (.return_, 1)) (hret : ret = none) (hk : k ≤ K) (hV : V' = V) (hr : r = .inl none) :
    AW p l e R s m args below meth c D cs ad b0 (QF below D cs ad b0 V' r args s K) nL k V lv [] pc := by
  intro H locs ls hP hS hl
  subst hV
  have hr9 : meth.sig.returnType = none := by rw [← hret]; exact C.2.2.2.2.2.2.2.1
  exact vx_ret (W.widen hk (Nat.mul_le_mul_left 6 hk) (W.vret C.1 C.2.1 hr9 (fun t ht _ => ⟨⟨_, hr, rfl, by rw [ht]; exact hP⟩, hS.F ht⟩) hS.2.2 hdg (hlocks := C.2.2.2.2.2.2.1)))
theorem a_dret (C : Ctx p l s m args meth c D cs ad b0 own cc nL ret) {x : UInt64} (hdg : decode cc pc = .ok (.dreturn, 1)) (hret : ret = some .double) (hk : k ≤ K) (hV : V' = V) (hr : r = .inl (some (.double x))) :
    AW p l e R s m args below meth c D cs ad b0 (QF below D cs ad b0 V' r args s K) nL k V lv [.double x] pc := by
  intro H locs ls hP hS hl
  subst hV
  have hr9 : meth.sig.returnType = some .double := by rw [← hret]; exact C.2.2.2.2.2.2.2.1
  exact vx_ret (W.widen hk (Nat.mul_le_mul_left 6 hk) (W.dret C.1 C.2.1 hr9 (fun t ht _ => ⟨⟨_, hr, rfl, by rw [ht]; exact hP⟩, hS.F ht⟩) hS.2.2 hdg (hlocks := C.2.2.2.2.2.2.1)))
theorem a_fret (C : Ctx p l s m args meth c D cs ad b0 own cc nL ret) {x : UInt32} (hdg : decode cc pc = .ok (.freturn, 1)) (hret : ret = some .float) (hk : k ≤ K) (hV : V' = V) (hr : r = .inl (some (.float x))) :
    AW p l e R s m args below meth c D cs ad b0 (QF below D cs ad b0 V' r args s K) nL k V lv [.float x] pc := by
  intro H locs ls hP hS hl
  subst hV
  have hr9 : meth.sig.returnType = some .float := by rw [← hret]; exact C.2.2.2.2.2.2.2.1
  exact vx_ret (W.widen hk (Nat.mul_le_mul_left 6 hk) (W.fret C.1 C.2.1 hr9 (fun t ht _ => ⟨⟨_, hr, rfl, by rw [ht]; exact hP⟩, hS.F ht⟩) hS.2.2 hdg (hlocks := C.2.2.2.2.2.2.1)))
theorem a_aret (C : Ctx p l s m args meth c D cs ad b0 own cc nL ret) {v : Value} {n : String} (hdg : decode cc pc = .ok (.areturn, 1)) (hret : ret = some (.object n)) (hv : v = .null ∨ ∃ a, v = .ref a) (hk : k ≤ K) (hV : V' = V) (hr : r = .inl (some v)) :
    AW p l e R s m args below meth c D cs ad b0 (QF below D cs ad b0 V' r args s K) nL k V lv [v] pc := by
  intro H locs ls hP hS hl
  subst hV
  have hr9 : meth.sig.returnType = some (.object n) := by rw [← hret]; exact C.2.2.2.2.2.2.2.1
  exact vx_ret (W.widen hk (Nat.mul_le_mul_left 6 hk) (W.aret C.1 C.2.1 hr9 (Or.inl ⟨n, rfl⟩) hv (fun t ht _ => ⟨⟨_, hr, rfl, by rw [ht]; exact hP⟩, hS.F ht⟩) hS.2.2 hdg (hlocks := C.2.2.2.2.2.2.1)))
/-- a thrown E goes on to the caller -/
theorem a_xout (C : Ctx p l s m args meth c D cs ad b0 own cc nL ret) (hT : ∀ x ∈ c.exceptionTable.toList, False) {E : String} (hk : k ≤ K) (hV : V' = V) (hr : r = .inr E) :
    AX p l e R s m args below meth c D cs ad b0 (QF below D cs ad b0 V' r args s K) nL k V lv E pc := by
  intro H locs ls st ce q hP hS hl h1 h2 h3
  subst hV
  exact vx_out (fun x hx => (hT x hx).elim) C.2.2.2.2.2.2.1 h1 h2 h3 (fun t ht _ => ⟨hr, by rw [ht]; exact hP, hS.F ht⟩) hS.2.2 hk (Nat.mul_le_mul_left 6 hk)
abbrev exNames : List String := ["java/lang/RuntimeException", "java/lang/Exception"]
/-- the words of 'throw new cls(text)' -/
def TH (own cls : String) (ik ic : Nat) : Prop := Bundle.fit cls = true ∧ Cond.classLink own ik cls ∈ UW ∧ Cond.initialized cls ∈ UW ∧ (∀ w ∈ vx_atS own ic cls exNames, w ∈ UW ∨ w ∈ BW)
theorem TH.of {own cls : String} {ik ic : Nat} (h1 : Bundle.fit cls = true) (h2 : Cond.classLink own ik cls ∈ UW) (h3 : Cond.initialized cls ∈ UW) (h4 : (vx_atS own ic cls exNames).all (fun w => decide (w ∈ lw_tbl) && (goodWord w || isBW w)) = true) : TH own cls ik ic := by
  refine ⟨h1, h2, h3, fun w hw => ?_⟩
  have h := List.all_eq_true.mp h4 w hw
  simp only [Bool.and_eq_true, decide_eq_true_eq, Bool.or_eq_true] at h
  rcases h.2 with g | g
  · exact Or.inl (List.mem_filter.mpr ⟨h.1, g⟩)
  · exact Or.inr (List.mem_filter.mpr ⟨h.1, g⟩)
theorem th_names : ∀ n ∈ exNames, Bundle.fit n = true := by decide +kernel
theorem a_throw (C : Ctx p l s m args meth c D cs ad b0 own cc nL ret) (hT : ∀ x ∈ c.exceptionTable.toList, False) {cls text : String} {ik is ic : Nat} (th : TH own cls ik ic) (hs : (own, is, text) ∈ strM)
    (d0 : decode cc pc = .ok (.new ik, 3)) (d3 : decode cc (pc + 3) = .ok (.dup, 1)) (d4 : decode cc (pc + 4) = .ok (.ldc is, 2)) (d6 : decode cc (pc + 6) = .ok (.invokespecial ic, 3)) (d9 : decode cc (pc + 9) = .ok (.athrow, 1))
    (hR : 6 ≤ R.frames ∧ 90 ≤ R.locals ∧ k + 1 ≤ R.cells ∧ 6 * k + 6 ≤ R.slots) (hk : k + 1 ≤ K) (hV : V' = V) (hr : r = .inr cls) :
    AW p l e R s m args below meth c D cs ad b0 (QF below D cs ad b0 V' r args s K) nL k V lv [] pc := by
  intro H locs ls hP hS hl
  subst hV
  obtain ⟨hx, hb, hml, ho, hts, hfl, hlk, -, hAd, hb0, hST⟩ := C
  obtain ⟨h1, h2, h3, h4⟩ := th
  obtain ⟨hK, hB, hM, -, -, hU, hN, -⟩ := hST
  obtain ⟨sa, hsa⟩ := hM _ hs
  have hw : ∀ w ∈ vx_atS own ic cls exNames, w.before args s = true := fun w hw => (h4 w hw).elim (fun q => hts w q) (fun q => hB.use q)
  refine vx_throwS (A := fun q => b0 ≤ q) hx hb hfl ho h1 th_names (hts _ h2) (hts _ h3) hsa hw ?_ hU hN hS (by rw [hml]; exact hl.1) d0 d3 d4 d6 d9 (fun x hx => (hT x hx).elim) (by show 2 + 3 < R.frames; omega) (by show 0 + (13 * 3 + 43) ≤ R.locals; omega) hR.2.2.1 hR.2.2.2 hlk ?_ hS.2.2 hk (by omega)
  · intro w hw
    rcases List.mem_cons.mp hw with rfl | hw
    · rfl
    · rcases List.mem_cons.mp hw with rfl | hw
      · rfl
      · rcases h4 w hw with q | q
        · unfold vx_ot; rw [uw_good q, Bool.or_true]
        · unfold vx_ot; rw [isBW_tab (List.mem_filter.mp q).2, Bool.true_or]
  · intro t _ hz hq
    refine ⟨hr, hP.kept (fun j q hj => hq _ (hP j q hj).lt), Nat.le_trans hS.1 hz, fun q h5 h6 => ?_⟩
    rw [hq q (Nat.lt_of_lt_of_le h5 hS.1)]
    exact hS.2.1 q h5 h6
theorem a_throwW (C : Ctx p l s m args meth c D cs ad b0 own cc nL ret) (hT : ∀ x ∈ c.exceptionTable.toList, False) {cls text : String} {ik is ic : Nat} (th : TH own cls ik ic) (hs : (own, is, text) ∈ strM)
    (d0 : decode cc pc = .ok (.new ik, 3)) (d3 : decode cc (pc + 3) = .ok (.dup, 1)) (d4 : decode cc (pc + 4) = .ok (.ldc_w is, 3)) (d7 : decode cc (pc + 7) = .ok (.invokespecial ic, 3)) (d10 : decode cc (pc + 10) = .ok (.athrow, 1))
    (hR : 6 ≤ R.frames ∧ 90 ≤ R.locals ∧ k + 1 ≤ R.cells ∧ 6 * k + 6 ≤ R.slots) (hk : k + 1 ≤ K) (hV : V' = V) (hr : r = .inr cls) :
    AW p l e R s m args below meth c D cs ad b0 (QF below D cs ad b0 V' r args s K) nL k V lv [] pc := by
  intro H locs ls hP hS hl
  subst hV
  obtain ⟨hx, hb, hml, ho, hts, hfl, hlk, -, hAd, hb0, hST⟩ := C
  obtain ⟨h1, h2, h3, h4⟩ := th
  obtain ⟨hK, hB, hM, -, -, hU, hN, -⟩ := hST
  obtain ⟨sa, hsa⟩ := hM _ hs
  have hw : ∀ w ∈ vx_atS own ic cls exNames, w.before args s = true := fun w hw => (h4 w hw).elim (fun q => hts w q) (fun q => hB.use q)
  refine vx_throwSW (A := fun q => b0 ≤ q) hx hb hfl ho h1 th_names (hts _ h2) (hts _ h3) hsa hw ?_ hU hN hS (by rw [hml]; exact hl.1) d0 d3 d4 d7 d10 (fun x hx => (hT x hx).elim) (by show 2 + 3 < R.frames; omega) (by show 0 + (13 * 3 + 43) ≤ R.locals; omega) hR.2.2.1 hR.2.2.2 hlk ?_ hS.2.2 hk (by omega)
  · intro w hw
    rcases List.mem_cons.mp hw with rfl | hw
    · rfl
    · rcases List.mem_cons.mp hw with rfl | hw
      · rfl
      · rcases h4 w hw with q | q
        · unfold vx_ot; rw [uw_good q, Bool.or_true]
        · unfold vx_ot; rw [isBW_tab (List.mem_filter.mp q).2, Bool.true_or]
  · intro t _ hz hq
    refine ⟨hr, hP.kept (fun j q hj => hq _ (hP j q hj).lt), Nat.le_trans hS.1 hz, fun q h5 h6 => ?_⟩
    rw [hq q (Nat.lt_of_lt_of_le h5 hS.1)]
    exact hS.2.1 q h5 h6
end RE
/-! calls -/
def CV (own : String) (idx : Nat) (y : MethodName) (b : ByteArray) (mL : Nat) (ret : Option FieldType) (n : Nat) : Prop :=
  Cond.methodLink own idx y ∈ UW ∧ Cond.instanceMethod y ∈ UW ∧ Cond.selects y.cls y y ∈ UW ∧ Cond.initialized y.cls ∈ UW ∧ Cond.code y b mL ret ∈ UW ∧ (y.cls ≠ "java/lang/invoke/MethodHandle" ∧ y.cls ≠ "java/lang/invoke/VarHandle" ∧ (parseMethodDescriptor y.desc).map (fun d => d.parameters.length) = some n)
def CSt (own : String) (idx : Nat) (y : MethodName) (b : ByteArray) (mL : Nat) (ret : Option FieldType) (n : Nat) : Prop :=
  Cond.methodLink own idx y ∈ UW ∧ Cond.static y ∈ UW ∧ Cond.initialized y.cls ∈ UW ∧ Cond.code y b mL ret ∈ UW ∧ (y.cls ≠ "java/lang/invoke/MethodHandle" ∧ y.cls ≠ "java/lang/invoke/VarHandle" ∧ (parseMethodDescriptor y.desc).map (fun d => d.parameters.length) = some n)
section RC
variable {p : Program} {l : Launch} {e : Env} {R : Room} {s : State} {m : MethodId} {args : Array Value} {below : List Frame} {meth : Method} {c : Code} {D : va_G} {cs : Nat → ClassId} {ad : Nat → Nat} {b0 : Nat} {Q : State → Prop} {nL k : Nat} {V V' : VT} {lv : List (Nat × Value)} {st st0 : List Value} {pc : Nat} {own : String} {cc : ByteArray} {ret : Option FieldType}
theorem P0_blind {D : va_G} {cs : Nat → ClassId} {ad : Nat → Nat} {b0 : Nat} {V : VT} {av : List Value} : FrameBlind (va_Pc av (P0 D cs ad b0 V)) := fun a U g mk h => ⟨h.1, h.2.1, h.2.2.1, ST.calling g mk a h.2.2.2⟩
theorem P0_at {H : Heap} {locs : List Loc} (C : Ctx p l s m args meth c D cs ad b0 own cc nL ret) (hP : va_P D vwC (wsOf cs ad V) H) (hS : va_S (fun q => b0 ≤ q) s.heap H locs) {U : State} (hU : U.heap = H) (hW : s.WarmedH U.vm) : P0 D cs ad b0 V U := by
  obtain ⟨-, -, -, -, -, -, -, -, -, hb0, hST⟩ := C
  refine ⟨by rw [hU]; exact Nat.le_trans hb0 hS.1, by rw [hU]; exact hP, ?_⟩
  rw [hU]
  exact ST.warm hW (ST.kept hST hS.2.1)
theorem a_after {H : Heap} {locs : List Loc} {ls : Array Slot} {k' : Nat} {r : OutV} {a : Array Value}
    (hr : vx_Run p l e R s m args below meth c H locs k (6 * k) k' (6 * k') (F0 m pc ls st0) st (QR D cs ad b0 V' r a) (XR D cs ad b0 V' r) (fun q => b0 ≤ q)) (hS : va_S (fun q => b0 ≤ q) s.heap H locs) (hl : lv_has ls nL lv)
    (kn : ∀ v : Option Value, r = .inl v → AW p l e R s m args below meth c D cs ad b0 Q nL (k + k') V' lv (v.toList ++ st) (pc + 3))
    (kx : ∀ E : String, r = .inr E → AX p l e R s m args below meth c D cs ad b0 Q nL (k + k') V' lv E pc) : W p l e R s m args below meth c H locs k (6 * k) Q (F0 m pc ls st0) := by
  intro T hT X
  rcases hr T hT X with ⟨v, st₀, t, T', L, h0, X', hL, e1, e2, ⟨⟨v', hv', ho, hP'⟩, hF⟩, st1⟩ | ⟨q, st₀, t, T', L, E, ce, h0, X', hL, e1, e2, ⟨hE, hP', hF⟩, hce, hcv, hcl, st1⟩
  · cases ho
    obtain ⟨k1, k2, k3⟩ := vx_keep h0 e1 hS (fun _ _ h => h) (fun _ h => h) hL hF
    obtain ⟨t2, a1, b1⟩ := kn v hv' T'.heap (locs ++ L) ls (by rw [e1]; exact hP') k3 hl T' rfl (by rw [Nat.mul_add]; exact X')
    exact ⟨t2, st1 t2 a1, b1⟩
  · obtain ⟨k1, k2, k3⟩ := vx_keep h0 e1 hS (fun _ _ h => h) (fun _ h => h) hL hF
    obtain ⟨t2, a1, b1⟩ := kx E hE T'.heap (locs ++ L) ls st ce q (by rw [e1]; exact hP') k3 hl (by rw [e1]; exact hce) hcv hcl T' rfl (by rw [Nat.mul_add]; exact X')
    exact ⟨t2, st1.trans a1, b1⟩
theorem a_callV (C : Ctx p l s m args meth c D cs ad b0 own cc nL ret) {idx ci a n mL d' k' : Nat} {y : MethodName} {b : ByteArray} {ret' : Option FieldType} {T : u_T} {N : Nat} {fs : List (Option Nat)} {As : (Nat → Nat) → List Value} {As1 : List Value} {r : (Nat → Nat) → OutV}
    (hdg : decode cc pc = .ok (.invokevirtual idx, 3)) (cv : CV own idx y b mL ret' n) (hM : AM d' k' y (.code y b mL ret') As V V' r) (hs : shp[a]? = some (.inl (ci, fs))) (hc : vwC[ci]? = some (y.cls, T, N)) (hA : As ad = .ref (ad a) :: As1) (hn : As1.length = n) (hst : st0 = As1.reverse ++ .ref (ad a) :: st)
    (hR : d' + 1 ≤ R.frames ∧ 8 + (mL + 11) + 64 * d' ≤ R.locals ∧ k + k' ≤ R.cells ∧ 6 * k + 6 * k' ≤ R.slots) (hw : (st.map fun v => v.category).sum ≤ 8)
    (kn : ∀ v : Option Value, r ad = .inl v → AW p l e R s m args below meth c D cs ad b0 Q nL (k + k') V' lv (v.toList ++ st) (pc + 3))
    (kx : ∀ E : String, r ad = .inr E → AX p l e R s m args below meth c D cs ad b0 Q nL (k + k') V' lv E pc) : AW p l e R s m args below meth c D cs ad b0 Q nL k V lv st0 pc := by
  intro H locs ls hP hS hl
  obtain ⟨c1, c2, c3, c4, c5, c6, c7, c8⟩ := cv
  obtain ⟨hx, hb, hml, ho, hts, hfl, -, -, hAd, hb0, hST⟩ := id C
  have hM1 := hM l hfl D cs ad b0 hAd
  have hP0 : ∀ U : State, U.heap = H → s.WarmedH U.vm → va_Pc (As ad) (P0 D cs ad b0 V) (Value.ref (ad a) :: As1).toArray U := fun U hU hW => ⟨by rw [hA], P0_at C hP hS hU hW⟩
  have hG : ∀ w ∈ (Cond.code y b mL ret' :: UW), w ∈ UW ∧ ((w.onTables && w.keeps) = true ∨ ∃ ty, w = .arrayClass ty) := by
    intro w hw9
    rcases List.mem_cons.mp hw9 with rfl | h
    · exact ⟨c5, good_of_word (uw_good c5)⟩
    · exact ⟨h, good_of_word (uw_good h)⟩
  have hrun := vx_runV (p := p) (e := e) (R := R) (below := below) (meth := meth) (H := H) (locs := locs) (cells := k) (slots := 6 * k) (b := ad a) (As := As1) (rest := st) (g := F0 m pc ls st0) ⟨hx, hb, hml, ho, hts⟩ hM1
    ⟨⟨rfl, rfl, hR.1, hR.2.1, pay_in hts hG, List.mem_cons_self, hts _ c5, hts _ c4, ⟨c6, c7⟩, fun sig h => by rw [h] at c8; exact (Option.some.inj c8).symm, hts _ c1⟩, hts _ c2, hts _ c3⟩
    ⟨P0_blind, va_recv hST.1 hP hc (ws_at hs), hP0⟩ rfl hn hl.1 hst (lv_room hw) hdg ⟨hR.2.2.1, hR.2.2.2⟩
  exact a_after hrun hS hl kn kx
theorem a_callS (C : Ctx p l s m args meth c D cs ad b0 own cc nL ret) {idx n mL d' k' : Nat} {y : MethodName} {b : ByteArray} {ret' : Option FieldType} {As : (Nat → Nat) → List Value} {As1 : List Value} {r : (Nat → Nat) → OutV}
    (hdg : decode cc pc = .ok (.invokestatic idx, 3)) (cv : CSt own idx y b mL ret' n) (hM : AM d' k' y (.code y b mL ret') As V V' r) (hA : As ad = As1) (hn : As1.length = n) (hst : st0 = As1.reverse ++ st)
    (hR : d' + 1 ≤ R.frames ∧ 8 + (mL + 11) + 64 * d' ≤ R.locals ∧ k + k' ≤ R.cells ∧ 6 * k + 6 * k' ≤ R.slots) (hw : (st.map fun v => v.category).sum ≤ 8)
    (kn : ∀ v : Option Value, r ad = .inl v → AW p l e R s m args below meth c D cs ad b0 Q nL (k + k') V' lv (v.toList ++ st) (pc + 3))
    (kx : ∀ E : String, r ad = .inr E → AX p l e R s m args below meth c D cs ad b0 Q nL (k + k') V' lv E pc) : AW p l e R s m args below meth c D cs ad b0 Q nL k V lv st0 pc := by
  intro H locs ls hP hS hl
  obtain ⟨c1, c2, c4, c5, c6, c7, c8⟩ := cv
  obtain ⟨hx, hb, hml, ho, hts, hfl, -, -, hAd, hb0, hST⟩ := id C
  have hM1 := hM l hfl D cs ad b0 hAd
  have hP0 : ∀ U : State, U.heap = H → s.WarmedH U.vm → va_Pc (As ad) (P0 D cs ad b0 V) As1.toArray U := fun U hU hW => ⟨by rw [hA], P0_at C hP hS hU hW⟩
  have hG : ∀ w ∈ (Cond.code y b mL ret' :: UW), w ∈ UW ∧ ((w.onTables && w.keeps) = true ∨ ∃ ty, w = .arrayClass ty) := by
    intro w hw9
    rcases List.mem_cons.mp hw9 with rfl | h
    · exact ⟨c5, good_of_word (uw_good c5)⟩
    · exact ⟨h, good_of_word (uw_good h)⟩
  have hrun := vx_runS (p := p) (e := e) (R := R) (below := below) (meth := meth) (H := H) (locs := locs) (cells := k) (slots := 6 * k) (As := As1) (rest := st) (g := F0 m pc ls st0) ⟨hx, hb, hml, ho, hts⟩ hM1
    ⟨⟨rfl, rfl, hR.1, hR.2.1, pay_in hts hG, List.mem_cons_self, hts _ c5, hts _ c4, ⟨c6, c7⟩, fun sig h => by rw [h] at c8; exact (Option.some.inj c8).symm, hts _ c1⟩, hts _ c2⟩
    ⟨P0_blind, hP0⟩ rfl hn hl.1 hst (lv_room hw) hdg ⟨hR.2.2.1, hR.2.2.2⟩
  exact a_after hrun hS hl kn kx
/-! .. by what they answer -/
abbrev rI (x : Int32) : (Nat → Nat) → OutV := fun _ => .inl (some (.int x))
abbrev rV : (Nat → Nat) → OutV := fun _ => .inl none
abbrev rD (x : UInt64) : (Nat → Nat) → OutV := fun _ => .inl (some (.double x))
abbrev rF (x : UInt32) : (Nat → Nat) → OutV := fun _ => .inl (some (.float x))
/-- a string's place, or null -/
abbrev rS (o : Option Nat) : (Nat → Nat) → OutV := fun ad => .inl (some (va_rf (o.map (fun i => ad (200 + i)))))
def rX (o : Int32 ⊕ String) : (Nat → Nat) → OutV := fun _ => match o with
  | .inl x => .inl (some (.int x))
  | .inr E => .inr E
def rXV (o : Int32 ⊕ String) : (Nat → Nat) → OutV := fun _ => match o with
  | .inl _ => .inl none
  | .inr E => .inr E
def rXD (o : UInt64 ⊕ String) : (Nat → Nat) → OutV := fun _ => match o with
  | .inl x => .inl (some (.double x))
  | .inr E => .inr E
def rXF (o : UInt32 ⊕ String) : (Nat → Nat) → OutV := fun _ => match o with
  | .inl x => .inl (some (.float x))
  | .inr E => .inr E
theorem a_cVi (C : Ctx p l s m args meth c D cs ad b0 own cc nL ret) {x : Int32} {idx ci a n mL d' : Nat} {y : MethodName} {b : ByteArray} {ret' : Option FieldType} {T : u_T} {N : Nat} {fs : List (Option Nat)} {As : (Nat → Nat) → List Value} {As1 : List Value} (hdg : decode cc pc = .ok (.invokevirtual idx, 3)) (cv : CV own idx y b mL ret' n) (hM : AM d' 0 y (.code y b mL ret') As V V' (rI x)) (hs : shp[a]? = some (.inl (ci, fs))) (hc : vwC[ci]? = some (y.cls, T, N)) (hA : As ad = .ref (ad a) :: As1) (hn : As1.length = n) (hst : st0 = As1.reverse ++ .ref (ad a) :: st)
    (hR : d' + 1 ≤ R.frames ∧ 8 + (mL + 11) + 64 * d' ≤ R.locals ∧ k ≤ R.cells ∧ 6 * k ≤ R.slots) (hw : (st.map fun v => v.category).sum ≤ 8)
    (kk : AW p l e R s m args below meth c D cs ad b0 Q nL (k) V' lv (.int x :: st) (pc + 3)) : AW p l e R s m args below meth c D cs ad b0 Q nL k V lv st0 pc := a_callV C hdg cv hM hs hc hA hn hst hR hw (fun v hv => by cases hv; exact kk) (fun E hE => by cases hE)
theorem a_cVv (C : Ctx p l s m args meth c D cs ad b0 own cc nL ret)  {idx ci a n mL d' : Nat} {y : MethodName} {b : ByteArray} {ret' : Option FieldType} {T : u_T} {N : Nat} {fs : List (Option Nat)} {As : (Nat → Nat) → List Value} {As1 : List Value} (hdg : decode cc pc = .ok (.invokevirtual idx, 3)) (cv : CV own idx y b mL ret' n) (hM : AM d' 0 y (.code y b mL ret') As V V' (rV)) (hs : shp[a]? = some (.inl (ci, fs))) (hc : vwC[ci]? = some (y.cls, T, N)) (hA : As ad = .ref (ad a) :: As1) (hn : As1.length = n) (hst : st0 = As1.reverse ++ .ref (ad a) :: st)
    (hR : d' + 1 ≤ R.frames ∧ 8 + (mL + 11) + 64 * d' ≤ R.locals ∧ k ≤ R.cells ∧ 6 * k ≤ R.slots) (hw : (st.map fun v => v.category).sum ≤ 8)
    (kk : AW p l e R s m args below meth c D cs ad b0 Q nL (k) V' lv (st) (pc + 3)) : AW p l e R s m args below meth c D cs ad b0 Q nL k V lv st0 pc := a_callV C hdg cv hM hs hc hA hn hst hR hw (fun v hv => by cases hv; exact kk) (fun E hE => by cases hE)
theorem a_cVs (C : Ctx p l s m args meth c D cs ad b0 own cc nL ret) {o : Option Nat} {idx ci a n mL d' : Nat} {y : MethodName} {b : ByteArray} {ret' : Option FieldType} {T : u_T} {N : Nat} {fs : List (Option Nat)} {As : (Nat → Nat) → List Value} {As1 : List Value} (hdg : decode cc pc = .ok (.invokevirtual idx, 3)) (cv : CV own idx y b mL ret' n) (hM : AM d' 0 y (.code y b mL ret') As V V' (rS o)) (hs : shp[a]? = some (.inl (ci, fs))) (hc : vwC[ci]? = some (y.cls, T, N)) (hA : As ad = .ref (ad a) :: As1) (hn : As1.length = n) (hst : st0 = As1.reverse ++ .ref (ad a) :: st)
    (hR : d' + 1 ≤ R.frames ∧ 8 + (mL + 11) + 64 * d' ≤ R.locals ∧ k ≤ R.cells ∧ 6 * k ≤ R.slots) (hw : (st.map fun v => v.category).sum ≤ 8)
    (kk : ∀ v, v = va_rf (o.map (fun i => ad (200 + i))) → AW p l e R s m args below meth c D cs ad b0 Q nL (k) V' lv (v :: st) (pc + 3)) : AW p l e R s m args below meth c D cs ad b0 Q nL k V lv st0 pc := a_callV C hdg cv hM hs hc hA hn hst hR hw (fun v hv => by cases hv; exact kk _ rfl) (fun E hE => by cases hE)
theorem a_cVxi (C : Ctx p l s m args meth c D cs ad b0 own cc nL ret) {k' : Nat} {o : Int32 ⊕ String} {idx ci a n mL d' : Nat} {y : MethodName} {b : ByteArray} {ret' : Option FieldType} {T : u_T} {N : Nat} {fs : List (Option Nat)} {As : (Nat → Nat) → List Value} {As1 : List Value} (hdg : decode cc pc = .ok (.invokevirtual idx, 3)) (cv : CV own idx y b mL ret' n) (hM : AM d' k' y (.code y b mL ret') As V V' (rX o)) (hs : shp[a]? = some (.inl (ci, fs))) (hc : vwC[ci]? = some (y.cls, T, N)) (hA : As ad = .ref (ad a) :: As1) (hn : As1.length = n) (hst : st0 = As1.reverse ++ .ref (ad a) :: st)
    (hR : d' + 1 ≤ R.frames ∧ 8 + (mL + 11) + 64 * d' ≤ R.locals ∧ k + k' ≤ R.cells ∧ 6 * k + 6 * k' ≤ R.slots) (hw : (st.map fun v => v.category).sum ≤ 8)
    (kn : ∀ x, o = .inl x → AW p l e R s m args below meth c D cs ad b0 Q nL (k + k') V' lv (.int x :: st) (pc + 3))
    (kx : ∀ E, o = .inr E → AX p l e R s m args below meth c D cs ad b0 Q nL (k + k') V' lv E pc) : AW p l e R s m args below meth c D cs ad b0 Q nL k V lv st0 pc := a_callV C hdg cv hM hs hc hA hn hst hR hw (fun v hv => by cases o with
    | inl x => cases hv; exact kn x rfl
    | inr E => cases hv) (fun E hE => by cases o with
    | inl x => cases hE
    | inr E => cases hE; exact kx E rfl)
theorem a_cVxv (C : Ctx p l s m args meth c D cs ad b0 own cc nL ret) {k' : Nat} {o : Int32 ⊕ String} {idx ci a n mL d' : Nat} {y : MethodName} {b : ByteArray} {ret' : Option FieldType} {T : u_T} {N : Nat} {fs : List (Option Nat)} {As : (Nat → Nat) → List Value} {As1 : List Value} (hdg : decode cc pc = .ok (.invokevirtual idx, 3)) (cv : CV own idx y b mL ret' n) (hM : AM d' k' y (.code y b mL ret') As V V' (rXV o)) (hs : shp[a]? = some (.inl (ci, fs))) (hc : vwC[ci]? = some (y.cls, T, N)) (hA : As ad = .ref (ad a) :: As1) (hn : As1.length = n) (hst : st0 = As1.reverse ++ .ref (ad a) :: st)
    (hR : d' + 1 ≤ R.frames ∧ 8 + (mL + 11) + 64 * d' ≤ R.locals ∧ k + k' ≤ R.cells ∧ 6 * k + 6 * k' ≤ R.slots) (hw : (st.map fun v => v.category).sum ≤ 8)
    (kn : ∀ x, o = .inl x → AW p l e R s m args below meth c D cs ad b0 Q nL (k + k') V' lv (st) (pc + 3))
    (kx : ∀ E, o = .inr E → AX p l e R s m args below meth c D cs ad b0 Q nL (k + k') V' lv E pc) : AW p l e R s m args below meth c D cs ad b0 Q nL k V lv st0 pc := a_callV C hdg cv hM hs hc hA hn hst hR hw (fun v hv => by cases o with
    | inl x => cases hv; exact kn x rfl
    | inr E => cases hv) (fun E hE => by cases o with
    | inl x => cases hE
    | inr E => cases hE; exact kx E rfl)
theorem a_cVd (C : Ctx p l s m args meth c D cs ad b0 own cc nL ret) {x : UInt64} {idx ci a n mL d' : Nat} {y : MethodName} {b : ByteArray} {ret' : Option FieldType} {T : u_T} {N : Nat} {fs : List (Option Nat)} {As : (Nat → Nat) → List Value} {As1 : List Value} (hdg : decode cc pc = .ok (.invokevirtual idx, 3)) (cv : CV own idx y b mL ret' n) (hM : AM d' 0 y (.code y b mL ret') As V V' (rD x)) (hs : shp[a]? = some (.inl (ci, fs))) (hc : vwC[ci]? = some (y.cls, T, N)) (hA : As ad = .ref (ad a) :: As1) (hn : As1.length = n) (hst : st0 = As1.reverse ++ .ref (ad a) :: st)
    (hR : d' + 1 ≤ R.frames ∧ 8 + (mL + 11) + 64 * d' ≤ R.locals ∧ k ≤ R.cells ∧ 6 * k ≤ R.slots) (hw : (st.map fun v => v.category).sum ≤ 8)
    (kk : AW p l e R s m args below meth c D cs ad b0 Q nL (k) V' lv (.double x :: st) (pc + 3)) : AW p l e R s m args below meth c D cs ad b0 Q nL k V lv st0 pc := a_callV C hdg cv hM hs hc hA hn hst hR hw (fun v hv => by cases hv; exact kk) (fun E hE => by cases hE)
theorem a_cVxd (C : Ctx p l s m args meth c D cs ad b0 own cc nL ret) {k' : Nat} {o : UInt64 ⊕ String} {idx ci a n mL d' : Nat} {y : MethodName} {b : ByteArray} {ret' : Option FieldType} {T : u_T} {N : Nat} {fs : List (Option Nat)} {As : (Nat → Nat) → List Value} {As1 : List Value} (hdg : decode cc pc = .ok (.invokevirtual idx, 3)) (cv : CV own idx y b mL ret' n) (hM : AM d' k' y (.code y b mL ret') As V V' (rXD o)) (hs : shp[a]? = some (.inl (ci, fs))) (hc : vwC[ci]? = some (y.cls, T, N)) (hA : As ad = .ref (ad a) :: As1) (hn : As1.length = n) (hst : st0 = As1.reverse ++ .ref (ad a) :: st)
    (hR : d' + 1 ≤ R.frames ∧ 8 + (mL + 11) + 64 * d' ≤ R.locals ∧ k + k' ≤ R.cells ∧ 6 * k + 6 * k' ≤ R.slots) (hw : (st.map fun v => v.category).sum ≤ 8)
    (kn : ∀ x, o = .inl x → AW p l e R s m args below meth c D cs ad b0 Q nL (k + k') V' lv (.double x :: st) (pc + 3))
    (kx : ∀ E, o = .inr E → AX p l e R s m args below meth c D cs ad b0 Q nL (k + k') V' lv E pc) : AW p l e R s m args below meth c D cs ad b0 Q nL k V lv st0 pc := a_callV C hdg cv hM hs hc hA hn hst hR hw (fun v hv => by cases o with
    | inl x => cases hv; exact kn x rfl
    | inr E => cases hv) (fun E hE => by cases o with
    | inl x => cases hE
    | inr E => cases hE; exact kx E rfl)
theorem a_cVf (C : Ctx p l s m args meth c D cs ad b0 own cc nL ret) {x : UInt32} {idx ci a n mL d' : Nat} {y : MethodName} {b : ByteArray} {ret' : Option FieldType} {T : u_T} {N : Nat} {fs : List (Option Nat)} {As : (Nat → Nat) → List Value} {As1 : List Value} (hdg : decode cc pc = .ok (.invokevirtual idx, 3)) (cv : CV own idx y b mL ret' n) (hM : AM d' 0 y (.code y b mL ret') As V V' (rF x)) (hs : shp[a]? = some (.inl (ci, fs))) (hc : vwC[ci]? = some (y.cls, T, N)) (hA : As ad = .ref (ad a) :: As1) (hn : As1.length = n) (hst : st0 = As1.reverse ++ .ref (ad a) :: st)
    (hR : d' + 1 ≤ R.frames ∧ 8 + (mL + 11) + 64 * d' ≤ R.locals ∧ k ≤ R.cells ∧ 6 * k ≤ R.slots) (hw : (st.map fun v => v.category).sum ≤ 8)
    (kk : AW p l e R s m args below meth c D cs ad b0 Q nL (k) V' lv (.float x :: st) (pc + 3)) : AW p l e R s m args below meth c D cs ad b0 Q nL k V lv st0 pc := a_callV C hdg cv hM hs hc hA hn hst hR hw (fun v hv => by cases hv; exact kk) (fun E hE => by cases hE)
theorem a_cVxf (C : Ctx p l s m args meth c D cs ad b0 own cc nL ret) {k' : Nat} {o : UInt32 ⊕ String} {idx ci a n mL d' : Nat} {y : MethodName} {b : ByteArray} {ret' : Option FieldType} {T : u_T} {N : Nat} {fs : List (Option Nat)} {As : (Nat → Nat) → List Value} {As1 : List Value} (hdg : decode cc pc = .ok (.invokevirtual idx, 3)) (cv : CV own idx y b mL ret' n) (hM : AM d' k' y (.code y b mL ret') As V V' (rXF o)) (hs : shp[a]? = some (.inl (ci, fs))) (hc : vwC[ci]? = some (y.cls, T, N)) (hA : As ad = .ref (ad a) :: As1) (hn : As1.length = n) (hst : st0 = As1.reverse ++ .ref (ad a) :: st)
    (hR : d' + 1 ≤ R.frames ∧ 8 + (mL + 11) + 64 * d' ≤ R.locals ∧ k + k' ≤ R.cells ∧ 6 * k + 6 * k' ≤ R.slots) (hw : (st.map fun v => v.category).sum ≤ 8)
    (kn : ∀ x, o = .inl x → AW p l e R s m args below meth c D cs ad b0 Q nL (k + k') V' lv (.float x :: st) (pc + 3))
    (kx : ∀ E, o = .inr E → AX p l e R s m args below meth c D cs ad b0 Q nL (k + k') V' lv E pc) : AW p l e R s m args below meth c D cs ad b0 Q nL k V lv st0 pc := a_callV C hdg cv hM hs hc hA hn hst hR hw (fun v hv => by cases o with
    | inl x => cases hv; exact kn x rfl
    | inr E => cases hv) (fun E hE => by cases o with
    | inl x => cases hE
    | inr E => cases hE; exact kx E rfl)
theorem a_cSi (C : Ctx p l s m args meth c D cs ad b0 own cc nL ret) {x : Int32} {idx n mL d' : Nat} {y : MethodName} {b : ByteArray} {ret' : Option FieldType} {As : (Nat → Nat) → List Value} {As1 : List Value} (hdg : decode cc pc = .ok (.invokestatic idx, 3)) (cv : CSt own idx y b mL ret' n) (hM : AM d' 0 y (.code y b mL ret') As V V' (rI x)) (hA : As ad = As1) (hn : As1.length = n) (hst : st0 = As1.reverse ++ st)
    (hR : d' + 1 ≤ R.frames ∧ 8 + (mL + 11) + 64 * d' ≤ R.locals ∧ k ≤ R.cells ∧ 6 * k ≤ R.slots) (hw : (st.map fun v => v.category).sum ≤ 8)
    (kk : AW p l e R s m args below meth c D cs ad b0 Q nL (k) V' lv (.int x :: st) (pc + 3)) : AW p l e R s m args below meth c D cs ad b0 Q nL k V lv st0 pc := a_callS C hdg cv hM hA hn hst hR hw (fun v hv => by cases hv; exact kk) (fun E hE => by cases hE)
theorem a_cSv (C : Ctx p l s m args meth c D cs ad b0 own cc nL ret)  {idx n mL d' : Nat} {y : MethodName} {b : ByteArray} {ret' : Option FieldType} {As : (Nat → Nat) → List Value} {As1 : List Value} (hdg : decode cc pc = .ok (.invokestatic idx, 3)) (cv : CSt own idx y b mL ret' n) (hM : AM d' 0 y (.code y b mL ret') As V V' (rV)) (hA : As ad = As1) (hn : As1.length = n) (hst : st0 = As1.reverse ++ st)
    (hR : d' + 1 ≤ R.frames ∧ 8 + (mL + 11) + 64 * d' ≤ R.locals ∧ k ≤ R.cells ∧ 6 * k ≤ R.slots) (hw : (st.map fun v => v.category).sum ≤ 8)
    (kk : AW p l e R s m args below meth c D cs ad b0 Q nL (k) V' lv (st) (pc + 3)) : AW p l e R s m args below meth c D cs ad b0 Q nL k V lv st0 pc := a_callS C hdg cv hM hA hn hst hR hw (fun v hv => by cases hv; exact kk) (fun E hE => by cases hE)
theorem a_cSs (C : Ctx p l s m args meth c D cs ad b0 own cc nL ret) {o : Option Nat} {idx n mL d' : Nat} {y : MethodName} {b : ByteArray} {ret' : Option FieldType} {As : (Nat → Nat) → List Value} {As1 : List Value} (hdg : decode cc pc = .ok (.invokestatic idx, 3)) (cv : CSt own idx y b mL ret' n) (hM : AM d' 0 y (.code y b mL ret') As V V' (rS o)) (hA : As ad = As1) (hn : As1.length = n) (hst : st0 = As1.reverse ++ st)
    (hR : d' + 1 ≤ R.frames ∧ 8 + (mL + 11) + 64 * d' ≤ R.locals ∧ k ≤ R.cells ∧ 6 * k ≤ R.slots) (hw : (st.map fun v => v.category).sum ≤ 8)
    (kk : ∀ v, v = va_rf (o.map (fun i => ad (200 + i))) → AW p l e R s m args below meth c D cs ad b0 Q nL (k) V' lv (v :: st) (pc + 3)) : AW p l e R s m args below meth c D cs ad b0 Q nL k V lv st0 pc := a_callS C hdg cv hM hA hn hst hR hw (fun v hv => by cases hv; exact kk _ rfl) (fun E hE => by cases hE)
theorem a_cSxi (C : Ctx p l s m args meth c D cs ad b0 own cc nL ret) {k' : Nat} {o : Int32 ⊕ String} {idx n mL d' : Nat} {y : MethodName} {b : ByteArray} {ret' : Option FieldType} {As : (Nat → Nat) → List Value} {As1 : List Value} (hdg : decode cc pc = .ok (.invokestatic idx, 3)) (cv : CSt own idx y b mL ret' n) (hM : AM d' k' y (.code y b mL ret') As V V' (rX o)) (hA : As ad = As1) (hn : As1.length = n) (hst : st0 = As1.reverse ++ st)
    (hR : d' + 1 ≤ R.frames ∧ 8 + (mL + 11) + 64 * d' ≤ R.locals ∧ k + k' ≤ R.cells ∧ 6 * k + 6 * k' ≤ R.slots) (hw : (st.map fun v => v.category).sum ≤ 8)
    (kn : ∀ x, o = .inl x → AW p l e R s m args below meth c D cs ad b0 Q nL (k + k') V' lv (.int x :: st) (pc + 3))
    (kx : ∀ E, o = .inr E → AX p l e R s m args below meth c D cs ad b0 Q nL (k + k') V' lv E pc) : AW p l e R s m args below meth c D cs ad b0 Q nL k V lv st0 pc := a_callS C hdg cv hM hA hn hst hR hw (fun v hv => by cases o with
    | inl x => cases hv; exact kn x rfl
    | inr E => cases hv) (fun E hE => by cases o with
    | inl x => cases hE
    | inr E => cases hE; exact kx E rfl)
theorem a_cSxv (C : Ctx p l s m args meth c D cs ad b0 own cc nL ret) {k' : Nat} {o : Int32 ⊕ String} {idx n mL d' : Nat} {y : MethodName} {b : ByteArray} {ret' : Option FieldType} {As : (Nat → Nat) → List Value} {As1 : List Value} (hdg : decode cc pc = .ok (.invokestatic idx, 3)) (cv : CSt own idx y b mL ret' n) (hM : AM d' k' y (.code y b mL ret') As V V' (rXV o)) (hA : As ad = As1) (hn : As1.length = n) (hst : st0 = As1.reverse ++ st)
    (hR : d' + 1 ≤ R.frames ∧ 8 + (mL + 11) + 64 * d' ≤ R.locals ∧ k + k' ≤ R.cells ∧ 6 * k + 6 * k' ≤ R.slots) (hw : (st.map fun v => v.category).sum ≤ 8)
    (kn : ∀ x, o = .inl x → AW p l e R s m args below meth c D cs ad b0 Q nL (k + k') V' lv (st) (pc + 3))
    (kx : ∀ E, o = .inr E → AX p l e R s m args below meth c D cs ad b0 Q nL (k + k') V' lv E pc) : AW p l e R s m args below meth c D cs ad b0 Q nL k V lv st0 pc := a_callS C hdg cv hM hA hn hst hR hw (fun v hv => by cases o with
    | inl x => cases hv; exact kn x rfl
    | inr E => cases hv) (fun E hE => by cases o with
    | inl x => cases hE
    | inr E => cases hE; exact kx E rfl)
theorem a_cSd (C : Ctx p l s m args meth c D cs ad b0 own cc nL ret) {x : UInt64} {idx n mL d' : Nat} {y : MethodName} {b : ByteArray} {ret' : Option FieldType} {As : (Nat → Nat) → List Value} {As1 : List Value} (hdg : decode cc pc = .ok (.invokestatic idx, 3)) (cv : CSt own idx y b mL ret' n) (hM : AM d' 0 y (.code y b mL ret') As V V' (rD x)) (hA : As ad = As1) (hn : As1.length = n) (hst : st0 = As1.reverse ++ st)
    (hR : d' + 1 ≤ R.frames ∧ 8 + (mL + 11) + 64 * d' ≤ R.locals ∧ k ≤ R.cells ∧ 6 * k ≤ R.slots) (hw : (st.map fun v => v.category).sum ≤ 8)
    (kk : AW p l e R s m args below meth c D cs ad b0 Q nL (k) V' lv (.double x :: st) (pc + 3)) : AW p l e R s m args below meth c D cs ad b0 Q nL k V lv st0 pc := a_callS C hdg cv hM hA hn hst hR hw (fun v hv => by cases hv; exact kk) (fun E hE => by cases hE)
theorem a_cSxd (C : Ctx p l s m args meth c D cs ad b0 own cc nL ret) {k' : Nat} {o : UInt64 ⊕ String} {idx n mL d' : Nat} {y : MethodName} {b : ByteArray} {ret' : Option FieldType} {As : (Nat → Nat) → List Value} {As1 : List Value} (hdg : decode cc pc = .ok (.invokestatic idx, 3)) (cv : CSt own idx y b mL ret' n) (hM : AM d' k' y (.code y b mL ret') As V V' (rXD o)) (hA : As ad = As1) (hn : As1.length = n) (hst : st0 = As1.reverse ++ st)
    (hR : d' + 1 ≤ R.frames ∧ 8 + (mL + 11) + 64 * d' ≤ R.locals ∧ k + k' ≤ R.cells ∧ 6 * k + 6 * k' ≤ R.slots) (hw : (st.map fun v => v.category).sum ≤ 8)
    (kn : ∀ x, o = .inl x → AW p l e R s m args below meth c D cs ad b0 Q nL (k + k') V' lv (.double x :: st) (pc + 3))
    (kx : ∀ E, o = .inr E → AX p l e R s m args below meth c D cs ad b0 Q nL (k + k') V' lv E pc) : AW p l e R s m args below meth c D cs ad b0 Q nL k V lv st0 pc := a_callS C hdg cv hM hA hn hst hR hw (fun v hv => by cases o with
    | inl x => cases hv; exact kn x rfl
    | inr E => cases hv) (fun E hE => by cases o with
    | inl x => cases hE
    | inr E => cases hE; exact kx E rfl)
theorem a_cSf (C : Ctx p l s m args meth c D cs ad b0 own cc nL ret) {x : UInt32} {idx n mL d' : Nat} {y : MethodName} {b : ByteArray} {ret' : Option FieldType} {As : (Nat → Nat) → List Value} {As1 : List Value} (hdg : decode cc pc = .ok (.invokestatic idx, 3)) (cv : CSt own idx y b mL ret' n) (hM : AM d' 0 y (.code y b mL ret') As V V' (rF x)) (hA : As ad = As1) (hn : As1.length = n) (hst : st0 = As1.reverse ++ st)
    (hR : d' + 1 ≤ R.frames ∧ 8 + (mL + 11) + 64 * d' ≤ R.locals ∧ k ≤ R.cells ∧ 6 * k ≤ R.slots) (hw : (st.map fun v => v.category).sum ≤ 8)
    (kk : AW p l e R s m args below meth c D cs ad b0 Q nL (k) V' lv (.float x :: st) (pc + 3)) : AW p l e R s m args below meth c D cs ad b0 Q nL k V lv st0 pc := a_callS C hdg cv hM hA hn hst hR hw (fun v hv => by cases hv; exact kk) (fun E hE => by cases hE)
theorem a_cSxf (C : Ctx p l s m args meth c D cs ad b0 own cc nL ret) {k' : Nat} {o : UInt32 ⊕ String} {idx n mL d' : Nat} {y : MethodName} {b : ByteArray} {ret' : Option FieldType} {As : (Nat → Nat) → List Value} {As1 : List Value} (hdg : decode cc pc = .ok (.invokestatic idx, 3)) (cv : CSt own idx y b mL ret' n) (hM : AM d' k' y (.code y b mL ret') As V V' (rXF o)) (hA : As ad = As1) (hn : As1.length = n) (hst : st0 = As1.reverse ++ st)
    (hR : d' + 1 ≤ R.frames ∧ 8 + (mL + 11) + 64 * d' ≤ R.locals ∧ k + k' ≤ R.cells ∧ 6 * k + 6 * k' ≤ R.slots) (hw : (st.map fun v => v.category).sum ≤ 8)
    (kn : ∀ x, o = .inl x → AW p l e R s m args below meth c D cs ad b0 Q nL (k + k') V' lv (.float x :: st) (pc + 3))
    (kx : ∀ E, o = .inr E → AX p l e R s m args below meth c D cs ad b0 Q nL (k + k') V' lv E pc) : AW p l e R s m args below meth c D cs ad b0 Q nL k V lv st0 pc := a_callS C hdg cv hM hA hn hst hR hw (fun v hv => by cases o with
    | inl x => cases hv; exact kn x rfl
    | inr E => cases hv) (fun E hE => by cases o with
    | inl x => cases hE
    | inr E => cases hE; exact kx E rfl)
/-- System.arraycopy of ints -/
theorem a_acopy (C : Ctx p l s m args meth c D cs ad b0 own cc nL ret) {idx a0 a n0 n1 : Nat} {r0 r1 : List Nat} {sp dp n : Int32} (hdg : decode cc pc = .ok (.invokestatic idx, 3)) (hlink : Cond.methodLink own idx arraycopyName ∈ UW) (hnat : Cond.native arraycopyName ∈ UW) (hstat : Cond.static arraycopyName ∈ UW) (hini : Cond.initialized "java/lang/System" ∈ UW)
    (hs0 : shp[a0]? = some (.inr (0, n0, r0))) (hs1 : shp[a]? = some (.inr (0, n1, r1))) (h1 : ¬ sp < 0) (h2 : ¬ dp < 0) (h3 : ¬ n < 0) (h4 : sp.toNatClampNeg + n.toNatClampNeg ≤ n0) (h5 : dp.toNatClampNeg + n.toNatClampNeg ≤ n1)
    (hR : 1 ≤ R.frames ∧ (st.map fun v => v.category).sum + (nativeFrameWords "java/lang/System" "arraycopy" 5 + 11) ≤ R.locals)
    (kk : AW p l e R s m args below meth c D cs ad b0 Q nL k (cp2 V a0 a sp.toNatClampNeg dp.toNatClampNeg n.toNatClampNeg) lv st (pc + 3)) : AW p l e R s m args below meth c D cs ad b0 Q nL k V lv (.int n :: .int dp :: .ref (ad a) :: .int sp :: .ref (ad a0) :: st) pc := by
  intro H locs ls hP hS hl
  obtain ⟨hx, hb, hml, ho, hts, hfl, -, -, hAd, hb0, hST⟩ := id C
  refine va_copyi (f := V a0) (g := V a) (n0 := n0) (n1 := n1) (ty := .int) hx hb (by rw [hml]; exact hl.1.symm) ho (hts _ hlink) (hts _ hnat) (hts _ hstat) (hts _ hini) hST.1 hP (ws_D hAd V) hS a0 a 0 0 (ws_at hs0) (ws_at hs1) rfl rfl rfl h1 h2 h3 h4 h5 (fun i _ => rfl) hR.1 hR.2 hdg (fun H1 locs1 hP1 _ hS1 => ?_)
  refine kk H1 locs1 ls ?_ hS1 hl
  rw [← ws_set (k := a) (by rw [cellOf_sh hs1, cp2_k]) (fun j hj => cp2_o V _ _ _ hj)]
  exact hP1
end RC
/-- caught by the first row -/
theorem bw_in {w : Cond} (i : Nat) (h : lw_tbl[i]? = some w) (g : isBW w = true) : w ∈ BW := List.mem_filter.mpr ⟨List.mem_of_getElem? h, g⟩
theorem a_catch0 {p : Program} {l : Launch} {e : Env} {R : Room} {s : State} {m : MethodId} {args : Array Value} {below : List Frame} {meth : Method} {c : Code} {D : va_G} {cs : Nat → ClassId} {ad : Nat → Nat} {b0 : Nat} {Q : State → Prop} {nL k : Nat} {V : VT} {lv : List (Nat × Value)} {pc : Nat} {own : String} {cc : ByteArray} {ret : Option FieldType}
    (C : Ctx p l s m args meth c D cs ad b0 own cc nL ret) {tb suf : List ExceptionTableEntry} {x : ExceptionTableEntry} {E : String} (hT : c.exceptionTable.toList = tb) (hx : tb = x :: suf) (h0 : x.catchType ≠ 0 ∧ covers x pc = true)
    (hlink : Cond.classLink own x.catchType E ∈ UW) (hcast : Cond.castable E E ∈ BW) (kk : ∀ q : Nat, AW p l e R s m args below meth c D cs ad b0 Q nL k V lv [.ref q] x.handlerPc) : AX p l e R s m args below meth c D cs ad b0 Q nL k V lv E pc := by
  intro H locs ls st ce q hP hS hl h1 h2 h3
  refine vx_catch C.2.2.2.1 [] x suf (hT.trans hx) (fun z hz => nomatch hz) h0.2 h0.1 (C.2.2.2.2.1 _ hlink) (C.2.2.2.2.2.2.2.2.2.2.2.1.use hcast) h1 h2 h3 (kk q H locs ls hP hS hl)
theorem a_catch1 {p : Program} {l : Launch} {e : Env} {R : Room} {s : State} {m : MethodId} {args : Array Value} {below : List Frame} {meth : Method} {c : Code} {D : va_G} {cs : Nat → ClassId} {ad : Nat → Nat} {b0 : Nat} {Q : State → Prop} {nL k : Nat} {V : VT} {lv : List (Nat × Value)} {pc : Nat} {own : String} {cc : ByteArray} {ret : Option FieldType}
    (C : Ctx p l s m args meth c D cs ad b0 own cc nL ret) {tb suf : List ExceptionTableEntry} {x0 x : ExceptionTableEntry} {E nm : String} (hT : c.exceptionTable.toList = tb) (hx : tb = x0 :: x :: suf) (h0 : x.catchType ≠ 0 ∧ covers x pc = true)
    (hlink : Cond.classLink own x.catchType E ∈ UW) (hcast : Cond.castable E E ∈ BW) (h00 : x0.catchType ≠ 0) (hlink0 : Cond.classLink own x0.catchType nm ∈ UW) (hn : (E, nm) ∈ ncP) (kk : ∀ q : Nat, AW p l e R s m args below meth c D cs ad b0 Q nL k V lv [.ref q] x.handlerPc) : AX p l e R s m args below meth c D cs ad b0 Q nL k V lv E pc := by
  intro H locs ls st ce q hP hS hl h1 h2 h3
  refine vx_catch C.2.2.2.1 [x0] x suf (hT.trans hx) (fun z hz => ?_) h0.2 h0.1 (C.2.2.2.2.1 _ hlink) (C.2.2.2.2.2.2.2.2.2.2.2.1.use hcast) h1 h2 h3 (kk q H locs ls hP hS hl)
  rw [List.mem_singleton] at hz
  subst hz
  exact Or.inr ⟨h00, nm, C.2.2.2.2.1 _ hlink0, C.2.2.2.2.2.2.2.2.2.2.2.2.2.2.2.2.2.2.2 _ hn⟩
theorem a_ldcS {p : Program} {l : Launch} {e : Env} {R : Room} {s : State} {m : MethodId} {args : Array Value} {below : List Frame} {meth : Method} {c : Code} {D : va_G} {cs : Nat → ClassId} {ad : Nat → Nat} {b0 : Nat} {Q : State → Prop} {nL k : Nat} {V : VT} {lv : List (Nat × Value)} {st : List Value} {pc : Nat} {cc : ByteArray} {ret : Option FieldType}
    (C : Ctx p l s m args meth c D cs ad b0 RX2 cc nL ret) {idx i : Nat} {tx : String} (hdg : decode cc pc = .ok (.ldc idx, 2)) (hq : strS[i]? = some (idx, tx)) (kk : AW p l e R s m args below meth c D cs ad b0 Q nL k V lv (.ref (ad (200 + i)) :: st) (pc + 2)) : AW p l e R s m args below meth c D cs ad b0 Q nL k V lv st pc :=
  fun H locs ls hP hS hl => va_ldcS C.1 C.2.1 C.2.2.2.1 (C.2.2.2.2.2.2.2.2.2.2.2.2.2.1 i _ hq) hdg (kk H locs ls hP hS hl)
/-! a method's contract out of its walk -/
theorem AM.of {d K mL : Nat} {y : MethodName} {b : ByteArray} {ret : Option FieldType} {As : (Nat → Nat) → List Value} {V V' : VT} {r : (Nat → Nat) → OutV} (hy : plainName y.cls = true) (hlen : ∀ ad, (lg_sl (As ad)).length ≤ mL)
    (body : ∀ {p : Program} {l : Launch} {e : Env} {s : State} {m : MethodId} {args : Array Value} {below : List Frame} {meth : Method} {c : Code} {D : va_G} {cs : Nat → ClassId} {ad : Nat → Nat} {b0 : Nat}, Ctx p l s m args meth c D cs ad b0 y.cls b mL ret → (∀ x ∈ c.exceptionTable.toList, False) →
      AW p l e (rmOf d K) s m args below meth c D cs ad b0 (QF below D cs ad b0 V' (r ad) args s K) mL 0 V (lv_args 0 (As ad)) [] 0) : AM d K y (.code y b mL ret) As V V' r := by
  intro l hl D cs ad b0 hAd
  refine vx_ofW (cc := b) (maxL := mL) (ret := ret) hy rfl ?_
  intro p e s m args below meth c s₁ B hml ht hv
  obtain ⟨rfl, hb0, hP, hST⟩ := hv
  have C : Ctx p l s m (As ad).toArray meth c D cs ad b0 y.cls b mL ret := ⟨B.exec, B.bytes, hml, findClass_of_methodNamed B.named, fun w hw => atoms_spec (ws := Cond.code y b mL ret :: UW) B.pre w (List.mem_cons_of_mem _ hw), hl, B.notSynchronized, B.returns, hAd, hb0, hST⟩
  have h0 := lv_entry (As ad) (n := mL) (hlen ad)
  rw [lg_entry_eq]
  exact body C ht s.heap [] _ hP va_S.rf h0
/-! .. of a class that has natives of its own, where this method is none of them (the kit's vx_ofW, over the library's of_bodySF) -/
theorem vx_ofWF {l : Launch} {y : MethodName} {ws ws' : List Cond} {rm : Room} {Pc : Array Value → State → Prop} {Qc : Array Value → State → Outcome → State → Prop} {XC : String → State → State → Prop} {mc ms : Nat} {free : Addr → Prop} {cc : ByteArray} {maxL : Nat} {ret : Option FieldType}
    (hy : plainFor y = true) (hw : ws = Cond.code y cc maxL ret :: ws')
    (body : ∀ p e s m args below meth c s₁, BodyLoose p l y (headSpec ws rm) cc maxL ret e s m args below meth c s₁ → c.maxLocals = maxL → (∀ x ∈ c.exceptionTable.toList, False) → Pc args s →
      W p l e (headSpec ws rm).room s m args below meth c s.heap [] 0 0 (vx_MQ below Qc XC args s mc ms free) (entryFrame m args maxL)) : vx_Met l y ws rm Pc Qc XC mc ms free := by
  refine MetFree.of_bodySF (code := cc) (maxLocals := maxL) (ret := ret) hy ?_ ?_
  · intro args s m h hn
    obtain ⟨meth, c, h1, h2, h3, h4, h5, h6, -, -⟩ := Cond.code_spec hn (atoms_spec (ws := ws) h _ (by rw [hw]; exact List.mem_cons_self))
    exact ⟨meth, c, h1, h2, h3, h4, h5, h6⟩
  · intro p e s m args below meth c s₁ B hml hP _
    have hh0 : s₁.heap = s.heap := by rw [B.state]; rfl
    have ht : ∀ x ∈ c.exceptionTable.toList, False := by
      obtain ⟨meth9, c9, h1, h2, -, -, -, -, h7, -⟩ := Cond.code_spec B.named (atoms_spec (ws := ws) B.pre _ (by rw [hw]; exact List.mem_cons_self))
      cases Option.some.inj (h1.symm.trans B.method)
      cases Option.some.inj (h2.symm.trans (Stand.of_body B).code)
      intro x hx
      rw [Array.isEmpty_iff.mp h7] at hx
      cases hx
    obtain ⟨t, a1, o, b1, b2, b3⟩ := body p e s m args below meth c s₁ B hml ht hP s₁ hh0 (Stand.of_body B)
    exact ⟨t, o, a1, b1, b2, b3⟩
theorem AM.ofF {d K mL : Nat} {y : MethodName} {b : ByteArray} {ret : Option FieldType} {As : (Nat → Nat) → List Value} {V V' : VT} {r : (Nat → Nat) → OutV} (hy : plainFor y = true) (hlen : ∀ ad, (lg_sl (As ad)).length ≤ mL)
    (body : ∀ {p : Program} {l : Launch} {e : Env} {s : State} {m : MethodId} {args : Array Value} {below : List Frame} {meth : Method} {c : Code} {D : va_G} {cs : Nat → ClassId} {ad : Nat → Nat} {b0 : Nat}, Ctx p l s m args meth c D cs ad b0 y.cls b mL ret → (∀ x ∈ c.exceptionTable.toList, False) →
      AW p l e (rmOf d K) s m args below meth c D cs ad b0 (QF below D cs ad b0 V' (r ad) args s K) mL 0 V (lv_args 0 (As ad)) [] 0) : AM d K y (.code y b mL ret) As V V' r := by
  intro l hl D cs ad b0 hAd
  refine vx_ofWF (cc := b) (maxL := mL) (ret := ret) hy rfl ?_
  intro p e s m args below meth c s₁ B hml ht hv
  obtain ⟨rfl, hb0, hP, hST⟩ := hv
  have C : Ctx p l s m (As ad).toArray meth c D cs ad b0 y.cls b mL ret := ⟨B.exec, B.bytes, hml, findClass_of_methodNamed B.named, fun w hw => atoms_spec (ws := Cond.code y b mL ret :: UW) B.pre w (List.mem_cons_of_mem _ hw), hl, B.notSynchronized, B.returns, hAd, hb0, hST⟩
  have h0 := lv_entry (As ad) (n := mL) (hlen ad)
  rw [lg_entry_eq]
  exact body C ht s.heap [] _ hP va_S.rf h0
theorem AMX.of {d K mL : Nat} {y : MethodName} {b : ByteArray} {ret : Option FieldType} {hh : List (Nat × Nat × Nat × Nat)} {As : (Nat → Nat) → List Value} {V V' : VT} {r : (Nat → Nat) → OutV} (hy : plainName y.cls = true) (hlen : ∀ ad, (lg_sl (As ad)).length ≤ mL)
    (body : ∀ {p : Program} {l : Launch} {e : Env} {s : State} {m : MethodId} {args : Array Value} {below : List Frame} {meth : Method} {c : Code} {D : va_G} {cs : Nat → ClassId} {ad : Nat → Nat} {b0 : Nat}, Ctx p l s m args meth c D cs ad b0 y.cls b mL ret → c.exceptionTable.toList = tableOf hh →
      AW p l e (rmOf d K) s m args below meth c D cs ad b0 (QF below D cs ad b0 V' (r ad) args s K) mL 0 V (lv_args 0 (As ad)) [] 0) : AM d K y (.codeWith y b mL ret hh) As V V' r := by
  intro l hl D cs ad b0 hAd
  refine vx_ofWH (cc := b) (maxL := mL) (ret := ret) (hh := hh) hy rfl ?_
  intro p e s m args below meth c s₁ B hml hv
  obtain ⟨rfl, hb0, hP, hST⟩ := hv
  have hts := atoms_spec (ws := Cond.codeWith y b mL ret hh :: UW) B.pre
  have C : Ctx p l s m (As ad).toArray meth c D cs ad b0 y.cls b mL ret := ⟨B.exec, B.bytes, hml, findClass_of_methodNamed B.named, fun w hw => hts w (List.mem_cons_of_mem _ hw), hl, B.notSynchronized, B.returns, hAd, hb0, hST⟩
  have h0 := lv_entry (As ad) (n := mL) (hlen ad)
  rw [lg_entry_eq]
  exact body C (vx_table (x := y) B (hts _ List.mem_cons_self)) s.heap [] _ hP va_S.rf h0
