/-! CONSTRUCTORS: the rules over an explicit world -/
def NB (U : State) : Prop := va_AO RX1 U ∧ va_Nw (.methodLinkNest RX4 31 yX0_init RX4) U ∧ va_Nw (.methodLinkNest RX4 38 yX2_init RX4) U
theorem NB.warm {s U : State} (hW : s.WarmedH U.vm) (h : NB s) : NB U := ⟨h.1.moved hW.alike, va_Nw.warmM hW h.2.1, va_Nw.warmM hW h.2.2⟩
def ZC (p : Program) (s : State) (m : MethodId) (args : Array Value) (meth : Method) (c : Code) (D : va_G) (cs : Nat → ClassId) (A : Nat → Prop) (own : String) (cc : ByteArray) (nL : Nat) : Prop :=
  p.tables.exec = Jvm.exec ∧ c.code = cc ∧ c.maxLocals = nL ∧ s.vm.findClass own = some m.cls ∧ (∀ w ∈ UW, w.before args s = true) ∧ va_K D vwC (tysOf cs) s ∧ NB s ∧ (∀ q, s.heap.size ≤ q → A q)
def ZW (p : Program) (l : Launch) (e : Env) (R : Room) (s : State) (m : MethodId) (args : Array Value) (below : List Frame) (meth : Method) (c : Code) (D : va_G) (cs : Nat → ClassId) (A : Nat → Prop) (Q : State → Prop) (nL k ks : Nat) (ws : va_W) (lv : List (Nat × Value)) (st : List Value) (pc : Nat) : Prop :=
  ∀ (H : Heap) (locs : List Loc) (ls : Array Slot), va_P D vwC ws H → va_D A ws → va_S A s.heap H locs → lv_has ls nL lv → W p l e R s m args below meth c H locs k ks Q (F0 m pc ls st)
/-- a constructor's contract: of the object's own cell, its fields as 'new' left them, it makes the world XW -/
def ZM (F kc ks : Nat) (y : MethodName) (b : ByteArray) (mL : Nat) (ci : Nat) (fs : List Value) (XW : (Nat → ClassId) → (Nat → Nat) → va_W) : Prop := ∀ (l : Launch) (D : va_G) (cs : Nat → ClassId) (h0 sz : Nat), Met l y (.code y b mL none :: UW) ({ frames := F, cells := kc, slots := ks, locals := 64 * F }) (va_Pc [.ref h0] (fun U => U.heap.size = sz ∧ va_P D vwC [(h0, .inr (ci, fs))] U.heap ∧ (va_K D vwC (tysOf cs) U ∧ NB U) ∧ va_D (fun _ => True) [(h0, .inr (ci, fs))])) (va_Qv (fun a : Nat → Nat => a 0 = h0) (fun a t => va_P D vwC (XW cs a) t.heap ∧ va_D (va_A [(h0, .inr (ci, fs))] sz) (XW cs a)) (va_A [(h0, .inr (ci, fs))] sz)) kc ks (va_A [(h0, .inr (ci, fs))] sz)
theorem ra_fc {U : State} {cA : ClassId} {ty : FieldType} (h : va_RA U cA ty) : U.vm.findClass ("[" ++ ty.toString) = some cA := by
  cases ty <;> first | exact h | (obtain ⟨_, _, _, _, _, h9⟩ := h; exact h9)
theorem ra_eq {U : State} {a b : ClassId} {ty : FieldType} (h : va_RA U a ty) (k : va_RA U b ty) : a = b := Option.some.inj ((ra_fc h).symm.trans (ra_fc k))
section RZ
variable {p : Program} {l : Launch} {e : Env} {R : Room} {s : State} {m : MethodId} {args : Array Value} {below : List Frame} {meth : Method} {c : Code} {D : va_G} {cs : Nat → ClassId} {A : Nat → Prop} {Q : State → Prop} {nL k ks : Nat} {ws : va_W} {lv : List (Nat × Value)} {st : List Value} {pc : Nat} {own : String} {cc : ByteArray}
theorem z_iconst (C : ZC p s m args meth c D cs A own cc nL) {n : Int} {v : Int32} (hdg : decode cc pc = .ok (.iconst n, 1)) (hv : Int32.ofInt n = v)
    (kk : ZW p l e R s m args below meth c D cs A Q nL k ks ws lv (.int v :: st) (pc + 1)) : ZW p l e R s m args below meth c D cs A Q nL k ks ws lv (st) pc :=
  fun H locs ls hP hD hS hl => lv_iconst C.1 C.2.1 hdg hv (kk H locs ls hP hD hS hl)
theorem z_bipush (C : ZC p s m args meth c D cs A own cc nL) {n : Int} {v : Int32} (hdg : decode cc pc = .ok (.bipush n, 2)) (hv : (Int8.ofInt n).toInt32 = v)
    (kk : ZW p l e R s m args below meth c D cs A Q nL k ks ws lv (.int v :: st) (pc + 2)) : ZW p l e R s m args below meth c D cs A Q nL k ks ws lv (st) pc :=
  fun H locs ls hP hD hS hl => lv_bipush C.1 C.2.1 hdg hv (kk H locs ls hP hD hS hl)
theorem z_sipush (C : ZC p s m args meth c D cs A own cc nL) {n : Int} {v : Int32} (hdg : decode cc pc = .ok (.sipush n, 3)) (hv : (Int16.ofInt n).toInt32 = v)
    (kk : ZW p l e R s m args below meth c D cs A Q nL k ks ws lv (.int v :: st) (pc + 3)) : ZW p l e R s m args below meth c D cs A Q nL k ks ws lv (st) pc :=
  fun H locs ls hP hD hS hl => lv_sipush C.1 C.2.1 hdg hv (kk H locs ls hP hD hS hl)
theorem z_iload_n (C : ZC p s m args meth c D cs A own cc nL) {j : Fin 4} {i q : Nat} {x : Int32} (hdg : decode cc pc = .ok (.iload_n j, 1)) (hi : (j : Nat) = i) (hq : lv[q]? = some (i, .int x))
    (kk : ZW p l e R s m args below meth c D cs A Q nL k ks ws lv (.int x :: st) (pc + 1)) : ZW p l e R s m args below meth c D cs A Q nL k ks ws lv (st) pc :=
  fun H locs ls hP hD hS hl => lv_iload_n C.1 C.2.1 hdg hi (lv_at hl q hq) (kk H locs ls hP hD hS hl)
theorem z_aload_n (C : ZC p s m args meth c D cs A own cc nL) {j : Fin 4} {i q x : Nat} (hdg : decode cc pc = .ok (.aload_n j, 1)) (hi : (j : Nat) = i) (hq : lv[q]? = some (i, .ref x))
    (kk : ZW p l e R s m args below meth c D cs A Q nL k ks ws lv (.ref x :: st) (pc + 1)) : ZW p l e R s m args below meth c D cs A Q nL k ks ws lv (st) pc :=
  fun H locs ls hP hD hS hl => lv_aload_n C.1 C.2.1 hdg hi (lv_at hl q hq) (kk H locs ls hP hD hS hl)
theorem z_istore_n (C : ZC p s m args meth c D cs A own cc nL) {j : Fin 4} {i : Nat} {x : Int32} {lv' : List (Nat × Value)} (hdg : decode cc pc = .ok (.istore_n j, 1)) (hi : (j : Nat) = i) (hn : i < nL) (hl : (i, Value.int x) :: lv.filter (fun q => !(q.1 == i) && !(q.1 + 1 == i && q.2.category == 2)) = lv')
    (kk : ZW p l e R s m args below meth c D cs A Q nL k ks ws lv' st (pc + 1)) : ZW p l e R s m args below meth c D cs A Q nL k ks ws lv (.int x :: st) pc :=
  fun H locs ls hP hD hS h => lv_istore_n C.1 C.2.1 hdg hi h hn hl (fun ls' h' => kk H locs ls' hP hD hS h')
theorem z_iinc (C : ZC p s m args meth c D cs A own cc nL) {i q : Nat} {n : Int} {x v : Int32} {lv' : List (Nat × Value)} (hdg : decode cc pc = .ok (.iinc i n, 3)) (hk : lv[q]? = some (i, .int x)) (hv : x + Int32.ofInt n = v) (hn : i < nL) (hl : (i, Value.int v) :: lv.filter (fun q => !(q.1 == i) && !(q.1 + 1 == i && q.2.category == 2)) = lv')
    (kk : ZW p l e R s m args below meth c D cs A Q nL k ks ws lv' st (pc + 3)) : ZW p l e R s m args below meth c D cs A Q nL k ks ws lv st pc :=
  fun H locs ls hP hD hS h => lv_iinc C.1 C.2.1 hdg h hk hv hn hl (fun ls' h' => kk H locs ls' hP hD hS h')
theorem z_icmp_ge (C : ZC p s m args meth c D cs A own cc nL) {x y : Int32} {off : Int} {tgt : Nat} (hdg : decode cc pc = .ok (.if_icmp .ge off, 3)) (ht : (pc : Int) + off = (tgt : Int))
    (kt : y ≤ x → ZW p l e R s m args below meth c D cs A Q nL k ks ws lv st tgt) (kf : ¬ y ≤ x → ZW p l e R s m args below meth c D cs A Q nL k ks ws lv st (pc + 3)) : ZW p l e R s m args below meth c D cs A Q nL k ks ws lv (.int y :: .int x :: st) pc :=
  fun H locs ls hP hD hS hl => lv_icmp_ge C.1 C.2.1 hdg ht (fun q => kt q H locs ls hP hD hS hl) (fun q => kf q H locs ls hP hD hS hl)
theorem z_goto (C : ZC p s m args meth c D cs A own cc nL) {off : Int} {tgt : Nat} (hdg : decode cc pc = .ok (.goto off, 3)) (ht : (pc : Int) + off = (tgt : Int))
    (kk : ZW p l e R s m args below meth c D cs A Q nL k ks ws lv st tgt) : ZW p l e R s m args below meth c D cs A Q nL k ks ws lv st pc :=
  fun H locs ls hP hD hS hl => lv_goto C.1 C.2.1 hdg ht (kk H locs ls hP hD hS hl)
theorem z_iadd (C : ZC p s m args meth c D cs A own cc nL) {x y : Int32} (hdg : decode cc pc = .ok (.iadd, 1)) 
    (kk : ZW p l e R s m args below meth c D cs A Q nL k ks ws lv (.int (x + y) :: st) (pc + 1)) : ZW p l e R s m args below meth c D cs A Q nL k ks ws lv (.int y :: .int x :: st) pc :=
  fun H locs ls hP hD hS hl => lv_iadd C.1 C.2.1 hdg  (kk H locs ls hP hD hS hl)
theorem z_dup (C : ZC p s m args meth c D cs A own cc nL) {va : Value} (hdg : decode cc pc = .ok (.dup, 1)) (hva : va.category = 1)
    (kk : ZW p l e R s m args below meth c D cs A Q nL k ks ws lv (va :: va :: st) (pc + 1)) : ZW p l e R s m args below meth c D cs A Q nL k ks ws lv (va :: st) pc :=
  fun H locs ls hP hD hS hl => lv_dup C.1 C.2.1 hdg hva (kk H locs ls hP hD hS hl)
theorem z_sub {lv' : List (Nat × Value)} (is : List Nat) (hl : lv_pick lv is = lv') (kk : ZW p l e R s m args below meth c D cs A Q nL k ks ws lv' st pc) : ZW p l e R s m args below meth c D cs A Q nL k ks ws lv st pc :=
  fun H locs ls hP hD hS h => kk H locs ls hP hD hS (lv_sub h is hl)
theorem z_iload (C : ZC p s m args meth c D cs A own cc nL) {i q : Nat} {x : Int32} (hdg : decode cc pc = .ok (.iload i, 2)) (hq : lv[q]? = some (i, .int x))
    (kk : ZW p l e R s m args below meth c D cs A Q nL k ks ws lv (.int x :: st) (pc + 2)) : ZW p l e R s m args below meth c D cs A Q nL k ks ws lv (st) pc :=
  fun H locs ls hP hD hS hl => lv_iload C.1 C.2.1 hdg (lv_at hl q hq) (kk H locs ls hP hD hS hl)
theorem z_istore (C : ZC p s m args meth c D cs A own cc nL) {i : Nat} {x : Int32} {lv' : List (Nat × Value)} (hdg : decode cc pc = .ok (.istore i, 2)) (hn : i < nL) (hl : (i, Value.int x) :: lv.filter (fun q => !(q.1 == i) && !(q.1 + 1 == i && q.2.category == 2)) = lv')
    (kk : ZW p l e R s m args below meth c D cs A Q nL k ks ws lv' st (pc + 2)) : ZW p l e R s m args below meth c D cs A Q nL k ks ws lv (.int x :: st) pc :=
  fun H locs ls hP hD hS h => lv_istore C.1 C.2.1 hdg h hn hl (fun ls' h' => kk H locs ls' hP hD hS h')
theorem z_astore_n (C : ZC p s m args meth c D cs A own cc nL) {j : Fin 4} {i : Nat} {x : Nat} {lv' : List (Nat × Value)} (hdg : decode cc pc = .ok (.astore_n j, 1)) (hi : (j : Nat) = i) (hn : i < nL) (hl : (i, Value.ref x) :: lv.filter (fun q => !(q.1 == i) && !(q.1 + 1 == i && q.2.category == 2)) = lv')
    (kk : ZW p l e R s m args below meth c D cs A Q nL k ks ws lv' st (pc + 1)) : ZW p l e R s m args below meth c D cs A Q nL k ks ws lv (.ref x :: st) pc :=
  fun H locs ls hP hD hS h => lv_astore_n C.1 C.2.1 hdg hi h hn hl (fun ls' h' => kk H locs ls' hP hD hS h')
theorem z_astore (C : ZC p s m args meth c D cs A own cc nL) {i : Nat} {x : Nat} {lv' : List (Nat × Value)} (hdg : decode cc pc = .ok (.astore i, 2)) (hn : i < nL) (hl : (i, Value.ref x) :: lv.filter (fun q => !(q.1 == i) && !(q.1 + 1 == i && q.2.category == 2)) = lv')
    (kk : ZW p l e R s m args below meth c D cs A Q nL k ks ws lv' st (pc + 2)) : ZW p l e R s m args below meth c D cs A Q nL k ks ws lv (.ref x :: st) pc :=
  fun H locs ls hP hD hS h => lv_astore C.1 C.2.1 hdg h hn hl (fun ls' h' => kk H locs ls' hP hD hS h')
theorem z_new (C : ZC p s m args meth c D cs A own cc nL) {idx ci N : Nat} {X : String} {T : u_T} {ty : Nat → FieldType} {fs : List Value} (hdg : decode cc pc = .ok (.new idx, 3)) (hc : vwC[ci]? = some (X, T, N)) (hin : ∀ w ∈ u_ws X T N, w ∈ UW) (hty : ∀ k, k < N → parseFieldDescriptor (T k).2.2.1 = some (ty k)) (h1 : Cond.classLink own idx X ∈ UW) (h2 : Cond.instantiable X N ∈ UW) (h3 : Cond.initialized X ∈ UW) (hfs : ∀ j, j < N → defaultValue (ty j) = vp_V fs j) (hk : k + 1 ≤ R.cells ∧ ks + N ≤ R.slots)
    (kk : ∀ q : Nat, ZW p l e R s m args below meth c D cs A Q nL (k + 1) (ks + N) (ws ++ [(q, .inr (ci, fs))]) lv (.ref q :: st) (pc + 3)) : ZW p l e R s m args below meth c D cs A Q nL k ks ws lv st pc := by
  intro H locs ls hP hD hS hl
  obtain ⟨hx, hb, hml, ho, hts, hK, hNB, hA⟩ := C
  exact va_new hx hb hts hin ty hty ho (hts _ h1) (hts _ h2) (hts _ h3) hK hP hD hS hA hc hfs hk.1 hk.2 hdg (fun q H1 hP1 hD1 hS1 => kk q H1 locs ls hP1 hD1 hS1 hl)
theorem z_newa (C : ZC p s m args meth c D cs A own cc nL) {atype : ArrayType} {ty : FieldType} {i : Nat} {n : Int32} {N : Nat} {a0 : vp_A} (hdg : decode cc pc = .ok (.newarray atype, 2)) (harr : Cond.arrayClass (newarray.typeOf atype) ∈ UW) (hty : newarray.typeOf atype = ty) (hi : (tysOf cs)[i]? = some (cs i, ty)) (hl5 : i < 5) (ha : ∀ cA : ClassId, vp_cell cA a0 = arrV cA N (fun _ => defaultValue ty)) (hn : ¬ n < 0) (hN : n.toNatClampNeg = N) (hby : N * componentBytes ty ≤ 536870912) (hk : k + 1 ≤ R.cells ∧ ks + N ≤ R.slots)
    (kk : ∀ q : Nat, ZW p l e R s m args below meth c D cs A Q nL (k + 1) (ks + N) (ws ++ [(q, .inl (cs i, a0))]) lv (.ref q :: st) (pc + 2)) : ZW p l e R s m args below meth c D cs A Q nL k ks ws lv (.int n :: st) pc := by
  intro H locs ls hP hD hS hl
  obtain ⟨hx, hb, hml, ho, hts, hK, hNB, hA⟩ := C
  refine va_newa hx hb (hts _ harr) hty hK hP hD hS hA ha hn hN hby hk.1 hk.2 hdg (fun q cA H1 hK1 hP1 hD1 hS1 => ?_)
  have e : cA = cs i := ra_eq (hK1.2 5 _ rfl).2 (hK.2 i _ hi).2
  subst e
  exact kk q H1 locs ls hP1 hD1 hS1 hl
theorem z_newq (C : ZC p s m args meth c D cs A own cc nL) {idx N : Nat} {n : Int32} (hdg : decode cc pc = .ok (.anewarray idx, 3)) (hl1 : Cond.classLink own idx RX1 ∈ UW) (hn : ¬ n < 0) (hN : n.toNatClampNeg = N) (hby : N * 4 ≤ 536870912) (hk : k + 1 ≤ R.cells ∧ ks + N ≤ R.slots)
    (kk : ∀ q : Nat, ZW p l e R s m args below meth c D cs A Q nL (k + 1) (ks + N) (ws ++ [(q, .inl (cs 4, N, .inr (.inr (.inr (.inr (fun _ => none))))))]) lv (.ref q :: st) (pc + 3)) : ZW p l e R s m args below meth c D cs A Q nL k ks ws lv (.int n :: st) pc := by
  intro H locs ls hP hD hS hl
  obtain ⟨hx, hb, hml, ho, hts, hK, hNB, hA⟩ := C
  refine va_newq hx hb ho (hts _ hl1) hNB.1 hK hP hD hS hA hn hN hby hk.1 hk.2 hdg (fun q cA H1 hK1 hP1 hD1 hS1 => ?_)
  have e : cA = cs 4 := ra_eq (hK1.2 5 _ rfl).2 (hK.2 4 _ rfl).2
  subst e
  exact kk q H1 locs ls hP1 hD1 hS1 hl
theorem z_put (C : ZC p s m args meth c D cs A own cc nL) {idx ci j q0 a : Nat} {fs : List Value} {v : Value} {ty : FieldType} (hdg : decode cc pc = .ok (.putfield idx, 3)) (fl : FP own idx ci j ty) (he : ws[q0]? = some (a, .inr (ci, fs))) (hn : narrow ty v = v) (hfit : fits ty v = true) (hj : j < fs.length)
    (kk : ZW p l e R s m args below meth c D cs A Q nL k ks (ws.set q0 (a, .inr (ci, fs.set j v))) lv st (pc + 3)) : ZW p l e R s m args below meth c D cs A Q nL k ks ws lv (v :: .ref a :: st) pc := by
  intro H locs ls hP hD hS hl
  obtain ⟨hx, hb, hml, ho, hts, hK, hNB, hA⟩ := C
  obtain ⟨X, T, N, ty0, h1, h2, h3, h4, h5, h6, h7, h8⟩ := fl
  exact va_put hx hb hts h3 ty0 h5 h6 ho hK hP hD hS q0 he h1 j h2 (hts _ h4) (fun _ h => h) h7 h8 hn hfit hj hdg (fun H1 locs1 hP1 hD1 hS1 => kk H1 locs1 ls hP1 hD1 hS1 hl)
/-- a final field, in the constructor of its class -/
def FPF (own : String) (idx ci j : Nat) (ty : FieldType) : Prop := ∃ (C : String) (T : u_T) (N : Nat) (ty0 : Nat → FieldType), vwC[ci]? = some (C, T, N) ∧ j < N ∧ (∀ w ∈ u_ws C T N, w ∈ UW) ∧ Cond.fieldLink own idx (T j).1 (T j).2.1 (T j).2.2.1 ∈ UW ∧ (∀ k, k < N → parseFieldDescriptor (T k).2.2.1 = some (ty0 k)) ∧ (∀ a, a < N → ∀ b, b < N → a ≠ b → (T a).2.1 ≠ (T b).2.1) ∧ (T j).2.2.2 = true ∧ parseFieldDescriptor (T j).2.2.1 = some ty ∧ (T j).1 = own
theorem z_putF (C : ZC p s m args meth c D cs A own cc nL) {idx ci j q0 a : Nat} {fs : List Value} {v : Value} {ty : FieldType} (hin : meth.name = "<init>") (hdg : decode cc pc = .ok (.putfield idx, 3)) (fl : FPF own idx ci j ty) (he : ws[q0]? = some (a, .inr (ci, fs))) (hn : narrow ty v = v) (hfit : fits ty v = true) (hj : j < fs.length)
    (kk : ZW p l e R s m args below meth c D cs A Q nL k ks (ws.set q0 (a, .inr (ci, fs.set j v))) lv st (pc + 3)) : ZW p l e R s m args below meth c D cs A Q nL k ks ws lv (v :: .ref a :: st) pc := by
  intro H locs ls hP hD hS hl
  obtain ⟨hx, hb, hml, ho, hts, hK, hNB, hA⟩ := C
  obtain ⟨X, T, N, ty0, h1, h2, h3, h4, h5, h6, h7, h8, h9⟩ := fl
  exact va_putF hx hb hts h3 ty0 h5 h6 ho hK hP hD hS q0 he h1 j h2 (hts _ h4) (fun _ h => h) h7 hin h9 h8 hn hfit hj hdg (fun H1 locs1 hP1 hD1 hS1 => kk H1 locs1 ls hP1 hD1 hS1 hl)
theorem z_get (C : ZC p s m args meth c D cs A own cc nL) {idx ci j q0 a : Nat} {fs : List Value} {v : Value} (hdg : decode cc pc = .ok (.getfield idx, 3)) (fl : FL own idx ci j) (he : ws[q0]? = some (a, .inr (ci, fs))) (hv : fs[j]? = some v)
    (kk : ZW p l e R s m args below meth c D cs A Q nL k ks ws lv (v :: st) (pc + 3)) : ZW p l e R s m args below meth c D cs A Q nL k ks ws lv (.ref a :: st) pc := by
  intro H locs ls hP hD hS hl
  obtain ⟨hx, hb, hml, ho, hts, hK, hNB, hA⟩ := C
  obtain ⟨X, T, N, h1, h2, h3, h4⟩ := fl
  exact va_get hx hb hts h3 ho hK hP q0 he h1 j h2 (hts _ h4) (fun _ h => h) hv hdg (kk H locs ls hP hD hS hl)
theorem z_iast (C : ZC p s m args meth c D cs A own cc nL) {q0 a n : Nat} {f : Nat → Int32} {i x : Int32} (hdg : decode cc pc = .ok (.iastore, 1)) (he : ws[q0]? = some (a, .inl (cs 0, n, .inl f))) (hin : vp_in i n)
    (kk : ZW p l e R s m args below meth c D cs A Q nL k ks (ws.set q0 (a, .inl (cs 0, n, .inl (upd f i.toNatClampNeg x)))) lv st (pc + 1)) : ZW p l e R s m args below meth c D cs A Q nL k ks ws lv (.int x :: .int i :: .ref a :: st) pc := by
  intro H locs ls hP hD hS hl
  obtain ⟨hx, hb, hml, ho, hts, hK, hNB, hA⟩ := C
  exact va_iast hx hb hK hP hD hS q0 0 he rfl hin hdg (fun H1 locs1 hP1 hD1 hS1 => kk H1 locs1 ls hP1 hD1 hS1 hl)
theorem z_ast (C : ZC p s m args meth c D cs A own cc nL) {q0 qk a n v : Nat} {vs : List Value} {f : Nat → Option Nat} {i : Int32} (hdg : decode cc pc = .ok (.aastore, 1)) (he : ws[q0]? = some (a, .inl (cs 4, n, .inr (.inr (.inr (.inr f)))))) (hv : ws[qk]? = some (v, .inr (1, vs))) (hin : vp_in i n)
    (kk : ZW p l e R s m args below meth c D cs A Q nL k ks (ws.set q0 (a, .inl (cs 4, n, .inr (.inr (.inr (.inr (va_up f i.toNatClampNeg (some v)))))))) lv st (pc + 1)) : ZW p l e R s m args below meth c D cs A Q nL k ks ws lv (.ref v :: .int i :: .ref a :: st) pc := by
  intro H locs ls hP hD hS hl
  obtain ⟨hx, hb, hml, ho, hts, hK, hNB, hA⟩ := C
  exact va_astq hx hb hK hP hD hS q0 4 qk 1 he rfl hv rfl hin hdg (fun H1 locs1 hP1 hD1 hS1 => kk H1 locs1 ls hP1 hD1 hS1 hl)
theorem z_obj (C : ZC p s m args meth c D cs A own cc nL) {idx a : Nat} (hdg : decode cc pc = .ok (.invokespecial idx, 3)) (h1 : Cond.methodLink own idx objectInit ∈ UW) (h2 : Cond.instanceMethod objectInit ∈ UW) (h3 : Cond.code objectInit ⟨#[0xb1]⟩ 1 none ∈ UW) (hR : 1 ≤ R.frames ∧ 2 * 0 + (st.map fun v => v.category).sum + 12 ≤ R.locals)
    (kk : ZW p l e R s m args below meth c D cs A Q nL k ks ws lv st (pc + 3)) : ZW p l e R s m args below meth c D cs A Q nL k ks ws lv (.ref a :: st) pc := by
  intro H locs ls hP hD hS hl
  obtain ⟨hx, hb, hml, ho, hts, hK, hNB, hA⟩ := C
  exact W.objInit hx hb ho (hts _ h1) (hts _ h2) (hts _ h3) rfl (by rw [hml]; exact hl.1) rfl hdg hR.1 hR.2 (W.eq (g2 := F0 m (pc + 3) ls st) rfl (kk H locs ls hP hD hS hl))
theorem zm_good {y : MethodName} {b : ByteArray} {mL : Nat} (h : Cond.code y b mL none ∈ UW) : GoodIn UW (Cond.code y b mL none :: UW) := by
  intro w hw
  rcases List.mem_cons.mp hw with rfl | h9
  · exact ⟨h, good_of_word (uw_good h)⟩
  · exact ⟨h9, good_of_word (uw_good h9)⟩
theorem z_init (C : ZC p s m args meth c D cs A own cc nL) {F kc ks1 mL ci i h0 idx : Nat} {y : MethodName} {b : ByteArray} {fs : List Value} {XW : (Nat → ClassId) → (Nat → Nat) → va_W} {isR : List Nat} {wr : va_W} (hdg : decode cc pc = .ok (.invokespecial idx, 3)) (hM : ZM F kc ks1 y b mL ci fs XW) (hl1 : Cond.methodLink own idx y ∈ UW) (hin : Cond.instanceMethod y ∈ UW) (hini : Cond.initialized y.cls ∈ UW) (hco : Cond.code y b mL none ∈ UW) (hy1 : y.name = "<init>") (hd : y.cls ≠ "java/lang/invoke/MethodHandle" ∧ y.cls ≠ "java/lang/invoke/VarHandle" ∧ (parseMethodDescriptor y.desc).map (fun d => d.parameters.length) = some 0)
    (hi : ws[i]? = some (h0, .inr (ci, fs))) (hR9 : isR.map (fun j => ws[j]?) = wr.map some) (hnd : va_nd isR = true) (hdis : ∀ j ∈ isR, j ∉ [i]) (hR : F + 1 ≤ R.frames ∧ 8 + (mL + 11) + 64 * F ≤ R.locals ∧ k + kc ≤ R.cells ∧ ks + ks1 ≤ R.slots) (hw : (st.map fun v => v.category).sum ≤ 8)
    (kk : ∀ a : Nat → Nat, a 0 = h0 → ZW p l e R s m args below meth c D cs A Q nL (k + kc) (ks + ks1) (wr ++ XW cs a) lv st (pc + 3)) : ZW p l e R s m args below meth c D cs A Q nL k ks ws lv (.ref h0 :: st) pc := by
  intro H locs ls hP hD hS hl
  obtain ⟨hx, hb, hml, ho, hts, hK, hNB, hA⟩ := C
  have hPc : va_P D vwC [(h0, .inr (ci, fs))] H := hP.sub [i] (by simp [hi])
  have hDc : va_D A [(h0, .inr (ci, fs))] := hD.sub [i] rfl (by simp [hi])
  have hC9 : [i].map (fun j => ws[j]?) = [((h0, .inr (ci, fs)) : Nat × va_E)].map some := by simp [hi]
  have hFc := va_free (wc := [(h0, .inr (ci, fs))]) hD hS hA [i] hC9
  refine va_callv (va_runI (As := []) (rest := st) ⟨hx, hb, hml, ho, hts⟩ (hM l D cs h0 H.size) (cwI 0 hts (zm_good hco) rfl rfl rfl (hts _ hini) (hts _ hl1) (hts _ hin) hy1 hd ⟨hR.1, hR.2.1⟩) ⟨fun a U g mk q => by obtain ⟨q0, q1, qP, ⟨qK, qN⟩, qD⟩ := q; exact ⟨q0, q1, qP, ⟨va_K.moved (u := U) (U := U.calling g mk a) (Vm.Alike.refl U.vm) qK, NB.warm (s := U) (U := U.calling g mk a) (State.WarmedH.refl U) qN⟩, qD⟩, fun U hU hW => ⟨rfl, by rw [hU], by rw [hU]; exact hPc, ⟨va_K.moved hW.alike hK, NB.warm hW hNB⟩, hDc.weaken (fun _ _ _ _ => trivial)⟩⟩ rfl rfl hl.1 rfl (lv_room hw) hdg ⟨hR.2.2.1, hR.2.2.2⟩) hS (fun q _ h => hFc q h) hFc (fun u t H1 locs ht hvm hu hB hz1 hk1 hS => ?_)
  obtain ⟨hP1, hD1⟩ := hB
  rw [ht] at hP1
  obtain ⟨hP2, hD2⟩ := va_join (wr := wr) (w1 := XW cs u) hP hD [i] isR hC9 hR9 hnd hdis hk1 hFc hP1 hD1
  exact kk u hu H1 locs ls hP2 hD2 hS hl
theorem z_initN (C : ZC p s m args meth c D cs A own cc nL) {F kc ks1 mL ci i h0 idx : Nat} {y : MethodName} {b : ByteArray} {host : String} {fs : List Value} {XW : (Nat → ClassId) → (Nat → Nat) → va_W} {isR : List Nat} {wr : va_W} (hdg : decode cc pc = .ok (.invokespecial idx, 3)) (hM : ZM F kc ks1 y b mL ci fs XW) (hl1 : va_Nw (.methodLinkNest own idx y host) s) (hin : Cond.instanceMethod y ∈ UW) (hini : Cond.initialized y.cls ∈ UW) (hco : Cond.code y b mL none ∈ UW) (hy1 : y.name = "<init>") (hd : y.cls ≠ "java/lang/invoke/MethodHandle" ∧ y.cls ≠ "java/lang/invoke/VarHandle" ∧ (parseMethodDescriptor y.desc).map (fun d => d.parameters.length) = some 0)
    (hi : ws[i]? = some (h0, .inr (ci, fs))) (hR9 : isR.map (fun j => ws[j]?) = wr.map some) (hnd : va_nd isR = true) (hdis : ∀ j ∈ isR, j ∉ [i]) (hR : F + 1 ≤ R.frames ∧ 8 + (mL + 11) + 64 * F ≤ R.locals ∧ k + kc ≤ R.cells ∧ ks + ks1 ≤ R.slots) (hw : (st.map fun v => v.category).sum ≤ 8)
    (kk : ∀ a : Nat → Nat, a 0 = h0 → ZW p l e R s m args below meth c D cs A Q nL (k + kc) (ks + ks1) (wr ++ XW cs a) lv st (pc + 3)) : ZW p l e R s m args below meth c D cs A Q nL k ks ws lv (.ref h0 :: st) pc := by
  intro H locs ls hP hD hS hl
  obtain ⟨hx, hb, hml, ho, hts, hK, hNB, hA⟩ := C
  have hPc : va_P D vwC [(h0, .inr (ci, fs))] H := hP.sub [i] (by simp [hi])
  have hDc : va_D A [(h0, .inr (ci, fs))] := hD.sub [i] rfl (by simp [hi])
  have hC9 : [i].map (fun j => ws[j]?) = [((h0, .inr (ci, fs)) : Nat × va_E)].map some := by simp [hi]
  have hFc := va_free (wc := [(h0, .inr (ci, fs))]) hD hS hA [i] hC9
  refine va_callv (va_runIN (As := []) (rest := st) (host := host) ⟨hx, hb, hml, ho, hts⟩ (hM l D cs h0 H.size) ⟨va_cnB 0 hts (zm_good hco) rfl rfl rfl hl1 (hts _ hini) hd ⟨hR.1, hR.2.1⟩, hy1, hts _ hin⟩ ⟨fun a U g mk q => by obtain ⟨q0, q1, qP, ⟨qK, qN⟩, qD⟩ := q; exact ⟨q0, q1, qP, ⟨va_K.moved (u := U) (U := U.calling g mk a) (Vm.Alike.refl U.vm) qK, NB.warm (s := U) (U := U.calling g mk a) (State.WarmedH.refl U) qN⟩, qD⟩, fun U hU hW => ⟨rfl, by rw [hU], by rw [hU]; exact hPc, ⟨va_K.moved hW.alike hK, NB.warm hW hNB⟩, hDc.weaken (fun _ _ _ _ => trivial)⟩⟩ rfl rfl hl.1 rfl (lv_room hw) hdg ⟨hR.2.2.1, hR.2.2.2⟩) hS (fun q _ h => hFc q h) hFc (fun u t H1 locs ht hvm hu hB hz1 hk1 hS => ?_)
  obtain ⟨hP1, hD1⟩ := hB
  rw [ht] at hP1
  obtain ⟨hP2, hD2⟩ := va_join (wr := wr) (w1 := XW cs u) hP hD [i] isR hC9 hR9 hnd hdis hk1 hFc hP1 hD1
  exact kk u hu H1 locs ls hP2 hD2 hS hl
end RZ
