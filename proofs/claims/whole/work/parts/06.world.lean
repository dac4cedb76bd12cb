/-! THE ABSTRACT WORLD: the heap's cells by fixed numbers, their contents as ints; one list of words for all methods. -/
def UW : List Cond := lw_tbl.filter goodWord
theorem uw_in {w : Cond} (i : Nat) (h : lw_tbl[i]? = some w) (g : goodWord w = true) : w ∈ UW := List.mem_filter.mpr ⟨List.mem_of_getElem? h, g⟩
theorem uw_good {w : Cond} (h : w ∈ UW) : goodWord w = true := (List.mem_filter.mp h).2
theorem uw_tbl {w : Cond} (h : w ∈ UW) : w ∈ lw_tbl := (List.mem_filter.mp h).1
theorem uw_goodIn {big : List Cond} (h : ∀ w ∈ UW, w ∈ big) : GoodIn big UW := fun w hw => ⟨h w hw, good_of_word (uw_good hw)⟩
theorem uw_all {L : List Cond} (h : L.all (fun w => decide (w ∈ lw_tbl) && goodWord w) = true) : ∀ w ∈ L, w ∈ UW := by
  intro w hw
  have h1 := List.all_eq_true.mp h w hw
  simp only [Bool.and_eq_true, decide_eq_true_eq] at h1
  exact List.mem_filter.mpr h1
/-- words that no list of good words carries, moved by the tables alone -/
def isBW : Cond → Bool
  | .declares _ => true
  | .castable _ _ => true
  | _ => false
def BW : List Cond := lw_tbl.filter isBW
def WB (U : State) : Prop := ∀ w ∈ BW, w.before #[] U = true
theorem isBW_tab {w : Cond} (h : isBW w = true) : w.onTables = true := by
  cases w <;> first | rfl | (simp [isBW] at h)
theorem isBW_moved {w : Cond} (hw : isBW w = true) {u U : State} (hvm : u.vm.Alike U.vm) (h : w.before #[] u = true) : w.before #[] U = true := by
  have tr : ∀ {c : Cond}, c.onTables = true → c.before #[] (u.setVm U.vm) = true → c.before #[] U = true := by
    intro c hc h
    have e := Cond.onTables_vm (A := #[]) (A' := #[]) (U := u) (U' := U) U.vm c hc
    have hU : U.setVm U.vm = U := rfl
    rw [hU] at e
    rw [← e]
    exact h
  cases w with
  | declares x => exact tr rfl (by rw [Cond.declares_setVm hvm]; exact h)
  | castable a b => exact tr rfl (by rw [Cond.castable_setVm hvm]; exact h)
  | _ => simp [isBW] at hw
theorem WB.moved {u U : State} (hvm : u.vm.Alike U.vm) (h : WB u) : WB U := fun w hw => isBW_moved (List.mem_filter.mp hw).2 hvm (h w hw)
theorem WB.use {U : State} (h : WB U) {w : Cond} (hw : w ∈ BW) {A : Array Value} : w.before A U = true := va_tabs (isBW_tab (List.mem_filter.mp hw).2) rfl (h w hw)
/-! the classes, the shapes of the cells -/
abbrev vwC : List vw_C := [(RX0, TX0, 2), (RX1, TX1, 12), (RX2, TX2, 6), (RX3, TX3, 3), (RX4, TX4, 12), (RX5, TX5, 19)]
abbrev Sh : Type := (Nat × List (Option Nat)) ⊕ (Nat × Nat × List Nat)
abbrev VT : Type := Nat → Nat → Int32
def landSh (a : Nat) : List Sh := [.inl (1, [some (a+1), some (a+2), some (a+3), some (a+4), some (a+5), some (a+6), some (a+7), some (a+8), none, none, none, none]), .inr (0, 7, []), .inr (0, 7, []), .inr (0, 7, []), .inr (0, 7, []), .inr (0, 7, []), .inr (0, 7, []), .inr (0, 5, []), .inr (0, 5, [])]
/-- 0: FlagHues; 1, 10, 19: its lands; 28, 29: Past and its row; 30, 39 ..: the lands kept; 102: Counter; 105: Orders; 108: the line; 109: the reference, its rows behind; 118, 119: the law's two rows -/
def shp : List Sh :=
  [.inl (4, [some 1, some 10, some 19, some 28, some 102, some 105, some 108, none, none, none, none, none])] ++
  landSh 1 ++ landSh 10 ++ landSh 19 ++
  [.inl (3, [some 29, none, none]), .inr (4, 8, [30, 39, 48, 57, 66, 75, 84, 93])] ++
  landSh 30 ++ landSh 39 ++ landSh 48 ++ landSh 57 ++ landSh 66 ++ landSh 75 ++ landSh 84 ++ landSh 93 ++
  [.inl (0, [some 103, some 104]), .inr (0, 5, []), .inr (0, 7, [])] ++
  [.inl (2, [some 106, none, none, none, some 107, none]), .inr (1, 60, []), .inr (0, 3, [])] ++
  [.inr (1, 17, [])] ++
  [.inl (5, [some 110, some 111, some 112, some 113, none, none, none, none, none, none, some 114, none, none, some 115, none, some 116, none, some 117, none]),
   .inr (0, 56, []), .inr (0, 448, []), .inr (0, 56, []), .inr (0, 56, []), .inr (0, 60, []), .inr (1, 40, []), .inr (0, 7, []), .inr (0, 128, [])] ++
  [.inr (2, 1, []), .inr (3, 1, [])]
abbrev NC : Nat := 120
theorem shp_len : shp.length = NC := by decide +kernel
theorem shp_lt {k : Nat} {x : Sh} (h : shp[k]? = some x) : k < NC := by
  have := (List.getElem?_eq_some_iff.mp h).1
  rw [shp_len] at this
  exact this
/-- a double of its two halves -/
def u64 (lo hi : Int32) : UInt64 := UInt64.ofNat (lo.toBitVec.toNat + 4294967296 * hi.toBitVec.toNat)
def lo64 (x : UInt64) : Int32 := Int32.ofNat (x.toNat % 4294967296)
def hi64 (x : UInt64) : Int32 := Int32.ofNat (x.toNat / 4294967296)
def fdV (ad : Nat → Nat) (x : Int32) : Option Nat → Value
  | some t => Value.ref (ad t)
  | none => Value.int x
def mkF (ad : Nat → Nat) (v : Nat → Int32) : Nat → List (Option Nat) → List Value
  | _, [] => []
  | j, f :: fs => fdV ad (v j) f :: mkF ad v (j + 1) fs
theorem mkF_get (ad : Nat → Nat) (v : Nat → Int32) : ∀ (fs : List (Option Nat)) (j i : Nat), (mkF ad v j fs)[i]? = (fs[i]?).map (fdV ad (v (j + i)))
  | [], j, i => by simp [mkF]
  | f :: fs, j, 0 => by simp [mkF]
  | f :: fs, j, i + 1 => by
    show (fdV ad (v j) f :: mkF ad v (j + 1) fs)[i + 1]? = _
    rw [List.getElem?_cons_succ, List.getElem?_cons_succ, mkF_get ad v fs (j + 1) i, Nat.add_assoc, Nat.add_comm 1 i]
theorem mkF_len (ad : Nat → Nat) (v : Nat → Int32) : ∀ (fs : List (Option Nat)) (j : Nat), (mkF ad v j fs).length = fs.length
  | [], j => rfl
  | f :: fs, j => by simp [mkF, mkF_len ad v fs (j + 1)]
def cellK (cs : Nat → ClassId) (ad : Nat → Nat) (v : Nat → Int32) : Sh → va_E
  | .inl (ci, fs) => .inr (ci, mkF ad v 0 fs)
  | .inr (kind, len, rf) => .inl (cs kind, len, if kind = 2 then .inr (.inl (fun j => (v j).toInt64)) else if kind = 3 then .inr (.inr (.inr (.inl (fun j => u64 (v (2 * j)) (v (2 * j + 1)))))) else if kind = 4 then .inr (.inr (.inr (.inr (fun j => (rf[j]?).map ad)))) else .inl v)
def cellOf (cs : Nat → ClassId) (ad : Nat → Nat) (V : VT) (k : Nat) : va_E := cellK cs ad (V k) (shp.getD k (.inl (0, [])))
def wsOf (cs : Nat → ClassId) (ad : Nat → Nat) (V : VT) : va_W := (List.range NC).map (fun k => (ad k, cellOf cs ad V k))
theorem cellOf_sh {cs : Nat → ClassId} {ad : Nat → Nat} {V : VT} {k : Nat} {x : Sh} (h : shp[k]? = some x) : cellOf cs ad V k = cellK cs ad (V k) x := by
  unfold cellOf
  rw [List.getD_eq_getElem?_getD, h]
  rfl
theorem ws_at {cs : Nat → ClassId} {ad : Nat → Nat} {V : VT} {k : Nat} {x : Sh} (h : shp[k]? = some x) : (wsOf cs ad V)[k]? = some (ad k, cellK cs ad (V k) x) := by
  have hk := shp_lt h
  rw [← cellOf_sh h]
  simp [wsOf, hk]
theorem ws_set {cs : Nat → ClassId} {ad : Nat → Nat} {V V' : VT} {k : Nat} {e : va_E} (he : cellOf cs ad V' k = e) (ho : ∀ j, j ≠ k → V' j = V j) : (wsOf cs ad V).set k (ad k, e) = wsOf cs ad V' := by
  apply List.ext_getElem?
  intro i
  by_cases hi : i = k
  · subst hi
    by_cases hk : i < NC
    · rw [List.getElem?_set_self (by simpa [wsOf] using hk)]
      simp [wsOf, hk, he]
    · rw [List.getElem?_eq_none (by simpa [wsOf] using hk), List.getElem?_eq_none (by simpa [wsOf] using hk)]
  · rw [List.getElem?_set_ne (fun q => hi q.symm)]
    by_cases hk : i < NC
    · simp [wsOf, hk, cellOf, ho i hi]
    · rw [List.getElem?_eq_none (by simpa [wsOf] using hk), List.getElem?_eq_none (by simpa [wsOf] using hk)]
def up2 (V : VT) (k j : Nat) (x : Int32) : VT := fun a => if a = k then upd (V k) j x else V a
theorem up2_k (V : VT) (k j : Nat) (x : Int32) : up2 V k j x k = upd (V k) j x := by simp [up2]
theorem up2_o (V : VT) {k a : Nat} (j : Nat) (x : Int32) (h : a ≠ k) : up2 V k j x a = V a := by simp [up2, h]
/-- what a copy of cells leaves -/
def cp2 (V : VT) (a0 a sp dp n : Nat) : VT := fun q => if q = a then va_cpy (V a0) (V a) sp dp n else V q
theorem cp2_k (V : VT) (a0 a sp dp n : Nat) : cp2 V a0 a sp dp n a = va_cpy (V a0) (V a) sp dp n := by simp [cp2]
theorem cp2_o (V : VT) {a0 a q : Nat} (sp dp n : Nat) (h : q ≠ a) : cp2 V a0 a sp dp n q = V q := by simp [cp2, h]
/-- a double's halves are kept in one cell -/
def upD (V : VT) (k : Nat) (x : UInt64) : VT := fun a => if a = k then upd (upd (V k) 0 (lo64 x)) 1 (hi64 x) else V a
theorem upD_k (V : VT) (k : Nat) (x : UInt64) : upD V k x k = upd (upd (V k) 0 (lo64 x)) 1 (hi64 x) := by simp [upD]
theorem upD_o (V : VT) {k a : Nat} (x : UInt64) (h : a ≠ k) : upD V k x a = V a := by simp [upD, h]
theorem u64_halves (x : UInt64) : u64 (lo64 x) (hi64 x) = x := by
  have h1 : x.toNat < 18446744073709551616 := x.toNat_lt
  have a1 : (lo64 x).toBitVec.toNat = x.toNat % 4294967296 := by
    unfold lo64
    rw [show (Int32.ofNat (x.toNat % 4294967296)).toBitVec = BitVec.ofNat 32 (x.toNat % 4294967296) from rfl, BitVec.toNat_ofNat]
    omega
  have a2 : (hi64 x).toBitVec.toNat = x.toNat / 4294967296 := by
    unfold hi64
    rw [show (Int32.ofNat (x.toNat / 4294967296)).toBitVec = BitVec.ofNat 32 (x.toNat / 4294967296) from rfl, BitVec.toNat_ofNat]
    omega
  unfold u64
  rw [a1, a2]
  apply UInt64.toNat_inj.mp
  rw [UInt64.toNat_ofNat']
  omega
def AdOk (ad : Nat → Nat) (b0 : Nat) : Prop := (∀ i j : Nat, i < NC → j < NC → ad i = ad j → i = j) ∧ ∀ i : Nat, i < NC → b0 ≤ ad i
theorem ws_D {cs : Nat → ClassId} {ad : Nat → Nat} {b0 : Nat} (h : AdOk ad b0) (V : VT) : va_D (fun q => b0 ≤ q) (wsOf cs ad V) := by
  have at' : ∀ {i : Nat} {p : Nat × va_E}, (wsOf cs ad V)[i]? = some p → i < NC ∧ p.1 = ad i := by
    intro i p hp
    have hi : i < NC := by
      have := (List.getElem?_eq_some_iff.mp hp).1
      simpa [wsOf] using this
    refine ⟨hi, ?_⟩
    simp [wsOf, hi] at hp
    rw [← hp]
  refine ⟨fun i j p q hp hq hpq => ?_, fun k q hq => ?_⟩
  · obtain ⟨h1, h2⟩ := at' hp
    obtain ⟨h3, h4⟩ := at' hq
    exact h.1 i j h1 h3 (by rw [← h2, ← h4, hpq])
  · obtain ⟨h1, h2⟩ := at' hq
    rw [h2]
    exact h.2 k h1
def tysOf (cs : Nat → ClassId) : List (ClassId × FieldType) := [(cs 0, .int), (cs 1, .char), (cs 2, .long), (cs 3, .double), (cs 4, .object RX1)]
/-! the strings: messages; the shapes of orders (places 200 .., their bytes 210 ..) -/
def strM : List (String × Nat × String) := [(RX4, 66, "a size is from 1 to 9"), (RX4, 370, "refused"), (RX4, 360, "there is no such country"), (RX4, 139, "what is from 0 to 6"), (RX4, 145, "from 1 to 5 hues can be used"), (RX4, 365, "there is no such hue"), (RX4, 159, "from 1 to 50 pots are brought"), (RX4, 173, "what is from 0 to 3"), (RX4, 195, "there is no such step"), (RX4, 204, "no country is stuck"), (RX4, 209, "all countries are painted"), (RX4, 214, "no hue is free for the country"), (RX4, 219, "a crown is from 0 to 9"), (RX4, 238, "the country has no wish"), (RX4, 246, "5 hues are not enough"), (RX4, 274, "the line has no such index"), (RX4, 282, "the input contains 60 characters"), (RX4, 294, "the text has an error, or an order has a number out of range"), (RX4, 298, "an order is refused"), (RX4, 301, "nothing was refused"), (RX4, 328, "what is from 0 to 12"), (RX4, 339, "no country is painted"), (RX4, 345, "there are no countries"), (RX4, 347, "no change can be undone"), (RX4, 355, "there is no snapshot")]
def strS : List (Nat × String) := [(53, "d=d"), (55, "d-d"), (57, ""), (59, "d=d*d"), (61, "n"), (63, "d+n")]
def strLen : List Nat := strS.map (fun q => q.2.length)
def strByt : List (List Int32) := strS.map (fun q => q.2.toList.map (fun c => Int32.ofNat c.toNat))
def exAll : List String := ["java/lang/ArithmeticException", "java/lang/IllegalArgumentException", "java/lang/IllegalStateException", "java/lang/IndexOutOfBoundsException", "java/lang/UnsupportedOperationException", "java/util/NoSuchElementException"]
/-- the exceptions that are not each other's -/
def ncP : List (String × String) := exAll.flatMap (fun a => (exAll.filter (fun b => b ≠ a)).map (fun b => (a, b)))
/-- what stands still: classes, words, strings, two statics -/
def ST (D : va_G) (cs : Nat → ClassId) (ad : Nat → Nat) (b0 : Nat) (U : State) (H : Heap) : Prop :=
  va_K D vwC (tysOf cs) U ∧ WB U ∧ (∀ q ∈ strM, ∃ sa, vk_R q.1 q.2.1 q.2.2 sa U) ∧ (∀ i q, strS[i]? = some q → vk_R RX2 q.1 q.2 (ad (200 + i)) U) ∧
  vk_S 6 strLen strByt (fun i => ad (200 + i)) (fun i => ad (210 + i)) (fun q => b0 ≤ q) U H ∧
  vx_Zq Bundle.tN "UNASSIGNED_STACK" Bundle.steD (fun q => b0 ≤ q) U H ∧ vx_Zq Bundle.tN "SUPPRESSED_SENTINEL" Bundle.listD (fun q => b0 ≤ q) U H ∧
  va_Z "java/lang/String" "COMPACT_STRINGS" "Z" (.int 1) (fun q => b0 ≤ q) U H ∧ va_Zq "jdk/internal/util/Preconditions" "SIOOBE_FORMATTER" "Ljava/util/function/BiFunction;" (fun q => b0 ≤ q) U H ∧ ∀ q ∈ ncP, va_Nc q.1 q.2 U
theorem ST.warm {D : va_G} {cs : Nat → ClassId} {ad : Nat → Nat} {b0 : Nat} {s U : State} {H : Heap} (hW : s.WarmedH U.vm) (h : ST D cs ad b0 s H) : ST D cs ad b0 U H := by
  obtain ⟨h1, h2, h3, h4, h5, h6, h7, h8, h9, h10⟩ := h
  refine ⟨va_K.moved hW.alike h1, WB.moved hW.alike h2, fun q hq => ?_, fun i q hq => vk_R.warm hW (h4 i q hq), vk_S.moved hW.alike h5, vx_Zq.moved hW.alike h6, vx_Zq.moved hW.alike h7, va_Z.moved hW.alike h8, va_Zq.moved hW.alike h9, fun q hq => va_Nc.moved hW.alike (h10 q hq)⟩
  obtain ⟨sa, hs⟩ := h3 q hq
  exact ⟨sa, vk_R.warm hW hs⟩
theorem ST.kept {D : va_G} {cs : Nat → ClassId} {ad : Nat → Nat} {b0 : Nat} {U : State} {H H1 : Heap} (h : ST D cs ad b0 U H) (hq : ∀ a : Nat, a < H.size → ¬ b0 ≤ a → H1[a]? = H[a]?) : ST D cs ad b0 U H1 :=
  ⟨h.1, h.2.1, h.2.2.1, h.2.2.2.1, h.2.2.2.2.1.kept hq, h.2.2.2.2.2.1.kept hq, h.2.2.2.2.2.2.1.kept hq, va_Z.kept h.2.2.2.2.2.2.2.1 hq, va_Zq.kept h.2.2.2.2.2.2.2.2.1 hq, h.2.2.2.2.2.2.2.2.2⟩
theorem ST.calling {D : va_G} {cs : Nat → ClassId} {ad : Nat → Nat} {b0 : Nat} {U : State} {H : Heap} (g : JFrame) (mk : MethodId) (a : Array Value) (h : ST D cs ad b0 U H) : ST D cs ad b0 (U.calling g mk a) H :=
  ST.warm (s := U) (U := U.calling g mk a) (State.WarmedH.refl U) h
/-! THE CONTRACT of a method over the abstract world -/
abbrev OutV : Type := (Option Value) ⊕ String
def P0 (D : va_G) (cs : Nat → ClassId) (ad : Nat → Nat) (b0 : Nat) (V : VT) (U : State) : Prop := b0 ≤ U.heap.size ∧ va_P D vwC (wsOf cs ad V) U.heap ∧ ST D cs ad b0 U U.heap
def QR (D : va_G) (cs : Nat → ClassId) (ad : Nat → Nat) (b0 : Nat) (V : VT) (r : OutV) : Array Value → State → Outcome → State → Prop := fun _ st oc t => (∃ v, r = .inl v ∧ oc = .returned v ∧ va_P D vwC (wsOf cs ad V) t.heap) ∧ va_F (fun q => b0 ≤ q) st t
def XR (D : va_G) (cs : Nat → ClassId) (ad : Nat → Nat) (b0 : Nat) (V : VT) (r : OutV) : String → State → State → Prop := fun E st t => r = .inr E ∧ va_P D vwC (wsOf cs ad V) t.heap ∧ va_F (fun q => b0 ≤ q) st t
abbrev rmOf (d k : Nat) : Room := { frames := d, cells := k, slots := 6 * k, locals := 64 * d }
def AM (d k : Nat) (y : MethodName) (hd : Cond) (As : (Nat → Nat) → List Value) (V V' : VT) (r : (Nat → Nat) → OutV) : Prop :=
  ∀ (l : Launch), l.stackTraces = false → ∀ (D : va_G) (cs : Nat → ClassId) (ad : Nat → Nat) (b0 : Nat), AdOk ad b0 →
    vx_Met l y (hd :: UW) (rmOf d k) (va_Pc (As ad) (P0 D cs ad b0 V)) (QR D cs ad b0 V' (r ad)) (XR D cs ad b0 V' (r ad)) k (6 * k) (fun q => b0 ≤ q)
def Ctx (p : Program) (l : Launch) (s : State) (m : MethodId) (args : Array Value) (meth : Method) (c : Code) (D : va_G) (cs : Nat → ClassId) (ad : Nat → Nat) (b0 : Nat) (own : String) (cc : ByteArray) (nL : Nat) (ret : Option FieldType) : Prop :=
  p.tables.exec = Jvm.exec ∧ c.code = cc ∧ c.maxLocals = nL ∧ s.vm.findClass own = some m.cls ∧ (∀ w ∈ UW, w.before args s = true) ∧ l.stackTraces = false ∧ meth.locks = false ∧ meth.sig.returnType = ret ∧ AdOk ad b0 ∧ b0 ≤ s.heap.size ∧ ST D cs ad b0 s s.heap
def AW (p : Program) (l : Launch) (e : Env) (R : Room) (s : State) (m : MethodId) (args : Array Value) (below : List Frame) (meth : Method) (c : Code) (D : va_G) (cs : Nat → ClassId) (ad : Nat → Nat) (b0 : Nat) (Q : State → Prop) (nL k : Nat) (V : VT) (lv : List (Nat × Value)) (st : List Value) (pc : Nat) : Prop :=
  ∀ (H : Heap) (locs : List Loc) (ls : Array Slot), va_P D vwC (wsOf cs ad V) H → va_S (fun q => b0 ≤ q) s.heap H locs → lv_has ls nL lv → W p l e R s m args below meth c H locs k (6 * k) Q (F0 m pc ls st)
/-- a thrown E over the frame at pc -/
def AX (p : Program) (l : Launch) (e : Env) (R : Room) (s : State) (m : MethodId) (args : Array Value) (below : List Frame) (meth : Method) (c : Code) (D : va_G) (cs : Nat → ClassId) (ad : Nat → Nat) (b0 : Nat) (Q : State → Prop) (nL k : Nat) (V : VT) (lv : List (Nat × Value)) (E : String) (pc : Nat) : Prop :=
  ∀ (H : Heap) (locs : List Loc) (ls : Array Slot) (st : List Value) (ce : Cell) (q : Addr), va_P D vwC (wsOf cs ad V) H → va_S (fun q => b0 ≤ q) s.heap H locs → lv_has ls nL lv → H[q]? = some ce → ce.vm = .none → s.vm.findClass E = some ce.cls → vx_W p l e R s m args below meth c H locs k (6 * k) Q (F0 m pc ls st) q
