/-! the words that each instruction links -/
theorem uws_X0 : ∀ w ∈ u_ws RX0 TX0 2, w ∈ UW := uw_all (by decide +kernel)
theorem uws_X1 : ∀ w ∈ u_ws RX1 TX1 12, w ∈ UW := uw_all (by decide +kernel)
theorem uws_X2 : ∀ w ∈ u_ws RX2 TX2 6, w ∈ UW := uw_all (by decide +kernel)
theorem uws_X3 : ∀ w ∈ u_ws RX3 TX3 3, w ∈ UW := uw_all (by decide +kernel)
theorem uws_X4 : ∀ w ∈ u_ws RX4 TX4 12, w ∈ UW := uw_all (by decide +kernel)
theorem uws_X5 : ∀ w ∈ u_ws RX5 TX5 19, w ∈ UW := uw_all (by decide +kernel)
theorem acN : Cond.native arraycopyName ∈ UW := uw_in 277 (by decide +kernel) rfl
theorem acS : Cond.static arraycopyName ∈ UW := uw_in 276 (by decide +kernel) rfl
theorem acI : Cond.initialized "java/lang/System" ∈ UW := uw_in 77 (by decide +kernel) rfl
/-! the lands, rows of ints -/
def isLand (a : Nat) : Bool := decide (a ∈ [1, 10, 19, 30, 39, 48, 57, 66, 75, 84, 93])
theorem isLand_or {a : Nat} (h : isLand a = true) : a = 1 ∨ a = 10 ∨ a = 19 ∨ a = 30 ∨ a = 39 ∨ a = 48 ∨ a = 57 ∨ a = 66 ∨ a = 75 ∨ a = 84 ∨ a = 93 := by
  have h1 := of_decide_eq_true h
  simpa using h1
theorem land0 {a : Nat} (h : isLand a = true) : shp[a]? = some (.inl (1, [some (a+1), some (a+2), some (a+3), some (a+4), some (a+5), some (a+6), some (a+7), some (a+8), none, none, none, none])) := by
  rcases isLand_or h with rfl | rfl | rfl | rfl | rfl | rfl | rfl | rfl | rfl | rfl | rfl <;> rfl
theorem land1 {a : Nat} (h : isLand a = true) : shp[a + 1]? = some (.inr (0, 7, [])) := by
  rcases isLand_or h with rfl | rfl | rfl | rfl | rfl | rfl | rfl | rfl | rfl | rfl | rfl <;> rfl
theorem land2 {a : Nat} (h : isLand a = true) : shp[a + 2]? = some (.inr (0, 7, [])) := by
  rcases isLand_or h with rfl | rfl | rfl | rfl | rfl | rfl | rfl | rfl | rfl | rfl | rfl <;> rfl
theorem land3 {a : Nat} (h : isLand a = true) : shp[a + 3]? = some (.inr (0, 7, [])) := by
  rcases isLand_or h with rfl | rfl | rfl | rfl | rfl | rfl | rfl | rfl | rfl | rfl | rfl <;> rfl
theorem land4 {a : Nat} (h : isLand a = true) : shp[a + 4]? = some (.inr (0, 7, [])) := by
  rcases isLand_or h with rfl | rfl | rfl | rfl | rfl | rfl | rfl | rfl | rfl | rfl | rfl <;> rfl
theorem land5 {a : Nat} (h : isLand a = true) : shp[a + 5]? = some (.inr (0, 7, [])) := by
  rcases isLand_or h with rfl | rfl | rfl | rfl | rfl | rfl | rfl | rfl | rfl | rfl | rfl <;> rfl
theorem land6 {a : Nat} (h : isLand a = true) : shp[a + 6]? = some (.inr (0, 7, [])) := by
  rcases isLand_or h with rfl | rfl | rfl | rfl | rfl | rfl | rfl | rfl | rfl | rfl | rfl <;> rfl
theorem land7 {a : Nat} (h : isLand a = true) : shp[a + 7]? = some (.inr (0, 5, [])) := by
  rcases isLand_or h with rfl | rfl | rfl | rfl | rfl | rfl | rfl | rfl | rfl | rfl | rfl <;> rfl
theorem land8 {a : Nat} (h : isLand a = true) : shp[a + 8]? = some (.inr (0, 5, [])) := by
  rcases isLand_or h with rfl | rfl | rfl | rfl | rfl | rfl | rfl | rfl | rfl | rfl | rfl <;> rfl
def alen (a : Nat) : Nat := match shp[a]? with
  | some (.inr (_, n, _)) => n
  | _ => 0
def isIA (a : Nat) : Bool := match shp[a]? with
  | some (.inr (0, _, [])) => true
  | _ => false
theorem isIA_sh {a : Nat} (h : isIA a = true) : shp[a]? = some (.inr (0, alen a, [])) := by
  unfold isIA at h
  unfold alen
  split at h
  · next n hs => rw [hs]
  · cases h
def isStr (i : Nat) : Bool := decide (i < 6)
/-! words of the decompiled methods -/
def asr {α : Type} (b : Bool) (x : Option α) : Option α := if b = true then x else none
theorem asr_spec {α : Type} {b : Bool} {x : Option α} {o : α} (h : asr b x = some o) : b = true ∧ x = some o := by
  unfold asr at h
  split at h
  · next hb => exact ⟨hb, h⟩
  · cases h
theorem asr_t {α : Type} {b : Bool} {x : Option α} (h : b = true) : asr b x = x := if_pos h
def inb (i : Int32) (n : Nat) : Bool := decide (0 ≤ i) && decide (i.toNatClampNeg < n)
theorem inb_in {i : Int32} {n : Nat} (h : inb i n = true) : vp_in i n := by
  unfold inb at h
  simp only [Bool.and_eq_true, decide_eq_true_eq] at h
  rintro (q | q)
  · exact absurd h.1 (Int32.not_le.mpr q)
  · omega
theorem in_lit {i : Int32} {n : Nat} (h : inb i n = true) : vp_in i n := inb_in h
theorem inb_nI {k n : Nat} (h : k < n) (hn : n < 2 ^ 31) : inb (nI k) n = true := by
  unfold inb
  rw [nI_clamp (by omega), decide_eq_true h, decide_eq_true (nI_pos' (by omega))]
  rfl
theorem inb_of {i : Int32} {n : Nat} (h : inb i n = true) (hn : n < 2 ^ 31) : ∃ k, k < n ∧ i = nI k := vp_in_of (inb_in h) hn
def nz (x : Int32) : Bool := decide (¬ x = 0)
theorem nz_ne {x : Int32} (h : nz x = true) : ¬ x = 0 := of_decide_eq_true h
def zok (x : Int32) : Bool := decide (x = 0) || decide (x = 1)
theorem zok_n {x : Int32} (h : zok x = true) : narrow .boolean (.int x) = .int x := by
  unfold zok at h
  simp only [Bool.or_eq_true, decide_eq_true_eq] at h
  rcases h with rfl | rfl <;> rfl
def cok (x : Int32) : Bool := inb x 65536
theorem cok_n {x : Int32} (h : cok x = true) : narrow .char (.int x) = .int x := by
  obtain ⟨k, hk, rfl⟩ := inb_of h (by decide)
  exact (pk_charN hk).1
def n64ok (x : UInt64) : Bool := decide (x &&& 0x7fffffffffffffff ≤ 0x7ff0000000000000)
theorem n64ok_of {x : UInt64} (h : n64ok x = true) : vf_n64 x := (of_decide_eq_true h : x &&& 0x7fffffffffffffff ≤ 0x7ff0000000000000)
def n32ok (x : UInt32) : Bool := decide (x &&& 0x7fffffff ≤ 0x7f800000)
theorem n32ok_of {x : UInt32} (h : n32ok x = true) : vf_n32 x := (of_decide_eq_true h : x &&& 0x7fffffff ≤ 0x7f800000)
theorem it_t {α : Type} {c : Prop} {d : Decidable c} {a b o : α} (hc : c) (h : @ite α c d a b = o) : a = o := by
  rw [if_pos hc] at h
  exact h
theorem it_f {α : Type} {c : Prop} {d : Decidable c} {a b o : α} (hc : ¬ c) (h : @ite α c d a b = o) : b = o := by
  rw [if_neg hc] at h
  exact h
def bd {α β : Type} (o : Option α) (f : α → Option β) : Option β := match o with
  | none => none
  | some a => f a
theorem bd_spec {α β : Type} {o : Option α} {f : α → Option β} {b : β} (h : bd o f = some b) : ∃ a, o = some a ∧ f a = some b := by
  cases o with
  | none => cases h
  | some a => exact ⟨a, rfl, h⟩
def bw {α β : Type} (o : Option (α × VT)) (f : α → VT → Option β) : Option β := match o with
  | none => none
  | some (a, V) => f a V
theorem bw_spec {α β : Type} {o : Option (α × VT)} {f : α → VT → Option β} {b : β} (h : bw o f = some b) : ∃ a V, o = some (a, V) ∧ f a V = some b := by
  cases o with
  | none => cases h
  | some q => exact ⟨q.1, q.2, rfl, h⟩
def bx {α β : Type} (o : Option ((α ⊕ String) × VT)) (f : α → VT → Option ((β ⊕ String) × VT)) : Option ((β ⊕ String) × VT) := match o with
  | none => none
  | some (.inl a, V) => f a V
  | some (.inr E, V) => some (.inr E, V)
theorem bx_spec {α β : Type} {o : Option ((α ⊕ String) × VT)} {f : α → VT → Option ((β ⊕ String) × VT)} {b : (β ⊕ String) × VT} (h : bx o f = some b) : ∃ o1 V, o = some (o1, V) ∧ (∀ x, o1 = .inl x → f x V = some b) ∧ (∀ E, o1 = .inr E → b = (.inr E, V)) := by
  cases o with
  | none => cases h
  | some q =>
    obtain ⟨q1, V⟩ := q
    cases q1 with
    | inl a => exact ⟨_, V, rfl, fun x hx => by cases hx; exact h, fun E hE => by cases hE⟩
    | inr E => exact ⟨_, V, rfl, fun x hx => (by cases hx), fun E' hE => by cases hE; exact (Option.some.inj h).symm⟩
def bh {α β : Type} (o : Option ((α ⊕ String) × VT)) (f : α → VT → Option β) (g : String → VT → Option β) : Option β := match o with
  | none => none
  | some (.inl a, V) => f a V
  | some (.inr E, V) => g E V
theorem bh_spec {α β : Type} {o : Option ((α ⊕ String) × VT)} {f : α → VT → Option β} {g : String → VT → Option β} {b : β} (h : bh o f g = some b) : ∃ o1 V, o = some (o1, V) ∧ (∀ x, o1 = .inl x → f x V = some b) ∧ (∀ E, o1 = .inr E → g E V = some b) := by
  cases o with
  | none => cases h
  | some q =>
    obtain ⟨q1, V⟩ := q
    cases q1 with
    | inl a => exact ⟨_, V, rfl, fun x hx => by cases hx; exact h, fun E hE => by cases hE⟩
    | inr E => exact ⟨_, V, rfl, fun x hx => (by cases hx), fun E' hE => by cases hE; exact h⟩
def mo {β : Type} (o : Option Nat) (a : Option β) (f : Nat → Option β) : Option β := match o with
  | none => a
  | some i => f i
theorem mo_n {β : Type} {a : Option β} {f : Nat → Option β} {o : Option β} (h : mo none a f = o) : a = o := h
theorem mo_s {β : Type} {a : Option β} {f : Nat → Option β} {o : Option β} {i : Nat} (h : mo (some i) a f = o) : f i = o := h
theorem ret1 {α : Type} {a b : α} (h : some a = some b) : b = a := (Option.some.inj h).symm
theorem ret2 {α β : Type} {a c : α} {b d : β} (h : some (a, b) = some (c, d)) : c = a ∧ d = b := by
  cases h
  exact ⟨rfl, rfl⟩
def FU : Nat := 1000
def strCh (i k : Nat) : Int32 := (strByt.getD i []).getD k 0 &&& 255
theorem kept_at {i : Int32} (h : vp_in i 8) : ([30, 39, 48, 57, 66, 75, 84, 93] : List Nat)[i.toNatClampNeg]? = some (30 + 9 * i.toNatClampNeg) := by
  have hlt : i.toNatClampNeg < 8 := Nat.not_le.mp fun q => h (Or.inr q)
  generalize i.toNatClampNeg = n at hlt
  rcases (show n = 0 ∨ n = 1 ∨ n = 2 ∨ n = 3 ∨ n = 4 ∨ n = 5 ∨ n = 6 ∨ n = 7 by omega) with rfl | rfl | rfl | rfl | rfl | rfl | rfl | rfl <;> rfl
theorem kept_land {i : Int32} (h : vp_in i 8) : isLand (30 + 9 * i.toNatClampNeg) = true := by
  have hlt : i.toNatClampNeg < 8 := Nat.not_le.mp fun q => h (Or.inr q)
  generalize i.toNatClampNeg = n at hlt
  rcases (show n = 0 ∨ n = 1 ∨ n = 2 ∨ n = 3 ∨ n = 4 ∨ n = 5 ∨ n = 6 ∨ n = 7 by omega) with rfl | rfl | rfl | rfl | rfl | rfl | rfl | rfl <;> rfl
theorem fl_RX1_36 : FL RX1 36 1 8 := ⟨RX1, TX1, 12, rfl, by decide, uws_X1, uw_in 120 (by decide +kernel) rfl⟩
theorem fl_RX1_24 : FL RX1 24 1 4 := ⟨RX1, TX1, 12, rfl, by decide, uws_X1, uw_in 112 (by decide +kernel) rfl⟩
theorem cv_RX1_55 : CV RX1 55 yX1_areNeighbours cX1_areNeighbours 3 (some .boolean) 2 := ⟨uw_in 391 (by decide +kernel) rfl, uw_in 365 (by decide +kernel) rfl, uw_in 366 (by decide +kernel) rfl, uw_in 66 (by decide +kernel) rfl, uw_in 367 (by decide +kernel) rfl, ⟨by decide +kernel, by decide +kernel, by decide +kernel⟩⟩
theorem fl_RX1_15 : FL RX1 15 1 1 := ⟨RX1, TX1, 12, rfl, by decide, uws_X1, uw_in 104 (by decide +kernel) rfl⟩
theorem cv_RX1_67 : CV RX1 67 yX1_lowestNeighbourIn cX1_lowestNeighbourIn 4 (some .int) 2 := ⟨uw_in 503 (by decide +kernel) rfl, uw_in 505 (by decide +kernel) rfl, uw_in 9 (by decide +kernel) rfl, uw_in 66 (by decide +kernel) rfl, uw_in 506 (by decide +kernel) rfl, ⟨by decide +kernel, by decide +kernel, by decide +kernel⟩⟩
theorem fl_RX1_9 : FL RX1 9 1 0 := ⟨RX1, TX1, 12, rfl, by decide, uws_X1, uw_in 102 (by decide +kernel) rfl⟩
theorem fl_RX1_30 : FL RX1 30 1 6 := ⟨RX1, TX1, 12, rfl, by decide, uws_X1, uw_in 116 (by decide +kernel) rfl⟩
theorem cv_RX1_63 : CV RX1 63 yX1_lowestPaintedBeyond cX1_lowestPaintedBeyond 3 (some .int) 1 := ⟨uw_in 507 (by decide +kernel) rfl, uw_in 509 (by decide +kernel) rfl, uw_in 10 (by decide +kernel) rfl, uw_in 66 (by decide +kernel) rfl, uw_in 510 (by decide +kernel) rfl, ⟨by decide +kernel, by decide +kernel, by decide +kernel⟩⟩
theorem fp_RX4_58 : FP RX4 58 4 10 .int := ⟨RX4, TX4, 12, tyX4, rfl, by decide, uws_X4, uw_in 229 (by decide +kernel) rfl, tyX4_ok, nmX4, rfl, by decide +kernel⟩
theorem fl_RX4_10 : FL RX4 10 4 0 := ⟨RX4, TX4, 12, rfl, by decide, uws_X4, uw_in 219 (by decide +kernel) rfl⟩
theorem cv_RX4_372 : CV RX4 372 yX1_detailOf cX1_detailOf 4 (some .int) 3 := ⟨uw_in 499 (by decide +kernel) rfl, uw_in 500 (by decide +kernel) rfl, uw_in 501 (by decide +kernel) rfl, uw_in 66 (by decide +kernel) rfl, uw_in 502 (by decide +kernel) rfl, ⟨by decide +kernel, by decide +kernel, by decide +kernel⟩⟩
theorem fp_RX4_61 : FP RX4 61 4 11 .int := ⟨RX4, TX4, 12, tyX4, rfl, by decide, uws_X4, uw_in 230 (by decide +kernel) rfl, tyX4_ok, nmX4, rfl, by decide +kernel⟩
theorem cv_RX4_367 : CV RX4 367 yX4_keepReason cX4_keepReason 4 (none) 3 := ⟨uw_in 495 (by decide +kernel) rfl, uw_in 497 (by decide +kernel) rfl, uw_in 8 (by decide +kernel) rfl, uw_in 65 (by decide +kernel) rfl, uw_in 498 (by decide +kernel) rfl, ⟨by decide +kernel, by decide +kernel, by decide +kernel⟩⟩
theorem th_RX4_296_300 : TH RX4 "java/lang/UnsupportedOperationException" 296 300 := TH.of (by decide +kernel) (uw_in 511 (by decide +kernel) rfl) (uw_in 75 (by decide +kernel) rfl) (by decide +kernel)
theorem fl_RX3_17 : FL RX3 17 3 1 := ⟨RX3, TX3, 3, rfl, by decide, uws_X3, uw_in 166 (by decide +kernel) rfl⟩
theorem cv_RX3_33 : CSt RX3 33 yJ9_floorMod_7cf53 cJ9_floorMod_7cf53 3 (some .int) 2 := ⟨uw_in 268 (by decide +kernel) rfl, uw_in 269 (by decide +kernel) rfl, uw_in 76 (by decide +kernel) rfl, uw_in 270 (by decide +kernel) rfl, ⟨by decide +kernel, by decide +kernel, by decide +kernel⟩⟩
theorem ac_RX1_49 : Cond.methodLink RX1 49 arraycopyName ∈ UW := uw_in 275 (by decide +kernel) rfl
theorem fl_RX1_18 : FL RX1 18 1 2 := ⟨RX1, TX1, 12, rfl, by decide, uws_X1, uw_in 107 (by decide +kernel) rfl⟩
theorem fl_RX1_21 : FL RX1 21 1 3 := ⟨RX1, TX1, 12, rfl, by decide, uws_X1, uw_in 110 (by decide +kernel) rfl⟩
theorem fl_RX1_27 : FL RX1 27 1 5 := ⟨RX1, TX1, 12, rfl, by decide, uws_X1, uw_in 114 (by decide +kernel) rfl⟩
theorem fl_RX1_33 : FL RX1 33 1 7 := ⟨RX1, TX1, 12, rfl, by decide, uws_X1, uw_in 118 (by decide +kernel) rfl⟩
theorem fp_RX1_36 : FP RX1 36 1 8 .int := ⟨RX1, TX1, 12, tyX1, rfl, by decide, uws_X1, uw_in 120 (by decide +kernel) rfl, tyX1_ok, nmX1, rfl, by decide +kernel⟩
theorem fl_RX1_40 : FL RX1 40 1 9 := ⟨RX1, TX1, 12, rfl, by decide, uws_X1, uw_in 123 (by decide +kernel) rfl⟩
theorem fp_RX1_40 : FP RX1 40 1 9 .int := ⟨RX1, TX1, 12, tyX1, rfl, by decide, uws_X1, uw_in 123 (by decide +kernel) rfl, tyX1_ok, nmX1, rfl, by decide +kernel⟩
theorem fl_RX1_43 : FL RX1 43 1 10 := ⟨RX1, TX1, 12, rfl, by decide, uws_X1, uw_in 126 (by decide +kernel) rfl⟩
theorem fp_RX1_43 : FP RX1 43 1 10 .int := ⟨RX1, TX1, 12, tyX1, rfl, by decide, uws_X1, uw_in 126 (by decide +kernel) rfl, tyX1_ok, nmX1, rfl, by decide +kernel⟩
theorem fl_RX1_46 : FL RX1 46 1 11 := ⟨RX1, TX1, 12, rfl, by decide, uws_X1, uw_in 128 (by decide +kernel) rfl⟩
theorem fp_RX1_46 : FP RX1 46 1 11 .int := ⟨RX1, TX1, 12, tyX1, rfl, by decide, uws_X1, uw_in 128 (by decide +kernel) rfl, tyX1_ok, nmX1, rfl, by decide +kernel⟩
theorem fl_RX3_11 : FL RX3 11 3 0 := ⟨RX3, TX3, 3, rfl, by decide, uws_X3, uw_in 165 (by decide +kernel) rfl⟩
theorem fl_RX3_21 : FL RX3 21 3 2 := ⟨RX3, TX3, 3, rfl, by decide, uws_X3, uw_in 167 (by decide +kernel) rfl⟩
theorem cv_RX3_25 : CV RX3 25 yX3_placeAfter cX3_placeAfter 2 (some .int) 1 := ⟨uw_in 264 (by decide +kernel) rfl, uw_in 266 (by decide +kernel) rfl, uw_in 0 (by decide +kernel) rfl, uw_in 67 (by decide +kernel) rfl, uw_in 267 (by decide +kernel) rfl, ⟨by decide +kernel, by decide +kernel, by decide +kernel⟩⟩
theorem cv_RX3_29 : CV RX3 29 yX1_copyFrom cX1_copyFrom 2 (none) 1 := ⟨uw_in 271 (by decide +kernel) rfl, uw_in 272 (by decide +kernel) rfl, uw_in 273 (by decide +kernel) rfl, uw_in 66 (by decide +kernel) rfl, uw_in 274 (by decide +kernel) rfl, ⟨by decide +kernel, by decide +kernel, by decide +kernel⟩⟩
theorem fp_RX3_17 : FP RX3 17 3 1 .int := ⟨RX3, TX3, 3, tyX3, rfl, by decide, uws_X3, uw_in 166 (by decide +kernel) rfl, tyX3_ok, nmX3, rfl, by decide +kernel⟩
theorem fp_RX3_21 : FP RX3 21 3 2 .int := ⟨RX3, TX3, 3, tyX3, rfl, by decide, uws_X3, uw_in 167 (by decide +kernel) rfl, tyX3_ok, nmX3, rfl, by decide +kernel⟩
theorem cv_RX4_71 : CV RX4 71 yX1_reasonAgainstCountry cX1_reasonAgainstCountry 1 (some .int) 0 := ⟨uw_in 487 (by decide +kernel) rfl, uw_in 488 (by decide +kernel) rfl, uw_in 489 (by decide +kernel) rfl, uw_in 66 (by decide +kernel) rfl, uw_in 490 (by decide +kernel) rfl, ⟨by decide +kernel, by decide +kernel, by decide +kernel⟩⟩
theorem cv_RX4_75 : CV RX4 75 yX4_stopIfRefused cX4_stopIfRefused 4 (none) 3 := ⟨uw_in 491 (by decide +kernel) rfl, uw_in 493 (by decide +kernel) rfl, uw_in 7 (by decide +kernel) rfl, uw_in 65 (by decide +kernel) rfl, uw_in 494 (by decide +kernel) rfl, ⟨by decide +kernel, by decide +kernel, by decide +kernel⟩⟩
theorem fl_RX4_25 : FL RX4 25 4 3 := ⟨RX4, TX4, 12, rfl, by decide, uws_X4, uw_in 222 (by decide +kernel) rfl⟩
theorem cv_RX4_79 : CV RX4 79 yX3_keep cX3_keep 2 (none) 1 := ⟨uw_in 260 (by decide +kernel) rfl, uw_in 261 (by decide +kernel) rfl, uw_in 262 (by decide +kernel) rfl, uw_in 67 (by decide +kernel) rfl, uw_in 263 (by decide +kernel) rfl, ⟨by decide +kernel, by decide +kernel, by decide +kernel⟩⟩
theorem cv_RX4_83 : CV RX4 83 yX1_addCountry cX1_addCountry 3 (some .int) 1 := ⟨uw_in 527 (by decide +kernel) rfl, uw_in 528 (by decide +kernel) rfl, uw_in 529 (by decide +kernel) rfl, uw_in 66 (by decide +kernel) rfl, uw_in 530 (by decide +kernel) rfl, ⟨by decide +kernel, by decide +kernel, by decide +kernel⟩⟩
theorem th_RX4_64_68 : TH RX4 "java/lang/IllegalArgumentException" 64 68 := TH.of (by decide +kernel) (uw_in 415 (by decide +kernel) rfl) (uw_in 74 (by decide +kernel) rfl) (by decide +kernel)
theorem cv_RX4_357 : CV RX4 357 yX1_isCountry cX1_isCountry 2 (some .boolean) 1 := ⟨uw_in 566 (by decide +kernel) rfl, uw_in 567 (by decide +kernel) rfl, uw_in 568 (by decide +kernel) rfl, uw_in 66 (by decide +kernel) rfl, uw_in 569 (by decide +kernel) rfl, ⟨by decide +kernel, by decide +kernel, by decide +kernel⟩⟩
theorem th_RX4_272_276 : TH RX4 "java/lang/IndexOutOfBoundsException" 272 276 := TH.of (by decide +kernel) (uw_in 570 (by decide +kernel) rfl) (uw_in 78 (by decide +kernel) rfl) (by decide +kernel)
theorem cv_RX1_59 : CV RX1 59 yX1_isPainted cX1_isPainted 2 (some .boolean) 1 := ⟨uw_in 319 (by decide +kernel) rfl, uw_in 320 (by decide +kernel) rfl, uw_in 321 (by decide +kernel) rfl, uw_in 66 (by decide +kernel) rfl, uw_in 322 (by decide +kernel) rfl, ⟨by decide +kernel, by decide +kernel, by decide +kernel⟩⟩
theorem ck_RJ6_265 : Cond.constant RJ6 265 (1431655765 : Int32) ∈ UW := uw_in 297 (by decide +kernel) rfl
theorem ck_RJ6_266 : Cond.constant RJ6 266 (858993459 : Int32) ∈ UW := uw_in 298 (by decide +kernel) rfl
theorem ck_RJ6_267 : Cond.constant RJ6 267 (252645135 : Int32) ∈ UW := uw_in 299 (by decide +kernel) rfl
theorem cv_RX1_96 : CSt RX1 96 yJ6_bitCount_0f7a4 cJ6_bitCount_0f7a4 1 (some .int) 1 := ⟨uw_in 294 (by decide +kernel) rfl, uw_in 295 (by decide +kernel) rfl, uw_in 81 (by decide +kernel) rfl, uw_in 296 (by decide +kernel) rfl, ⟨by decide +kernel, by decide +kernel, by decide +kernel⟩⟩
theorem cv_RX1_113 : CV RX1 113 yX1_countNeighbours cX1_countNeighbours 2 (some .int) 1 := ⟨uw_in 595 (by decide +kernel) rfl, uw_in 596 (by decide +kernel) rfl, uw_in 597 (by decide +kernel) rfl, uw_in 66 (by decide +kernel) rfl, uw_in 598 (by decide +kernel) rfl, ⟨by decide +kernel, by decide +kernel, by decide +kernel⟩⟩
theorem cv_RX4_87 : CV RX4 87 yX4_stopIfNoCountry cX4_stopIfNoCountry 2 (none) 1 := ⟨uw_in 562 (by decide +kernel) rfl, uw_in 564 (by decide +kernel) rfl, uw_in 11 (by decide +kernel) rfl, uw_in 65 (by decide +kernel) rfl, uw_in 565 (by decide +kernel) rfl, ⟨by decide +kernel, by decide +kernel, by decide +kernel⟩⟩
theorem cv_RX4_91 : CV RX4 91 yX1_reasonAgainstBorder cX1_reasonAgainstBorder 3 (some .int) 2 := ⟨uw_in 583 (by decide +kernel) rfl, uw_in 584 (by decide +kernel) rfl, uw_in 585 (by decide +kernel) rfl, uw_in 66 (by decide +kernel) rfl, uw_in 586 (by decide +kernel) rfl, ⟨by decide +kernel, by decide +kernel, by decide +kernel⟩⟩
theorem cv_RX4_95 : CV RX4 95 yX1_join cX1_join 3 (none) 2 := ⟨uw_in 587 (by decide +kernel) rfl, uw_in 588 (by decide +kernel) rfl, uw_in 589 (by decide +kernel) rfl, uw_in 66 (by decide +kernel) rfl, uw_in 590 (by decide +kernel) rfl, ⟨by decide +kernel, by decide +kernel, by decide +kernel⟩⟩
theorem cv_RX4_99 : CV RX4 99 yX1_countBorders cX1_countBorders 3 (some .int) 0 := ⟨uw_in 591 (by decide +kernel) rfl, uw_in 592 (by decide +kernel) rfl, uw_in 593 (by decide +kernel) rfl, uw_in 66 (by decide +kernel) rfl, uw_in 594 (by decide +kernel) rfl, ⟨by decide +kernel, by decide +kernel, by decide +kernel⟩⟩
theorem cv_RX4_102 : CV RX4 102 yX1_reasonAgainstErasing cX1_reasonAgainstErasing 3 (some .int) 2 := ⟨uw_in 606 (by decide +kernel) rfl, uw_in 607 (by decide +kernel) rfl, uw_in 608 (by decide +kernel) rfl, uw_in 66 (by decide +kernel) rfl, uw_in 609 (by decide +kernel) rfl, ⟨by decide +kernel, by decide +kernel, by decide +kernel⟩⟩
theorem cv_RX4_105 : CV RX4 105 yX1_part cX1_part 3 (none) 2 := ⟨uw_in 610 (by decide +kernel) rfl, uw_in 611 (by decide +kernel) rfl, uw_in 612 (by decide +kernel) rfl, uw_in 66 (by decide +kernel) rfl, uw_in 613 (by decide +kernel) rfl, ⟨by decide +kernel, by decide +kernel, by decide +kernel⟩⟩
theorem cv_RX4_108 : CV RX4 108 yX1_areNeighbours cX1_areNeighbours 3 (some .boolean) 2 := ⟨uw_in 621 (by decide +kernel) rfl, uw_in 365 (by decide +kernel) rfl, uw_in 366 (by decide +kernel) rfl, uw_in 66 (by decide +kernel) rfl, uw_in 367 (by decide +kernel) rfl, ⟨by decide +kernel, by decide +kernel, by decide +kernel⟩⟩
theorem cv_RX1_93 : CV RX1 93 yX1_huesAround cX1_huesAround 4 (some .int) 1 := ⟨uw_in 290 (by decide +kernel) rfl, uw_in 292 (by decide +kernel) rfl, uw_in 2 (by decide +kernel) rfl, uw_in 66 (by decide +kernel) rfl, uw_in 293 (by decide +kernel) rfl, ⟨by decide +kernel, by decide +kernel, by decide +kernel⟩⟩
theorem fl_RX4_112 : FL RX4 112 1 0 := ⟨RX1, TX1, 12, rfl, by decide, uws_X1, uw_in 103 (by decide +kernel) rfl⟩
theorem fl_RX4_116 : FL RX4 116 1 1 := ⟨RX1, TX1, 12, rfl, by decide, uws_X1, uw_in 106 (by decide +kernel) rfl⟩
theorem cv_RX4_119 : CV RX4 119 yX1_countNeighbours cX1_countNeighbours 2 (some .int) 1 := ⟨uw_in 629 (by decide +kernel) rfl, uw_in 596 (by decide +kernel) rfl, uw_in 597 (by decide +kernel) rfl, uw_in 66 (by decide +kernel) rfl, uw_in 598 (by decide +kernel) rfl, ⟨by decide +kernel, by decide +kernel, by decide +kernel⟩⟩
theorem cv_RX4_122 : CV RX4 122 yX1_freeHues cX1_freeHues 5 (some .int) 1 := ⟨uw_in 630 (by decide +kernel) rfl, uw_in 287 (by decide +kernel) rfl, uw_in 288 (by decide +kernel) rfl, uw_in 66 (by decide +kernel) rfl, uw_in 289 (by decide +kernel) rfl, ⟨by decide +kernel, by decide +kernel, by decide +kernel⟩⟩
theorem cv_RX4_125 : CSt RX4 125 yJ6_bitCount_0f7a4 cJ6_bitCount_0f7a4 1 (some .int) 1 := ⟨uw_in 350 (by decide +kernel) rfl, uw_in 295 (by decide +kernel) rfl, uw_in 81 (by decide +kernel) rfl, uw_in 296 (by decide +kernel) rfl, ⟨by decide +kernel, by decide +kernel, by decide +kernel⟩⟩
theorem fl_RX4_130 : FL RX4 130 1 2 := ⟨RX1, TX1, 12, rfl, by decide, uws_X1, uw_in 109 (by decide +kernel) rfl⟩
theorem fl_RX4_133 : FL RX4 133 1 3 := ⟨RX1, TX1, 12, rfl, by decide, uws_X1, uw_in 111 (by decide +kernel) rfl⟩
theorem cv_RX4_136 : CV RX4 136 yX1_placeOf cX1_placeOf 3 (some .int) 1 := ⟨uw_in 631 (by decide +kernel) rfl, uw_in 632 (by decide +kernel) rfl, uw_in 633 (by decide +kernel) rfl, uw_in 66 (by decide +kernel) rfl, uw_in 634 (by decide +kernel) rfl, ⟨by decide +kernel, by decide +kernel, by decide +kernel⟩⟩
theorem cv_RX4_141 : CSt RX4 141 yX4_isManyHues cX4_isManyHues 1 (some .boolean) 1 := ⟨uw_in 643 (by decide +kernel) rfl, uw_in 644 (by decide +kernel) rfl, uw_in 65 (by decide +kernel) rfl, uw_in 645 (by decide +kernel) rfl, ⟨by decide +kernel, by decide +kernel, by decide +kernel⟩⟩
theorem cv_RX4_147 : CV RX4 147 yX1_reasonAgainstHues cX1_reasonAgainstHues 2 (some .int) 1 := ⟨uw_in 647 (by decide +kernel) rfl, uw_in 648 (by decide +kernel) rfl, uw_in 649 (by decide +kernel) rfl, uw_in 66 (by decide +kernel) rfl, uw_in 650 (by decide +kernel) rfl, ⟨by decide +kernel, by decide +kernel, by decide +kernel⟩⟩
theorem fl_RX4_150 : FL RX4 150 1 9 := ⟨RX1, TX1, 12, rfl, by decide, uws_X1, uw_in 125 (by decide +kernel) rfl⟩
theorem fp_RX4_150 : FP RX4 150 1 9 .int := ⟨RX1, TX1, 12, tyX1, rfl, by decide, uws_X1, uw_in 125 (by decide +kernel) rfl, tyX1_ok, nmX1, rfl, by decide +kernel⟩
theorem cv_RX4_362 : CSt RX4 362 yX4_isHue cX4_isHue 1 (some .boolean) 1 := ⟨uw_in 662 (by decide +kernel) rfl, uw_in 663 (by decide +kernel) rfl, uw_in 65 (by decide +kernel) rfl, uw_in 664 (by decide +kernel) rfl, ⟨by decide +kernel, by decide +kernel, by decide +kernel⟩⟩
theorem cv_RX1_71 : CSt RX1 71 yJ9_min_7cf53 cJ9_min_7cf53 2 (some .int) 2 := ⟨uw_in 674 (by decide +kernel) rfl, uw_in 675 (by decide +kernel) rfl, uw_in 76 (by decide +kernel) rfl, uw_in 676 (by decide +kernel) rfl, ⟨by decide +kernel, by decide +kernel, by decide +kernel⟩⟩
theorem cv_RX4_153 : CV RX4 153 yX4_stopIfNoHue cX4_stopIfNoHue 2 (none) 1 := ⟨uw_in 658 (by decide +kernel) rfl, uw_in 660 (by decide +kernel) rfl, uw_in 12 (by decide +kernel) rfl, uw_in 65 (by decide +kernel) rfl, uw_in 661 (by decide +kernel) rfl, ⟨by decide +kernel, by decide +kernel, by decide +kernel⟩⟩
theorem cv_RX4_156 : CSt RX4 156 yX4_isManyPots cX4_isManyPots 1 (some .boolean) 1 := ⟨uw_in 666 (by decide +kernel) rfl, uw_in 667 (by decide +kernel) rfl, uw_in 65 (by decide +kernel) rfl, uw_in 668 (by decide +kernel) rfl, ⟨by decide +kernel, by decide +kernel, by decide +kernel⟩⟩
theorem cv_RX4_161 : CV RX4 161 yX1_bring cX1_bring 3 (none) 2 := ⟨uw_in 670 (by decide +kernel) rfl, uw_in 671 (by decide +kernel) rfl, uw_in 672 (by decide +kernel) rfl, uw_in 66 (by decide +kernel) rfl, uw_in 673 (by decide +kernel) rfl, ⟨by decide +kernel, by decide +kernel, by decide +kernel⟩⟩
theorem fl_RX4_164 : FL RX4 164 1 6 := ⟨RX1, TX1, 12, rfl, by decide, uws_X1, uw_in 117 (by decide +kernel) rfl⟩
theorem cv_RX4_167 : CV RX4 167 yX1_countPaintedIn cX1_countPaintedIn 4 (some .int) 1 := ⟨uw_in 684 (by decide +kernel) rfl, uw_in 685 (by decide +kernel) rfl, uw_in 686 (by decide +kernel) rfl, uw_in 66 (by decide +kernel) rfl, uw_in 687 (by decide +kernel) rfl, ⟨by decide +kernel, by decide +kernel, by decide +kernel⟩⟩
theorem fl_RX4_170 : FL RX4 170 1 7 := ⟨RX1, TX1, 12, rfl, by decide, uws_X1, uw_in 119 (by decide +kernel) rfl⟩
theorem cv_RX4_175 : CV RX4 175 yX1_reasonAgainstPaint cX1_reasonAgainstPaint 3 (some .int) 2 := ⟨uw_in 696 (by decide +kernel) rfl, uw_in 697 (by decide +kernel) rfl, uw_in 698 (by decide +kernel) rfl, uw_in 66 (by decide +kernel) rfl, uw_in 699 (by decide +kernel) rfl, ⟨by decide +kernel, by decide +kernel, by decide +kernel⟩⟩
theorem cv_RX4_178 : CV RX4 178 yX1_cover cX1_cover 3 (none) 2 := ⟨uw_in 700 (by decide +kernel) rfl, uw_in 304 (by decide +kernel) rfl, uw_in 305 (by decide +kernel) rfl, uw_in 66 (by decide +kernel) rfl, uw_in 306 (by decide +kernel) rfl, ⟨by decide +kernel, by decide +kernel, by decide +kernel⟩⟩
theorem fl_RX4_181 : FL RX4 181 1 10 := ⟨RX1, TX1, 12, rfl, by decide, uws_X1, uw_in 127 (by decide +kernel) rfl⟩
theorem cv_RX1_76 : CV RX1 76 yX1_isCountry cX1_isCountry 2 (some .boolean) 1 := ⟨uw_in 723 (by decide +kernel) rfl, uw_in 567 (by decide +kernel) rfl, uw_in 568 (by decide +kernel) rfl, uw_in 66 (by decide +kernel) rfl, uw_in 569 (by decide +kernel) rfl, ⟨by decide +kernel, by decide +kernel, by decide +kernel⟩⟩
theorem cv_RX4_184 : CV RX4 184 yX1_reasonAgainstBack cX1_reasonAgainstBack 1 (some .int) 0 := ⟨uw_in 715 (by decide +kernel) rfl, uw_in 716 (by decide +kernel) rfl, uw_in 717 (by decide +kernel) rfl, uw_in 66 (by decide +kernel) rfl, uw_in 718 (by decide +kernel) rfl, ⟨by decide +kernel, by decide +kernel, by decide +kernel⟩⟩
theorem cv_RX4_187 : CV RX4 187 yX1_stepBack cX1_stepBack 2 (some .int) 0 := ⟨uw_in 719 (by decide +kernel) rfl, uw_in 720 (by decide +kernel) rfl, uw_in 721 (by decide +kernel) rfl, uw_in 66 (by decide +kernel) rfl, uw_in 722 (by decide +kernel) rfl, ⟨by decide +kernel, by decide +kernel, by decide +kernel⟩⟩
theorem cv_RX1_83 : CV RX1 83 yX1_freeHues cX1_freeHues 5 (some .int) 1 := ⟨uw_in 286 (by decide +kernel) rfl, uw_in 287 (by decide +kernel) rfl, uw_in 288 (by decide +kernel) rfl, uw_in 66 (by decide +kernel) rfl, uw_in 289 (by decide +kernel) rfl, ⟨by decide +kernel, by decide +kernel, by decide +kernel⟩⟩
theorem cv_RX1_79 : CV RX1 79 yX1_firstWithOneFreeHue cX1_firstWithOneFreeHue 2 (some .int) 0 := ⟨uw_in 282 (by decide +kernel) rfl, uw_in 284 (by decide +kernel) rfl, uw_in 1 (by decide +kernel) rfl, uw_in 66 (by decide +kernel) rfl, uw_in 285 (by decide +kernel) rfl, ⟨by decide +kernel, by decide +kernel, by decide +kernel⟩⟩
theorem cv_RX1_86 : CSt RX1 86 yX1_lowestOf cX1_lowestOf 2 (some .int) 1 := ⟨uw_in 300 (by decide +kernel) rfl, uw_in 301 (by decide +kernel) rfl, uw_in 66 (by decide +kernel) rfl, uw_in 302 (by decide +kernel) rfl, ⟨by decide +kernel, by decide +kernel, by decide +kernel⟩⟩
theorem cv_RX1_89 : CV RX1 89 yX1_cover cX1_cover 3 (none) 2 := ⟨uw_in 303 (by decide +kernel) rfl, uw_in 304 (by decide +kernel) rfl, uw_in 305 (by decide +kernel) rfl, uw_in 66 (by decide +kernel) rfl, uw_in 306 (by decide +kernel) rfl, ⟨by decide +kernel, by decide +kernel, by decide +kernel⟩⟩
theorem cv_RX4_190 : CV RX4 190 yX1_fillIn cX1_fillIn 3 (some .int) 0 := ⟨uw_in 278 (by decide +kernel) rfl, uw_in 279 (by decide +kernel) rfl, uw_in 280 (by decide +kernel) rfl, uw_in 66 (by decide +kernel) rfl, uw_in 281 (by decide +kernel) rfl, ⟨by decide +kernel, by decide +kernel, by decide +kernel⟩⟩
theorem fl_RX4_198 : FL RX4 198 1 5 := ⟨RX1, TX1, 12, rfl, by decide, uws_X1, uw_in 115 (by decide +kernel) rfl⟩
theorem tn_RX4_193_197 : TN RX4 193 197 := TN.of (by decide +kernel) (uw_in 732 (by decide +kernel) rfl) (uw_in 82 (by decide +kernel) rfl) (by decide +kernel)
theorem cv_RX1_101 : CV RX1 101 yX1_isStuck cX1_isStuck 2 (some .boolean) 1 := ⟨uw_in 759 (by decide +kernel) rfl, uw_in 760 (by decide +kernel) rfl, uw_in 761 (by decide +kernel) rfl, uw_in 66 (by decide +kernel) rfl, uw_in 762 (by decide +kernel) rfl, ⟨by decide +kernel, by decide +kernel, by decide +kernel⟩⟩
theorem cv_RX4_201 : CV RX4 201 yX1_firstStuck cX1_firstStuck 2 (some .int) 0 := ⟨uw_in 755 (by decide +kernel) rfl, uw_in 756 (by decide +kernel) rfl, uw_in 757 (by decide +kernel) rfl, uw_in 66 (by decide +kernel) rfl, uw_in 758 (by decide +kernel) rfl, ⟨by decide +kernel, by decide +kernel, by decide +kernel⟩⟩
theorem cv_RX1_107 : CV RX1 107 yX1_unpainted cX1_unpainted 3 (some .int) 0 := ⟨uw_in 400 (by decide +kernel) rfl, uw_in 336 (by decide +kernel) rfl, uw_in 337 (by decide +kernel) rfl, uw_in 66 (by decide +kernel) rfl, uw_in 338 (by decide +kernel) rfl, ⟨by decide +kernel, by decide +kernel, by decide +kernel⟩⟩
theorem cv_RX1_104 : CV RX1 104 yX1_isBetterToPaint cX1_isBetterToPaint 6 (some .boolean) 2 := ⟨uw_in 775 (by decide +kernel) rfl, uw_in 777 (by decide +kernel) rfl, uw_in 13 (by decide +kernel) rfl, uw_in 66 (by decide +kernel) rfl, uw_in 778 (by decide +kernel) rfl, ⟨by decide +kernel, by decide +kernel, by decide +kernel⟩⟩
theorem cv_RX4_206 : CV RX4 206 yX1_bestToPaint cX1_bestToPaint 3 (some .int) 0 := ⟨uw_in 771 (by decide +kernel) rfl, uw_in 772 (by decide +kernel) rfl, uw_in 773 (by decide +kernel) rfl, uw_in 66 (by decide +kernel) rfl, uw_in 774 (by decide +kernel) rfl, ⟨by decide +kernel, by decide +kernel, by decide +kernel⟩⟩
theorem cv_RX1_110 : CV RX1 110 yX1_countRobbed cX1_countRobbed 5 (some .int) 2 := ⟨uw_in 791 (by decide +kernel) rfl, uw_in 793 (by decide +kernel) rfl, uw_in 14 (by decide +kernel) rfl, uw_in 66 (by decide +kernel) rfl, uw_in 794 (by decide +kernel) rfl, ⟨by decide +kernel, by decide +kernel, by decide +kernel⟩⟩
theorem cv_RX4_211 : CV RX4 211 yX1_gentlestHue cX1_gentlestHue 7 (some .int) 1 := ⟨uw_in 787 (by decide +kernel) rfl, uw_in 788 (by decide +kernel) rfl, uw_in 789 (by decide +kernel) rfl, uw_in 66 (by decide +kernel) rfl, uw_in 790 (by decide +kernel) rfl, ⟨by decide +kernel, by decide +kernel, by decide +kernel⟩⟩
theorem cv_RX4_216 : CSt RX4 216 yX4_isCrown cX4_isCrown 1 (some .boolean) 1 := ⟨uw_in 803 (by decide +kernel) rfl, uw_in 804 (by decide +kernel) rfl, uw_in 65 (by decide +kernel) rfl, uw_in 805 (by decide +kernel) rfl, ⟨by decide +kernel, by decide +kernel, by decide +kernel⟩⟩
theorem cv_RX4_221 : CV RX4 221 yX1_setWish cX1_setWish 4 (none) 3 := ⟨uw_in 807 (by decide +kernel) rfl, uw_in 808 (by decide +kernel) rfl, uw_in 809 (by decide +kernel) rfl, uw_in 66 (by decide +kernel) rfl, uw_in 810 (by decide +kernel) rfl, ⟨by decide +kernel, by decide +kernel, by decide +kernel⟩⟩
theorem cv_RX1_116 : CV RX1 116 yX1_isFulfilled cX1_isFulfilled 2 (some .boolean) 1 := ⟨uw_in 315 (by decide +kernel) rfl, uw_in 316 (by decide +kernel) rfl, uw_in 317 (by decide +kernel) rfl, uw_in 66 (by decide +kernel) rfl, uw_in 318 (by decide +kernel) rfl, ⟨by decide +kernel, by decide +kernel, by decide +kernel⟩⟩
theorem cv_RX4_224 : CV RX4 224 yX1_sumFulfilledCrowns cX1_sumFulfilledCrowns 3 (some .int) 0 := ⟨uw_in 311 (by decide +kernel) rfl, uw_in 312 (by decide +kernel) rfl, uw_in 313 (by decide +kernel) rfl, uw_in 66 (by decide +kernel) rfl, uw_in 314 (by decide +kernel) rfl, ⟨by decide +kernel, by decide +kernel, by decide +kernel⟩⟩
theorem fl_RX0_9 : FL RX0 9 0 0 := ⟨RX0, TX0, 2, rfl, by decide, uws_X0, uw_in 182 (by decide +kernel) rfl⟩
theorem fl_RX0_53 : FL RX0 53 1 8 := ⟨RX1, TX1, 12, rfl, by decide, uws_X1, uw_in 121 (by decide +kernel) rfl⟩
theorem fl_RX0_64 : FL RX0 64 1 1 := ⟨RX1, TX1, 12, rfl, by decide, uws_X1, uw_in 105 (by decide +kernel) rfl⟩
theorem cv_RX0_67 : CSt RX0 67 yX0_countChoices cX0_countChoices 5 (some .int) 3 := ⟨uw_in 342 (by decide +kernel) rfl, uw_in 343 (by decide +kernel) rfl, uw_in 68 (by decide +kernel) rfl, uw_in 344 (by decide +kernel) rfl, ⟨by decide +kernel, by decide +kernel, by decide +kernel⟩⟩
theorem cv_RX0_31 : CSt RX0 31 yX0_countFrom cX0_countFrom 7 (some .int) 5 := ⟨uw_in 339 (by decide +kernel) rfl, uw_in 340 (by decide +kernel) rfl, uw_in 68 (by decide +kernel) rfl, uw_in 341 (by decide +kernel) rfl, ⟨by decide +kernel, by decide +kernel, by decide +kernel⟩⟩
theorem cv_RX0_18 : CV RX0 18 yX0_noteHolders cX0_noteHolders 4 (none) 1 := ⟨uw_in 331 (by decide +kernel) rfl, uw_in 333 (by decide +kernel) rfl, uw_in 3 (by decide +kernel) rfl, uw_in 68 (by decide +kernel) rfl, uw_in 334 (by decide +kernel) rfl, ⟨by decide +kernel, by decide +kernel, by decide +kernel⟩⟩
theorem cv_RX0_22 : CV RX0 22 yX1_unpainted cX1_unpainted 3 (some .int) 0 := ⟨uw_in 335 (by decide +kernel) rfl, uw_in 336 (by decide +kernel) rfl, uw_in 337 (by decide +kernel) rfl, uw_in 66 (by decide +kernel) rfl, uw_in 338 (by decide +kernel) rfl, ⟨by decide +kernel, by decide +kernel, by decide +kernel⟩⟩
theorem fl_RX0_28 : FL RX0 28 1 4 := ⟨RX1, TX1, 12, rfl, by decide, uws_X1, uw_in 113 (by decide +kernel) rfl⟩
theorem fl_RX4_32 : FL RX4 32 4 4 := ⟨RX4, TX4, 12, rfl, by decide, uws_X4, uw_in 223 (by decide +kernel) rfl⟩
theorem cv_RX4_227 : CV RX4 227 yX0_count cX0_count 3 (some .int) 2 := ⟨uw_in 327 (by decide +kernel) rfl, uw_in 328 (by decide +kernel) rfl, uw_in 329 (by decide +kernel) rfl, uw_in 68 (by decide +kernel) rfl, uw_in 330 (by decide +kernel) rfl, ⟨by decide +kernel, by decide +kernel, by decide +kernel⟩⟩
theorem cv_RX0_38 : CV RX0 38 yX1_isPainted cX1_isPainted 2 (some .boolean) 1 := ⟨uw_in 355 (by decide +kernel) rfl, uw_in 320 (by decide +kernel) rfl, uw_in 321 (by decide +kernel) rfl, uw_in 66 (by decide +kernel) rfl, uw_in 322 (by decide +kernel) rfl, ⟨by decide +kernel, by decide +kernel, by decide +kernel⟩⟩
theorem fl_RX0_45 : FL RX0 45 1 9 := ⟨RX1, TX1, 12, rfl, by decide, uws_X1, uw_in 124 (by decide +kernel) rfl⟩
theorem fl_RX0_15 : FL RX0 15 0 1 := ⟨RX0, TX0, 2, rfl, by decide, uws_X0, uw_in 183 (by decide +kernel) rfl⟩
theorem cv_RX0_71 : CV RX0 71 yX1_areNeighbours cX1_areNeighbours 3 (some .boolean) 2 := ⟨uw_in 364 (by decide +kernel) rfl, uw_in 365 (by decide +kernel) rfl, uw_in 366 (by decide +kernel) rfl, uw_in 66 (by decide +kernel) rfl, uw_in 367 (by decide +kernel) rfl, ⟨by decide +kernel, by decide +kernel, by decide +kernel⟩⟩
theorem cv_RX0_56 : CV RX0 56 yX0_spellOut cX0_spellOut 5 (none) 2 := ⟨uw_in 356 (by decide +kernel) rfl, uw_in 358 (by decide +kernel) rfl, uw_in 4 (by decide +kernel) rfl, uw_in 68 (by decide +kernel) rfl, uw_in 359 (by decide +kernel) rfl, ⟨by decide +kernel, by decide +kernel, by decide +kernel⟩⟩
theorem cv_RX0_60 : CV RX0 60 yX0_isWay cX0_isWay 4 (some .boolean) 1 := ⟨uw_in 360 (by decide +kernel) rfl, uw_in 362 (by decide +kernel) rfl, uw_in 5 (by decide +kernel) rfl, uw_in 68 (by decide +kernel) rfl, uw_in 363 (by decide +kernel) rfl, ⟨by decide +kernel, by decide +kernel, by decide +kernel⟩⟩
theorem cv_RX4_231 : CV RX4 231 yX1_unpainted cX1_unpainted 3 (some .int) 0 := ⟨uw_in 349 (by decide +kernel) rfl, uw_in 336 (by decide +kernel) rfl, uw_in 337 (by decide +kernel) rfl, uw_in 66 (by decide +kernel) rfl, uw_in 338 (by decide +kernel) rfl, ⟨by decide +kernel, by decide +kernel, by decide +kernel⟩⟩
theorem cv_RX4_234 : CV RX4 234 yX0_countByNumbers cX0_countByNumbers 5 (some .int) 1 := ⟨uw_in 351 (by decide +kernel) rfl, uw_in 352 (by decide +kernel) rfl, uw_in 353 (by decide +kernel) rfl, uw_in 68 (by decide +kernel) rfl, uw_in 354 (by decide +kernel) rfl, ⟨by decide +kernel, by decide +kernel, by decide +kernel⟩⟩
theorem fl_RX0_35 : FL RX0 35 1 2 := ⟨RX1, TX1, 12, rfl, by decide, uws_X1, uw_in 108 (by decide +kernel) rfl⟩
theorem cv_RX0_42 : CV RX0 42 yX1_isFulfilled cX1_isFulfilled 2 (some .boolean) 1 := ⟨uw_in 823 (by decide +kernel) rfl, uw_in 316 (by decide +kernel) rfl, uw_in 317 (by decide +kernel) rfl, uw_in 66 (by decide +kernel) rfl, uw_in 318 (by decide +kernel) rfl, ⟨by decide +kernel, by decide +kernel, by decide +kernel⟩⟩
theorem cv_RX0_49 : CV RX0 49 yX0_count cX0_count 3 (some .int) 2 := ⟨uw_in 824 (by decide +kernel) rfl, uw_in 328 (by decide +kernel) rfl, uw_in 329 (by decide +kernel) rfl, uw_in 68 (by decide +kernel) rfl, uw_in 330 (by decide +kernel) rfl, ⟨by decide +kernel, by decide +kernel, by decide +kernel⟩⟩
theorem cv_RX4_240 : CV RX4 240 yX0_countWithWish cX0_countWithWish 5 (some .int) 2 := ⟨uw_in 819 (by decide +kernel) rfl, uw_in 820 (by decide +kernel) rfl, uw_in 821 (by decide +kernel) rfl, uw_in 68 (by decide +kernel) rfl, uw_in 822 (by decide +kernel) rfl, ⟨by decide +kernel, by decide +kernel, by decide +kernel⟩⟩
theorem cv_RX1_119 : CSt RX1 119 yJ9_max_7cf53 cJ9_max_7cf53 2 (some .int) 2 := ⟨uw_in 836 (by decide +kernel) rfl, uw_in 377 (by decide +kernel) rfl, uw_in 76 (by decide +kernel) rfl, uw_in 378 (by decide +kernel) rfl, ⟨by decide +kernel, by decide +kernel, by decide +kernel⟩⟩
theorem cv_RX4_243 : CV RX4 243 yX1_countHuesNeeded cX1_countHuesNeeded 3 (some .int) 0 := ⟨uw_in 832 (by decide +kernel) rfl, uw_in 833 (by decide +kernel) rfl, uw_in 834 (by decide +kernel) rfl, uw_in 66 (by decide +kernel) rfl, uw_in 835 (by decide +kernel) rfl, ⟨by decide +kernel, by decide +kernel, by decide +kernel⟩⟩
theorem cv_RX4_248 : CV RX4 248 yX1_isClique cX1_isClique 4 (some .boolean) 1 := ⟨uw_in 372 (by decide +kernel) rfl, uw_in 373 (by decide +kernel) rfl, uw_in 374 (by decide +kernel) rfl, uw_in 66 (by decide +kernel) rfl, uw_in 375 (by decide +kernel) rfl, ⟨by decide +kernel, by decide +kernel, by decide +kernel⟩⟩
theorem cv_RX4_251 : CSt RX4 251 yJ9_max_7cf53 cJ9_max_7cf53 2 (some .int) 2 := ⟨uw_in 376 (by decide +kernel) rfl, uw_in 377 (by decide +kernel) rfl, uw_in 76 (by decide +kernel) rfl, uw_in 378 (by decide +kernel) rfl, ⟨by decide +kernel, by decide +kernel, by decide +kernel⟩⟩
theorem fl_RX4_47 : FL RX4 47 4 7 := ⟨RX4, TX4, 12, rfl, by decide, uws_X4, uw_in 226 (by decide +kernel) rfl⟩
theorem fl_RX4_43 : FL RX4 43 4 6 := ⟨RX4, TX4, 12, rfl, by decide, uws_X4, uw_in 225 (by decide +kernel) rfl⟩
theorem fp_RX4_47 : FP RX4 47 4 7 .int := ⟨RX4, TX4, 12, tyX4, rfl, by decide, uws_X4, uw_in 226 (by decide +kernel) rfl, tyX4_ok, nmX4, rfl, by decide +kernel⟩
theorem cv_RX4_259 : CV RX4 259 yX4_put cX4_put 2 (none) 1 := ⟨uw_in 849 (by decide +kernel) rfl, uw_in 851 (by decide +kernel) rfl, uw_in 16 (by decide +kernel) rfl, uw_in 65 (by decide +kernel) rfl, uw_in 852 (by decide +kernel) rfl, ⟨by decide +kernel, by decide +kernel, by decide +kernel⟩⟩
theorem fl_RX4_303 : FL RX4 303 1 8 := ⟨RX1, TX1, 12, rfl, by decide, uws_X1, uw_in 122 (by decide +kernel) rfl⟩
theorem cv_RX4_256 : CV RX4 256 yX4_putDigit cX4_putDigit 2 (none) 1 := ⟨uw_in 845 (by decide +kernel) rfl, uw_in 847 (by decide +kernel) rfl, uw_in 15 (by decide +kernel) rfl, uw_in 65 (by decide +kernel) rfl, uw_in 848 (by decide +kernel) rfl, ⟨by decide +kernel, by decide +kernel, by decide +kernel⟩⟩
theorem cv_RX4_263 : CV RX4 263 yX1_isPainted cX1_isPainted 2 (some .boolean) 1 := ⟨uw_in 853 (by decide +kernel) rfl, uw_in 320 (by decide +kernel) rfl, uw_in 321 (by decide +kernel) rfl, uw_in 66 (by decide +kernel) rfl, uw_in 322 (by decide +kernel) rfl, ⟨by decide +kernel, by decide +kernel, by decide +kernel⟩⟩
theorem cv_RX4_266 : CV RX4 266 yX4_putNeighbours cX4_putNeighbours 4 (none) 1 := ⟨uw_in 854 (by decide +kernel) rfl, uw_in 856 (by decide +kernel) rfl, uw_in 17 (by decide +kernel) rfl, uw_in 65 (by decide +kernel) rfl, uw_in 857 (by decide +kernel) rfl, ⟨by decide +kernel, by decide +kernel, by decide +kernel⟩⟩
theorem cv_RX4_269 : CV RX4 269 yX1_isStuck cX1_isStuck 2 (some .boolean) 1 := ⟨uw_in 858 (by decide +kernel) rfl, uw_in 760 (by decide +kernel) rfl, uw_in 761 (by decide +kernel) rfl, uw_in 66 (by decide +kernel) rfl, uw_in 762 (by decide +kernel) rfl, ⟨by decide +kernel, by decide +kernel, by decide +kernel⟩⟩
theorem fl_RX2_15 : FL RX2 15 2 1 := ⟨RX2, TX2, 6, rfl, by decide, uws_X2, uw_in 196 (by decide +kernel) rfl⟩
theorem fl_RX2_9 : FL RX2 9 2 0 := ⟨RX2, TX2, 6, rfl, by decide, uws_X2, uw_in 195 (by decide +kernel) rfl⟩
theorem fp_RX2_15 : FP RX2 15 2 1 .int := ⟨RX2, TX2, 6, tyX2, rfl, by decide, uws_X2, uw_in 196 (by decide +kernel) rfl, tyX2_ok, nmX2, rfl, by decide +kernel⟩
theorem fl_RX4_39 : FL RX4 39 4 5 := ⟨RX4, TX4, 12, rfl, by decide, uws_X4, uw_in 224 (by decide +kernel) rfl⟩
theorem fl_RX4_277 : FL RX4 277 2 1 := ⟨RX2, TX2, 6, rfl, by decide, uws_X2, uw_in 197 (by decide +kernel) rfl⟩
theorem cv_RX4_285 : CV RX4 285 yX2_add cX2_add 2 (none) 1 := ⟨uw_in 891 (by decide +kernel) rfl, uw_in 892 (by decide +kernel) rfl, uw_in 893 (by decide +kernel) rfl, uw_in 69 (by decide +kernel) rfl, uw_in 894 (by decide +kernel) rfl, ⟨by decide +kernel, by decide +kernel, by decide +kernel⟩⟩
theorem th_RX4_280_284 : TH RX4 "java/lang/IllegalStateException" 280 284 := TH.of (by decide +kernel) (uw_in 875 (by decide +kernel) rfl) (uw_in 83 (by decide +kernel) rfl) (by decide +kernel)
theorem fl_RX2_19 : FL RX2 19 2 2 := ⟨RX2, TX2, 6, rfl, by decide, uws_X2, uw_in 198 (by decide +kernel) rfl⟩
theorem fp_RX2_19 : FP RX2 19 2 2 .int := ⟨RX2, TX2, 6, tyX2, rfl, by decide, uws_X2, uw_in 198 (by decide +kernel) rfl, tyX2_ok, nmX2, rfl, by decide +kernel⟩
theorem fl_RX2_29 : FL RX2 29 2 5 := ⟨RX2, TX2, 6, rfl, by decide, uws_X2, uw_in 204 (by decide +kernel) rfl⟩
theorem fl_RX2_25 : FL RX2 25 2 4 := ⟨RX2, TX2, 6, rfl, by decide, uws_X2, uw_in 202 (by decide +kernel) rfl⟩
theorem fp_RX2_29 : FP RX2 29 2 5 .int := ⟨RX2, TX2, 6, tyX2, rfl, by decide, uws_X2, uw_in 204 (by decide +kernel) rfl, tyX2_ok, nmX2, rfl, by decide +kernel⟩
theorem cv_RX2_65 : CV RX2 65 yX2_takeDigits cX2_takeDigits 4 (some .boolean) 1 := ⟨uw_in 971 (by decide +kernel) rfl, uw_in 973 (by decide +kernel) rfl, uw_in 20 (by decide +kernel) rfl, uw_in 69 (by decide +kernel) rfl, uw_in 974 (by decide +kernel) rfl, ⟨by decide +kernel, by decide +kernel, by decide +kernel⟩⟩
theorem fp_RX2_22 : FP RX2 22 2 3 .int := ⟨RX2, TX2, 6, tyX2, rfl, by decide, uws_X2, uw_in 200 (by decide +kernel) rfl, tyX2_ok, nmX2, rfl, by decide +kernel⟩
theorem fl_RX2_22 : FL RX2 22 2 3 := ⟨RX2, TX2, 6, rfl, by decide, uws_X2, uw_in 200 (by decide +kernel) rfl⟩
theorem cv_RX2_36 : CSt RX2 36 yX2_shapeOf cX2_shapeOf 1 (some (.object "java/lang/String")) 1 := ⟨uw_in 910 (by decide +kernel) rfl, uw_in 911 (by decide +kernel) rfl, uw_in 69 (by decide +kernel) rfl, uw_in 912 (by decide +kernel) rfl, ⟨by decide +kernel, by decide +kernel, by decide +kernel⟩⟩
theorem cv_RX2_49 : CV RX2 49 yX2_takePart cX2_takePart 2 (some .boolean) 1 := ⟨uw_in 967 (by decide +kernel) rfl, uw_in 969 (by decide +kernel) rfl, uw_in 19 (by decide +kernel) rfl, uw_in 69 (by decide +kernel) rfl, uw_in 970 (by decide +kernel) rfl, ⟨by decide +kernel, by decide +kernel, by decide +kernel⟩⟩
theorem cv_RX2_32 : CV RX2 32 yX2_takeParts cX2_takeParts 3 (some .boolean) 0 := ⟨uw_in 906 (by decide +kernel) rfl, uw_in 908 (by decide +kernel) rfl, uw_in 18 (by decide +kernel) rfl, uw_in 69 (by decide +kernel) rfl, uw_in 909 (by decide +kernel) rfl, ⟨by decide +kernel, by decide +kernel, by decide +kernel⟩⟩
theorem cv_RX4_396 : CV RX4 396 yX4_isInRange cX4_isInRange 5 (some .boolean) 4 := ⟨uw_in 987 (by decide +kernel) rfl, uw_in 989 (by decide +kernel) rfl, uw_in 23 (by decide +kernel) rfl, uw_in 65 (by decide +kernel) rfl, uw_in 990 (by decide +kernel) rfl, ⟨by decide +kernel, by decide +kernel, by decide +kernel⟩⟩
theorem cv_RX4_400 : CV RX4 400 yX4_reasonAgainstOrder cX4_reasonAgainstOrder 4 (some .int) 3 := ⟨uw_in 991 (by decide +kernel) rfl, uw_in 993 (by decide +kernel) rfl, uw_in 24 (by decide +kernel) rfl, uw_in 65 (by decide +kernel) rfl, uw_in 994 (by decide +kernel) rfl, ⟨by decide +kernel, by decide +kernel, by decide +kernel⟩⟩
theorem fl_RX4_16 : FL RX4 16 4 1 := ⟨RX4, TX4, 12, rfl, by decide, uws_X4, uw_in 220 (by decide +kernel) rfl⟩
theorem cv_RX4_352 : CV RX4 352 yX1_copyFrom cX1_copyFrom 2 (none) 1 := ⟨uw_in 405 (by decide +kernel) rfl, uw_in 272 (by decide +kernel) rfl, uw_in 273 (by decide +kernel) rfl, uw_in 66 (by decide +kernel) rfl, uw_in 274 (by decide +kernel) rfl, ⟨by decide +kernel, by decide +kernel, by decide +kernel⟩⟩
theorem fp_RX4_376 : FP RX4 376 2 2 .int := ⟨RX2, TX2, 6, tyX2, rfl, by decide, uws_X2, uw_in 199 (by decide +kernel) rfl, tyX2_ok, nmX2, rfl, by decide +kernel⟩
theorem cv_RX4_379 : CV RX4 379 yX2_takeOrder cX2_takeOrder 2 (some .boolean) 0 := ⟨uw_in 979 (by decide +kernel) rfl, uw_in 980 (by decide +kernel) rfl, uw_in 981 (by decide +kernel) rfl, uw_in 69 (by decide +kernel) rfl, uw_in 982 (by decide +kernel) rfl, ⟨by decide +kernel, by decide +kernel, by decide +kernel⟩⟩
theorem fl_RX4_382 : FL RX4 382 2 4 := ⟨RX2, TX2, 6, rfl, by decide, uws_X2, uw_in 203 (by decide +kernel) rfl⟩
theorem fl_RX4_385 : FL RX4 385 2 3 := ⟨RX2, TX2, 6, rfl, by decide, uws_X2, uw_in 201 (by decide +kernel) rfl⟩
theorem cv_RX4_388 : CV RX4 388 yX4_judge cX4_judge 6 (some .int) 4 := ⟨uw_in 983 (by decide +kernel) rfl, uw_in 985 (by decide +kernel) rfl, uw_in 22 (by decide +kernel) rfl, uw_in 65 (by decide +kernel) rfl, uw_in 986 (by decide +kernel) rfl, ⟨by decide +kernel, by decide +kernel, by decide +kernel⟩⟩
theorem cv_RX4_392 : CV RX4 392 yX4_perform cX4_perform 5 (none) 4 := ⟨uw_in 995 (by decide +kernel) rfl, uw_in 997 (by decide +kernel) rfl, uw_in 25 (by decide +kernel) rfl, uw_in 65 (by decide +kernel) rfl, uw_in 998 (by decide +kernel) rfl, ⟨by decide +kernel, by decide +kernel, by decide +kernel⟩⟩
theorem cv_RX4_288 : CV RX4 288 yX2_findError cX2_findError 2 (some .int) 0 := ⟨uw_in 902 (by decide +kernel) rfl, uw_in 903 (by decide +kernel) rfl, uw_in 904 (by decide +kernel) rfl, uw_in 69 (by decide +kernel) rfl, uw_in 905 (by decide +kernel) rfl, ⟨by decide +kernel, by decide +kernel, by decide +kernel⟩⟩
theorem fp_RX4_55 : FP RX4 55 4 9 .int := ⟨RX4, TX4, 12, tyX4, rfl, by decide, uws_X4, uw_in 228 (by decide +kernel) rfl, tyX4_ok, nmX4, rfl, by decide +kernel⟩
theorem fl_RX4_55 : FL RX4 55 4 9 := ⟨RX4, TX4, 12, rfl, by decide, uws_X4, uw_in 228 (by decide +kernel) rfl⟩
theorem cv_RX4_291 : CV RX4 291 yX4_carryOutAll cX4_carryOutAll 6 (some .int) 0 := ⟨uw_in 975 (by decide +kernel) rfl, uw_in 977 (by decide +kernel) rfl, uw_in 21 (by decide +kernel) rfl, uw_in 65 (by decide +kernel) rfl, uw_in 978 (by decide +kernel) rfl, ⟨by decide +kernel, by decide +kernel, by decide +kernel⟩⟩
theorem fp_RX4_277 : FP RX4 277 2 1 .int := ⟨RX2, TX2, 6, tyX2, rfl, by decide, uws_X2, uw_in 197 (by decide +kernel) rfl, tyX2_ok, nmX2, rfl, by decide +kernel⟩
theorem fl_RX4_58 : FL RX4 58 4 10 := ⟨RX4, TX4, 12, rfl, by decide, uws_X4, uw_in 229 (by decide +kernel) rfl⟩
theorem fl_RX4_61 : FL RX4 61 4 11 := ⟨RX4, TX4, 12, rfl, by decide, uws_X4, uw_in 230 (by decide +kernel) rfl⟩
theorem cv_RX4_306 : CV RX4 306 yX1_countPainted cX1_countPainted 1 (some .int) 0 := ⟨uw_in 1016 (by decide +kernel) rfl, uw_in 397 (by decide +kernel) rfl, uw_in 398 (by decide +kernel) rfl, uw_in 66 (by decide +kernel) rfl, uw_in 399 (by decide +kernel) rfl, ⟨by decide +kernel, by decide +kernel, by decide +kernel⟩⟩
theorem cv_RX4_309 : CV RX4 309 yX1_countStuck cX1_countStuck 3 (some .int) 0 := ⟨uw_in 1017 (by decide +kernel) rfl, uw_in 1018 (by decide +kernel) rfl, uw_in 1019 (by decide +kernel) rfl, uw_in 66 (by decide +kernel) rfl, uw_in 1020 (by decide +kernel) rfl, ⟨by decide +kernel, by decide +kernel, by decide +kernel⟩⟩
theorem cv_RX4_312 : CSt RX4 312 yX4_sum cX4_sum 6 (some .int) 1 := ⟨uw_in 1021 (by decide +kernel) rfl, uw_in 1022 (by decide +kernel) rfl, uw_in 65 (by decide +kernel) rfl, uw_in 1023 (by decide +kernel) rfl, ⟨by decide +kernel, by decide +kernel, by decide +kernel⟩⟩
theorem fl_RX4_316 : FL RX4 316 1 11 := ⟨RX1, TX1, 12, rfl, by decide, uws_X1, uw_in 129 (by decide +kernel) rfl⟩
theorem cv_RX4_319 : CV RX4 319 yX1_countWishes cX1_countWishes 3 (some .int) 0 := ⟨uw_in 1024 (by decide +kernel) rfl, uw_in 1025 (by decide +kernel) rfl, uw_in 1026 (by decide +kernel) rfl, uw_in 66 (by decide +kernel) rfl, uw_in 1027 (by decide +kernel) rfl, ⟨by decide +kernel, by decide +kernel, by decide +kernel⟩⟩
theorem cv_RX4_322 : CV RX4 322 yX1_countFulfilled cX1_countFulfilled 3 (some .int) 0 := ⟨uw_in 1028 (by decide +kernel) rfl, uw_in 1029 (by decide +kernel) rfl, uw_in 1030 (by decide +kernel) rfl, uw_in 66 (by decide +kernel) rfl, uw_in 1031 (by decide +kernel) rfl, ⟨by decide +kernel, by decide +kernel, by decide +kernel⟩⟩
theorem fl_RX4_325 : FL RX4 325 3 2 := ⟨RX3, TX3, 3, rfl, by decide, uws_X3, uw_in 168 (by decide +kernel) rfl⟩
theorem cv_RX1_122 : CV RX1 122 yX1_countPainted cX1_countPainted 1 (some .int) 0 := ⟨uw_in 396 (by decide +kernel) rfl, uw_in 397 (by decide +kernel) rfl, uw_in 398 (by decide +kernel) rfl, uw_in 66 (by decide +kernel) rfl, uw_in 399 (by decide +kernel) rfl, ⟨by decide +kernel, by decide +kernel, by decide +kernel⟩⟩
theorem cv_RX4_330 : CV RX4 330 yX1_noBorderInOneHue cX1_noBorderInOneHue 3 (some .boolean) 0 := ⟨uw_in 387 (by decide +kernel) rfl, uw_in 388 (by decide +kernel) rfl, uw_in 389 (by decide +kernel) rfl, uw_in 66 (by decide +kernel) rfl, uw_in 390 (by decide +kernel) rfl, ⟨by decide +kernel, by decide +kernel, by decide +kernel⟩⟩
theorem cv_RX4_334 : CV RX4 334 yX1_stepsAreThePainted cX1_stepsAreThePainted 3 (some .boolean) 0 := ⟨uw_in 392 (by decide +kernel) rfl, uw_in 393 (by decide +kernel) rfl, uw_in 394 (by decide +kernel) rfl, uw_in 66 (by decide +kernel) rfl, uw_in 395 (by decide +kernel) rfl, ⟨by decide +kernel, by decide +kernel, by decide +kernel⟩⟩
theorem cv_RX4_342 : CV RX4 342 yX1_sumPaintedSizes cX1_sumPaintedSizes 3 (some .int) 0 := ⟨uw_in 1057 (by decide +kernel) rfl, uw_in 1058 (by decide +kernel) rfl, uw_in 1059 (by decide +kernel) rfl, uw_in 66 (by decide +kernel) rfl, uw_in 1060 (by decide +kernel) rfl, ⟨by decide +kernel, by decide +kernel, by decide +kernel⟩⟩
theorem th_RX4_337_341 : TH RX4 "java/lang/ArithmeticException" 337 341 := TH.of (by decide +kernel) (uw_in 1054 (by decide +kernel) rfl) (uw_in 87 (by decide +kernel) rfl) (by decide +kernel)
theorem cv_RX4_349 : CV RX4 349 yX3_takeLatest cX3_takeLatest 2 (none) 1 := ⟨uw_in 1077 (by decide +kernel) rfl, uw_in 1078 (by decide +kernel) rfl, uw_in 1079 (by decide +kernel) rfl, uw_in 67 (by decide +kernel) rfl, uw_in 1080 (by decide +kernel) rfl, ⟨by decide +kernel, by decide +kernel, by decide +kernel⟩⟩
theorem fl_RX4_19 : FL RX4 19 4 2 := ⟨RX4, TX4, 12, rfl, by decide, uws_X4, uw_in 221 (by decide +kernel) rfl⟩
theorem fp_RX4_51 : FP RX4 51 4 8 .boolean := ⟨RX4, TX4, 12, tyX4, rfl, by decide, uws_X4, uw_in 227 (by decide +kernel) rfl, tyX4_ok, nmX4, rfl, by decide +kernel⟩
theorem fl_RX4_51 : FL RX4 51 4 8 := ⟨RX4, TX4, 12, rfl, by decide, uws_X4, uw_in 227 (by decide +kernel) rfl⟩
theorem fp_RX4_325 : FP RX4 325 3 2 .int := ⟨RX3, TX3, 3, tyX3, rfl, by decide, uws_X3, uw_in 168 (by decide +kernel) rfl, tyX3_ok, nmX3, rfl, by decide +kernel⟩
theorem fl_RX5_39 : FL RX5 39 5 7 := ⟨RX5, TX5, 19, rfl, by decide, uws_X5, uw_in 1102 (by decide +kernel) rfl⟩
theorem fp_RX5_39 : FP RX5 39 5 7 .int := ⟨RX5, TX5, 19, tyX5, rfl, by decide, uws_X5, uw_in 1102 (by decide +kernel) rfl, tyX5_ok, nmX5, rfl, by decide +kernel⟩
theorem fp_RX5_42 : FP RX5 42 5 8 .int := ⟨RX5, TX5, 19, tyX5, rfl, by decide, uws_X5, uw_in 1103 (by decide +kernel) rfl, tyX5_ok, nmX5, rfl, by decide +kernel⟩
theorem fp_RX5_45 : FP RX5 45 5 9 .int := ⟨RX5, TX5, 19, tyX5, rfl, by decide, uws_X5, uw_in 1104 (by decide +kernel) rfl, tyX5_ok, nmX5, rfl, by decide +kernel⟩
theorem fl_RX5_48 : FL RX5 48 5 6 := ⟨RX5, TX5, 19, rfl, by decide, uws_X5, uw_in 1101 (by decide +kernel) rfl⟩
theorem fl_RX5_52 : FL RX5 52 5 5 := ⟨RX5, TX5, 19, rfl, by decide, uws_X5, uw_in 1100 (by decide +kernel) rfl⟩
theorem fp_RX5_52 : FP RX5 52 5 5 .int := ⟨RX5, TX5, 19, tyX5, rfl, by decide, uws_X5, uw_in 1100 (by decide +kernel) rfl, tyX5_ok, nmX5, rfl, by decide +kernel⟩
theorem fl_RX5_13 : FL RX5 13 5 1 := ⟨RX5, TX5, 19, rfl, by decide, uws_X5, uw_in 1096 (by decide +kernel) rfl⟩
theorem cv_RX5_55 : CSt RX5 55 yX5_copies cX5_copies 5 (none) 4 := ⟨uw_in 1176 (by decide +kernel) rfl, uw_in 1177 (by decide +kernel) rfl, uw_in 70 (by decide +kernel) rfl, uw_in 1178 (by decide +kernel) rfl, ⟨by decide +kernel, by decide +kernel, by decide +kernel⟩⟩
theorem fl_RX5_7 : FL RX5 7 5 0 := ⟨RX5, TX5, 19, rfl, by decide, uws_X5, uw_in 1095 (by decide +kernel) rfl⟩
theorem cv_RX5_59 : CSt RX5 59 yX5_in cX5_in 3 (some .boolean) 3 := ⟨uw_in 1161 (by decide +kernel) rfl, uw_in 1162 (by decide +kernel) rfl, uw_in 70 (by decide +kernel) rfl, uw_in 1163 (by decide +kernel) rfl, ⟨by decide +kernel, by decide +kernel, by decide +kernel⟩⟩
theorem cv_RX5_63 : CV RX5 63 yX5_of cX5_of 3 (some .int) 2 := ⟨uw_in 1199 (by decide +kernel) rfl, uw_in 1201 (by decide +kernel) rfl, uw_in 33 (by decide +kernel) rfl, uw_in 70 (by decide +kernel) rfl, uw_in 1202 (by decide +kernel) rfl, ⟨by decide +kernel, by decide +kernel, by decide +kernel⟩⟩
theorem cv_RX5_67 : CV RX5 67 yX5_touches cX5_touches 3 (some .boolean) 2 := ⟨uw_in 1191 (by decide +kernel) rfl, uw_in 1193 (by decide +kernel) rfl, uw_in 31 (by decide +kernel) rfl, uw_in 70 (by decide +kernel) rfl, uw_in 1194 (by decide +kernel) rfl, ⟨by decide +kernel, by decide +kernel, by decide +kernel⟩⟩
theorem cv_RX5_71 : CV RX5 71 yX5_fails cX5_fails 2 (some .boolean) 1 := ⟨uw_in 1164 (by decide +kernel) rfl, uw_in 1166 (by decide +kernel) rfl, uw_in 26 (by decide +kernel) rfl, uw_in 70 (by decide +kernel) rfl, uw_in 1167 (by decide +kernel) rfl, ⟨by decide +kernel, by decide +kernel, by decide +kernel⟩⟩
theorem cv_RX5_79 : CV RX5 79 yX5_keeps cX5_keeps 3 (none) 1 := ⟨uw_in 1172 (by decide +kernel) rfl, uw_in 1174 (by decide +kernel) rfl, uw_in 28 (by decide +kernel) rfl, uw_in 70 (by decide +kernel) rfl, uw_in 1175 (by decide +kernel) rfl, ⟨by decide +kernel, by decide +kernel, by decide +kernel⟩⟩
theorem cv_RX5_83 : CV RX5 83 yX5_lays cX5_lays 4 (none) 3 := ⟨uw_in 1179 (by decide +kernel) rfl, uw_in 1181 (by decide +kernel) rfl, uw_in 29 (by decide +kernel) rfl, uw_in 70 (by decide +kernel) rfl, uw_in 1182 (by decide +kernel) rfl, ⟨by decide +kernel, by decide +kernel, by decide +kernel⟩⟩
theorem cv_RX5_75 : CV RX5 75 yX5_refuses cX5_refuses 4 (some .int) 3 := ⟨uw_in 1168 (by decide +kernel) rfl, uw_in 1170 (by decide +kernel) rfl, uw_in 27 (by decide +kernel) rfl, uw_in 70 (by decide +kernel) rfl, uw_in 1171 (by decide +kernel) rfl, ⟨by decide +kernel, by decide +kernel, by decide +kernel⟩⟩
theorem cv_RX5_87 : CV RX5 87 yX5_isCountry cX5_isCountry 2 (some .boolean) 1 := ⟨uw_in 1187 (by decide +kernel) rfl, uw_in 1189 (by decide +kernel) rfl, uw_in 30 (by decide +kernel) rfl, uw_in 70 (by decide +kernel) rfl, uw_in 1190 (by decide +kernel) rfl, ⟨by decide +kernel, by decide +kernel, by decide +kernel⟩⟩
theorem cv_RX5_90 : CV RX5 90 yX5_isPainted cX5_isPainted 2 (some .boolean) 1 := ⟨uw_in 1195 (by decide +kernel) rfl, uw_in 1197 (by decide +kernel) rfl, uw_in 32 (by decide +kernel) rfl, uw_in 70 (by decide +kernel) rfl, uw_in 1198 (by decide +kernel) rfl, ⟨by decide +kernel, by decide +kernel, by decide +kernel⟩⟩
theorem cv_RX5_93 : CV RX5 93 yX5_borders cX5_borders 4 (some .int) 0 := ⟨uw_in 1203 (by decide +kernel) rfl, uw_in 1205 (by decide +kernel) rfl, uw_in 34 (by decide +kernel) rfl, uw_in 70 (by decide +kernel) rfl, uw_in 1206 (by decide +kernel) rfl, ⟨by decide +kernel, by decide +kernel, by decide +kernel⟩⟩
theorem cv_RX5_97 : CV RX5 97 yX5_neighbourIn cX5_neighbourIn 4 (some .int) 2 := ⟨uw_in 1231 (by decide +kernel) rfl, uw_in 1233 (by decide +kernel) rfl, uw_in 38 (by decide +kernel) rfl, uw_in 70 (by decide +kernel) rfl, uw_in 1234 (by decide +kernel) rfl, ⟨by decide +kernel, by decide +kernel, by decide +kernel⟩⟩
theorem cv_RX5_100 : CV RX5 100 yX5_isFree cX5_isFree 3 (some .boolean) 2 := ⟨uw_in 1227 (by decide +kernel) rfl, uw_in 1229 (by decide +kernel) rfl, uw_in 37 (by decide +kernel) rfl, uw_in 70 (by decide +kernel) rfl, uw_in 1230 (by decide +kernel) rfl, ⟨by decide +kernel, by decide +kernel, by decide +kernel⟩⟩
theorem cv_RX5_103 : CV RX5 103 yX5_neighbours cX5_neighbours 4 (some .int) 1 := ⟨uw_in 1219 (by decide +kernel) rfl, uw_in 1221 (by decide +kernel) rfl, uw_in 35 (by decide +kernel) rfl, uw_in 70 (by decide +kernel) rfl, uw_in 1222 (by decide +kernel) rfl, ⟨by decide +kernel, by decide +kernel, by decide +kernel⟩⟩
theorem cv_RX5_107 : CV RX5 107 yX5_freeMany cX5_freeMany 4 (some .int) 1 := ⟨uw_in 1223 (by decide +kernel) rfl, uw_in 1225 (by decide +kernel) rfl, uw_in 36 (by decide +kernel) rfl, uw_in 70 (by decide +kernel) rfl, uw_in 1226 (by decide +kernel) rfl, ⟨by decide +kernel, by decide +kernel, by decide +kernel⟩⟩
theorem cv_RX5_110 : CV RX5 110 yX5_placeOf cX5_placeOf 3 (some .int) 1 := ⟨uw_in 1235 (by decide +kernel) rfl, uw_in 1237 (by decide +kernel) rfl, uw_in 39 (by decide +kernel) rfl, uw_in 70 (by decide +kernel) rfl, uw_in 1238 (by decide +kernel) rfl, ⟨by decide +kernel, by decide +kernel, by decide +kernel⟩⟩
theorem cv_RX5_113 : CSt RX5 113 yX5_isHue cX5_isHue 1 (some .boolean) 1 := ⟨uw_in 1247 (by decide +kernel) rfl, uw_in 1248 (by decide +kernel) rfl, uw_in 70 (by decide +kernel) rfl, uw_in 1249 (by decide +kernel) rfl, ⟨by decide +kernel, by decide +kernel, by decide +kernel⟩⟩
theorem cv_RX5_116 : CSt RX5 116 yX5_less cX5_less 2 (some .int) 2 := ⟨uw_in 1250 (by decide +kernel) rfl, uw_in 1251 (by decide +kernel) rfl, uw_in 70 (by decide +kernel) rfl, uw_in 1252 (by decide +kernel) rfl, ⟨by decide +kernel, by decide +kernel, by decide +kernel⟩⟩
theorem cv_RX5_119 : CV RX5 119 yX5_paintedIn cX5_paintedIn 4 (some .int) 1 := ⟨uw_in 1257 (by decide +kernel) rfl, uw_in 1259 (by decide +kernel) rfl, uw_in 40 (by decide +kernel) rfl, uw_in 70 (by decide +kernel) rfl, uw_in 1260 (by decide +kernel) rfl, ⟨by decide +kernel, by decide +kernel, by decide +kernel⟩⟩
theorem cv_RX5_122 : CV RX5 122 yX5_against cX5_against 3 (some .int) 2 := ⟨uw_in 1265 (by decide +kernel) rfl, uw_in 1267 (by decide +kernel) rfl, uw_in 41 (by decide +kernel) rfl, uw_in 70 (by decide +kernel) rfl, uw_in 1268 (by decide +kernel) rfl, ⟨by decide +kernel, by decide +kernel, by decide +kernel⟩⟩
theorem cv_RX5_125 : CV RX5 125 yX5_paints cX5_paints 3 (none) 2 := ⟨uw_in 1269 (by decide +kernel) rfl, uw_in 1271 (by decide +kernel) rfl, uw_in 42 (by decide +kernel) rfl, uw_in 70 (by decide +kernel) rfl, uw_in 1272 (by decide +kernel) rfl, ⟨by decide +kernel, by decide +kernel, by decide +kernel⟩⟩
theorem cv_RX5_129 : CV RX5 129 yX5_onlyHue cX5_onlyHue 3 (some .int) 1 := ⟨uw_in 1285 (by decide +kernel) rfl, uw_in 1287 (by decide +kernel) rfl, uw_in 43 (by decide +kernel) rfl, uw_in 70 (by decide +kernel) rfl, uw_in 1288 (by decide +kernel) rfl, ⟨by decide +kernel, by decide +kernel, by decide +kernel⟩⟩
theorem cv_RX5_132 : CV RX5 132 yX5_isStuck cX5_isStuck 2 (some .boolean) 1 := ⟨uw_in 1297 (by decide +kernel) rfl, uw_in 1299 (by decide +kernel) rfl, uw_in 44 (by decide +kernel) rfl, uw_in 70 (by decide +kernel) rfl, uw_in 1300 (by decide +kernel) rfl, ⟨by decide +kernel, by decide +kernel, by decide +kernel⟩⟩
theorem cv_RX5_135 : CV RX5 135 yX5_plainNeighbours cX5_plainNeighbours 4 (some .int) 1 := ⟨uw_in 1305 (by decide +kernel) rfl, uw_in 1307 (by decide +kernel) rfl, uw_in 45 (by decide +kernel) rfl, uw_in 70 (by decide +kernel) rfl, uw_in 1308 (by decide +kernel) rfl, ⟨by decide +kernel, by decide +kernel, by decide +kernel⟩⟩
theorem cv_RX5_138 : CV RX5 138 yX5_takes cX5_takes 5 (some .int) 2 := ⟨uw_in 1313 (by decide +kernel) rfl, uw_in 1315 (by decide +kernel) rfl, uw_in 46 (by decide +kernel) rfl, uw_in 70 (by decide +kernel) rfl, uw_in 1316 (by decide +kernel) rfl, ⟨by decide +kernel, by decide +kernel, by decide +kernel⟩⟩
theorem cv_RX5_141 : CV RX5 141 yX5_isFulfilled cX5_isFulfilled 2 (some .boolean) 1 := ⟨uw_in 1325 (by decide +kernel) rfl, uw_in 1327 (by decide +kernel) rfl, uw_in 47 (by decide +kernel) rfl, uw_in 70 (by decide +kernel) rfl, uw_in 1328 (by decide +kernel) rfl, ⟨by decide +kernel, by decide +kernel, by decide +kernel⟩⟩
theorem fl_RX5_33 : FL RX5 33 5 15 := ⟨RX5, TX5, 19, rfl, by decide, uws_X5, uw_in 1110 (by decide +kernel) rfl⟩
theorem cv_RX5_144 : CV RX5 144 yX5_waysFrom cX5_waysFrom 7 (some .int) 4 := ⟨uw_in 1333 (by decide +kernel) rfl, uw_in 1335 (by decide +kernel) rfl, uw_in 48 (by decide +kernel) rfl, uw_in 70 (by decide +kernel) rfl, uw_in 1336 (by decide +kernel) rfl, ⟨by decide +kernel, by decide +kernel, by decide +kernel⟩⟩
theorem cv_RX5_148 : CV RX5 148 yX5_clashes cX5_clashes 5 (some .boolean) 3 := ⟨uw_in 1337 (by decide +kernel) rfl, uw_in 1339 (by decide +kernel) rfl, uw_in 49 (by decide +kernel) rfl, uw_in 70 (by decide +kernel) rfl, uw_in 1340 (by decide +kernel) rfl, ⟨by decide +kernel, by decide +kernel, by decide +kernel⟩⟩
theorem cv_RX5_151 : CV RX5 151 yX5_left cX5_left 3 (some .int) 0 := ⟨uw_in 1345 (by decide +kernel) rfl, uw_in 1347 (by decide +kernel) rfl, uw_in 50 (by decide +kernel) rfl, uw_in 70 (by decide +kernel) rfl, uw_in 1348 (by decide +kernel) rfl, ⟨by decide +kernel, by decide +kernel, by decide +kernel⟩⟩
theorem cv_RX5_154 : CV RX5 154 yX5_ways cX5_ways 1 (some .int) 0 := ⟨uw_in 1349 (by decide +kernel) rfl, uw_in 1330 (by decide +kernel) rfl, uw_in 1331 (by decide +kernel) rfl, uw_in 70 (by decide +kernel) rfl, uw_in 1332 (by decide +kernel) rfl, ⟨by decide +kernel, by decide +kernel, by decide +kernel⟩⟩
theorem cv_RX5_157 : CSt RX5 157 yX5_more cX5_more 2 (some .int) 2 := ⟨uw_in 1358 (by decide +kernel) rfl, uw_in 1359 (by decide +kernel) rfl, uw_in 70 (by decide +kernel) rfl, uw_in 1360 (by decide +kernel) rfl, ⟨by decide +kernel, by decide +kernel, by decide +kernel⟩⟩
theorem cv_RX5_160 : CV RX5 160 yX5_areAll cX5_areAll 3 (some .boolean) 1 := ⟨uw_in 1365 (by decide +kernel) rfl, uw_in 1367 (by decide +kernel) rfl, uw_in 51 (by decide +kernel) rfl, uw_in 70 (by decide +kernel) rfl, uw_in 1368 (by decide +kernel) rfl, ⟨by decide +kernel, by decide +kernel, by decide +kernel⟩⟩
theorem fl_RX5_29 : FL RX5 29 5 13 := ⟨RX5, TX5, 19, rfl, by decide, uws_X5, uw_in 1108 (by decide +kernel) rfl⟩
theorem fl_RX5_163 : FL RX5 163 5 14 := ⟨RX5, TX5, 19, rfl, by decide, uws_X5, uw_in 1109 (by decide +kernel) rfl⟩
theorem fp_RX5_163 : FP RX5 163 5 14 .int := ⟨RX5, TX5, 19, tyX5, rfl, by decide, uws_X5, uw_in 1109 (by decide +kernel) rfl, tyX5_ok, nmX5, rfl, by decide +kernel⟩
theorem cv_RX5_166 : CV RX5 166 yX5_writes cX5_writes 2 (none) 1 := ⟨uw_in 1373 (by decide +kernel) rfl, uw_in 1375 (by decide +kernel) rfl, uw_in 52 (by decide +kernel) rfl, uw_in 70 (by decide +kernel) rfl, uw_in 1376 (by decide +kernel) rfl, ⟨by decide +kernel, by decide +kernel, by decide +kernel⟩⟩
theorem fl_RX5_170 : FL RX5 170 5 11 := ⟨RX5, TX5, 19, rfl, by decide, uws_X5, uw_in 1106 (by decide +kernel) rfl⟩
theorem fl_RX5_22 : FL RX5 22 5 10 := ⟨RX5, TX5, 19, rfl, by decide, uws_X5, uw_in 1105 (by decide +kernel) rfl⟩
theorem fp_RX5_170 : FP RX5 170 5 11 .int := ⟨RX5, TX5, 19, tyX5, rfl, by decide, uws_X5, uw_in 1106 (by decide +kernel) rfl, tyX5_ok, nmX5, rfl, by decide +kernel⟩
theorem fl_RX5_173 : FL RX5 173 5 16 := ⟨RX5, TX5, 19, rfl, by decide, uws_X5, uw_in 1111 (by decide +kernel) rfl⟩
theorem cv_RX5_176 : CV RX5 176 yX5_here cX5_here 1 (some .int) 0 := ⟨uw_in 1397 (by decide +kernel) rfl, uw_in 1399 (by decide +kernel) rfl, uw_in 55 (by decide +kernel) rfl, uw_in 70 (by decide +kernel) rfl, uw_in 1400 (by decide +kernel) rfl, ⟨by decide +kernel, by decide +kernel, by decide +kernel⟩⟩
theorem fp_RX5_173 : FP RX5 173 5 16 .int := ⟨RX5, TX5, 19, tyX5, rfl, by decide, uws_X5, uw_in 1111 (by decide +kernel) rfl, tyX5_ok, nmX5, rfl, by decide +kernel⟩
theorem fl_RX5_36 : FL RX5 36 5 17 := ⟨RX5, TX5, 19, rfl, by decide, uws_X5, uw_in 1112 (by decide +kernel) rfl⟩
theorem fl_RX5_179 : FL RX5 179 5 18 := ⟨RX5, TX5, 19, rfl, by decide, uws_X5, uw_in 1113 (by decide +kernel) rfl⟩
theorem cv_RX5_182 : CV RX5 182 yX5_skips cX5_skips 2 (some .boolean) 1 := ⟨uw_in 1401 (by decide +kernel) rfl, uw_in 1403 (by decide +kernel) rfl, uw_in 56 (by decide +kernel) rfl, uw_in 70 (by decide +kernel) rfl, uw_in 1404 (by decide +kernel) rfl, ⟨by decide +kernel, by decide +kernel, by decide +kernel⟩⟩
theorem cv_RX5_185 : CV RX5 185 yX5_number cX5_number 4 (some .boolean) 2 := ⟨uw_in 1405 (by decide +kernel) rfl, uw_in 1407 (by decide +kernel) rfl, uw_in 57 (by decide +kernel) rfl, uw_in 70 (by decide +kernel) rfl, uw_in 1408 (by decide +kernel) rfl, ⟨by decide +kernel, by decide +kernel, by decide +kernel⟩⟩
theorem fp_RX5_179 : FP RX5 179 5 18 .int := ⟨RX5, TX5, 19, tyX5, rfl, by decide, uws_X5, uw_in 1113 (by decide +kernel) rfl, tyX5_ok, nmX5, rfl, by decide +kernel⟩
theorem cv_RX5_188 : CV RX5 188 yX5_orderHere cX5_orderHere 2 (some .boolean) 0 := ⟨uw_in 1393 (by decide +kernel) rfl, uw_in 1395 (by decide +kernel) rfl, uw_in 54 (by decide +kernel) rfl, uw_in 70 (by decide +kernel) rfl, uw_in 1396 (by decide +kernel) rfl, ⟨by decide +kernel, by decide +kernel, by decide +kernel⟩⟩
theorem cv_RX5_195 : CV RX5 195 yX5_border cX5_border 3 (some .int) 2 := ⟨uw_in 1414 (by decide +kernel) rfl, uw_in 1184 (by decide +kernel) rfl, uw_in 1185 (by decide +kernel) rfl, uw_in 70 (by decide +kernel) rfl, uw_in 1186 (by decide +kernel) rfl, ⟨by decide +kernel, by decide +kernel, by decide +kernel⟩⟩
theorem cv_RX5_201 : CV RX5 201 yX5_hues cX5_hues 3 (some .int) 1 := ⟨uw_in 1416 (by decide +kernel) rfl, uw_in 1240 (by decide +kernel) rfl, uw_in 1241 (by decide +kernel) rfl, uw_in 70 (by decide +kernel) rfl, uw_in 1242 (by decide +kernel) rfl, ⟨by decide +kernel, by decide +kernel, by decide +kernel⟩⟩
theorem cv_RX5_204 : CV RX5 204 yX5_pots cX5_pots 3 (some .int) 2 := ⟨uw_in 1417 (by decide +kernel) rfl, uw_in 1244 (by decide +kernel) rfl, uw_in 1245 (by decide +kernel) rfl, uw_in 70 (by decide +kernel) rfl, uw_in 1246 (by decide +kernel) rfl, ⟨by decide +kernel, by decide +kernel, by decide +kernel⟩⟩
theorem cv_RX5_192 : CV RX5 192 yX5_paint cX5_paint 3 (some .int) 2 := ⟨uw_in 1413 (by decide +kernel) rfl, uw_in 1262 (by decide +kernel) rfl, uw_in 1263 (by decide +kernel) rfl, uw_in 70 (by decide +kernel) rfl, uw_in 1264 (by decide +kernel) rfl, ⟨by decide +kernel, by decide +kernel, by decide +kernel⟩⟩
theorem cv_RX5_198 : CV RX5 198 yX5_wish cX5_wish 5 (some .int) 3 := ⟨uw_in 1415 (by decide +kernel) rfl, uw_in 1318 (by decide +kernel) rfl, uw_in 1319 (by decide +kernel) rfl, uw_in 70 (by decide +kernel) rfl, uw_in 1320 (by decide +kernel) rfl, ⟨by decide +kernel, by decide +kernel, by decide +kernel⟩⟩
theorem cv_RX5_207 : CV RX5 207 yX5_back cX5_back 2 (some .int) 0 := ⟨uw_in 1418 (by decide +kernel) rfl, uw_in 1278 (by decide +kernel) rfl, uw_in 1279 (by decide +kernel) rfl, uw_in 70 (by decide +kernel) rfl, uw_in 1280 (by decide +kernel) rfl, ⟨by decide +kernel, by decide +kernel, by decide +kernel⟩⟩
theorem cv_RX5_210 : CV RX5 210 yX5_fill cX5_fill 4 (some .int) 0 := ⟨uw_in 1419 (by decide +kernel) rfl, uw_in 1282 (by decide +kernel) rfl, uw_in 1283 (by decide +kernel) rfl, uw_in 70 (by decide +kernel) rfl, uw_in 1284 (by decide +kernel) rfl, ⟨by decide +kernel, by decide +kernel, by decide +kernel⟩⟩
theorem cv_RX5_213 : CV RX5 213 yX5_isText cX5_isText 1 (some .boolean) 0 := ⟨uw_in 1389 (by decide +kernel) rfl, uw_in 1391 (by decide +kernel) rfl, uw_in 53 (by decide +kernel) rfl, uw_in 70 (by decide +kernel) rfl, uw_in 1392 (by decide +kernel) rfl, ⟨by decide +kernel, by decide +kernel, by decide +kernel⟩⟩
theorem fp_RX5_25 : FP RX5 25 5 12 .int := ⟨RX5, TX5, 19, tyX5, rfl, by decide, uws_X5, uw_in 1107 (by decide +kernel) rfl, tyX5_ok, nmX5, rfl, by decide +kernel⟩
theorem fl_RX5_19 : FL RX5 19 5 3 := ⟨RX5, TX5, 19, rfl, by decide, uws_X5, uw_in 1098 (by decide +kernel) rfl⟩
theorem fp_RX5_48 : FP RX5 48 5 6 .boolean := ⟨RX5, TX5, 19, tyX5, rfl, by decide, uws_X5, uw_in 1101 (by decide +kernel) rfl, tyX5_ok, nmX5, rfl, by decide +kernel⟩
theorem cv_RX5_216 : CV RX5 216 yX5_carries cX5_carries 2 (some .int) 1 := ⟨uw_in 1409 (by decide +kernel) rfl, uw_in 1411 (by decide +kernel) rfl, uw_in 58 (by decide +kernel) rfl, uw_in 70 (by decide +kernel) rfl, uw_in 1412 (by decide +kernel) rfl, ⟨by decide +kernel, by decide +kernel, by decide +kernel⟩⟩
theorem cv_RX5_219 : CV RX5 219 yX5_isRefusal cX5_isRefusal 2 (some .boolean) 1 := ⟨uw_in 1420 (by decide +kernel) rfl, uw_in 1422 (by decide +kernel) rfl, uw_in 59 (by decide +kernel) rfl, uw_in 70 (by decide +kernel) rfl, uw_in 1423 (by decide +kernel) rfl, ⟨by decide +kernel, by decide +kernel, by decide +kernel⟩⟩
theorem fl_RX5_25 : FL RX5 25 5 12 := ⟨RX5, TX5, 19, rfl, by decide, uws_X5, uw_in 1107 (by decide +kernel) rfl⟩
theorem fl_RX5_42 : FL RX5 42 5 8 := ⟨RX5, TX5, 19, rfl, by decide, uws_X5, uw_in 1103 (by decide +kernel) rfl⟩
theorem fl_RX5_45 : FL RX5 45 5 9 := ⟨RX5, TX5, 19, rfl, by decide, uws_X5, uw_in 1104 (by decide +kernel) rfl⟩
theorem cv_RX5_222 : CV RX5 222 yX5_paintedMany cX5_paintedMany 1 (some .int) 0 := ⟨uw_in 1436 (by decide +kernel) rfl, uw_in 1438 (by decide +kernel) rfl, uw_in 60 (by decide +kernel) rfl, uw_in 70 (by decide +kernel) rfl, uw_in 1439 (by decide +kernel) rfl, ⟨by decide +kernel, by decide +kernel, by decide +kernel⟩⟩
theorem cv_RX5_225 : CV RX5 225 yX5_stuckMany cX5_stuckMany 3 (some .int) 0 := ⟨uw_in 1440 (by decide +kernel) rfl, uw_in 1442 (by decide +kernel) rfl, uw_in 61 (by decide +kernel) rfl, uw_in 70 (by decide +kernel) rfl, uw_in 1443 (by decide +kernel) rfl, ⟨by decide +kernel, by decide +kernel, by decide +kernel⟩⟩
theorem cv_RX5_228 : CV RX5 228 yX5_sumOf cX5_sumOf 4 (some .int) 1 := ⟨uw_in 1444 (by decide +kernel) rfl, uw_in 1446 (by decide +kernel) rfl, uw_in 62 (by decide +kernel) rfl, uw_in 70 (by decide +kernel) rfl, uw_in 1447 (by decide +kernel) rfl, ⟨by decide +kernel, by decide +kernel, by decide +kernel⟩⟩
theorem cv_RX5_231 : CV RX5 231 yX5_wishes cX5_wishes 4 (some .int) 1 := ⟨uw_in 1448 (by decide +kernel) rfl, uw_in 1450 (by decide +kernel) rfl, uw_in 63 (by decide +kernel) rfl, uw_in 70 (by decide +kernel) rfl, uw_in 1451 (by decide +kernel) rfl, ⟨by decide +kernel, by decide +kernel, by decide +kernel⟩⟩
theorem fp_RX5_235 : FP RX5 235 5 4 .boolean := ⟨RX5, TX5, 19, tyX5, rfl, by decide, uws_X5, uw_in 1099 (by decide +kernel) rfl, tyX5_ok, nmX5, rfl, by decide +kernel⟩
theorem fl_RX5_16 : FL RX5 16 5 2 := ⟨RX5, TX5, 19, rfl, by decide, uws_X5, uw_in 1097 (by decide +kernel) rfl⟩
theorem fl_RX5_235 : FL RX5 235 5 4 := ⟨RX5, TX5, 19, rfl, by decide, uws_X5, uw_in 1099 (by decide +kernel) rfl⟩
theorem cv_RL_7 : CV RL 7 yX4_country cX4_country 2 (some .int) 1 := ⟨uw_in 411 (by decide +kernel) rfl, uw_in 412 (by decide +kernel) rfl, uw_in 413 (by decide +kernel) rfl, uw_in 65 (by decide +kernel) rfl, uw_in 414 (by decide +kernel) rfl, ⟨by decide +kernel, by decide +kernel, by decide +kernel⟩⟩
theorem cv_RL_17 : CV RL 17 yX4_border cX4_border 3 (some .int) 2 := ⟨uw_in 558 (by decide +kernel) rfl, uw_in 559 (by decide +kernel) rfl, uw_in 560 (by decide +kernel) rfl, uw_in 65 (by decide +kernel) rfl, uw_in 561 (by decide +kernel) rfl, ⟨by decide +kernel, by decide +kernel, by decide +kernel⟩⟩
theorem cv_RL_23 : CV RL 23 yX4_erase cX4_erase 3 (some .int) 2 := ⟨uw_in 602 (by decide +kernel) rfl, uw_in 603 (by decide +kernel) rfl, uw_in 604 (by decide +kernel) rfl, uw_in 65 (by decide +kernel) rfl, uw_in 605 (by decide +kernel) rfl, ⟨by decide +kernel, by decide +kernel, by decide +kernel⟩⟩
theorem cv_RL_26 : CV RL 26 yX4_hasBorder cX4_hasBorder 3 (some .boolean) 2 := ⟨uw_in 617 (by decide +kernel) rfl, uw_in 618 (by decide +kernel) rfl, uw_in 619 (by decide +kernel) rfl, uw_in 65 (by decide +kernel) rfl, uw_in 620 (by decide +kernel) rfl, ⟨by decide +kernel, by decide +kernel, by decide +kernel⟩⟩
theorem cv_RL_30 : CV RL 30 yX4_countryOf cX4_countryOf 3 (some .int) 2 := ⟨uw_in 625 (by decide +kernel) rfl, uw_in 626 (by decide +kernel) rfl, uw_in 627 (by decide +kernel) rfl, uw_in 65 (by decide +kernel) rfl, uw_in 628 (by decide +kernel) rfl, ⟨by decide +kernel, by decide +kernel, by decide +kernel⟩⟩
theorem cv_RL_33 : CV RL 33 yX4_hues cX4_hues 3 (some .int) 1 := ⟨uw_in 639 (by decide +kernel) rfl, uw_in 640 (by decide +kernel) rfl, uw_in 641 (by decide +kernel) rfl, uw_in 65 (by decide +kernel) rfl, uw_in 642 (by decide +kernel) rfl, ⟨by decide +kernel, by decide +kernel, by decide +kernel⟩⟩
theorem cv_RL_36 : CV RL 36 yX4_pots cX4_pots 3 (some .int) 2 := ⟨uw_in 654 (by decide +kernel) rfl, uw_in 655 (by decide +kernel) rfl, uw_in 656 (by decide +kernel) rfl, uw_in 65 (by decide +kernel) rfl, uw_in 657 (by decide +kernel) rfl, ⟨by decide +kernel, by decide +kernel, by decide +kernel⟩⟩
theorem cv_RL_39 : CV RL 39 yX4_hueOf cX4_hueOf 3 (some .int) 2 := ⟨uw_in 680 (by decide +kernel) rfl, uw_in 681 (by decide +kernel) rfl, uw_in 682 (by decide +kernel) rfl, uw_in 65 (by decide +kernel) rfl, uw_in 683 (by decide +kernel) rfl, ⟨by decide +kernel, by decide +kernel, by decide +kernel⟩⟩
theorem cv_RL_42 : CV RL 42 yX4_paint cX4_paint 3 (some .int) 2 := ⟨uw_in 692 (by decide +kernel) rfl, uw_in 693 (by decide +kernel) rfl, uw_in 694 (by decide +kernel) rfl, uw_in 65 (by decide +kernel) rfl, uw_in 695 (by decide +kernel) rfl, ⟨by decide +kernel, by decide +kernel, by decide +kernel⟩⟩
theorem cv_RL_45 : CV RL 45 yX4_bars cX4_bars 3 (some .int) 2 := ⟨uw_in 704 (by decide +kernel) rfl, uw_in 705 (by decide +kernel) rfl, uw_in 706 (by decide +kernel) rfl, uw_in 65 (by decide +kernel) rfl, uw_in 707 (by decide +kernel) rfl, ⟨by decide +kernel, by decide +kernel, by decide +kernel⟩⟩
theorem cv_RL_48 : CV RL 48 yX4_back cX4_back 1 (some .int) 0 := ⟨uw_in 711 (by decide +kernel) rfl, uw_in 712 (by decide +kernel) rfl, uw_in 713 (by decide +kernel) rfl, uw_in 65 (by decide +kernel) rfl, uw_in 714 (by decide +kernel) rfl, ⟨by decide +kernel, by decide +kernel, by decide +kernel⟩⟩
theorem cv_RL_52 : CV RL 52 yX4_step cX4_step 2 (some .int) 1 := ⟨uw_in 728 (by decide +kernel) rfl, uw_in 729 (by decide +kernel) rfl, uw_in 730 (by decide +kernel) rfl, uw_in 65 (by decide +kernel) rfl, uw_in 731 (by decide +kernel) rfl, ⟨by decide +kernel, by decide +kernel, by decide +kernel⟩⟩
theorem cv_RL_57 : CV RL 57 yX4_stuck cX4_stuck 2 (some .int) 0 := ⟨uw_in 751 (by decide +kernel) rfl, uw_in 752 (by decide +kernel) rfl, uw_in 753 (by decide +kernel) rfl, uw_in 65 (by decide +kernel) rfl, uw_in 754 (by decide +kernel) rfl, ⟨by decide +kernel, by decide +kernel, by decide +kernel⟩⟩
theorem cv_RL_60 : CV RL 60 yX4_next cX4_next 2 (some .int) 0 := ⟨uw_in 767 (by decide +kernel) rfl, uw_in 768 (by decide +kernel) rfl, uw_in 769 (by decide +kernel) rfl, uw_in 65 (by decide +kernel) rfl, uw_in 770 (by decide +kernel) rfl, ⟨by decide +kernel, by decide +kernel, by decide +kernel⟩⟩
theorem cv_RL_63 : CV RL 63 yX4_gentle cX4_gentle 3 (some .int) 1 := ⟨uw_in 783 (by decide +kernel) rfl, uw_in 784 (by decide +kernel) rfl, uw_in 785 (by decide +kernel) rfl, uw_in 65 (by decide +kernel) rfl, uw_in 786 (by decide +kernel) rfl, ⟨by decide +kernel, by decide +kernel, by decide +kernel⟩⟩
theorem cv_RL_66 : CV RL 66 yX4_wish cX4_wish 5 (some .int) 3 := ⟨uw_in 799 (by decide +kernel) rfl, uw_in 800 (by decide +kernel) rfl, uw_in 801 (by decide +kernel) rfl, uw_in 65 (by decide +kernel) rfl, uw_in 802 (by decide +kernel) rfl, ⟨by decide +kernel, by decide +kernel, by decide +kernel⟩⟩
theorem cv_RL_70 : CV RL 70 yX4_waysFor cX4_waysFor 2 (some .int) 1 := ⟨uw_in 814 (by decide +kernel) rfl, uw_in 815 (by decide +kernel) rfl, uw_in 816 (by decide +kernel) rfl, uw_in 65 (by decide +kernel) rfl, uw_in 817 (by decide +kernel) rfl, ⟨by decide +kernel, by decide +kernel, by decide +kernel⟩⟩
theorem cv_RL_73 : CV RL 73 yX4_fewest cX4_fewest 2 (some .int) 0 := ⟨uw_in 828 (by decide +kernel) rfl, uw_in 829 (by decide +kernel) rfl, uw_in 830 (by decide +kernel) rfl, uw_in 65 (by decide +kernel) rfl, uw_in 831 (by decide +kernel) rfl, ⟨by decide +kernel, by decide +kernel, by decide +kernel⟩⟩
theorem cv_RL_76 : CV RL 76 yX4_line cX4_line 2 (some .int) 1 := ⟨uw_in 841 (by decide +kernel) rfl, uw_in 842 (by decide +kernel) rfl, uw_in 843 (by decide +kernel) rfl, uw_in 65 (by decide +kernel) rfl, uw_in 844 (by decide +kernel) rfl, ⟨by decide +kernel, by decide +kernel, by decide +kernel⟩⟩
theorem cv_RL_79 : CV RL 79 yX4_character cX4_character 2 (some .char) 1 := ⟨uw_in 862 (by decide +kernel) rfl, uw_in 863 (by decide +kernel) rfl, uw_in 864 (by decide +kernel) rfl, uw_in 65 (by decide +kernel) rfl, uw_in 865 (by decide +kernel) rfl, ⟨by decide +kernel, by decide +kernel, by decide +kernel⟩⟩
theorem cv_RL_83 : CV RL 83 yX4_append cX4_append 2 (some .int) 1 := ⟨uw_in 871 (by decide +kernel) rfl, uw_in 872 (by decide +kernel) rfl, uw_in 873 (by decide +kernel) rfl, uw_in 65 (by decide +kernel) rfl, uw_in 874 (by decide +kernel) rfl, ⟨by decide +kernel, by decide +kernel, by decide +kernel⟩⟩
theorem cv_RL_89 : CV RL 89 yX4_read cX4_read 2 (some .int) 0 := ⟨uw_in 898 (by decide +kernel) rfl, uw_in 899 (by decide +kernel) rfl, uw_in 900 (by decide +kernel) rfl, uw_in 65 (by decide +kernel) rfl, uw_in 901 (by decide +kernel) rfl, ⟨by decide +kernel, by decide +kernel, by decide +kernel⟩⟩
theorem cv_RL_92 : CV RL 92 yX4_refusal cX4_refusal 2 (some .int) 1 := ⟨uw_in 1004 (by decide +kernel) rfl, uw_in 1005 (by decide +kernel) rfl, uw_in 1006 (by decide +kernel) rfl, uw_in 65 (by decide +kernel) rfl, uw_in 1007 (by decide +kernel) rfl, ⟨by decide +kernel, by decide +kernel, by decide +kernel⟩⟩
theorem cv_RL_96 : CV RL 96 yX4_account cX4_account 2 (some .int) 1 := ⟨uw_in 1012 (by decide +kernel) rfl, uw_in 1013 (by decide +kernel) rfl, uw_in 1014 (by decide +kernel) rfl, uw_in 65 (by decide +kernel) rfl, uw_in 1015 (by decide +kernel) rfl, ⟨by decide +kernel, by decide +kernel, by decide +kernel⟩⟩
theorem cv_RL_99 : CV RL 99 yX4_meanSize cX4_meanSize 2 (some .double) 0 := ⟨uw_in 1050 (by decide +kernel) rfl, uw_in 1051 (by decide +kernel) rfl, uw_in 1052 (by decide +kernel) rfl, uw_in 65 (by decide +kernel) rfl, uw_in 1053 (by decide +kernel) rfl, ⟨by decide +kernel, by decide +kernel, by decide +kernel⟩⟩
theorem cv_RL_105 : CV RL 105 yX4_painted cX4_painted 1 (some .float) 0 := ⟨uw_in 1064 (by decide +kernel) rfl, uw_in 1065 (by decide +kernel) rfl, uw_in 1066 (by decide +kernel) rfl, uw_in 65 (by decide +kernel) rfl, uw_in 1067 (by decide +kernel) rfl, ⟨by decide +kernel, by decide +kernel, by decide +kernel⟩⟩
theorem cv_RL_109 : CV RL 109 yX4_undo cX4_undo 1 (some .int) 0 := ⟨uw_in 1072 (by decide +kernel) rfl, uw_in 1073 (by decide +kernel) rfl, uw_in 1074 (by decide +kernel) rfl, uw_in 65 (by decide +kernel) rfl, uw_in 1075 (by decide +kernel) rfl, ⟨by decide +kernel, by decide +kernel, by decide +kernel⟩⟩
theorem cv_RL_112 : CV RL 112 yX4_restore cX4_restore 1 (some .int) 0 := ⟨uw_in 1084 (by decide +kernel) rfl, uw_in 1085 (by decide +kernel) rfl, uw_in 1086 (by decide +kernel) rfl, uw_in 65 (by decide +kernel) rfl, uw_in 1087 (by decide +kernel) rfl, ⟨by decide +kernel, by decide +kernel, by decide +kernel⟩⟩
