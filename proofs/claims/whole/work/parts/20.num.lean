/-! PURE ROWS: numbers, bits, counting, loops -/
def iM : Int32 := -1
theorem iM_def : (-1 : Int32) = iM := rfl
theorem i_0 : (0 : Int32) = nI 0 := rfl
theorem i_1 : (1 : Int32) = nI 1 := rfl
theorem i_2 : (2 : Int32) = nI 2 := rfl
theorem i_3 : (3 : Int32) = nI 3 := rfl
theorem i_4 : (4 : Int32) = nI 4 := rfl
theorem i_5 : (5 : Int32) = nI 5 := rfl
theorem i_6 : (6 : Int32) = nI 6 := rfl
theorem i_7 : (7 : Int32) = nI 7 := rfl
theorem i_8 : (8 : Int32) = nI 8 := rfl
theorem i_9 : (9 : Int32) = nI 9 := rfl
theorem i_10 : (10 : Int32) = nI 10 := rfl
theorem i_12 : (12 : Int32) = nI 12 := rfl
theorem i_17 : (17 : Int32) = nI 17 := rfl
theorem i_29 : (29 : Int32) = nI 29 := rfl
theorem i_31 : (31 : Int32) = nI 31 := rfl
theorem i_33 : (33 : Int32) = nI 33 := rfl
theorem i_36 : (36 : Int32) = nI 36 := rfl
theorem i_37 : (37 : Int32) = nI 37 := rfl
theorem i_40 : (40 : Int32) = nI 40 := rfl
theorem i_41 : (41 : Int32) = nI 41 := rfl
theorem i_42 : (42 : Int32) = nI 42 := rfl
theorem i_43 : (43 : Int32) = nI 43 := rfl
theorem i_44 : (44 : Int32) = nI 44 := rfl
theorem i_45 : (45 : Int32) = nI 45 := rfl
theorem i_47 : (47 : Int32) = nI 47 := rfl
theorem i_48 : (48 : Int32) = nI 48 := rfl
theorem i_50 : (50 : Int32) = nI 50 := rfl
theorem i_53 : (53 : Int32) = nI 53 := rfl
theorem i_55 : (55 : Int32) = nI 55 := rfl
theorem i_56 : (56 : Int32) = nI 56 := rfl
theorem i_57 : (57 : Int32) = nI 57 := rfl
theorem i_58 : (58 : Int32) = nI 58 := rfl
theorem i_59 : (59 : Int32) = nI 59 := rfl
theorem i_60 : (60 : Int32) = nI 60 := rfl
theorem i_61 : (61 : Int32) = nI 61 := rfl
theorem i_98 : (98 : Int32) = nI 98 := rfl
theorem i_99 : (99 : Int32) = nI 99 := rfl
theorem i_100 : (100 : Int32) = nI 100 := rfl
theorem i_102 : (102 : Int32) = nI 102 := rfl
theorem i_104 : (104 : Int32) = nI 104 := rfl
theorem i_106 : (106 : Int32) = nI 106 := rfl
theorem i_110 : (110 : Int32) = nI 110 := rfl
theorem i_112 : (112 : Int32) = nI 112 := rfl
theorem i_119 : (119 : Int32) = nI 119 := rfl
theorem i_120 : (120 : Int32) = nI 120 := rfl
theorem i_128 : (128 : Int32) = nI 128 := rfl
theorem i_392 : (392 : Int32) = nI 392 := rfl
theorem i_448 : (448 : Int32) = nI 448 := rfl
theorem iM_int : iM.toInt = -1 := by decide +kernel
theorem iM_le {a : Nat} (h : a < 2 ^ 31) : (iM ≤ nI a) ↔ True := iff_true_intro (by
  rw [Int32.le_iff_toInt_le, iM_int, nI_toInt h]
  omega)
theorem iM_lt {a : Nat} (h : a < 2 ^ 31) : (iM < nI a) ↔ True := iff_true_intro (by
  rw [Int32.lt_iff_toInt_lt, iM_int, nI_toInt h]
  omega)
theorem iM_nle {a : Nat} (h : a < 2 ^ 31) : (nI a ≤ iM) ↔ False := iff_false_intro (by
  rw [Int32.le_iff_toInt_le, iM_int, nI_toInt h]
  omega)
theorem iM_nlt {a : Nat} (h : a < 2 ^ 31) : (nI a < iM) ↔ False := iff_false_intro (by
  rw [Int32.lt_iff_toInt_lt, iM_int, nI_toInt h]
  omega)
theorem iM_ne {a : Nat} (h : a < 2 ^ 31) : (nI a = iM) ↔ False := iff_false_intro (by
  intro q
  have := congrArg Int32.toInt q
  rw [iM_int, nI_toInt h] at this
  omega)
theorem iM_ne' {a : Nat} (h : a < 2 ^ 31) : (iM = nI a) ↔ False := iff_false_intro (fun q => (iM_ne h).mp q.symm)
theorem iM_1 : iM + nI 1 = nI 0 := by decide +kernel
/-! booleans as ints -/
def b2 (b : Bool) : Int32 := nI b.toNat
theorem b2_t : b2 true = nI 1 := rfl
theorem b2_f : b2 false = nI 0 := rfl
theorem b2_eq0 (b : Bool) : (b2 b = nI 0) = (b = false) := by cases b <;> decide +kernel
theorem b2_eq1 (b : Bool) : (b2 b = nI 1) = (b = true) := by cases b <;> decide +kernel
theorem b2_zok (b : Bool) : zok (b2 b) = true := by cases b <;> decide +kernel
theorem asr_zok {α : Type} {b : Bool} {x : Option α} : asr (zok (b2 b)) x = x := asr_t (b2_zok b)
theorem asr_inb {α : Type} {k n : Nat} {x : Option α} (h : k < n) (hn : n < 2 ^ 31) : asr (inb (nI k) n) x = x := asr_t (inb_nI h hn)
theorem nz_nI {α : Type} {k : Nat} {x : Option α} (h0 : 0 < k) (h : k < 2 ^ 31) : asr (nz (nI k)) x = x := asr_t (decide_eq_true (nI_ne0 h0 h))
theorem bd_some {α β : Type} (a : α) (f : α → Option β) : bd (some a) f = f a := rfl
theorem bw_some {α β : Type} (a : α) (V : VT) (f : α → VT → Option β) : bw (some (a, V)) f = f a V := rfl
theorem bx_inl {α β : Type} (a : α) (V : VT) (f : α → VT → Option ((β ⊕ String) × VT)) : bx (some (.inl a, V)) f = f a V := rfl
theorem bx_inr {α β : Type} (E : String) (V : VT) (f : α → VT → Option ((β ⊕ String) × VT)) : bx (some (.inr E, V)) f = some (.inr E, V) := rfl
theorem bh_inl {α β : Type} (a : α) (V : VT) (f : α → VT → Option β) (g : String → VT → Option β) : bh (some (.inl a, V)) f g = f a V := rfl
theorem bh_inr {α β : Type} (E : String) (V : VT) (f : α → VT → Option β) (g : String → VT → Option β) : bh (some (.inr E, V)) f g = g E V := rfl
/-! cells -/
theorem up2_at (V : VT) (k j : Nat) (x : Int32) : up2 V k j x k = upd (V k) j x := up2_k V k j x
theorem up2_ne {V : VT} {k a : Nat} {j : Nat} {x : Int32} (h : a ≠ k) : up2 V k j x a = V a := up2_o V j x h
theorem upd_eq (f : Nat → Int32) (k : Nat) (x : Int32) : upd f k x k = x := pk_us
theorem upd_ne {f : Nat → Int32} {k j : Nat} {x : Int32} (h : j ≠ k) : upd f k x j = f j := pk_un h
theorem upd_if (f : Nat → Int32) (k j : Nat) (x : Int32) : upd f k x j = if j = k then x else f j := by
  by_cases h : j = k
  · rw [if_pos h, h, upd_eq]
  · rw [if_neg h, upd_ne h]
theorem up2_if (V : VT) (k j : Nat) (x : Int32) (a i : Nat) : up2 V k j x a i = if a = k ∧ i = j then x else V a i := by
  by_cases h : a = k
  · subst h
    rw [up2_at, upd_if]
    by_cases h2 : i = j
    · rw [if_pos h2, if_pos ⟨rfl, h2⟩]
    · rw [if_neg h2, if_neg (fun q => h2 q.2)]
  · rw [up2_ne h, if_neg (fun q => h q.1)]
/-! bits -/
theorem s_31 : ∀ n, n < 31 → ((nI n &&& nI 31).toBitVec.smod 32).toNat = n := by decide +kernel
theorem bt_nI {m i : Nat} (hm : m < 2 ^ 31) (hi : i < 31) : (nI m >>> (nI i &&& nI 31)) &&& nI 1 = b2 (m.testBit i) := by
  rw [pk_shrN hm _ i (s_31 i hi)]
  have h1 : m / 2 ^ i ≤ m := Nat.div_le_self _ _
  rw [pk_andN (k := 1) (by omega) (by decide +kernel), Nat.testBit_eq_decide_div_mod_eq]
  have h2 : m / 2 ^ i % 2 ^ 1 = 0 ∨ m / 2 ^ i % 2 ^ 1 = 1 := by omega
  rcases h2 with h2 | h2
  · rw [h2]; rfl
  · rw [h2]; rfl
theorem nI_and (a b : Nat) : nI a &&& nI b = nI (a &&& b) := by
  apply Int32.toBitVec_inj.1
  show BitVec.ofNat 32 a &&& BitVec.ofNat 32 b = BitVec.ofNat 32 (a &&& b)
  apply BitVec.eq_of_getLsbD_eq
  intro i hi
  simp [hi]
theorem nI_or (a b : Nat) : nI a ||| nI b = nI (a ||| b) := by
  apply Int32.toBitVec_inj.1
  show BitVec.ofNat 32 a ||| BitVec.ofNat 32 b = BitVec.ofNat 32 (a ||| b)
  apply BitVec.eq_of_getLsbD_eq
  intro i hi
  simp [hi]
theorem nI_xor (a b : Nat) : nI a ^^^ nI b = nI (a ^^^ b) := by
  apply Int32.toBitVec_inj.1
  show BitVec.ofNat 32 a ^^^ BitVec.ofNat 32 b = BitVec.ofNat 32 (a ^^^ b)
  apply BitVec.eq_of_getLsbD_eq
  intro i hi
  simp [hi]
theorem iM_nI : iM = nI 4294967295 := by decide +kernel
theorem shl_nI {i : Nat} (hi : i < 31) : nI 1 <<< (nI i &&& nI 31) = nI (2 ^ i) := by
  have h : (1 : Nat) * 2 ^ i < 2 ^ 32 := by
    rw [Nat.one_mul]
    exact Nat.pow_lt_pow_right (by omega) (by omega)
  rw [pk_shlN (n := 1) _ i (s_31 i hi) h, Nat.one_mul]
theorem shr_nI {m i : Nat} (hm : m < 2 ^ 31) (hi : i < 31) : nI m >>> (nI i &&& nI 31) = nI (m / 2 ^ i) := pk_shrN hm _ i (s_31 i hi)
theorem set_nI {m i : Nat} (hi : i < 31) : nI m ||| (nI 1 <<< (nI i &&& nI 31)) = nI (m ||| 2 ^ i) := by rw [shl_nI hi, nI_or]
def bnot (m : Nat) : Nat := m ^^^ 4294967295
theorem not_nI (m : Nat) : nI m ^^^ iM = nI (bnot m) := by rw [iM_nI, nI_xor]; rfl
theorem bnot_bit (m : Nat) {i : Nat} (hi : i < 32) : (bnot m).testBit i = !(m.testBit i) := by
  unfold bnot
  rw [Nat.testBit_xor, show (4294967295 : Nat) = 2 ^ 32 - 1 from rfl, Nat.testBit_two_pow_sub_one]
  simp [hi]
theorem clr_nI {m i : Nat} (hi : i < 31) : nI m &&& ((nI 1 <<< (nI i &&& nI 31)) ^^^ iM) = nI (m &&& bnot (2 ^ i)) := by rw [shl_nI hi, not_nI, nI_and]
theorem p2_bit (i j : Nat) : (2 ^ i).testBit j = decide (i = j) := Nat.testBit_two_pow
theorem and_lt {a b n : Nat} (h : a < 2 ^ n) : a &&& b < 2 ^ n := Nat.lt_of_le_of_lt Nat.and_le_left h
theorem or_lt {a b n : Nat} (h : a < 2 ^ n) (h2 : b < 2 ^ n) : a ||| b < 2 ^ n := Nat.or_lt_two_pow h h2
theorem bit_lt {m n : Nat} (h : ∀ i, n ≤ i → m.testBit i = false) : m < 2 ^ n := Nat.lt_pow_two_of_testBit m h
theorem bit_ge {m n i : Nat} (h : m < 2 ^ n) (hi : n ≤ i) : m.testBit i = false := Nat.testBit_lt_two_pow (Nat.lt_of_lt_of_le h (Nat.pow_le_pow_right (by omega) hi))
theorem bit_ext {a b : Nat} (h : ∀ i, a.testBit i = b.testBit i) : a = b := Nat.eq_of_testBit_eq h
/-! counting -/
def cnt (p : Nat → Bool) : Nat → Nat
  | 0 => 0
  | k + 1 => cnt p k + (p k).toNat
def fnd (p : Nat → Bool) : Nat → Option Nat
  | 0 => none
  | k + 1 => match fnd p k with
    | some i => some i
    | none => if p k = true then some k else none
def io : Option Nat → Int32
  | none => iM
  | some i => nI i
def mk (p : Nat → Bool) : Nat → Nat
  | 0 => 0
  | k + 1 => mk p k ||| (if p k = true then 2 ^ k else 0)
def smI (f : Nat → Int32) : Nat → Int32
  | 0 => nI 0
  | k + 1 => smI f k + f k
theorem cnt_s (p : Nat → Bool) (k : Nat) : cnt p (k + 1) = cnt p k + (p k).toNat := rfl
theorem cnt_le (p : Nat → Bool) : ∀ k, cnt p k ≤ k
  | 0 => Nat.le_refl 0
  | k + 1 => by
    have := cnt_le p k
    rw [cnt_s]
    cases p k <;> simp <;> omega
theorem cnt_congr {p q : Nat → Bool} : ∀ {n : Nat}, (∀ i, i < n → p i = q i) → cnt p n = cnt q n
  | 0, _ => rfl
  | n + 1, h => by rw [cnt_s, cnt_s, cnt_congr (fun i hi => h i (by omega)), h n (by omega)]
theorem cnt_mono {p q : Nat → Bool} : ∀ {n : Nat}, (∀ i, i < n → p i = true → q i = true) → cnt p n ≤ cnt q n
  | 0, _ => Nat.le_refl 0
  | n + 1, h => by
    have h1 := cnt_mono (p := p) (q := q) (n := n) (fun i hi => h i (by omega))
    have h2 := h n (by omega)
    rw [cnt_s, cnt_s]
    cases hp : p n
    · simp; omega
    · rw [h2 hp]; omega
theorem cnt_0 {p : Nat → Bool} : ∀ {n : Nat}, cnt p n = 0 ↔ ∀ i, i < n → p i = false
  | 0 => ⟨fun _ i h => by omega, fun _ => rfl⟩
  | n + 1 => by
    rw [cnt_s]
    constructor
    · intro h i hi
      have h1 : cnt p n = 0 := by omega
      have h2 : (p n).toNat = 0 := by omega
      rcases Nat.lt_or_ge i n with q | q
      · exact cnt_0.mp h1 i q
      · have : i = n := by omega
        subst this
        cases hp : p i
        · rfl
        · rw [hp] at h2; cases h2
    · intro h
      rw [cnt_0.mpr (fun i hi => h i (by omega)), h n (by omega)]
      rfl
theorem cnt_split (p : Nat → Bool) (a : Nat) : ∀ b, cnt p (a + b) = cnt p a + cnt (fun i => p (a + i)) b
  | 0 => rfl
  | b + 1 => by
    rw [← Nat.add_assoc, cnt_s, cnt_s, cnt_split p a b]
    omega
/-- one place changes -/
theorem cnt_upd {p q : Nat → Bool} {n c : Nat} (hc : c < n) (h : ∀ i, i < n → i ≠ c → p i = q i) : cnt p n + (q c).toNat = cnt q n + (p c).toNat := by
  induction n with
  | zero => omega
  | succ n ih =>
    rw [cnt_s, cnt_s]
    rcases Nat.lt_or_ge c n with g | g
    · have := ih g (fun i hi hn => h i (by omega) hn)
      rw [h n (by omega) (by omega)]
      omega
    · have e : c = n := by omega
      subst e
      rw [cnt_congr (p := p) (q := q) (fun i hi => h i (by omega) (by omega))]
      omega
theorem fnd_s (p : Nat → Bool) (k : Nat) : fnd p (k + 1) = match fnd p k with | some i => some i | none => if p k = true then some k else none := rfl
theorem fnd_none {p : Nat → Bool} : ∀ {n : Nat}, fnd p n = none ↔ ∀ i, i < n → p i = false
  | 0 => ⟨fun _ i h => by omega, fun _ => rfl⟩
  | n + 1 => by
    rw [fnd_s]
    constructor
    · intro h i hi
      cases hf : fnd p n with
      | some j => rw [hf] at h; cases h
      | none =>
        rw [hf] at h
        rcases Nat.lt_or_ge i n with q | q
        · exact fnd_none.mp hf i q
        · have : i = n := by omega
          subst this
          cases hp : p i
          · rfl
          · simp [hp] at h
    · intro h
      rw [fnd_none.mpr (fun i hi => h i (by omega))]
      simp [h n (by omega)]
theorem fnd_some {p : Nat → Bool} {k : Nat} : ∀ {n : Nat}, fnd p n = some k ↔ k < n ∧ p k = true ∧ ∀ i, i < k → p i = false
  | 0 => ⟨(fun h => by cases h), (fun h => by omega)⟩
  | n + 1 => by
    rw [fnd_s]
    constructor
    · intro h
      cases hf : fnd p n with
      | some j =>
        rw [hf] at h
        cases h
        obtain ⟨a, b, c⟩ := fnd_some.mp hf
        exact ⟨by omega, b, c⟩
      | none =>
        rw [hf] at h
        by_cases hp : p n = true
        · simp only [hp, if_true] at h
          cases h
          exact ⟨by omega, hp, fun i hi => fnd_none.mp hf i hi⟩
        · simp [hp] at h
    · rintro ⟨a, b, c⟩
      rcases Nat.lt_or_ge k n with q | q
      · rw [fnd_some.mpr ⟨q, b, c⟩]
      · have : k = n := by omega
        subst this
        rw [fnd_none.mpr c]
        simp [b]
theorem fnd_stop {p : Nat → Bool} {k n : Nat} (hk : k < n) (h0 : fnd p k = none) (hp : p k = true) : fnd p n = some k := fnd_some.mpr ⟨hk, hp, fnd_none.mp h0⟩
theorem fnd_go {p : Nat → Bool} {k : Nat} (h0 : fnd p k = none) (hp : p k = false) : fnd p (k + 1) = none := by rw [fnd_s, h0]; simp [hp]
theorem fnd_congr {p q : Nat → Bool} : ∀ {n : Nat}, (∀ i, i < n → p i = q i) → fnd p n = fnd q n
  | 0, _ => rfl
  | n + 1, h => by rw [fnd_s, fnd_s, fnd_congr (fun i hi => h i (by omega)), h n (by omega)]
theorem fnd_lt {p : Nat → Bool} {n k : Nat} (h : fnd p n = some k) : k < n := (fnd_some.mp h).1
theorem fnd_is {p : Nat → Bool} {n k : Nat} (h : fnd p n = some k) : p k = true := (fnd_some.mp h).2.1
theorem io_m {o : Option Nat} {n : Nat} (hn : n < 2 ^ 31) (h : ∀ k, o = some k → k < n) : (io o = iM) = (o = none) := by
  cases o with
  | none => simp [io]
  | some k =>
    have := h k rfl
    have h1 : ¬ nI k = iM := fun q => (iM_ne (by omega)).mp q
    simp [io, h1]
theorem io_lt {o : Option Nat} {n : Nat} (hn : n < 2 ^ 31) (h : ∀ k, o = some k → k < n) : (io o < nI 0) = (o = none) := by
  cases o with
  | none => simp [io]; exact (iM_lt (by omega)).mpr trivial
  | some k =>
    have := h k rfl
    have h1 : ¬ nI k < nI 0 := by rw [nI_ltI (by omega) (by omega)]; omega
    simp [io, h1]
theorem io_le {o : Option Nat} {n : Nat} (hn : n < 2 ^ 31) (h : ∀ k, o = some k → k < n) : (nI 0 ≤ io o) = (o ≠ none) := by
  cases o with
  | none =>
    have h1 : ¬ nI 0 ≤ iM := fun q => (iM_nle (by omega)).mp q
    simp [io, h1]
  | some k =>
    have := h k rfl
    have h1 : nI 0 ≤ nI k := by rw [nI_leI (by omega) (by omega)]; omega
    simp [io, h1]
theorem mk_s (p : Nat → Bool) (k : Nat) : mk p (k + 1) = mk p k ||| (if p k = true then 2 ^ k else 0) := rfl
theorem mk_bit (p : Nat → Bool) (i : Nat) : ∀ k, (mk p k).testBit i = (decide (i < k) && p i)
  | 0 => by simp [mk]
  | k + 1 => by
    rw [mk_s, Nat.testBit_or, mk_bit p i k]
    by_cases hp : p k = true
    · rw [if_pos hp, p2_bit]
      by_cases h : k = i
      · subst h; simp [hp]
      · have e : decide (i < k + 1) = decide (i < k) := by apply decide_eq_decide.mpr; omega
        rw [e]; simp [h]
    · rw [if_neg hp]
      by_cases h : k = i
      · subst h; simp [hp]
      · have e : decide (i < k + 1) = decide (i < k) := by apply decide_eq_decide.mpr; omega
        rw [e]; simp
theorem mk_lt (p : Nat → Bool) (k : Nat) : mk p k < 2 ^ k := bit_lt (fun i hi => by rw [mk_bit, decide_eq_false (by omega)]; rfl)
theorem mk_congr {p q : Nat → Bool} {n : Nat} (h : ∀ i, i < n → p i = q i) : mk p n = mk q n := bit_ext (fun i => by
  rw [mk_bit, mk_bit]
  by_cases hi : i < n
  · rw [h i hi]
  · rw [decide_eq_false hi]; rfl)
/-- the bits of m, put together again -/
theorem mk_of {m n : Nat} (h : m < 2 ^ n) : mk (m.testBit) n = m := bit_ext (fun i => by
  rw [mk_bit]
  by_cases hi : i < n
  · rw [decide_eq_true hi]; rfl
  · rw [bit_ge h (by omega), decide_eq_false hi]; rfl)
def pc (m : Nat) : Nat := cnt m.testBit 7
theorem pc_mk (p : Nat → Bool) {k : Nat} (hk : k ≤ 7) : pc (mk p k) = cnt p k := by
  obtain ⟨d, hd⟩ : ∃ d, 7 = k + d := ⟨7 - k, by omega⟩
  unfold pc
  have e1 : cnt (mk p k).testBit k = cnt p k := cnt_congr (fun i hi => by rw [mk_bit, decide_eq_true hi]; rfl)
  have e2 : cnt (fun i => (mk p k).testBit (k + i)) d = 0 := cnt_0.mpr (fun i _ => by rw [mk_bit, decide_eq_false (by omega)]; rfl)
  rw [hd, cnt_split, e1, e2, Nat.add_zero]
theorem bc_all : ∀ m, m < 128 → d_J6_bitCount_0f7a4 (nI m) (fun _ _ => 0) = some (nI (pc m)) := by decide +kernel
theorem bc_nI {m : Nat} (V : VT) (h : m < 128) : d_J6_bitCount_0f7a4 (nI m) V = some (nI (pc m)) := bc_all m h
theorem bc_mk (p : Nat → Bool) {k : Nat} (V : VT) (hk : k ≤ 7) : d_J6_bitCount_0f7a4 (nI (mk p k)) V = some (nI (cnt p k)) := by
  rw [bc_nI V (Nat.lt_of_lt_of_le (mk_lt p k) (Nat.pow_le_pow_right (n := 2) (by omega) hk)), pc_mk p hk]
/-! loops -/
theorem lo0W_mu {α : Type} {b : (VT → Option α) → VT → Option α} {o : Option α} (P : Nat → VT → Prop) (hs : ∀ (K : VT → Option α) (m : Nat) (V : VT), P m V → (∀ (m9 : Nat) (V9 : VT), m9 < m → P m9 V9 → K V9 = o) → b K V = o) : ∀ (fuel m : Nat) (V : VT), m < fuel → P m V → lo0W b fuel V = o := by
  intro fuel
  induction fuel with
  | zero => intro m V hm; omega
  | succ f ih => intro m V hm hp; exact hs _ m V hp (fun m9 V9 h9 hq => ih m9 V9 (by omega) hq)
theorem lo1_mu {α : Type} {b : (Int32 → Option α) → Int32 → Option α} {o : Option α} (P : Nat → Int32 → Prop) (hs : ∀ (K : Int32 → Option α) (m : Nat) (x0 : Int32) , P m x0 → (∀ (m9 : Nat) (y0 : Int32) , m9 < m → P m9 y0 → K y0 = o) → b K x0 = o) : ∀ (fuel m : Nat) (x0 : Int32) , m < fuel → P m x0 → lo1 b fuel x0 = o := by
  intro fuel
  induction fuel with
  | zero => intro m x0 hm; omega
  | succ f ih => intro m x0 hm hp; exact hs _ m x0 hp (fun m9 y0 h9 hq => ih m9 y0 (by omega) hq)
theorem lo1_inv {α : Type} {b : (Int32 → Option α) → Int32 → Option α} {o : Option α} (n : Nat) (P : Nat → Prop) (hs : ∀ (K : Int32 → Option α) (k : Nat) , k < n → P k  → (P (k + 1)  → K (nI (k + 1)) = o) → b K (nI k) = o) (he : ∀ (K : Int32 → Option α) , P n  → b K (nI n) = o) : ∀ (fuel : Nat), n < fuel → P 0  → lo1 b fuel (nI 0) = o := by
  have key : ∀ (m fuel k : Nat) , k + m = n → m < fuel → P k  → lo1 b fuel (nI k) = o := by
    intro m
    induction m with
    | zero =>
      intro fuel k  hk hf hp
      obtain ⟨f, rfl⟩ : ∃ f, fuel = f + 1 := ⟨fuel - 1, by omega⟩
      have hk : k = n := by omega
      subst hk
      exact he _  hp
    | succ m ih =>
      intro fuel k  hk hf hp
      obtain ⟨f, rfl⟩ : ∃ f, fuel = f + 1 := ⟨fuel - 1, by omega⟩
      exact hs _ k  (by omega) hp (fun  hq => ih f (k + 1)  (by omega) (by omega) hq)
  intro fuel hf  hp
  exact key n fuel 0  (by omega) hf hp
theorem lo1W_mu {α : Type} {b : (Int32 → VT → Option α) → Int32 → VT → Option α} {o : Option α} (P : Nat → Int32 → VT → Prop) (hs : ∀ (K : Int32 → VT → Option α) (m : Nat) (x0 : Int32) (V : VT), P m x0 V → (∀ (m9 : Nat) (y0 : Int32) (V9 : VT), m9 < m → P m9 y0 V9 → K y0 V9 = o) → b K x0 V = o) : ∀ (fuel m : Nat) (x0 : Int32) (V : VT), m < fuel → P m x0 V → lo1W b fuel x0 V = o := by
  intro fuel
  induction fuel with
  | zero => intro m x0 V hm; omega
  | succ f ih => intro m x0 V hm hp; exact hs _ m x0 V hp (fun m9 y0 V9 h9 hq => ih m9 y0 V9 (by omega) hq)
theorem lo1W_inv {α : Type} {b : (Int32 → VT → Option α) → Int32 → VT → Option α} {o : Option α} (n : Nat) (P : Nat → VT → Prop) (hs : ∀ (K : Int32 → VT → Option α) (k : Nat) (V : VT), k < n → P k V → (∀ (V9 : VT), P (k + 1) V9 → K (nI (k + 1)) V9 = o) → b K (nI k) V = o) (he : ∀ (K : Int32 → VT → Option α) (V : VT), P n V → b K (nI n) V = o) : ∀ (fuel : Nat), n < fuel → ∀ (V : VT), P 0 V → lo1W b fuel (nI 0) V = o := by
  have key : ∀ (m fuel k : Nat) (V : VT), k + m = n → m < fuel → P k V → lo1W b fuel (nI k) V = o := by
    intro m
    induction m with
    | zero =>
      intro fuel k V hk hf hp
      obtain ⟨f, rfl⟩ : ∃ f, fuel = f + 1 := ⟨fuel - 1, by omega⟩
      have hk : k = n := by omega
      subst hk
      exact he _ V hp
    | succ m ih =>
      intro fuel k V hk hf hp
      obtain ⟨f, rfl⟩ : ∃ f, fuel = f + 1 := ⟨fuel - 1, by omega⟩
      exact hs _ k V (by omega) hp (fun V9 hq => ih f (k + 1) V9 (by omega) (by omega) hq)
  intro fuel hf V hp
  exact key n fuel 0 V (by omega) hf hp
theorem lo2_mu {α : Type} {b : (Int32 → Int32 → Option α) → Int32 → Int32 → Option α} {o : Option α} (P : Nat → Int32 → Int32 → Prop) (hs : ∀ (K : Int32 → Int32 → Option α) (m : Nat) (x0 x1 : Int32) , P m x0 x1 → (∀ (m9 : Nat) (y0 y1 : Int32) , m9 < m → P m9 y0 y1 → K y0 y1 = o) → b K x0 x1 = o) : ∀ (fuel m : Nat) (x0 x1 : Int32) , m < fuel → P m x0 x1 → lo2 b fuel x0 x1 = o := by
  intro fuel
  induction fuel with
  | zero => intro m x0 x1 hm; omega
  | succ f ih => intro m x0 x1 hm hp; exact hs _ m x0 x1 hp (fun m9 y0 y1 h9 hq => ih m9 y0 y1 (by omega) hq)
theorem lo2_inv {α : Type} {b : (Int32 → Int32 → Option α) → Int32 → Int32 → Option α} {o : Option α} (n : Nat) (P : Nat → Int32 → Prop) (hs : ∀ (K : Int32 → Int32 → Option α) (k : Nat) (x0 : Int32) , k < n → P k x0 → (∀ (y0 : Int32) , P (k + 1) y0 → K y0 (nI (k + 1)) = o) → b K x0 (nI k) = o) (he : ∀ (K : Int32 → Int32 → Option α) (x0 : Int32) , P n x0 → b K x0 (nI n) = o) : ∀ (fuel : Nat), n < fuel → ∀ (x0 : Int32) , P 0 x0 → lo2 b fuel x0 (nI 0) = o := by
  have key : ∀ (m fuel k : Nat) (x0 : Int32) , k + m = n → m < fuel → P k x0 → lo2 b fuel x0 (nI k) = o := by
    intro m
    induction m with
    | zero =>
      intro fuel k x0 hk hf hp
      obtain ⟨f, rfl⟩ : ∃ f, fuel = f + 1 := ⟨fuel - 1, by omega⟩
      have hk : k = n := by omega
      subst hk
      exact he _ x0 hp
    | succ m ih =>
      intro fuel k x0 hk hf hp
      obtain ⟨f, rfl⟩ : ∃ f, fuel = f + 1 := ⟨fuel - 1, by omega⟩
      exact hs _ k x0 (by omega) hp (fun y0 hq => ih f (k + 1) y0 (by omega) (by omega) hq)
  intro fuel hf x0 hp
  exact key n fuel 0 x0 (by omega) hf hp
theorem lo2W_mu {α : Type} {b : (Int32 → Int32 → VT → Option α) → Int32 → Int32 → VT → Option α} {o : Option α} (P : Nat → Int32 → Int32 → VT → Prop) (hs : ∀ (K : Int32 → Int32 → VT → Option α) (m : Nat) (x0 x1 : Int32) (V : VT), P m x0 x1 V → (∀ (m9 : Nat) (y0 y1 : Int32) (V9 : VT), m9 < m → P m9 y0 y1 V9 → K y0 y1 V9 = o) → b K x0 x1 V = o) : ∀ (fuel m : Nat) (x0 x1 : Int32) (V : VT), m < fuel → P m x0 x1 V → lo2W b fuel x0 x1 V = o := by
  intro fuel
  induction fuel with
  | zero => intro m x0 x1 V hm; omega
  | succ f ih => intro m x0 x1 V hm hp; exact hs _ m x0 x1 V hp (fun m9 y0 y1 V9 h9 hq => ih m9 y0 y1 V9 (by omega) hq)
theorem lo2W_inv {α : Type} {b : (Int32 → Int32 → VT → Option α) → Int32 → Int32 → VT → Option α} {o : Option α} (n : Nat) (P : Nat → Int32 → VT → Prop) (hs : ∀ (K : Int32 → Int32 → VT → Option α) (k : Nat) (x0 : Int32) (V : VT), k < n → P k x0 V → (∀ (y0 : Int32) (V9 : VT), P (k + 1) y0 V9 → K y0 (nI (k + 1)) V9 = o) → b K x0 (nI k) V = o) (he : ∀ (K : Int32 → Int32 → VT → Option α) (x0 : Int32) (V : VT), P n x0 V → b K x0 (nI n) V = o) : ∀ (fuel : Nat), n < fuel → ∀ (x0 : Int32) (V : VT), P 0 x0 V → lo2W b fuel x0 (nI 0) V = o := by
  have key : ∀ (m fuel k : Nat) (x0 : Int32) (V : VT), k + m = n → m < fuel → P k x0 V → lo2W b fuel x0 (nI k) V = o := by
    intro m
    induction m with
    | zero =>
      intro fuel k x0 V hk hf hp
      obtain ⟨f, rfl⟩ : ∃ f, fuel = f + 1 := ⟨fuel - 1, by omega⟩
      have hk : k = n := by omega
      subst hk
      exact he _ x0 V hp
    | succ m ih =>
      intro fuel k x0 V hk hf hp
      obtain ⟨f, rfl⟩ : ∃ f, fuel = f + 1 := ⟨fuel - 1, by omega⟩
      exact hs _ k x0 V (by omega) hp (fun y0 V9 hq => ih f (k + 1) y0 V9 (by omega) (by omega) hq)
  intro fuel hf x0 V hp
  exact key n fuel 0 x0 V (by omega) hf hp
theorem lo3_mu {α : Type} {b : (Int32 → Int32 → Int32 → Option α) → Int32 → Int32 → Int32 → Option α} {o : Option α} (P : Nat → Int32 → Int32 → Int32 → Prop) (hs : ∀ (K : Int32 → Int32 → Int32 → Option α) (m : Nat) (x0 x1 x2 : Int32) , P m x0 x1 x2 → (∀ (m9 : Nat) (y0 y1 y2 : Int32) , m9 < m → P m9 y0 y1 y2 → K y0 y1 y2 = o) → b K x0 x1 x2 = o) : ∀ (fuel m : Nat) (x0 x1 x2 : Int32) , m < fuel → P m x0 x1 x2 → lo3 b fuel x0 x1 x2 = o := by
  intro fuel
  induction fuel with
  | zero => intro m x0 x1 x2 hm; omega
  | succ f ih => intro m x0 x1 x2 hm hp; exact hs _ m x0 x1 x2 hp (fun m9 y0 y1 y2 h9 hq => ih m9 y0 y1 y2 (by omega) hq)
theorem lo3_inv {α : Type} {b : (Int32 → Int32 → Int32 → Option α) → Int32 → Int32 → Int32 → Option α} {o : Option α} (n : Nat) (P : Nat → Int32 → Int32 → Prop) (hs : ∀ (K : Int32 → Int32 → Int32 → Option α) (k : Nat) (x0 x1 : Int32) , k < n → P k x0 x1 → (∀ (y0 y1 : Int32) , P (k + 1) y0 y1 → K y0 y1 (nI (k + 1)) = o) → b K x0 x1 (nI k) = o) (he : ∀ (K : Int32 → Int32 → Int32 → Option α) (x0 x1 : Int32) , P n x0 x1 → b K x0 x1 (nI n) = o) : ∀ (fuel : Nat), n < fuel → ∀ (x0 x1 : Int32) , P 0 x0 x1 → lo3 b fuel x0 x1 (nI 0) = o := by
  have key : ∀ (m fuel k : Nat) (x0 x1 : Int32) , k + m = n → m < fuel → P k x0 x1 → lo3 b fuel x0 x1 (nI k) = o := by
    intro m
    induction m with
    | zero =>
      intro fuel k x0 x1 hk hf hp
      obtain ⟨f, rfl⟩ : ∃ f, fuel = f + 1 := ⟨fuel - 1, by omega⟩
      have hk : k = n := by omega
      subst hk
      exact he _ x0 x1 hp
    | succ m ih =>
      intro fuel k x0 x1 hk hf hp
      obtain ⟨f, rfl⟩ : ∃ f, fuel = f + 1 := ⟨fuel - 1, by omega⟩
      exact hs _ k x0 x1 (by omega) hp (fun y0 y1 hq => ih f (k + 1) y0 y1 (by omega) (by omega) hq)
  intro fuel hf x0 x1 hp
  exact key n fuel 0 x0 x1 (by omega) hf hp
theorem lo3W_mu {α : Type} {b : (Int32 → Int32 → Int32 → VT → Option α) → Int32 → Int32 → Int32 → VT → Option α} {o : Option α} (P : Nat → Int32 → Int32 → Int32 → VT → Prop) (hs : ∀ (K : Int32 → Int32 → Int32 → VT → Option α) (m : Nat) (x0 x1 x2 : Int32) (V : VT), P m x0 x1 x2 V → (∀ (m9 : Nat) (y0 y1 y2 : Int32) (V9 : VT), m9 < m → P m9 y0 y1 y2 V9 → K y0 y1 y2 V9 = o) → b K x0 x1 x2 V = o) : ∀ (fuel m : Nat) (x0 x1 x2 : Int32) (V : VT), m < fuel → P m x0 x1 x2 V → lo3W b fuel x0 x1 x2 V = o := by
  intro fuel
  induction fuel with
  | zero => intro m x0 x1 x2 V hm; omega
  | succ f ih => intro m x0 x1 x2 V hm hp; exact hs _ m x0 x1 x2 V hp (fun m9 y0 y1 y2 V9 h9 hq => ih m9 y0 y1 y2 V9 (by omega) hq)
theorem lo3W_inv {α : Type} {b : (Int32 → Int32 → Int32 → VT → Option α) → Int32 → Int32 → Int32 → VT → Option α} {o : Option α} (n : Nat) (P : Nat → Int32 → Int32 → VT → Prop) (hs : ∀ (K : Int32 → Int32 → Int32 → VT → Option α) (k : Nat) (x0 x1 : Int32) (V : VT), k < n → P k x0 x1 V → (∀ (y0 y1 : Int32) (V9 : VT), P (k + 1) y0 y1 V9 → K y0 y1 (nI (k + 1)) V9 = o) → b K x0 x1 (nI k) V = o) (he : ∀ (K : Int32 → Int32 → Int32 → VT → Option α) (x0 x1 : Int32) (V : VT), P n x0 x1 V → b K x0 x1 (nI n) V = o) : ∀ (fuel : Nat), n < fuel → ∀ (x0 x1 : Int32) (V : VT), P 0 x0 x1 V → lo3W b fuel x0 x1 (nI 0) V = o := by
  have key : ∀ (m fuel k : Nat) (x0 x1 : Int32) (V : VT), k + m = n → m < fuel → P k x0 x1 V → lo3W b fuel x0 x1 (nI k) V = o := by
    intro m
    induction m with
    | zero =>
      intro fuel k x0 x1 V hk hf hp
      obtain ⟨f, rfl⟩ : ∃ f, fuel = f + 1 := ⟨fuel - 1, by omega⟩
      have hk : k = n := by omega
      subst hk
      exact he _ x0 x1 V hp
    | succ m ih =>
      intro fuel k x0 x1 V hk hf hp
      obtain ⟨f, rfl⟩ : ∃ f, fuel = f + 1 := ⟨fuel - 1, by omega⟩
      exact hs _ k x0 x1 V (by omega) hp (fun y0 y1 V9 hq => ih f (k + 1) y0 y1 V9 (by omega) (by omega) hq)
  intro fuel hf x0 x1 V hp
  exact key n fuel 0 x0 x1 V (by omega) hf hp
theorem lo4_mu {α : Type} {b : (Int32 → Int32 → Int32 → Int32 → Option α) → Int32 → Int32 → Int32 → Int32 → Option α} {o : Option α} (P : Nat → Int32 → Int32 → Int32 → Int32 → Prop) (hs : ∀ (K : Int32 → Int32 → Int32 → Int32 → Option α) (m : Nat) (x0 x1 x2 x3 : Int32) , P m x0 x1 x2 x3 → (∀ (m9 : Nat) (y0 y1 y2 y3 : Int32) , m9 < m → P m9 y0 y1 y2 y3 → K y0 y1 y2 y3 = o) → b K x0 x1 x2 x3 = o) : ∀ (fuel m : Nat) (x0 x1 x2 x3 : Int32) , m < fuel → P m x0 x1 x2 x3 → lo4 b fuel x0 x1 x2 x3 = o := by
  intro fuel
  induction fuel with
  | zero => intro m x0 x1 x2 x3 hm; omega
  | succ f ih => intro m x0 x1 x2 x3 hm hp; exact hs _ m x0 x1 x2 x3 hp (fun m9 y0 y1 y2 y3 h9 hq => ih m9 y0 y1 y2 y3 (by omega) hq)
theorem lo4_inv {α : Type} {b : (Int32 → Int32 → Int32 → Int32 → Option α) → Int32 → Int32 → Int32 → Int32 → Option α} {o : Option α} (n : Nat) (P : Nat → Int32 → Int32 → Int32 → Prop) (hs : ∀ (K : Int32 → Int32 → Int32 → Int32 → Option α) (k : Nat) (x0 x1 x2 : Int32) , k < n → P k x0 x1 x2 → (∀ (y0 y1 y2 : Int32) , P (k + 1) y0 y1 y2 → K y0 y1 y2 (nI (k + 1)) = o) → b K x0 x1 x2 (nI k) = o) (he : ∀ (K : Int32 → Int32 → Int32 → Int32 → Option α) (x0 x1 x2 : Int32) , P n x0 x1 x2 → b K x0 x1 x2 (nI n) = o) : ∀ (fuel : Nat), n < fuel → ∀ (x0 x1 x2 : Int32) , P 0 x0 x1 x2 → lo4 b fuel x0 x1 x2 (nI 0) = o := by
  have key : ∀ (m fuel k : Nat) (x0 x1 x2 : Int32) , k + m = n → m < fuel → P k x0 x1 x2 → lo4 b fuel x0 x1 x2 (nI k) = o := by
    intro m
    induction m with
    | zero =>
      intro fuel k x0 x1 x2 hk hf hp
      obtain ⟨f, rfl⟩ : ∃ f, fuel = f + 1 := ⟨fuel - 1, by omega⟩
      have hk : k = n := by omega
      subst hk
      exact he _ x0 x1 x2 hp
    | succ m ih =>
      intro fuel k x0 x1 x2 hk hf hp
      obtain ⟨f, rfl⟩ : ∃ f, fuel = f + 1 := ⟨fuel - 1, by omega⟩
      exact hs _ k x0 x1 x2 (by omega) hp (fun y0 y1 y2 hq => ih f (k + 1) y0 y1 y2 (by omega) (by omega) hq)
  intro fuel hf x0 x1 x2 hp
  exact key n fuel 0 x0 x1 x2 (by omega) hf hp
theorem lo4W_mu {α : Type} {b : (Int32 → Int32 → Int32 → Int32 → VT → Option α) → Int32 → Int32 → Int32 → Int32 → VT → Option α} {o : Option α} (P : Nat → Int32 → Int32 → Int32 → Int32 → VT → Prop) (hs : ∀ (K : Int32 → Int32 → Int32 → Int32 → VT → Option α) (m : Nat) (x0 x1 x2 x3 : Int32) (V : VT), P m x0 x1 x2 x3 V → (∀ (m9 : Nat) (y0 y1 y2 y3 : Int32) (V9 : VT), m9 < m → P m9 y0 y1 y2 y3 V9 → K y0 y1 y2 y3 V9 = o) → b K x0 x1 x2 x3 V = o) : ∀ (fuel m : Nat) (x0 x1 x2 x3 : Int32) (V : VT), m < fuel → P m x0 x1 x2 x3 V → lo4W b fuel x0 x1 x2 x3 V = o := by
  intro fuel
  induction fuel with
  | zero => intro m x0 x1 x2 x3 V hm; omega
  | succ f ih => intro m x0 x1 x2 x3 V hm hp; exact hs _ m x0 x1 x2 x3 V hp (fun m9 y0 y1 y2 y3 V9 h9 hq => ih m9 y0 y1 y2 y3 V9 (by omega) hq)
theorem lo4W_inv {α : Type} {b : (Int32 → Int32 → Int32 → Int32 → VT → Option α) → Int32 → Int32 → Int32 → Int32 → VT → Option α} {o : Option α} (n : Nat) (P : Nat → Int32 → Int32 → Int32 → VT → Prop) (hs : ∀ (K : Int32 → Int32 → Int32 → Int32 → VT → Option α) (k : Nat) (x0 x1 x2 : Int32) (V : VT), k < n → P k x0 x1 x2 V → (∀ (y0 y1 y2 : Int32) (V9 : VT), P (k + 1) y0 y1 y2 V9 → K y0 y1 y2 (nI (k + 1)) V9 = o) → b K x0 x1 x2 (nI k) V = o) (he : ∀ (K : Int32 → Int32 → Int32 → Int32 → VT → Option α) (x0 x1 x2 : Int32) (V : VT), P n x0 x1 x2 V → b K x0 x1 x2 (nI n) V = o) : ∀ (fuel : Nat), n < fuel → ∀ (x0 x1 x2 : Int32) (V : VT), P 0 x0 x1 x2 V → lo4W b fuel x0 x1 x2 (nI 0) V = o := by
  have key : ∀ (m fuel k : Nat) (x0 x1 x2 : Int32) (V : VT), k + m = n → m < fuel → P k x0 x1 x2 V → lo4W b fuel x0 x1 x2 (nI k) V = o := by
    intro m
    induction m with
    | zero =>
      intro fuel k x0 x1 x2 V hk hf hp
      obtain ⟨f, rfl⟩ : ∃ f, fuel = f + 1 := ⟨fuel - 1, by omega⟩
      have hk : k = n := by omega
      subst hk
      exact he _ x0 x1 x2 V hp
    | succ m ih =>
      intro fuel k x0 x1 x2 V hk hf hp
      obtain ⟨f, rfl⟩ : ∃ f, fuel = f + 1 := ⟨fuel - 1, by omega⟩
      exact hs _ k x0 x1 x2 V (by omega) hp (fun y0 y1 y2 V9 hq => ih f (k + 1) y0 y1 y2 V9 (by omega) (by omega) hq)
  intro fuel hf x0 x1 x2 V hp
  exact key n fuel 0 x0 x1 x2 V (by omega) hf hp
theorem lo5_mu {α : Type} {b : (Int32 → Int32 → Int32 → Int32 → Int32 → Option α) → Int32 → Int32 → Int32 → Int32 → Int32 → Option α} {o : Option α} (P : Nat → Int32 → Int32 → Int32 → Int32 → Int32 → Prop) (hs : ∀ (K : Int32 → Int32 → Int32 → Int32 → Int32 → Option α) (m : Nat) (x0 x1 x2 x3 x4 : Int32) , P m x0 x1 x2 x3 x4 → (∀ (m9 : Nat) (y0 y1 y2 y3 y4 : Int32) , m9 < m → P m9 y0 y1 y2 y3 y4 → K y0 y1 y2 y3 y4 = o) → b K x0 x1 x2 x3 x4 = o) : ∀ (fuel m : Nat) (x0 x1 x2 x3 x4 : Int32) , m < fuel → P m x0 x1 x2 x3 x4 → lo5 b fuel x0 x1 x2 x3 x4 = o := by
  intro fuel
  induction fuel with
  | zero => intro m x0 x1 x2 x3 x4 hm; omega
  | succ f ih => intro m x0 x1 x2 x3 x4 hm hp; exact hs _ m x0 x1 x2 x3 x4 hp (fun m9 y0 y1 y2 y3 y4 h9 hq => ih m9 y0 y1 y2 y3 y4 (by omega) hq)
theorem lo5_inv {α : Type} {b : (Int32 → Int32 → Int32 → Int32 → Int32 → Option α) → Int32 → Int32 → Int32 → Int32 → Int32 → Option α} {o : Option α} (n : Nat) (P : Nat → Int32 → Int32 → Int32 → Int32 → Prop) (hs : ∀ (K : Int32 → Int32 → Int32 → Int32 → Int32 → Option α) (k : Nat) (x0 x1 x2 x3 : Int32) , k < n → P k x0 x1 x2 x3 → (∀ (y0 y1 y2 y3 : Int32) , P (k + 1) y0 y1 y2 y3 → K y0 y1 y2 y3 (nI (k + 1)) = o) → b K x0 x1 x2 x3 (nI k) = o) (he : ∀ (K : Int32 → Int32 → Int32 → Int32 → Int32 → Option α) (x0 x1 x2 x3 : Int32) , P n x0 x1 x2 x3 → b K x0 x1 x2 x3 (nI n) = o) : ∀ (fuel : Nat), n < fuel → ∀ (x0 x1 x2 x3 : Int32) , P 0 x0 x1 x2 x3 → lo5 b fuel x0 x1 x2 x3 (nI 0) = o := by
  have key : ∀ (m fuel k : Nat) (x0 x1 x2 x3 : Int32) , k + m = n → m < fuel → P k x0 x1 x2 x3 → lo5 b fuel x0 x1 x2 x3 (nI k) = o := by
    intro m
    induction m with
    | zero =>
      intro fuel k x0 x1 x2 x3 hk hf hp
      obtain ⟨f, rfl⟩ : ∃ f, fuel = f + 1 := ⟨fuel - 1, by omega⟩
      have hk : k = n := by omega
      subst hk
      exact he _ x0 x1 x2 x3 hp
    | succ m ih =>
      intro fuel k x0 x1 x2 x3 hk hf hp
      obtain ⟨f, rfl⟩ : ∃ f, fuel = f + 1 := ⟨fuel - 1, by omega⟩
      exact hs _ k x0 x1 x2 x3 (by omega) hp (fun y0 y1 y2 y3 hq => ih f (k + 1) y0 y1 y2 y3 (by omega) (by omega) hq)
  intro fuel hf x0 x1 x2 x3 hp
  exact key n fuel 0 x0 x1 x2 x3 (by omega) hf hp
theorem lo5W_mu {α : Type} {b : (Int32 → Int32 → Int32 → Int32 → Int32 → VT → Option α) → Int32 → Int32 → Int32 → Int32 → Int32 → VT → Option α} {o : Option α} (P : Nat → Int32 → Int32 → Int32 → Int32 → Int32 → VT → Prop) (hs : ∀ (K : Int32 → Int32 → Int32 → Int32 → Int32 → VT → Option α) (m : Nat) (x0 x1 x2 x3 x4 : Int32) (V : VT), P m x0 x1 x2 x3 x4 V → (∀ (m9 : Nat) (y0 y1 y2 y3 y4 : Int32) (V9 : VT), m9 < m → P m9 y0 y1 y2 y3 y4 V9 → K y0 y1 y2 y3 y4 V9 = o) → b K x0 x1 x2 x3 x4 V = o) : ∀ (fuel m : Nat) (x0 x1 x2 x3 x4 : Int32) (V : VT), m < fuel → P m x0 x1 x2 x3 x4 V → lo5W b fuel x0 x1 x2 x3 x4 V = o := by
  intro fuel
  induction fuel with
  | zero => intro m x0 x1 x2 x3 x4 V hm; omega
  | succ f ih => intro m x0 x1 x2 x3 x4 V hm hp; exact hs _ m x0 x1 x2 x3 x4 V hp (fun m9 y0 y1 y2 y3 y4 V9 h9 hq => ih m9 y0 y1 y2 y3 y4 V9 (by omega) hq)
theorem lo5W_inv {α : Type} {b : (Int32 → Int32 → Int32 → Int32 → Int32 → VT → Option α) → Int32 → Int32 → Int32 → Int32 → Int32 → VT → Option α} {o : Option α} (n : Nat) (P : Nat → Int32 → Int32 → Int32 → Int32 → VT → Prop) (hs : ∀ (K : Int32 → Int32 → Int32 → Int32 → Int32 → VT → Option α) (k : Nat) (x0 x1 x2 x3 : Int32) (V : VT), k < n → P k x0 x1 x2 x3 V → (∀ (y0 y1 y2 y3 : Int32) (V9 : VT), P (k + 1) y0 y1 y2 y3 V9 → K y0 y1 y2 y3 (nI (k + 1)) V9 = o) → b K x0 x1 x2 x3 (nI k) V = o) (he : ∀ (K : Int32 → Int32 → Int32 → Int32 → Int32 → VT → Option α) (x0 x1 x2 x3 : Int32) (V : VT), P n x0 x1 x2 x3 V → b K x0 x1 x2 x3 (nI n) V = o) : ∀ (fuel : Nat), n < fuel → ∀ (x0 x1 x2 x3 : Int32) (V : VT), P 0 x0 x1 x2 x3 V → lo5W b fuel x0 x1 x2 x3 (nI 0) V = o := by
  have key : ∀ (m fuel k : Nat) (x0 x1 x2 x3 : Int32) (V : VT), k + m = n → m < fuel → P k x0 x1 x2 x3 V → lo5W b fuel x0 x1 x2 x3 (nI k) V = o := by
    intro m
    induction m with
    | zero =>
      intro fuel k x0 x1 x2 x3 V hk hf hp
      obtain ⟨f, rfl⟩ : ∃ f, fuel = f + 1 := ⟨fuel - 1, by omega⟩
      have hk : k = n := by omega
      subst hk
      exact he _ x0 x1 x2 x3 V hp
    | succ m ih =>
      intro fuel k x0 x1 x2 x3 V hk hf hp
      obtain ⟨f, rfl⟩ : ∃ f, fuel = f + 1 := ⟨fuel - 1, by omega⟩
      exact hs _ k x0 x1 x2 x3 V (by omega) hp (fun y0 y1 y2 y3 V9 hq => ih f (k + 1) y0 y1 y2 y3 V9 (by omega) (by omega) hq)
  intro fuel hf x0 x1 x2 x3 V hp
  exact key n fuel 0 x0 x1 x2 x3 V (by omega) hf hp
theorem lo6_mu {α : Type} {b : (Int32 → Int32 → Int32 → Int32 → Int32 → Int32 → Option α) → Int32 → Int32 → Int32 → Int32 → Int32 → Int32 → Option α} {o : Option α} (P : Nat → Int32 → Int32 → Int32 → Int32 → Int32 → Int32 → Prop) (hs : ∀ (K : Int32 → Int32 → Int32 → Int32 → Int32 → Int32 → Option α) (m : Nat) (x0 x1 x2 x3 x4 x5 : Int32) , P m x0 x1 x2 x3 x4 x5 → (∀ (m9 : Nat) (y0 y1 y2 y3 y4 y5 : Int32) , m9 < m → P m9 y0 y1 y2 y3 y4 y5 → K y0 y1 y2 y3 y4 y5 = o) → b K x0 x1 x2 x3 x4 x5 = o) : ∀ (fuel m : Nat) (x0 x1 x2 x3 x4 x5 : Int32) , m < fuel → P m x0 x1 x2 x3 x4 x5 → lo6 b fuel x0 x1 x2 x3 x4 x5 = o := by
  intro fuel
  induction fuel with
  | zero => intro m x0 x1 x2 x3 x4 x5 hm; omega
  | succ f ih => intro m x0 x1 x2 x3 x4 x5 hm hp; exact hs _ m x0 x1 x2 x3 x4 x5 hp (fun m9 y0 y1 y2 y3 y4 y5 h9 hq => ih m9 y0 y1 y2 y3 y4 y5 (by omega) hq)
theorem lo6_inv {α : Type} {b : (Int32 → Int32 → Int32 → Int32 → Int32 → Int32 → Option α) → Int32 → Int32 → Int32 → Int32 → Int32 → Int32 → Option α} {o : Option α} (n : Nat) (P : Nat → Int32 → Int32 → Int32 → Int32 → Int32 → Prop) (hs : ∀ (K : Int32 → Int32 → Int32 → Int32 → Int32 → Int32 → Option α) (k : Nat) (x0 x1 x2 x3 x4 : Int32) , k < n → P k x0 x1 x2 x3 x4 → (∀ (y0 y1 y2 y3 y4 : Int32) , P (k + 1) y0 y1 y2 y3 y4 → K y0 y1 y2 y3 y4 (nI (k + 1)) = o) → b K x0 x1 x2 x3 x4 (nI k) = o) (he : ∀ (K : Int32 → Int32 → Int32 → Int32 → Int32 → Int32 → Option α) (x0 x1 x2 x3 x4 : Int32) , P n x0 x1 x2 x3 x4 → b K x0 x1 x2 x3 x4 (nI n) = o) : ∀ (fuel : Nat), n < fuel → ∀ (x0 x1 x2 x3 x4 : Int32) , P 0 x0 x1 x2 x3 x4 → lo6 b fuel x0 x1 x2 x3 x4 (nI 0) = o := by
  have key : ∀ (m fuel k : Nat) (x0 x1 x2 x3 x4 : Int32) , k + m = n → m < fuel → P k x0 x1 x2 x3 x4 → lo6 b fuel x0 x1 x2 x3 x4 (nI k) = o := by
    intro m
    induction m with
    | zero =>
      intro fuel k x0 x1 x2 x3 x4 hk hf hp
      obtain ⟨f, rfl⟩ : ∃ f, fuel = f + 1 := ⟨fuel - 1, by omega⟩
      have hk : k = n := by omega
      subst hk
      exact he _ x0 x1 x2 x3 x4 hp
    | succ m ih =>
      intro fuel k x0 x1 x2 x3 x4 hk hf hp
      obtain ⟨f, rfl⟩ : ∃ f, fuel = f + 1 := ⟨fuel - 1, by omega⟩
      exact hs _ k x0 x1 x2 x3 x4 (by omega) hp (fun y0 y1 y2 y3 y4 hq => ih f (k + 1) y0 y1 y2 y3 y4 (by omega) (by omega) hq)
  intro fuel hf x0 x1 x2 x3 x4 hp
  exact key n fuel 0 x0 x1 x2 x3 x4 (by omega) hf hp
theorem lo6W_mu {α : Type} {b : (Int32 → Int32 → Int32 → Int32 → Int32 → Int32 → VT → Option α) → Int32 → Int32 → Int32 → Int32 → Int32 → Int32 → VT → Option α} {o : Option α} (P : Nat → Int32 → Int32 → Int32 → Int32 → Int32 → Int32 → VT → Prop) (hs : ∀ (K : Int32 → Int32 → Int32 → Int32 → Int32 → Int32 → VT → Option α) (m : Nat) (x0 x1 x2 x3 x4 x5 : Int32) (V : VT), P m x0 x1 x2 x3 x4 x5 V → (∀ (m9 : Nat) (y0 y1 y2 y3 y4 y5 : Int32) (V9 : VT), m9 < m → P m9 y0 y1 y2 y3 y4 y5 V9 → K y0 y1 y2 y3 y4 y5 V9 = o) → b K x0 x1 x2 x3 x4 x5 V = o) : ∀ (fuel m : Nat) (x0 x1 x2 x3 x4 x5 : Int32) (V : VT), m < fuel → P m x0 x1 x2 x3 x4 x5 V → lo6W b fuel x0 x1 x2 x3 x4 x5 V = o := by
  intro fuel
  induction fuel with
  | zero => intro m x0 x1 x2 x3 x4 x5 V hm; omega
  | succ f ih => intro m x0 x1 x2 x3 x4 x5 V hm hp; exact hs _ m x0 x1 x2 x3 x4 x5 V hp (fun m9 y0 y1 y2 y3 y4 y5 V9 h9 hq => ih m9 y0 y1 y2 y3 y4 y5 V9 (by omega) hq)
theorem lo6W_inv {α : Type} {b : (Int32 → Int32 → Int32 → Int32 → Int32 → Int32 → VT → Option α) → Int32 → Int32 → Int32 → Int32 → Int32 → Int32 → VT → Option α} {o : Option α} (n : Nat) (P : Nat → Int32 → Int32 → Int32 → Int32 → Int32 → VT → Prop) (hs : ∀ (K : Int32 → Int32 → Int32 → Int32 → Int32 → Int32 → VT → Option α) (k : Nat) (x0 x1 x2 x3 x4 : Int32) (V : VT), k < n → P k x0 x1 x2 x3 x4 V → (∀ (y0 y1 y2 y3 y4 : Int32) (V9 : VT), P (k + 1) y0 y1 y2 y3 y4 V9 → K y0 y1 y2 y3 y4 (nI (k + 1)) V9 = o) → b K x0 x1 x2 x3 x4 (nI k) V = o) (he : ∀ (K : Int32 → Int32 → Int32 → Int32 → Int32 → Int32 → VT → Option α) (x0 x1 x2 x3 x4 : Int32) (V : VT), P n x0 x1 x2 x3 x4 V → b K x0 x1 x2 x3 x4 (nI n) V = o) : ∀ (fuel : Nat), n < fuel → ∀ (x0 x1 x2 x3 x4 : Int32) (V : VT), P 0 x0 x1 x2 x3 x4 V → lo6W b fuel x0 x1 x2 x3 x4 (nI 0) V = o := by
  have key : ∀ (m fuel k : Nat) (x0 x1 x2 x3 x4 : Int32) (V : VT), k + m = n → m < fuel → P k x0 x1 x2 x3 x4 V → lo6W b fuel x0 x1 x2 x3 x4 (nI k) V = o := by
    intro m
    induction m with
    | zero =>
      intro fuel k x0 x1 x2 x3 x4 V hk hf hp
      obtain ⟨f, rfl⟩ : ∃ f, fuel = f + 1 := ⟨fuel - 1, by omega⟩
      have hk : k = n := by omega
      subst hk
      exact he _ x0 x1 x2 x3 x4 V hp
    | succ m ih =>
      intro fuel k x0 x1 x2 x3 x4 V hk hf hp
      obtain ⟨f, rfl⟩ : ∃ f, fuel = f + 1 := ⟨fuel - 1, by omega⟩
      exact hs _ k x0 x1 x2 x3 x4 V (by omega) hp (fun y0 y1 y2 y3 y4 V9 hq => ih f (k + 1) y0 y1 y2 y3 y4 V9 (by omega) (by omega) hq)
  intro fuel hf x0 x1 x2 x3 x4 V hp
  exact key n fuel 0 x0 x1 x2 x3 x4 V (by omega) hf hp
