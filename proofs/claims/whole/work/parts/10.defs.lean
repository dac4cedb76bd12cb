/-! loops -/
def lo0W {α : Type} (b : (VT → Option α) → VT → Option α) : Nat → VT → Option α
  | 0, _ => none
  | n + 1, V => b (lo0W b n) V
theorem lo0W_ind {α : Type} {b : (VT → Option α) → VT → Option α} {o : α} {P : VT → Prop} (hs : ∀ (k : VT → Option α), (∀ (V : VT), k V = some o → P V) → ∀ (V : VT), b k V = some o → P V) : ∀ (n : Nat) (V : VT), lo0W b n V = some o → P V := by
  intro n
  induction n with
  | zero => intro V h; cases h
  | succ n ih => intro V h; exact hs _ ih V h
def lo1 {α : Type} (b : (Int32 → Option α) → Int32 → Option α) : Nat → Int32 → Option α
  | 0, _ => none
  | n + 1, x0 => b (lo1 b n) x0
theorem lo1_ind {α : Type} {b : (Int32 → Option α) → Int32 → Option α} {o : α} {P : Int32 → Prop} (hs : ∀ (k : Int32 → Option α), (∀ (x0 : Int32) , k x0 = some o → P x0) → ∀ (x0 : Int32) , b k x0 = some o → P x0) : ∀ (n : Nat) (x0 : Int32) , lo1 b n x0 = some o → P x0 := by
  intro n
  induction n with
  | zero => intro x0 h; cases h
  | succ n ih => intro x0 h; exact hs _ ih x0 h
def lo1W {α : Type} (b : (Int32 → VT → Option α) → Int32 → VT → Option α) : Nat → Int32 → VT → Option α
  | 0, _, _ => none
  | n + 1, x0, V => b (lo1W b n) x0 V
theorem lo1W_ind {α : Type} {b : (Int32 → VT → Option α) → Int32 → VT → Option α} {o : α} {P : Int32 → VT → Prop} (hs : ∀ (k : Int32 → VT → Option α), (∀ (x0 : Int32) (V : VT), k x0 V = some o → P x0 V) → ∀ (x0 : Int32) (V : VT), b k x0 V = some o → P x0 V) : ∀ (n : Nat) (x0 : Int32) (V : VT), lo1W b n x0 V = some o → P x0 V := by
  intro n
  induction n with
  | zero => intro x0 V h; cases h
  | succ n ih => intro x0 V h; exact hs _ ih x0 V h
def lo2 {α : Type} (b : (Int32 → Int32 → Option α) → Int32 → Int32 → Option α) : Nat → Int32 → Int32 → Option α
  | 0, _, _ => none
  | n + 1, x0, x1 => b (lo2 b n) x0 x1
theorem lo2_ind {α : Type} {b : (Int32 → Int32 → Option α) → Int32 → Int32 → Option α} {o : α} {P : Int32 → Int32 → Prop} (hs : ∀ (k : Int32 → Int32 → Option α), (∀ (x0 x1 : Int32) , k x0 x1 = some o → P x0 x1) → ∀ (x0 x1 : Int32) , b k x0 x1 = some o → P x0 x1) : ∀ (n : Nat) (x0 x1 : Int32) , lo2 b n x0 x1 = some o → P x0 x1 := by
  intro n
  induction n with
  | zero => intro x0 x1 h; cases h
  | succ n ih => intro x0 x1 h; exact hs _ ih x0 x1 h
def lo2W {α : Type} (b : (Int32 → Int32 → VT → Option α) → Int32 → Int32 → VT → Option α) : Nat → Int32 → Int32 → VT → Option α
  | 0, _, _, _ => none
  | n + 1, x0, x1, V => b (lo2W b n) x0 x1 V
theorem lo2W_ind {α : Type} {b : (Int32 → Int32 → VT → Option α) → Int32 → Int32 → VT → Option α} {o : α} {P : Int32 → Int32 → VT → Prop} (hs : ∀ (k : Int32 → Int32 → VT → Option α), (∀ (x0 x1 : Int32) (V : VT), k x0 x1 V = some o → P x0 x1 V) → ∀ (x0 x1 : Int32) (V : VT), b k x0 x1 V = some o → P x0 x1 V) : ∀ (n : Nat) (x0 x1 : Int32) (V : VT), lo2W b n x0 x1 V = some o → P x0 x1 V := by
  intro n
  induction n with
  | zero => intro x0 x1 V h; cases h
  | succ n ih => intro x0 x1 V h; exact hs _ ih x0 x1 V h
def lo3 {α : Type} (b : (Int32 → Int32 → Int32 → Option α) → Int32 → Int32 → Int32 → Option α) : Nat → Int32 → Int32 → Int32 → Option α
  | 0, _, _, _ => none
  | n + 1, x0, x1, x2 => b (lo3 b n) x0 x1 x2
theorem lo3_ind {α : Type} {b : (Int32 → Int32 → Int32 → Option α) → Int32 → Int32 → Int32 → Option α} {o : α} {P : Int32 → Int32 → Int32 → Prop} (hs : ∀ (k : Int32 → Int32 → Int32 → Option α), (∀ (x0 x1 x2 : Int32) , k x0 x1 x2 = some o → P x0 x1 x2) → ∀ (x0 x1 x2 : Int32) , b k x0 x1 x2 = some o → P x0 x1 x2) : ∀ (n : Nat) (x0 x1 x2 : Int32) , lo3 b n x0 x1 x2 = some o → P x0 x1 x2 := by
  intro n
  induction n with
  | zero => intro x0 x1 x2 h; cases h
  | succ n ih => intro x0 x1 x2 h; exact hs _ ih x0 x1 x2 h
def lo3W {α : Type} (b : (Int32 → Int32 → Int32 → VT → Option α) → Int32 → Int32 → Int32 → VT → Option α) : Nat → Int32 → Int32 → Int32 → VT → Option α
  | 0, _, _, _, _ => none
  | n + 1, x0, x1, x2, V => b (lo3W b n) x0 x1 x2 V
theorem lo3W_ind {α : Type} {b : (Int32 → Int32 → Int32 → VT → Option α) → Int32 → Int32 → Int32 → VT → Option α} {o : α} {P : Int32 → Int32 → Int32 → VT → Prop} (hs : ∀ (k : Int32 → Int32 → Int32 → VT → Option α), (∀ (x0 x1 x2 : Int32) (V : VT), k x0 x1 x2 V = some o → P x0 x1 x2 V) → ∀ (x0 x1 x2 : Int32) (V : VT), b k x0 x1 x2 V = some o → P x0 x1 x2 V) : ∀ (n : Nat) (x0 x1 x2 : Int32) (V : VT), lo3W b n x0 x1 x2 V = some o → P x0 x1 x2 V := by
  intro n
  induction n with
  | zero => intro x0 x1 x2 V h; cases h
  | succ n ih => intro x0 x1 x2 V h; exact hs _ ih x0 x1 x2 V h
def lo4 {α : Type} (b : (Int32 → Int32 → Int32 → Int32 → Option α) → Int32 → Int32 → Int32 → Int32 → Option α) : Nat → Int32 → Int32 → Int32 → Int32 → Option α
  | 0, _, _, _, _ => none
  | n + 1, x0, x1, x2, x3 => b (lo4 b n) x0 x1 x2 x3
theorem lo4_ind {α : Type} {b : (Int32 → Int32 → Int32 → Int32 → Option α) → Int32 → Int32 → Int32 → Int32 → Option α} {o : α} {P : Int32 → Int32 → Int32 → Int32 → Prop} (hs : ∀ (k : Int32 → Int32 → Int32 → Int32 → Option α), (∀ (x0 x1 x2 x3 : Int32) , k x0 x1 x2 x3 = some o → P x0 x1 x2 x3) → ∀ (x0 x1 x2 x3 : Int32) , b k x0 x1 x2 x3 = some o → P x0 x1 x2 x3) : ∀ (n : Nat) (x0 x1 x2 x3 : Int32) , lo4 b n x0 x1 x2 x3 = some o → P x0 x1 x2 x3 := by
  intro n
  induction n with
  | zero => intro x0 x1 x2 x3 h; cases h
  | succ n ih => intro x0 x1 x2 x3 h; exact hs _ ih x0 x1 x2 x3 h
def lo4W {α : Type} (b : (Int32 → Int32 → Int32 → Int32 → VT → Option α) → Int32 → Int32 → Int32 → Int32 → VT → Option α) : Nat → Int32 → Int32 → Int32 → Int32 → VT → Option α
  | 0, _, _, _, _, _ => none
  | n + 1, x0, x1, x2, x3, V => b (lo4W b n) x0 x1 x2 x3 V
theorem lo4W_ind {α : Type} {b : (Int32 → Int32 → Int32 → Int32 → VT → Option α) → Int32 → Int32 → Int32 → Int32 → VT → Option α} {o : α} {P : Int32 → Int32 → Int32 → Int32 → VT → Prop} (hs : ∀ (k : Int32 → Int32 → Int32 → Int32 → VT → Option α), (∀ (x0 x1 x2 x3 : Int32) (V : VT), k x0 x1 x2 x3 V = some o → P x0 x1 x2 x3 V) → ∀ (x0 x1 x2 x3 : Int32) (V : VT), b k x0 x1 x2 x3 V = some o → P x0 x1 x2 x3 V) : ∀ (n : Nat) (x0 x1 x2 x3 : Int32) (V : VT), lo4W b n x0 x1 x2 x3 V = some o → P x0 x1 x2 x3 V := by
  intro n
  induction n with
  | zero => intro x0 x1 x2 x3 V h; cases h
  | succ n ih => intro x0 x1 x2 x3 V h; exact hs _ ih x0 x1 x2 x3 V h
def lo5 {α : Type} (b : (Int32 → Int32 → Int32 → Int32 → Int32 → Option α) → Int32 → Int32 → Int32 → Int32 → Int32 → Option α) : Nat → Int32 → Int32 → Int32 → Int32 → Int32 → Option α
  | 0, _, _, _, _, _ => none
  | n + 1, x0, x1, x2, x3, x4 => b (lo5 b n) x0 x1 x2 x3 x4
theorem lo5_ind {α : Type} {b : (Int32 → Int32 → Int32 → Int32 → Int32 → Option α) → Int32 → Int32 → Int32 → Int32 → Int32 → Option α} {o : α} {P : Int32 → Int32 → Int32 → Int32 → Int32 → Prop} (hs : ∀ (k : Int32 → Int32 → Int32 → Int32 → Int32 → Option α), (∀ (x0 x1 x2 x3 x4 : Int32) , k x0 x1 x2 x3 x4 = some o → P x0 x1 x2 x3 x4) → ∀ (x0 x1 x2 x3 x4 : Int32) , b k x0 x1 x2 x3 x4 = some o → P x0 x1 x2 x3 x4) : ∀ (n : Nat) (x0 x1 x2 x3 x4 : Int32) , lo5 b n x0 x1 x2 x3 x4 = some o → P x0 x1 x2 x3 x4 := by
  intro n
  induction n with
  | zero => intro x0 x1 x2 x3 x4 h; cases h
  | succ n ih => intro x0 x1 x2 x3 x4 h; exact hs _ ih x0 x1 x2 x3 x4 h
def lo5W {α : Type} (b : (Int32 → Int32 → Int32 → Int32 → Int32 → VT → Option α) → Int32 → Int32 → Int32 → Int32 → Int32 → VT → Option α) : Nat → Int32 → Int32 → Int32 → Int32 → Int32 → VT → Option α
  | 0, _, _, _, _, _, _ => none
  | n + 1, x0, x1, x2, x3, x4, V => b (lo5W b n) x0 x1 x2 x3 x4 V
theorem lo5W_ind {α : Type} {b : (Int32 → Int32 → Int32 → Int32 → Int32 → VT → Option α) → Int32 → Int32 → Int32 → Int32 → Int32 → VT → Option α} {o : α} {P : Int32 → Int32 → Int32 → Int32 → Int32 → VT → Prop} (hs : ∀ (k : Int32 → Int32 → Int32 → Int32 → Int32 → VT → Option α), (∀ (x0 x1 x2 x3 x4 : Int32) (V : VT), k x0 x1 x2 x3 x4 V = some o → P x0 x1 x2 x3 x4 V) → ∀ (x0 x1 x2 x3 x4 : Int32) (V : VT), b k x0 x1 x2 x3 x4 V = some o → P x0 x1 x2 x3 x4 V) : ∀ (n : Nat) (x0 x1 x2 x3 x4 : Int32) (V : VT), lo5W b n x0 x1 x2 x3 x4 V = some o → P x0 x1 x2 x3 x4 V := by
  intro n
  induction n with
  | zero => intro x0 x1 x2 x3 x4 V h; cases h
  | succ n ih => intro x0 x1 x2 x3 x4 V h; exact hs _ ih x0 x1 x2 x3 x4 V h
def lo6 {α : Type} (b : (Int32 → Int32 → Int32 → Int32 → Int32 → Int32 → Option α) → Int32 → Int32 → Int32 → Int32 → Int32 → Int32 → Option α) : Nat → Int32 → Int32 → Int32 → Int32 → Int32 → Int32 → Option α
  | 0, _, _, _, _, _, _ => none
  | n + 1, x0, x1, x2, x3, x4, x5 => b (lo6 b n) x0 x1 x2 x3 x4 x5
theorem lo6_ind {α : Type} {b : (Int32 → Int32 → Int32 → Int32 → Int32 → Int32 → Option α) → Int32 → Int32 → Int32 → Int32 → Int32 → Int32 → Option α} {o : α} {P : Int32 → Int32 → Int32 → Int32 → Int32 → Int32 → Prop} (hs : ∀ (k : Int32 → Int32 → Int32 → Int32 → Int32 → Int32 → Option α), (∀ (x0 x1 x2 x3 x4 x5 : Int32) , k x0 x1 x2 x3 x4 x5 = some o → P x0 x1 x2 x3 x4 x5) → ∀ (x0 x1 x2 x3 x4 x5 : Int32) , b k x0 x1 x2 x3 x4 x5 = some o → P x0 x1 x2 x3 x4 x5) : ∀ (n : Nat) (x0 x1 x2 x3 x4 x5 : Int32) , lo6 b n x0 x1 x2 x3 x4 x5 = some o → P x0 x1 x2 x3 x4 x5 := by
  intro n
  induction n with
  | zero => intro x0 x1 x2 x3 x4 x5 h; cases h
  | succ n ih => intro x0 x1 x2 x3 x4 x5 h; exact hs _ ih x0 x1 x2 x3 x4 x5 h
def lo6W {α : Type} (b : (Int32 → Int32 → Int32 → Int32 → Int32 → Int32 → VT → Option α) → Int32 → Int32 → Int32 → Int32 → Int32 → Int32 → VT → Option α) : Nat → Int32 → Int32 → Int32 → Int32 → Int32 → Int32 → VT → Option α
  | 0, _, _, _, _, _, _, _ => none
  | n + 1, x0, x1, x2, x3, x4, x5, V => b (lo6W b n) x0 x1 x2 x3 x4 x5 V
theorem lo6W_ind {α : Type} {b : (Int32 → Int32 → Int32 → Int32 → Int32 → Int32 → VT → Option α) → Int32 → Int32 → Int32 → Int32 → Int32 → Int32 → VT → Option α} {o : α} {P : Int32 → Int32 → Int32 → Int32 → Int32 → Int32 → VT → Prop} (hs : ∀ (k : Int32 → Int32 → Int32 → Int32 → Int32 → Int32 → VT → Option α), (∀ (x0 x1 x2 x3 x4 x5 : Int32) (V : VT), k x0 x1 x2 x3 x4 x5 V = some o → P x0 x1 x2 x3 x4 x5 V) → ∀ (x0 x1 x2 x3 x4 x5 : Int32) (V : VT), b k x0 x1 x2 x3 x4 x5 V = some o → P x0 x1 x2 x3 x4 x5 V) : ∀ (n : Nat) (x0 x1 x2 x3 x4 x5 : Int32) (V : VT), lo6W b n x0 x1 x2 x3 x4 x5 V = some o → P x0 x1 x2 x3 x4 x5 V := by
  intro n
  induction n with
  | zero => intro x0 x1 x2 x3 x4 x5 V h; cases h
  | succ n ih => intro x0 x1 x2 x3 x4 x5 V h; exact hs _ ih x0 x1 x2 x3 x4 x5 V h
def lo7 {α : Type} (b : (Int32 → Int32 → Int32 → Int32 → Int32 → Int32 → Int32 → Option α) → Int32 → Int32 → Int32 → Int32 → Int32 → Int32 → Int32 → Option α) : Nat → Int32 → Int32 → Int32 → Int32 → Int32 → Int32 → Int32 → Option α
  | 0, _, _, _, _, _, _, _ => none
  | n + 1, x0, x1, x2, x3, x4, x5, x6 => b (lo7 b n) x0 x1 x2 x3 x4 x5 x6
theorem lo7_ind {α : Type} {b : (Int32 → Int32 → Int32 → Int32 → Int32 → Int32 → Int32 → Option α) → Int32 → Int32 → Int32 → Int32 → Int32 → Int32 → Int32 → Option α} {o : α} {P : Int32 → Int32 → Int32 → Int32 → Int32 → Int32 → Int32 → Prop} (hs : ∀ (k : Int32 → Int32 → Int32 → Int32 → Int32 → Int32 → Int32 → Option α), (∀ (x0 x1 x2 x3 x4 x5 x6 : Int32) , k x0 x1 x2 x3 x4 x5 x6 = some o → P x0 x1 x2 x3 x4 x5 x6) → ∀ (x0 x1 x2 x3 x4 x5 x6 : Int32) , b k x0 x1 x2 x3 x4 x5 x6 = some o → P x0 x1 x2 x3 x4 x5 x6) : ∀ (n : Nat) (x0 x1 x2 x3 x4 x5 x6 : Int32) , lo7 b n x0 x1 x2 x3 x4 x5 x6 = some o → P x0 x1 x2 x3 x4 x5 x6 := by
  intro n
  induction n with
  | zero => intro x0 x1 x2 x3 x4 x5 x6 h; cases h
  | succ n ih => intro x0 x1 x2 x3 x4 x5 x6 h; exact hs _ ih x0 x1 x2 x3 x4 x5 x6 h
def lo7W {α : Type} (b : (Int32 → Int32 → Int32 → Int32 → Int32 → Int32 → Int32 → VT → Option α) → Int32 → Int32 → Int32 → Int32 → Int32 → Int32 → Int32 → VT → Option α) : Nat → Int32 → Int32 → Int32 → Int32 → Int32 → Int32 → Int32 → VT → Option α
  | 0, _, _, _, _, _, _, _, _ => none
  | n + 1, x0, x1, x2, x3, x4, x5, x6, V => b (lo7W b n) x0 x1 x2 x3 x4 x5 x6 V
theorem lo7W_ind {α : Type} {b : (Int32 → Int32 → Int32 → Int32 → Int32 → Int32 → Int32 → VT → Option α) → Int32 → Int32 → Int32 → Int32 → Int32 → Int32 → Int32 → VT → Option α} {o : α} {P : Int32 → Int32 → Int32 → Int32 → Int32 → Int32 → Int32 → VT → Prop} (hs : ∀ (k : Int32 → Int32 → Int32 → Int32 → Int32 → Int32 → Int32 → VT → Option α), (∀ (x0 x1 x2 x3 x4 x5 x6 : Int32) (V : VT), k x0 x1 x2 x3 x4 x5 x6 V = some o → P x0 x1 x2 x3 x4 x5 x6 V) → ∀ (x0 x1 x2 x3 x4 x5 x6 : Int32) (V : VT), b k x0 x1 x2 x3 x4 x5 x6 V = some o → P x0 x1 x2 x3 x4 x5 x6 V) : ∀ (n : Nat) (x0 x1 x2 x3 x4 x5 x6 : Int32) (V : VT), lo7W b n x0 x1 x2 x3 x4 x5 x6 V = some o → P x0 x1 x2 x3 x4 x5 x6 V := by
  intro n
  induction n with
  | zero => intro x0 x1 x2 x3 x4 x5 x6 V h; cases h
  | succ n ih => intro x0 x1 x2 x3 x4 x5 x6 V h; exact hs _ ih x0 x1 x2 x3 x4 x5 x6 V h
def lo8 {α : Type} (b : (Int32 → Int32 → Int32 → Int32 → Int32 → Int32 → Int32 → Int32 → Option α) → Int32 → Int32 → Int32 → Int32 → Int32 → Int32 → Int32 → Int32 → Option α) : Nat → Int32 → Int32 → Int32 → Int32 → Int32 → Int32 → Int32 → Int32 → Option α
  | 0, _, _, _, _, _, _, _, _ => none
  | n + 1, x0, x1, x2, x3, x4, x5, x6, x7 => b (lo8 b n) x0 x1 x2 x3 x4 x5 x6 x7
theorem lo8_ind {α : Type} {b : (Int32 → Int32 → Int32 → Int32 → Int32 → Int32 → Int32 → Int32 → Option α) → Int32 → Int32 → Int32 → Int32 → Int32 → Int32 → Int32 → Int32 → Option α} {o : α} {P : Int32 → Int32 → Int32 → Int32 → Int32 → Int32 → Int32 → Int32 → Prop} (hs : ∀ (k : Int32 → Int32 → Int32 → Int32 → Int32 → Int32 → Int32 → Int32 → Option α), (∀ (x0 x1 x2 x3 x4 x5 x6 x7 : Int32) , k x0 x1 x2 x3 x4 x5 x6 x7 = some o → P x0 x1 x2 x3 x4 x5 x6 x7) → ∀ (x0 x1 x2 x3 x4 x5 x6 x7 : Int32) , b k x0 x1 x2 x3 x4 x5 x6 x7 = some o → P x0 x1 x2 x3 x4 x5 x6 x7) : ∀ (n : Nat) (x0 x1 x2 x3 x4 x5 x6 x7 : Int32) , lo8 b n x0 x1 x2 x3 x4 x5 x6 x7 = some o → P x0 x1 x2 x3 x4 x5 x6 x7 := by
  intro n
  induction n with
  | zero => intro x0 x1 x2 x3 x4 x5 x6 x7 h; cases h
  | succ n ih => intro x0 x1 x2 x3 x4 x5 x6 x7 h; exact hs _ ih x0 x1 x2 x3 x4 x5 x6 x7 h
def lo8W {α : Type} (b : (Int32 → Int32 → Int32 → Int32 → Int32 → Int32 → Int32 → Int32 → VT → Option α) → Int32 → Int32 → Int32 → Int32 → Int32 → Int32 → Int32 → Int32 → VT → Option α) : Nat → Int32 → Int32 → Int32 → Int32 → Int32 → Int32 → Int32 → Int32 → VT → Option α
  | 0, _, _, _, _, _, _, _, _, _ => none
  | n + 1, x0, x1, x2, x3, x4, x5, x6, x7, V => b (lo8W b n) x0 x1 x2 x3 x4 x5 x6 x7 V
theorem lo8W_ind {α : Type} {b : (Int32 → Int32 → Int32 → Int32 → Int32 → Int32 → Int32 → Int32 → VT → Option α) → Int32 → Int32 → Int32 → Int32 → Int32 → Int32 → Int32 → Int32 → VT → Option α} {o : α} {P : Int32 → Int32 → Int32 → Int32 → Int32 → Int32 → Int32 → Int32 → VT → Prop} (hs : ∀ (k : Int32 → Int32 → Int32 → Int32 → Int32 → Int32 → Int32 → Int32 → VT → Option α), (∀ (x0 x1 x2 x3 x4 x5 x6 x7 : Int32) (V : VT), k x0 x1 x2 x3 x4 x5 x6 x7 V = some o → P x0 x1 x2 x3 x4 x5 x6 x7 V) → ∀ (x0 x1 x2 x3 x4 x5 x6 x7 : Int32) (V : VT), b k x0 x1 x2 x3 x4 x5 x6 x7 V = some o → P x0 x1 x2 x3 x4 x5 x6 x7 V) : ∀ (n : Nat) (x0 x1 x2 x3 x4 x5 x6 x7 : Int32) (V : VT), lo8W b n x0 x1 x2 x3 x4 x5 x6 x7 V = some o → P x0 x1 x2 x3 x4 x5 x6 x7 V := by
  intro n
  induction n with
  | zero => intro x0 x1 x2 x3 x4 x5 x6 x7 V h; cases h
  | succ n ih => intro x0 x1 x2 x3 x4 x5 x6 x7 V h; exact hs _ ih x0 x1 x2 x3 x4 x5 x6 x7 V h
/-! what each method answers and leaves, by program out of the bytecode (wip/whole/gen) -/
def d_X1_reasonAgainstCountry  (V : VT) : Option Int32 :=
  if (V 1 8) < (7 : Int32) then some (0 : Int32)
  else some (1 : Int32)
def d_X1_areNeighbours (x1 : Int32) (x2 : Int32) (V : VT) : Option Int32 :=
  asr (inb x1 7) (if (((V 6 x1.toNatClampNeg) >>> (x2 &&& 31)) &&& (1 : Int32)) = (0 : Int32) then some (0 : Int32)
  else some (1 : Int32))
def d_X1_lowestNeighbourIn_2b (V : VT) (k2 : Int32 → Int32 → Int32 → Option Int32) (x1 x2 x3 : Int32)  : Option Int32 :=
  if (V 1 8) ≤ x3 then some (-1 : Int32)
  else bd (d_X1_areNeighbours x1 x3 V) (fun r3 => if r3 = (0 : Int32) then k2 x1 x2 (x3 + (1 : Int32))
    else asr (inb x3 7) (if (V 3 x3.toNatClampNeg) = x2 then some x3
      else k2 x1 x2 (x3 + (1 : Int32))))
def d_X1_lowestNeighbourIn_2 (V : VT) : Int32 → Int32 → Int32 → Option Int32 :=
  lo3 (d_X1_lowestNeighbourIn_2b V) FU
def d_X1_lowestNeighbourIn (x1 : Int32) (x2 : Int32) (V : VT) : Option Int32 :=
  d_X1_lowestNeighbourIn_2 V x1 x2 (0 : Int32)
def d_X1_lowestPaintedBeyond_2b (V : VT) (k2 : Int32 → Int32 → Option Int32) (x1 x2 : Int32)  : Option Int32 :=
  if (V 1 8) ≤ x2 then some (-1 : Int32)
  else asr (inb x2 7) (if (V 3 x2.toNatClampNeg) < x1 then k2 x1 (x2 + (1 : Int32))
    else some x2)
def d_X1_lowestPaintedBeyond_2 (V : VT) : Int32 → Int32 → Option Int32 :=
  lo2 (d_X1_lowestPaintedBeyond_2b V) FU
def d_X1_lowestPaintedBeyond (x1 : Int32) (V : VT) : Option Int32 :=
  d_X1_lowestPaintedBeyond_2 V x1 (0 : Int32)
def d_X1_detailOf (x1 : Int32) (x2 : Int32) (x3 : Int32) (V : VT) : Option Int32 :=
  if x1 = (1 : Int32) then some (7 : Int32)
  else if x1 = (2 : Int32) then asr (inb x2 7) (some (V 3 x2.toNatClampNeg))
  else if x1 = (3 : Int32) then bd (d_X1_lowestNeighbourIn x2 x3 V) (fun r6 => some r6)
  else if x1 = (4 : Int32) then asr (inb x2 7) (asr (inb x3 5) (some ((V 2 x2.toNatClampNeg) - (V 8 x3.toNatClampNeg))))
  else if x1 = (5 : Int32) then some x2
  else if x1 = (6 : Int32) then some x3
  else if x1 = (7 : Int32) then asr (inb x2 7) (some (V 3 x2.toNatClampNeg))
  else if x1 = (8 : Int32) then some (0 : Int32)
  else if x1 = (9 : Int32) then bd (d_X1_lowestPaintedBeyond x2 V) (fun r17 => some r17)
  else if x1 = (10 : Int32) then some x3
  else some (0 : Int32)
def d_X4_keepReason (x1 : Int32) (x2 : Int32) (x3 : Int32) (V : VT) : Option VT :=
  bd (d_X1_detailOf x1 x2 x3 (up2 V 0 10 x1)) (fun r2 => some (up2 (up2 V 0 10 x1) 0 11 r2))
def d_X4_stopIfRefused (x1 : Int32) (x2 : Int32) (x3 : Int32) (V : VT) : Option ((Int32 ⊕ String) × VT) :=
  if x1 = (0 : Int32) then some (.inl (0 : Int32), V)
  else bd (d_X4_keepReason x1 x2 x3 V) (fun V3 => some (.inr "java/lang/UnsupportedOperationException", V3))
def d_J9_floorMod_7cf53 (x0 : Int32) (x1 : Int32) (V : VT) : Option Int32 :=
  asr (nz x1) (if (0 : Int32) ≤ (x0 ^^^ x1) then some (x0 - x0 / x1 * x1)
  else if (x0 - x0 / x1 * x1) = (0 : Int32) then some (x0 - x0 / x1 * x1)
    else some ((x0 - x0 / x1 * x1) + x1))
def d_X3_placeAfter (x1 : Int32) (V : VT) : Option Int32 :=
  bd (d_J9_floorMod_7cf53 ((V 28 1) + x1) (8 : Int32) V) (fun r2 => some r2)
def d_X1_copyFrom (a : Nat) (b : Nat) (V : VT) : Option VT :=
  some (up2 (up2 (up2 (up2 (cp2 (cp2 (cp2 (cp2 (cp2 (cp2 (cp2 (cp2 V (b + 1) (a + 1) 0 0 7) (b + 2) (a + 2) 0 0 7) (b + 3) (a + 3) 0 0 7) (b + 4) (a + 4) 0 0 7) (b + 5) (a + 5) 0 0 7) (b + 6) (a + 6) 0 0 7) (b + 7) (a + 7) 0 0 5) (b + 8) (a + 8) 0 0 5) a 8 ((cp2 (cp2 (cp2 (cp2 (cp2 (cp2 (cp2 (cp2 V (b + 1) (a + 1) 0 0 7) (b + 2) (a + 2) 0 0 7) (b + 3) (a + 3) 0 0 7) (b + 4) (a + 4) 0 0 7) (b + 5) (a + 5) 0 0 7) (b + 6) (a + 6) 0 0 7) (b + 7) (a + 7) 0 0 5) (b + 8) (a + 8) 0 0 5) b 8)) a 9 ((up2 (cp2 (cp2 (cp2 (cp2 (cp2 (cp2 (cp2 (cp2 V (b + 1) (a + 1) 0 0 7) (b + 2) (a + 2) 0 0 7) (b + 3) (a + 3) 0 0 7) (b + 4) (a + 4) 0 0 7) (b + 5) (a + 5) 0 0 7) (b + 6) (a + 6) 0 0 7) (b + 7) (a + 7) 0 0 5) (b + 8) (a + 8) 0 0 5) a 8 ((cp2 (cp2 (cp2 (cp2 (cp2 (cp2 (cp2 (cp2 V (b + 1) (a + 1) 0 0 7) (b + 2) (a + 2) 0 0 7) (b + 3) (a + 3) 0 0 7) (b + 4) (a + 4) 0 0 7) (b + 5) (a + 5) 0 0 7) (b + 6) (a + 6) 0 0 7) (b + 7) (a + 7) 0 0 5) (b + 8) (a + 8) 0 0 5) b 8)) b 9)) a 10 ((up2 (up2 (cp2 (cp2 (cp2 (cp2 (cp2 (cp2 (cp2 (cp2 V (b + 1) (a + 1) 0 0 7) (b + 2) (a + 2) 0 0 7) (b + 3) (a + 3) 0 0 7) (b + 4) (a + 4) 0 0 7) (b + 5) (a + 5) 0 0 7) (b + 6) (a + 6) 0 0 7) (b + 7) (a + 7) 0 0 5) (b + 8) (a + 8) 0 0 5) a 8 ((cp2 (cp2 (cp2 (cp2 (cp2 (cp2 (cp2 (cp2 V (b + 1) (a + 1) 0 0 7) (b + 2) (a + 2) 0 0 7) (b + 3) (a + 3) 0 0 7) (b + 4) (a + 4) 0 0 7) (b + 5) (a + 5) 0 0 7) (b + 6) (a + 6) 0 0 7) (b + 7) (a + 7) 0 0 5) (b + 8) (a + 8) 0 0 5) b 8)) a 9 ((up2 (cp2 (cp2 (cp2 (cp2 (cp2 (cp2 (cp2 (cp2 V (b + 1) (a + 1) 0 0 7) (b + 2) (a + 2) 0 0 7) (b + 3) (a + 3) 0 0 7) (b + 4) (a + 4) 0 0 7) (b + 5) (a + 5) 0 0 7) (b + 6) (a + 6) 0 0 7) (b + 7) (a + 7) 0 0 5) (b + 8) (a + 8) 0 0 5) a 8 ((cp2 (cp2 (cp2 (cp2 (cp2 (cp2 (cp2 (cp2 V (b + 1) (a + 1) 0 0 7) (b + 2) (a + 2) 0 0 7) (b + 3) (a + 3) 0 0 7) (b + 4) (a + 4) 0 0 7) (b + 5) (a + 5) 0 0 7) (b + 6) (a + 6) 0 0 7) (b + 7) (a + 7) 0 0 5) (b + 8) (a + 8) 0 0 5) b 8)) b 9)) b 10)) a 11 ((up2 (up2 (up2 (cp2 (cp2 (cp2 (cp2 (cp2 (cp2 (cp2 (cp2 V (b + 1) (a + 1) 0 0 7) (b + 2) (a + 2) 0 0 7) (b + 3) (a + 3) 0 0 7) (b + 4) (a + 4) 0 0 7) (b + 5) (a + 5) 0 0 7) (b + 6) (a + 6) 0 0 7) (b + 7) (a + 7) 0 0 5) (b + 8) (a + 8) 0 0 5) a 8 ((cp2 (cp2 (cp2 (cp2 (cp2 (cp2 (cp2 (cp2 V (b + 1) (a + 1) 0 0 7) (b + 2) (a + 2) 0 0 7) (b + 3) (a + 3) 0 0 7) (b + 4) (a + 4) 0 0 7) (b + 5) (a + 5) 0 0 7) (b + 6) (a + 6) 0 0 7) (b + 7) (a + 7) 0 0 5) (b + 8) (a + 8) 0 0 5) b 8)) a 9 ((up2 (cp2 (cp2 (cp2 (cp2 (cp2 (cp2 (cp2 (cp2 V (b + 1) (a + 1) 0 0 7) (b + 2) (a + 2) 0 0 7) (b + 3) (a + 3) 0 0 7) (b + 4) (a + 4) 0 0 7) (b + 5) (a + 5) 0 0 7) (b + 6) (a + 6) 0 0 7) (b + 7) (a + 7) 0 0 5) (b + 8) (a + 8) 0 0 5) a 8 ((cp2 (cp2 (cp2 (cp2 (cp2 (cp2 (cp2 (cp2 V (b + 1) (a + 1) 0 0 7) (b + 2) (a + 2) 0 0 7) (b + 3) (a + 3) 0 0 7) (b + 4) (a + 4) 0 0 7) (b + 5) (a + 5) 0 0 7) (b + 6) (a + 6) 0 0 7) (b + 7) (a + 7) 0 0 5) (b + 8) (a + 8) 0 0 5) b 8)) b 9)) a 10 ((up2 (up2 (cp2 (cp2 (cp2 (cp2 (cp2 (cp2 (cp2 (cp2 V (b + 1) (a + 1) 0 0 7) (b + 2) (a + 2) 0 0 7) (b + 3) (a + 3) 0 0 7) (b + 4) (a + 4) 0 0 7) (b + 5) (a + 5) 0 0 7) (b + 6) (a + 6) 0 0 7) (b + 7) (a + 7) 0 0 5) (b + 8) (a + 8) 0 0 5) a 8 ((cp2 (cp2 (cp2 (cp2 (cp2 (cp2 (cp2 (cp2 V (b + 1) (a + 1) 0 0 7) (b + 2) (a + 2) 0 0 7) (b + 3) (a + 3) 0 0 7) (b + 4) (a + 4) 0 0 7) (b + 5) (a + 5) 0 0 7) (b + 6) (a + 6) 0 0 7) (b + 7) (a + 7) 0 0 5) (b + 8) (a + 8) 0 0 5) b 8)) a 9 ((up2 (cp2 (cp2 (cp2 (cp2 (cp2 (cp2 (cp2 (cp2 V (b + 1) (a + 1) 0 0 7) (b + 2) (a + 2) 0 0 7) (b + 3) (a + 3) 0 0 7) (b + 4) (a + 4) 0 0 7) (b + 5) (a + 5) 0 0 7) (b + 6) (a + 6) 0 0 7) (b + 7) (a + 7) 0 0 5) (b + 8) (a + 8) 0 0 5) a 8 ((cp2 (cp2 (cp2 (cp2 (cp2 (cp2 (cp2 (cp2 V (b + 1) (a + 1) 0 0 7) (b + 2) (a + 2) 0 0 7) (b + 3) (a + 3) 0 0 7) (b + 4) (a + 4) 0 0 7) (b + 5) (a + 5) 0 0 7) (b + 6) (a + 6) 0 0 7) (b + 7) (a + 7) 0 0 5) (b + 8) (a + 8) 0 0 5) b 8)) b 9)) b 10)) b 11))
def d_X3_keep (b : Nat) (V : VT) : Option VT :=
  bd (d_X3_placeAfter (V 28 2) V) (fun r2 => asr (inb r2 8) (bd (d_X1_copyFrom (30 + 9 * r2.toNatClampNeg) b V) (fun V5 => if (8 : Int32) ≤ (V5 28 2) then bd (d_X3_placeAfter (1 : Int32) V5) (fun r8 => some (up2 V5 28 1 r8))
  else some (up2 V5 28 2 ((V5 28 2) + (1 : Int32))))))
def d_X1_addCountry (x1 : Int32) (V : VT) : Option (Int32 × VT) :=
  if (7 : Int32) ≤ (V 1 8) then some ((V 1 8), V)
  else asr (inb (V 1 8) 7) (asr (inb (V 1 8) 7) (asr (inb (V 1 8) 7) (asr (inb (V 1 8) 7) (asr (inb (V 1 8) 7) (some ((V 1 8), (up2 (up2 (up2 (up2 (up2 (up2 V 2 (V 1 8).toNatClampNeg x1) 3 (V 1 8).toNatClampNeg (-1 : Int32)) 4 (V 1 8).toNatClampNeg (-1 : Int32)) 5 (V 1 8).toNatClampNeg (0 : Int32)) 6 (V 1 8).toNatClampNeg (0 : Int32)) 1 8 ((V 1 8) + (1 : Int32)))))))))
def d_X4_country_11  (V : VT) : Option ((Int32 ⊕ String) × VT) :=
  some (.inr "java/lang/IllegalArgumentException", V)
def d_X4_country (x1 : Int32) (V : VT) : Option ((Int32 ⊕ String) × VT) :=
  if x1 < (1 : Int32) then d_X4_country_11 V
  else if x1 ≤ (9 : Int32) then bd (d_X1_reasonAgainstCountry V) (fun r4 => bx (d_X4_stopIfRefused r4 (0 : Int32) (0 : Int32) V) (fun r10 V7 => bd (d_X3_keep 1 V7) (fun V12 => bw (d_X1_addCountry x1 V12) (fun r15 V14 => some (.inl r15, V14)))))
    else d_X4_country_11 V
def d_X1_isCountry (x1 : Int32) (V : VT) : Option Int32 :=
  if x1 < (0 : Int32) then some (0 : Int32)
  else if (V 1 8) ≤ x1 then some (0 : Int32)
    else some (1 : Int32)
def d_X4_stopIfNoCountry (x1 : Int32) (V : VT) : Option ((Int32 ⊕ String) × VT) :=
  bd (d_X1_isCountry x1 V) (fun r2 => if r2 = (0 : Int32) then some (.inr "java/lang/IndexOutOfBoundsException", V)
  else some (.inl (0 : Int32), V))
def d_X1_isPainted (x1 : Int32) (V : VT) : Option Int32 :=
  asr (inb x1 7) (if (V 3 x1.toNatClampNeg) = (-1 : Int32) then some (0 : Int32)
  else some (1 : Int32))
def d_X1_reasonAgainstBorder (x1 : Int32) (x2 : Int32) (V : VT) : Option Int32 :=
  if x1 = x2 then some (5 : Int32)
  else bd (d_X1_areNeighbours x1 x2 V) (fun r3 => if r3 = (0 : Int32) then bd (d_X1_isPainted x1 V) (fun r6 => if r6 = (0 : Int32) then some (0 : Int32)
      else asr (inb x1 7) (asr (inb x2 7) (if (V 3 x1.toNatClampNeg) = (V 3 x2.toNatClampNeg) then some (7 : Int32)
        else some (0 : Int32))))
    else some (6 : Int32))
def d_X1_join (x1 : Int32) (x2 : Int32) (V : VT) : Option VT :=
  asr (inb x1 7) (asr (inb x1 7) (asr (inb x2 7) (asr (inb x2 7) (some (up2 (up2 V 6 x1.toNatClampNeg ((V 6 x1.toNatClampNeg) ||| ((1 : Int32) <<< (x2 &&& 31)))) 6 x2.toNatClampNeg (((up2 V 6 x1.toNatClampNeg ((V 6 x1.toNatClampNeg) ||| ((1 : Int32) <<< (x2 &&& 31)))) 6 x2.toNatClampNeg) ||| ((1 : Int32) <<< (x1 &&& 31))))))))
def d_J6_bitCount_0f7a4 (x0 : Int32) (V : VT) : Option Int32 :=
  some ((((((((x0 - ((x0.toUInt32 >>> ((1 : Int32).toUInt32 &&& Int32.toUInt32 31)).toInt32 &&& (1431655765 : Int32))) &&& (858993459 : Int32)) + (((x0 - ((x0.toUInt32 >>> ((1 : Int32).toUInt32 &&& Int32.toUInt32 31)).toInt32 &&& (1431655765 : Int32))).toUInt32 >>> ((2 : Int32).toUInt32 &&& Int32.toUInt32 31)).toInt32 &&& (858993459 : Int32))) + ((((x0 - ((x0.toUInt32 >>> ((1 : Int32).toUInt32 &&& Int32.toUInt32 31)).toInt32 &&& (1431655765 : Int32))) &&& (858993459 : Int32)) + (((x0 - ((x0.toUInt32 >>> ((1 : Int32).toUInt32 &&& Int32.toUInt32 31)).toInt32 &&& (1431655765 : Int32))).toUInt32 >>> ((2 : Int32).toUInt32 &&& Int32.toUInt32 31)).toInt32 &&& (858993459 : Int32))).toUInt32 >>> ((4 : Int32).toUInt32 &&& Int32.toUInt32 31)).toInt32) &&& (252645135 : Int32)) + ((((((x0 - ((x0.toUInt32 >>> ((1 : Int32).toUInt32 &&& Int32.toUInt32 31)).toInt32 &&& (1431655765 : Int32))) &&& (858993459 : Int32)) + (((x0 - ((x0.toUInt32 >>> ((1 : Int32).toUInt32 &&& Int32.toUInt32 31)).toInt32 &&& (1431655765 : Int32))).toUInt32 >>> ((2 : Int32).toUInt32 &&& Int32.toUInt32 31)).toInt32 &&& (858993459 : Int32))) + ((((x0 - ((x0.toUInt32 >>> ((1 : Int32).toUInt32 &&& Int32.toUInt32 31)).toInt32 &&& (1431655765 : Int32))) &&& (858993459 : Int32)) + (((x0 - ((x0.toUInt32 >>> ((1 : Int32).toUInt32 &&& Int32.toUInt32 31)).toInt32 &&& (1431655765 : Int32))).toUInt32 >>> ((2 : Int32).toUInt32 &&& Int32.toUInt32 31)).toInt32 &&& (858993459 : Int32))).toUInt32 >>> ((4 : Int32).toUInt32 &&& Int32.toUInt32 31)).toInt32) &&& (252645135 : Int32)).toUInt32 >>> ((8 : Int32).toUInt32 &&& Int32.toUInt32 31)).toInt32) + (((((((x0 - ((x0.toUInt32 >>> ((1 : Int32).toUInt32 &&& Int32.toUInt32 31)).toInt32 &&& (1431655765 : Int32))) &&& (858993459 : Int32)) + (((x0 - ((x0.toUInt32 >>> ((1 : Int32).toUInt32 &&& Int32.toUInt32 31)).toInt32 &&& (1431655765 : Int32))).toUInt32 >>> ((2 : Int32).toUInt32 &&& Int32.toUInt32 31)).toInt32 &&& (858993459 : Int32))) + ((((x0 - ((x0.toUInt32 >>> ((1 : Int32).toUInt32 &&& Int32.toUInt32 31)).toInt32 &&& (1431655765 : Int32))) &&& (858993459 : Int32)) + (((x0 - ((x0.toUInt32 >>> ((1 : Int32).toUInt32 &&& Int32.toUInt32 31)).toInt32 &&& (1431655765 : Int32))).toUInt32 >>> ((2 : Int32).toUInt32 &&& Int32.toUInt32 31)).toInt32 &&& (858993459 : Int32))).toUInt32 >>> ((4 : Int32).toUInt32 &&& Int32.toUInt32 31)).toInt32) &&& (252645135 : Int32)) + ((((((x0 - ((x0.toUInt32 >>> ((1 : Int32).toUInt32 &&& Int32.toUInt32 31)).toInt32 &&& (1431655765 : Int32))) &&& (858993459 : Int32)) + (((x0 - ((x0.toUInt32 >>> ((1 : Int32).toUInt32 &&& Int32.toUInt32 31)).toInt32 &&& (1431655765 : Int32))).toUInt32 >>> ((2 : Int32).toUInt32 &&& Int32.toUInt32 31)).toInt32 &&& (858993459 : Int32))) + ((((x0 - ((x0.toUInt32 >>> ((1 : Int32).toUInt32 &&& Int32.toUInt32 31)).toInt32 &&& (1431655765 : Int32))) &&& (858993459 : Int32)) + (((x0 - ((x0.toUInt32 >>> ((1 : Int32).toUInt32 &&& Int32.toUInt32 31)).toInt32 &&& (1431655765 : Int32))).toUInt32 >>> ((2 : Int32).toUInt32 &&& Int32.toUInt32 31)).toInt32 &&& (858993459 : Int32))).toUInt32 >>> ((4 : Int32).toUInt32 &&& Int32.toUInt32 31)).toInt32) &&& (252645135 : Int32)).toUInt32 >>> ((8 : Int32).toUInt32 &&& Int32.toUInt32 31)).toInt32).toUInt32 >>> ((16 : Int32).toUInt32 &&& Int32.toUInt32 31)).toInt32) &&& (63 : Int32))
def d_X1_countNeighbours (x1 : Int32) (V : VT) : Option Int32 :=
  asr (inb x1 7) (bd (d_J6_bitCount_0f7a4 (V 6 x1.toNatClampNeg) V) (fun r3 => some r3))
def d_X1_countBorders_4b (V : VT) (k4 : Int32 → Int32 → Option Int32) (x1 x2 : Int32)  : Option Int32 :=
  if (V 1 8) ≤ x2 then some (x1 / (2 : Int32))
  else bd (d_X1_countNeighbours x2 V) (fun r3 => k4 (x1 + r3) (x2 + (1 : Int32)))
def d_X1_countBorders_4 (V : VT) : Int32 → Int32 → Option Int32 :=
  lo2 (d_X1_countBorders_4b V) FU
def d_X1_countBorders  (V : VT) : Option Int32 :=
  d_X1_countBorders_4 V (0 : Int32) (0 : Int32)
def d_X4_border (x1 : Int32) (x2 : Int32) (V : VT) : Option ((Int32 ⊕ String) × VT) :=
  bx (d_X4_stopIfNoCountry x1 V) (fun r6 V3 => bx (d_X4_stopIfNoCountry x2 V3) (fun r12 V9 => bd (d_X1_reasonAgainstBorder x1 x2 V9) (fun r14 => bx (d_X4_stopIfRefused r14 x1 x2 V9) (fun r20 V17 => bd (d_X3_keep 1 V17) (fun V22 => bd (d_X1_join x1 x2 V22) (fun V24 => bd (d_X1_countBorders V24) (fun r26 => some (.inl r26, V24))))))))
def d_X1_reasonAgainstErasing (x1 : Int32) (x2 : Int32) (V : VT) : Option Int32 :=
  if x1 = x2 then some (5 : Int32)
  else bd (d_X1_areNeighbours x1 x2 V) (fun r3 => if r3 = (0 : Int32) then some (6 : Int32)
    else some (0 : Int32))
def d_X1_part (x1 : Int32) (x2 : Int32) (V : VT) : Option VT :=
  asr (inb x1 7) (asr (inb x1 7) (asr (inb x2 7) (asr (inb x2 7) (some (up2 (up2 V 6 x1.toNatClampNeg ((V 6 x1.toNatClampNeg) &&& (((1 : Int32) <<< (x2 &&& 31)) ^^^ (-1 : Int32)))) 6 x2.toNatClampNeg (((up2 V 6 x1.toNatClampNeg ((V 6 x1.toNatClampNeg) &&& (((1 : Int32) <<< (x2 &&& 31)) ^^^ (-1 : Int32)))) 6 x2.toNatClampNeg) &&& (((1 : Int32) <<< (x1 &&& 31)) ^^^ (-1 : Int32))))))))
def d_X4_erase (x1 : Int32) (x2 : Int32) (V : VT) : Option ((Int32 ⊕ String) × VT) :=
  bx (d_X4_stopIfNoCountry x1 V) (fun r6 V3 => bx (d_X4_stopIfNoCountry x2 V3) (fun r12 V9 => bd (d_X1_reasonAgainstErasing x1 x2 V9) (fun r14 => bx (d_X4_stopIfRefused r14 x1 x2 V9) (fun r20 V17 => bd (d_X3_keep 1 V17) (fun V22 => bd (d_X1_part x1 x2 V22) (fun V24 => bd (d_X1_countBorders V24) (fun r26 => some (.inl r26, V24))))))))
def d_X4_hasBorder (x1 : Int32) (x2 : Int32) (V : VT) : Option ((Int32 ⊕ String) × VT) :=
  bx (d_X4_stopIfNoCountry x1 V) (fun r6 V3 => bx (d_X4_stopIfNoCountry x2 V3) (fun r12 V9 => bd (d_X1_areNeighbours x1 x2 V9) (fun r14 => asr (zok r14) (some (.inl r14, V9)))))
def d_X1_huesAround_4b (V : VT) (k4 : Int32 → Int32 → Int32 → Option Int32) (x1 x2 x3 : Int32)  : Option Int32 :=
  if (V 1 8) ≤ x3 then some x2
  else asr (inb x1 7) (if (((V 6 x1.toNatClampNeg) >>> (x3 &&& 31)) &&& (1 : Int32)) = (0 : Int32) then k4 x1 x2 (x3 + (1 : Int32))
    else asr (inb x3 7) (if (V 3 x3.toNatClampNeg) = (-1 : Int32) then k4 x1 x2 (x3 + (1 : Int32))
      else asr (inb x3 7) (k4 x1 (x2 ||| ((1 : Int32) <<< ((V 3 x3.toNatClampNeg) &&& 31))) (x3 + (1 : Int32)))))
def d_X1_huesAround_4 (V : VT) : Int32 → Int32 → Int32 → Option Int32 :=
  lo3 (d_X1_huesAround_4b V) FU
def d_X1_huesAround (x1 : Int32) (V : VT) : Option Int32 :=
  d_X1_huesAround_4 V x1 (0 : Int32) (0 : Int32)
def d_X1_freeHues_23b (V : VT) (k23 : Int32 → Int32 → Int32 → Int32 → Option Int32) (x1 x2 x3 x4 : Int32)  : Option Int32 :=
  if (V 1 9) ≤ x4 then some x3
  else if ((x2 >>> (x4 &&& 31)) &&& (1 : Int32)) = (0 : Int32) then asr (inb x4 5) (asr (inb x1 7) (if (V 8 x4.toNatClampNeg) < (V 2 x1.toNatClampNeg) then k23 x1 x2 x3 (x4 + (1 : Int32))
      else k23 x1 x2 (x3 ||| ((1 : Int32) <<< (x4 &&& 31))) (x4 + (1 : Int32))))
    else k23 x1 x2 x3 (x4 + (1 : Int32))
def d_X1_freeHues_23 (V : VT) : Int32 → Int32 → Int32 → Int32 → Option Int32 :=
  lo4 (d_X1_freeHues_23b V) FU
def d_X1_freeHues (x1 : Int32) (V : VT) : Option Int32 :=
  asr (inb x1 7) (if (V 3 x1.toNatClampNeg) = (-1 : Int32) then bd (d_X1_huesAround x1 V) (fun r4 => d_X1_freeHues_23 V x1 r4 (0 : Int32) (0 : Int32))
  else some (0 : Int32))
def d_X1_placeOf_2b (V : VT) (k2 : Int32 → Int32 → Option Int32) (x1 x2 : Int32)  : Option Int32 :=
  if (V 1 10) ≤ x2 then some (-1 : Int32)
  else asr (inb x2 7) (if (V 7 x2.toNatClampNeg) = x1 then some x2
    else k2 x1 (x2 + (1 : Int32)))
def d_X1_placeOf_2 (V : VT) : Int32 → Int32 → Option Int32 :=
  lo2 (d_X1_placeOf_2b V) FU
def d_X1_placeOf (x1 : Int32) (V : VT) : Option Int32 :=
  d_X1_placeOf_2 V x1 (0 : Int32)
def d_X4_countryOf (x1 : Int32) (x2 : Int32) (V : VT) : Option ((Int32 ⊕ String) × VT) :=
  bx (d_X4_stopIfNoCountry x1 V) (fun r6 V3 => if x2 = (0 : Int32) then asr (inb x1 7) (some (.inl (V3 2 x1.toNatClampNeg), V3))
    else if x2 = (1 : Int32) then asr (inb x1 7) (some (.inl (V3 3 x1.toNatClampNeg), V3))
    else if x2 = (2 : Int32) then bd (d_X1_countNeighbours x1 V3) (fun r13 => some (.inl r13, V3))
    else if x2 = (3 : Int32) then bd (d_X1_freeHues x1 V3) (fun r16 => bd (d_J6_bitCount_0f7a4 r16 V3) (fun r18 => some (.inl r18, V3)))
    else if x2 = (4 : Int32) then asr (inb x1 7) (some (.inl (V3 4 x1.toNatClampNeg), V3))
    else if x2 = (5 : Int32) then asr (inb x1 7) (some (.inl (V3 5 x1.toNatClampNeg), V3))
    else if x2 = (6 : Int32) then bd (d_X1_placeOf x1 V3) (fun r25 => some (.inl r25, V3))
    else some (.inr "java/lang/IllegalArgumentException", V3))
def d_X4_isManyHues (x0 : Int32) (V : VT) : Option Int32 :=
  if x0 < (1 : Int32) then some (0 : Int32)
  else if (5 : Int32) < x0 then some (0 : Int32)
    else some (1 : Int32)
def d_X1_reasonAgainstHues (x1 : Int32) (V : VT) : Option Int32 :=
  bd (d_X1_lowestPaintedBeyond x1 V) (fun r2 => if r2 = (-1 : Int32) then some (0 : Int32)
  else some (9 : Int32))
def d_X4_hues (x1 : Int32) (V : VT) : Option ((Int32 ⊕ String) × VT) :=
  bd (d_X4_isManyHues x1 V) (fun r2 => if r2 = (0 : Int32) then some (.inr "java/lang/IllegalArgumentException", V)
  else bd (d_X1_reasonAgainstHues x1 V) (fun r5 => bx (d_X4_stopIfRefused r5 x1 (0 : Int32) V) (fun r11 V8 => bd (d_X3_keep 1 V8) (fun V13 => some (.inl (V13 1 9), (up2 V13 1 9 x1))))))
def d_X4_isHue (x0 : Int32) (V : VT) : Option Int32 :=
  if x0 < (0 : Int32) then some (0 : Int32)
  else if (5 : Int32) ≤ x0 then some (0 : Int32)
    else some (1 : Int32)
def d_X4_stopIfNoHue (x1 : Int32) (V : VT) : Option ((Int32 ⊕ String) × VT) :=
  bd (d_X4_isHue x1 V) (fun r2 => if r2 = (0 : Int32) then some (.inr "java/lang/IndexOutOfBoundsException", V)
  else some (.inl (0 : Int32), V))
def d_X4_isManyPots (x0 : Int32) (V : VT) : Option Int32 :=
  if x0 < (1 : Int32) then some (0 : Int32)
  else if (50 : Int32) < x0 then some (0 : Int32)
    else some (1 : Int32)
def d_J9_min_7cf53 (x0 : Int32) (x1 : Int32) (V : VT) : Option Int32 :=
  if x1 < x0 then some x1
  else some x0
def d_X1_bring (x1 : Int32) (x2 : Int32) (V : VT) : Option VT :=
  asr (inb x1 5) (bd (d_J9_min_7cf53 (99 : Int32) ((V 8 x1.toNatClampNeg) + x2) V) (fun r3 => asr (inb x1 5) (some (up2 V 8 x1.toNatClampNeg r3))))
def d_X4_pots (x1 : Int32) (x2 : Int32) (V : VT) : Option ((Int32 ⊕ String) × VT) :=
  bx (d_X4_stopIfNoHue x1 V) (fun r6 V3 => bd (d_X4_isManyPots x2 V3) (fun r8 => if r8 = (0 : Int32) then some (.inr "java/lang/IllegalArgumentException", V3)
    else bd (d_X3_keep 1 V3) (fun V11 => bd (d_X1_bring x1 x2 V11) (fun V13 => asr (inb x1 5) (some (.inl (V13 8 x1.toNatClampNeg), V13))))))
def d_X1_countPaintedIn_4b (V : VT) (k4 : Int32 → Int32 → Int32 → Option Int32) (x1 x2 x3 : Int32)  : Option Int32 :=
  if (V 1 8) ≤ x3 then some x2
  else asr (inb x3 7) (if (V 3 x3.toNatClampNeg) = x1 then k4 x1 (x2 + (1 : Int32)) (x3 + (1 : Int32))
    else k4 x1 x2 (x3 + (1 : Int32)))
def d_X1_countPaintedIn_4 (V : VT) : Int32 → Int32 → Int32 → Option Int32 :=
  lo3 (d_X1_countPaintedIn_4b V) FU
def d_X1_countPaintedIn (x1 : Int32) (V : VT) : Option Int32 :=
  d_X1_countPaintedIn_4 V x1 (0 : Int32) (0 : Int32)
def d_X4_hueOf (x1 : Int32) (x2 : Int32) (V : VT) : Option ((Int32 ⊕ String) × VT) :=
  bx (d_X4_stopIfNoHue x1 V) (fun r6 V3 => if x2 = (0 : Int32) then asr (inb x1 5) (some (.inl (V3 8 x1.toNatClampNeg), V3))
    else if x2 = (1 : Int32) then if (V3 1 9) ≤ x1 then some (.inl (0 : Int32), V3)
        else some (.inl (1 : Int32), V3)
    else if x2 = (2 : Int32) then bd (d_X1_countPaintedIn x1 V3) (fun r13 => some (.inl r13, V3))
    else if x2 = (3 : Int32) then asr (inb x1 5) (some (.inl (V3 9 x1.toNatClampNeg), V3))
    else some (.inr "java/lang/IllegalArgumentException", V3))
def d_X1_reasonAgainstPaint (x1 : Int32) (x2 : Int32) (V : VT) : Option Int32 :=
  bd (d_X1_isPainted x1 V) (fun r2 => if r2 = (0 : Int32) then if x2 < (V 1 9) then bd (d_X1_lowestNeighbourIn x1 x2 V) (fun r6 => if r6 = (-1 : Int32) then asr (inb x2 5) (asr (inb x1 7) (if (V 2 x1.toNatClampNeg) ≤ (V 8 x2.toNatClampNeg) then some (0 : Int32)
        else some (4 : Int32)))
      else some (3 : Int32))
    else some (10 : Int32)
  else some (2 : Int32))
def d_X1_cover (x1 : Int32) (x2 : Int32) (V : VT) : Option VT :=
  if (7 : Int32) ≤ (V 1 10) then some V
  else asr (inb x1 7) (asr (inb x2 5) (asr (inb x1 7) (asr (inb x2 5) (asr (inb x2 5) (asr (inb x1 7) (asr (inb x2 5) (asr (inb (V 1 10) 7) (some (up2 (up2 (up2 (up2 (up2 V 3 x1.toNatClampNeg x2) 8 x2.toNatClampNeg ((V 8 x2.toNatClampNeg) - (V 2 x1.toNatClampNeg))) 9 x2.toNatClampNeg ((V 9 x2.toNatClampNeg) + (V 2 x1.toNatClampNeg))) 7 (V 1 10).toNatClampNeg x1) 1 10 ((V 1 10) + (1 : Int32)))))))))))
def d_X4_paint (x1 : Int32) (x2 : Int32) (V : VT) : Option ((Int32 ⊕ String) × VT) :=
  bx (d_X4_stopIfNoCountry x1 V) (fun r6 V3 => bx (d_X4_stopIfNoHue x2 V3) (fun r12 V9 => bd (d_X1_reasonAgainstPaint x1 x2 V9) (fun r14 => bx (d_X4_stopIfRefused r14 x1 x2 V9) (fun r20 V17 => bd (d_X3_keep 1 V17) (fun V22 => bd (d_X1_cover x1 x2 V22) (fun V24 => some (.inl (V24 1 10), V24)))))))
def d_X4_bars (x1 : Int32) (x2 : Int32) (V : VT) : Option ((Int32 ⊕ String) × VT) :=
  bx (d_X4_stopIfNoCountry x1 V) (fun r6 V3 => bx (d_X4_stopIfNoHue x2 V3) (fun r12 V9 => bd (d_X1_reasonAgainstPaint x1 x2 V9) (fun r14 => some (.inl r14, V9))))
def d_X1_reasonAgainstBack  (V : VT) : Option Int32 :=
  if (V 1 10) = (0 : Int32) then some (8 : Int32)
  else some (0 : Int32)
def d_X1_stepBack  (V : VT) : Option (Int32 × VT) :=
  if (V 1 10) ≤ (0 : Int32) then some ((-1 : Int32), V)
  else if (V 1 10) ≤ (7 : Int32) then asr (inb ((V 1 10) - (1 : Int32)) 7) (bd (d_X1_isCountry (V 7 ((V 1 10) - (1 : Int32)).toNatClampNeg) (up2 V 1 10 ((V 1 10) - (1 : Int32)))) (fun r5 => if r5 = (0 : Int32) then some ((V 7 ((V 1 10) - (1 : Int32)).toNatClampNeg), (up2 V 1 10 ((V 1 10) - (1 : Int32))))
      else asr (inb (V 7 ((V 1 10) - (1 : Int32)).toNatClampNeg) 7) (some ((V 7 ((V 1 10) - (1 : Int32)).toNatClampNeg), (up2 (up2 (up2 V 1 10 ((V 1 10) - (1 : Int32))) 3 (V 7 ((V 1 10) - (1 : Int32)).toNatClampNeg).toNatClampNeg (-1 : Int32)) 1 11 ((V 1 11) + (1 : Int32)))))))
    else some ((-1 : Int32), V)
def d_X4_back  (V : VT) : Option ((Int32 ⊕ String) × VT) :=
  bd (d_X1_reasonAgainstBack V) (fun r2 => bx (d_X4_stopIfRefused r2 (0 : Int32) (0 : Int32) V) (fun r8 V5 => bd (d_X3_keep 1 V5) (fun V10 => bw (d_X1_stepBack V10) (fun r13 V12 => some (.inl r13, V12)))))
def d_X1_firstWithOneFreeHue_2b (V : VT) (k2 : Int32 → Option Int32) (x1 : Int32)  : Option Int32 :=
  if (V 1 8) ≤ x1 then some (-1 : Int32)
  else bd (d_X1_freeHues x1 V) (fun r3 => bd (d_J6_bitCount_0f7a4 r3 V) (fun r5 => if r5 = (1 : Int32) then some x1
    else k2 (x1 + (1 : Int32))))
def d_X1_firstWithOneFreeHue_2 (V : VT) : Int32 → Option Int32 :=
  lo1 (d_X1_firstWithOneFreeHue_2b V) FU
def d_X1_firstWithOneFreeHue  (V : VT) : Option Int32 :=
  d_X1_firstWithOneFreeHue_2 V (0 : Int32)
def d_X1_lowestOf_2b (V : VT) (k2 : Int32 → Int32 → Option Int32) (x0 x1 : Int32)  : Option Int32 :=
  if (4 : Int32) ≤ x1 then some x1
  else if ((x0 >>> (x1 &&& 31)) &&& (1 : Int32)) = (0 : Int32) then k2 x0 (x1 + (1 : Int32))
    else some x1
def d_X1_lowestOf_2 (V : VT) : Int32 → Int32 → Option Int32 :=
  lo2 (d_X1_lowestOf_2b V) FU
def d_X1_lowestOf (x0 : Int32) (V : VT) : Option Int32 :=
  d_X1_lowestOf_2 V x0 (0 : Int32)
def d_X1_fillIn_2b  (k2 : Int32 → VT → Option (Int32 × VT)) (x1 : Int32) (V : VT) : Option (Int32 × VT) :=
  if (7 : Int32) ≤ x1 then some (x1, V)
  else bd (d_X1_firstWithOneFreeHue V) (fun r3 => if r3 = (-1 : Int32) then some (x1, V)
    else bd (d_X1_freeHues r3 V) (fun r6 => bd (d_X1_lowestOf r6 V) (fun r8 => bd (d_X1_cover r3 r8 V) (fun V10 => k2 (x1 + (1 : Int32)) V10))))
def d_X1_fillIn_2  : Int32 → VT → Option (Int32 × VT) :=
  lo1W (d_X1_fillIn_2b) FU
def d_X1_fillIn  (V : VT) : Option (Int32 × VT) :=
  d_X1_fillIn_2 (0 : Int32) V
def d_X4_fill  (V : VT) : Option (Int32 × VT) :=
  bd (d_X3_keep 1 V) (fun V2 => bw (d_X1_fillIn V2) (fun r5 V4 => some (r5, V4)))
def d_X4_step_15  (V : VT) : Option ((Int32 ⊕ String) × VT) :=
  some (.inr "java/util/NoSuchElementException", V)
def d_X4_step (x1 : Int32) (V : VT) : Option ((Int32 ⊕ String) × VT) :=
  if x1 < (0 : Int32) then d_X4_step_15 V
  else if x1 < (V 1 10) then asr (inb x1 7) (some (.inl (V 7 x1.toNatClampNeg), V))
    else d_X4_step_15 V
def d_X1_isStuck (x1 : Int32) (V : VT) : Option Int32 :=
  bd (d_X1_isPainted x1 V) (fun r2 => if r2 = (0 : Int32) then bd (d_X1_freeHues x1 V) (fun r5 => if r5 = (0 : Int32) then some (1 : Int32)
    else some (0 : Int32))
  else some (0 : Int32))
def d_X1_firstStuck_2b (V : VT) (k2 : Int32 → Option Int32) (x1 : Int32)  : Option Int32 :=
  if (V 1 8) ≤ x1 then some (-1 : Int32)
  else bd (d_X1_isStuck x1 V) (fun r3 => if r3 = (0 : Int32) then k2 (x1 + (1 : Int32))
    else some x1)
def d_X1_firstStuck_2 (V : VT) : Int32 → Option Int32 :=
  lo1 (d_X1_firstStuck_2b V) FU
def d_X1_firstStuck  (V : VT) : Option Int32 :=
  d_X1_firstStuck_2 V (0 : Int32)
def d_X4_stuck  (V : VT) : Option ((Int32 ⊕ String) × VT) :=
  bd (d_X1_firstStuck V) (fun r2 => if r2 = (-1 : Int32) then some (.inr "java/util/NoSuchElementException", V)
  else some (.inl r2, V))
def d_X1_unpainted_4b (V : VT) (k4 : Int32 → Int32 → Option Int32) (x1 x2 : Int32)  : Option Int32 :=
  if (V 1 8) ≤ x2 then some x1
  else bd (d_X1_isPainted x2 V) (fun r3 => if r3 = (0 : Int32) then k4 (x1 ||| ((1 : Int32) <<< (x2 &&& 31))) (x2 + (1 : Int32))
    else k4 x1 (x2 + (1 : Int32)))
def d_X1_unpainted_4 (V : VT) : Int32 → Int32 → Option Int32 :=
  lo2 (d_X1_unpainted_4b V) FU
def d_X1_unpainted  (V : VT) : Option Int32 :=
  d_X1_unpainted_4 V (0 : Int32) (0 : Int32)
def d_X1_isBetterToPaint (x1 : Int32) (x2 : Int32) (V : VT) : Option Int32 :=
  bd (d_X1_freeHues x1 V) (fun r2 => bd (d_J6_bitCount_0f7a4 r2 V) (fun r4 => bd (d_X1_freeHues x2 V) (fun r6 => bd (d_J6_bitCount_0f7a4 r6 V) (fun r8 => if r4 = r8 then bd (d_X1_unpainted V) (fun r11 => asr (inb x1 7) (bd (d_J6_bitCount_0f7a4 ((V 6 x1.toNatClampNeg) &&& r11) V) (fun r14 => asr (inb x2 7) (bd (d_J6_bitCount_0f7a4 ((V 6 x2.toNatClampNeg) &&& r11) V) (fun r17 => if r14 ≤ r17 then some (0 : Int32)
    else some (1 : Int32))))))
  else if r8 ≤ r4 then some (0 : Int32)
    else some (1 : Int32)))))
def d_X1_bestToPaint_4b (V : VT) (k4 : Int32 → Int32 → Option Int32) (x1 x2 : Int32)  : Option Int32 :=
  if (V 1 8) ≤ x2 then some x1
  else bd (d_X1_isPainted x2 V) (fun r3 => if r3 = (0 : Int32) then if x1 = (-1 : Int32) then k4 x2 (x2 + (1 : Int32))
      else bd (d_X1_isBetterToPaint x2 x1 V) (fun r7 => if r7 = (0 : Int32) then k4 x1 (x2 + (1 : Int32))
        else k4 x2 (x2 + (1 : Int32)))
    else k4 x1 (x2 + (1 : Int32)))
def d_X1_bestToPaint_4 (V : VT) : Int32 → Int32 → Option Int32 :=
  lo2 (d_X1_bestToPaint_4b V) FU
def d_X1_bestToPaint  (V : VT) : Option Int32 :=
  d_X1_bestToPaint_4 V (-1 : Int32) (0 : Int32)
def d_X4_next  (V : VT) : Option ((Int32 ⊕ String) × VT) :=
  bd (d_X1_bestToPaint V) (fun r2 => if r2 = (-1 : Int32) then some (.inr "java/util/NoSuchElementException", V)
  else some (.inl r2, V))
def d_X1_countRobbed_5b (V : VT) (k5 : Int32 → Int32 → Int32 → Int32 → Option Int32) (x1 x2 x3 x4 : Int32)  : Option Int32 :=
  if (V 1 8) ≤ x4 then some x3
  else bd (d_X1_areNeighbours x1 x4 V) (fun r3 => if r3 = (0 : Int32) then k5 x1 x2 x3 (x4 + (1 : Int32))
    else bd (d_X1_freeHues x4 V) (fun r6 => if ((r6 >>> (x2 &&& 31)) &&& (1 : Int32)) = (0 : Int32) then k5 x1 x2 x3 (x4 + (1 : Int32))
      else k5 x1 x2 (x3 + (1 : Int32)) (x4 + (1 : Int32))))
def d_X1_countRobbed_5 (V : VT) : Int32 → Int32 → Int32 → Int32 → Option Int32 :=
  lo4 (d_X1_countRobbed_5b V) FU
def d_X1_countRobbed (x1 : Int32) (x2 : Int32) (V : VT) : Option Int32 :=
  d_X1_countRobbed_5 V x1 x2 (0 : Int32) (0 : Int32)
def d_X1_gentlestHue_14b (V : VT) (k14 : Int32 → Int32 → Int32 → Int32 → Int32 → Option Int32) (x1 x2 x3 x4 x5 : Int32)  : Option Int32 :=
  if (5 : Int32) ≤ x5 then some x3
  else if ((x2 >>> (x5 &&& 31)) &&& (1 : Int32)) = (0 : Int32) then k14 x1 x2 x3 x4 (x5 + (1 : Int32))
    else bd (d_X1_countRobbed x1 x5 V) (fun r4 => if x3 = (-1 : Int32) then k14 x1 x2 x5 r4 (x5 + (1 : Int32))
      else if x4 ≤ r4 then k14 x1 x2 x3 x4 (x5 + (1 : Int32))
        else k14 x1 x2 x5 r4 (x5 + (1 : Int32)))
def d_X1_gentlestHue_14 (V : VT) : Int32 → Int32 → Int32 → Int32 → Int32 → Option Int32 :=
  lo5 (d_X1_gentlestHue_14b V) FU
def d_X1_gentlestHue (x1 : Int32) (V : VT) : Option Int32 :=
  bd (d_X1_freeHues x1 V) (fun r2 => d_X1_gentlestHue_14 V x1 r2 (-1 : Int32) (0 : Int32) (0 : Int32))
def d_X4_gentle (x1 : Int32) (V : VT) : Option ((Int32 ⊕ String) × VT) :=
  bx (d_X4_stopIfNoCountry x1 V) (fun r6 V3 => bd (d_X1_gentlestHue x1 V3) (fun r8 => if r8 = (-1 : Int32) then some (.inr "java/util/NoSuchElementException", V3)
    else some (.inl r8, V3)))
def d_X4_isCrown (x0 : Int32) (V : VT) : Option Int32 :=
  if x0 < (0 : Int32) then some (0 : Int32)
  else if (9 : Int32) < x0 then some (0 : Int32)
    else some (1 : Int32)
def d_X1_setWish (x1 : Int32) (x2 : Int32) (x3 : Int32) (V : VT) : Option VT :=
  asr (inb x1 7) (asr (inb x1 7) (some (up2 (up2 V 4 x1.toNatClampNeg x2) 5 x1.toNatClampNeg x3)))
def d_X4_wish (x1 : Int32) (x2 : Int32) (x3 : Int32) (V : VT) : Option ((Int32 ⊕ String) × VT) :=
  bx (d_X4_stopIfNoCountry x1 V) (fun r6 V3 => bx (d_X4_stopIfNoHue x2 V3) (fun r12 V9 => bd (d_X4_isCrown x3 V9) (fun r14 => if r14 = (0 : Int32) then some (.inr "java/lang/IllegalArgumentException", V9)
      else bd (d_X3_keep 1 V9) (fun V17 => asr (inb x1 7) (bd (d_X1_setWish x1 x2 x3 V17) (fun V20 => some (.inl (V17 4 x1.toNatClampNeg), V20)))))))
def d_X1_isFulfilled (x1 : Int32) (V : VT) : Option Int32 :=
  bd (d_X1_isPainted x1 V) (fun r2 => if r2 = (0 : Int32) then some (0 : Int32)
  else asr (inb x1 7) (asr (inb x1 7) (if (V 3 x1.toNatClampNeg) = (V 4 x1.toNatClampNeg) then some (1 : Int32)
    else some (0 : Int32))))
def d_X1_sumFulfilledCrowns_4b (V : VT) (k4 : Int32 → Int32 → Option Int32) (x1 x2 : Int32)  : Option Int32 :=
  if (V 1 8) ≤ x2 then some x1
  else bd (d_X1_isFulfilled x2 V) (fun r3 => if r3 = (0 : Int32) then k4 x1 (x2 + (1 : Int32))
    else asr (inb x2 7) (k4 (x1 + (V 5 x2.toNatClampNeg)) (x2 + (1 : Int32))))
def d_X1_sumFulfilledCrowns_4 (V : VT) : Int32 → Int32 → Option Int32 :=
  lo2 (d_X1_sumFulfilledCrowns_4b V) FU
def d_X1_sumFulfilledCrowns  (V : VT) : Option Int32 :=
  d_X1_sumFulfilledCrowns_4 V (0 : Int32) (0 : Int32)
def d_X4_fulfilled  (V : VT) : Option Int32 :=
  bd (d_X1_sumFulfilledCrowns V) (fun r2 => some r2)
def d_X0_noteHolders_16b (k2 : Int32 → VT → Option VT) (k16 : Int32 → Int32 → VT → Option VT) (x2 x3 : Int32) (V : VT) : Option VT :=
  if (V 1 8) ≤ x3 then k2 (x2 + (1 : Int32)) V
  else asr (inb x3 7) (if (V 3 x3.toNatClampNeg) = x2 then asr (inb x2 5) (asr (inb x2 5) (k16 x2 (x3 + (1 : Int32)) (up2 V 103 x2.toNatClampNeg ((V 103 x2.toNatClampNeg) ||| ((1 : Int32) <<< (x3 &&& 31))))))
    else k16 x2 (x3 + (1 : Int32)) V)
def d_X0_noteHolders_16 (k2 : Int32 → VT → Option VT) : Int32 → Int32 → VT → Option VT :=
  lo2W (d_X0_noteHolders_16b k2) FU
def d_X0_noteHolders_2b  (k2 : Int32 → VT → Option VT) (x2 : Int32) (V : VT) : Option VT :=
  if (5 : Int32) ≤ x2 then some V
  else asr (inb x2 5) (d_X0_noteHolders_16 k2 x2 (0 : Int32) (up2 V 103 x2.toNatClampNeg (0 : Int32)))
def d_X0_noteHolders_2  : Int32 → VT → Option VT :=
  lo1W (d_X0_noteHolders_2b) FU
def d_X0_noteHolders  (V : VT) : Option VT :=
  d_X0_noteHolders_2 (0 : Int32) V
def d_X0_countChoices_5b (V : VT) (k5 : Int32 → Int32 → Int32 → Int32 → Option Int32) (x0 x1 x3 x4 : Int32)  : Option Int32 :=
  if x1 ≤ x4 then some x3
  else asr (inb x4 5) (if ((V 103 x4.toNatClampNeg) &&& x0) = (0 : Int32) then k5 x0 x1 (x3 + (1 : Int32)) (x4 + (1 : Int32))
    else k5 x0 x1 x3 (x4 + (1 : Int32)))
def d_X0_countChoices_5 (V : VT) : Int32 → Int32 → Int32 → Int32 → Option Int32 :=
  lo4 (d_X0_countChoices_5b V) FU
def d_X0_countChoices (x0 : Int32) (x1 : Int32) (V : VT) : Option Int32 :=
  d_X0_countChoices_5 V x0 x1 (0 : Int32) (0 : Int32)
def d_X0_countFrom_86b (kR : Int32 → Int32 → Int32 → VT → Option (Int32 × VT)) (k86 : Int32 → Int32 → Int32 → Int32 → Int32 → VT → Option (Int32 × VT)) (x0 x1 x2 x5 x6 : Int32) (V : VT) : Option (Int32 × VT) :=
  if x2 ≤ x6 then some (x5, V)
  else asr (inb x6 5) (asr (inb x0 7) (if ((V 103 x6.toNatClampNeg) &&& (V 6 x0.toNatClampNeg)) = (0 : Int32) then asr (inb x6 5) (asr (inb x6 5) (bw (kR (x0 + (1 : Int32)) x1 x2 (up2 V 103 x6.toNatClampNeg ((V 103 x6.toNatClampNeg) ||| ((1 : Int32) <<< (x0 &&& 31))))) (fun r9 V8 => asr (inb x6 5) (asr (inb x6 5) (k86 x0 x1 x2 (x5 + r9) (x6 + (1 : Int32)) (up2 V8 103 x6.toNatClampNeg ((V8 103 x6.toNatClampNeg) &&& (((1 : Int32) <<< (x0 &&& 31)) ^^^ (-1 : Int32)))))))))
    else k86 x0 x1 x2 x5 (x6 + (1 : Int32)) V))
def d_X0_countFrom_86 (kR : Int32 → Int32 → Int32 → VT → Option (Int32 × VT)) : Int32 → Int32 → Int32 → Int32 → Int32 → VT → Option (Int32 × VT) :=
  lo5W (d_X0_countFrom_86b kR) FU
def d_X0_countFromb (kR : Int32 → Int32 → Int32 → VT → Option (Int32 × VT))  (x0 : Int32) (x1 : Int32) (x2 : Int32) (V : VT) : Option (Int32 × VT) :=
  if (7 : Int32) ≤ x0 then some ((1 : Int32), V)
  else if (x1 >>> (x0 &&& 31)) = (0 : Int32) then some ((1 : Int32), V)
    else if ((x1 >>> (x0 &&& 31)) &&& (1 : Int32)) = (0 : Int32) then bw (kR (x0 + (1 : Int32)) x1 x2 V) (fun r15 V14 => some (r15, V14))
      else asr (inb x0 7) (if (((V 6 x0.toNatClampNeg) &&& x1) >>> (x0 &&& 31)) = (0 : Int32) then asr (inb x0 7) (bd (d_X0_countChoices (V 6 x0.toNatClampNeg) x2 V) (fun r8 => if r8 = (0 : Int32) then some ((0 : Int32), V)
          else bw (kR (x0 + (1 : Int32)) x1 x2 V) (fun r12 V11 => some ((r8 * r12), V11))))
        else d_X0_countFrom_86 kR x0 x1 x2 (0 : Int32) (0 : Int32) V)
def d_X0_countFrom : Int32 → Int32 → Int32 → VT → Option (Int32 × VT) :=
  lo3W d_X0_countFromb 12
def d_X0_count (x2 : Int32) (V : VT) : Option (Int32 × VT) :=
  bd (d_X0_noteHolders V) (fun V2 => bd (d_X1_unpainted V2) (fun r4 => bw (d_X0_countFrom (0 : Int32) r4 x2 V2) (fun r7 V6 => some (r7, V6))))
def d_X4_ways  (V : VT) : Option (Int32 × VT) :=
  bw (d_X0_count (V 1 9) V) (fun r3 V2 => some (r3, V2))
def d_X0_spellOut_31 (k5 : Int32 → Int32 → VT → Option VT) (x3 x4 : Int32) (V : VT) : Option VT :=
  asr (inb x4 7) (asr (inb x4 7) (k5 x3 (x4 + (1 : Int32)) (up2 V 104 x4.toNatClampNeg (V 3 x4.toNatClampNeg))))
def d_X0_spellOut_5b  (k5 : Int32 → Int32 → VT → Option VT) (x3 x4 : Int32) (V : VT) : Option VT :=
  if (V 1 8) ≤ x4 then some V
  else bd (d_X1_isPainted x4 V) (fun r3 => if r3 = (0 : Int32) then if (1 : Int32) ≤ (V 1 9) then asr (nz (V 1 9)) (asr (inb x4 7) (asr (nz (V 1 9)) (k5 (x3 / (V 1 9)) (x4 + (1 : Int32)) (up2 V 104 x4.toNatClampNeg (x3 - x3 / (V 1 9) * (V 1 9))))))
      else d_X0_spellOut_31 k5 x3 x4 V
    else d_X0_spellOut_31 k5 x3 x4 V)
def d_X0_spellOut_5  : Int32 → Int32 → VT → Option VT :=
  lo2W (d_X0_spellOut_5b) FU
def d_X0_spellOut (x2 : Int32) (V : VT) : Option VT :=
  d_X0_spellOut_5 x2 (0 : Int32) V
def d_X0_isWay_12b (V : VT) (k2 : Int32 → Option Int32) (k12 : Int32 → Int32 → Option Int32) (x2 x3 : Int32)  : Option Int32 :=
  if x2 ≤ x3 then k2 (x2 + (1 : Int32))
  else bd (d_X1_areNeighbours x2 x3 V) (fun r3 => if r3 = (0 : Int32) then k12 x2 (x3 + (1 : Int32))
    else asr (inb x2 7) (asr (inb x3 7) (if (V 104 x2.toNatClampNeg) = (V 104 x3.toNatClampNeg) then some (0 : Int32)
      else k12 x2 (x3 + (1 : Int32)))))
def d_X0_isWay_12 (V : VT) (k2 : Int32 → Option Int32) : Int32 → Int32 → Option Int32 :=
  lo2 (d_X0_isWay_12b V k2) FU
def d_X0_isWay_2b (V : VT) (k2 : Int32 → Option Int32) (x2 : Int32)  : Option Int32 :=
  if (V 1 8) ≤ x2 then some (1 : Int32)
  else d_X0_isWay_12 V k2 x2 (0 : Int32)
def d_X0_isWay_2 (V : VT) : Int32 → Option Int32 :=
  lo1 (d_X0_isWay_2b V) FU
def d_X0_isWay  (V : VT) : Option Int32 :=
  d_X0_isWay_2 V (0 : Int32)
def d_X0_countByNumbers_42b  (k42 : Int32 → Int32 → Int32 → VT → Option (Int32 × VT)) (x2 x3 x4 : Int32) (V : VT) : Option (Int32 × VT) :=
  if x2 ≤ x4 then some (x3, V)
  else bd (d_X0_spellOut x4 V) (fun V3 => bd (d_X0_isWay V3) (fun r5 => if r5 = (0 : Int32) then k42 x2 x3 (x4 + (1 : Int32)) V3
    else k42 x2 (x3 + (1 : Int32)) (x4 + (1 : Int32)) V3))
def d_X0_countByNumbers_42  : Int32 → Int32 → Int32 → VT → Option (Int32 × VT) :=
  lo3W (d_X0_countByNumbers_42b) FU
def d_X0_countByNumbers_4b  (k4 : Int32 → Int32 → VT → Option (Int32 × VT)) (x2 x3 : Int32) (V : VT) : Option (Int32 × VT) :=
  if (V 1 8) ≤ x3 then d_X0_countByNumbers_42 x2 (0 : Int32) (0 : Int32) V
  else bd (d_X1_isPainted x3 V) (fun r3 => if r3 = (0 : Int32) then k4 (x2 * (V 1 9)) (x3 + (1 : Int32)) V
    else k4 (x2 * (1 : Int32)) (x3 + (1 : Int32)) V)
def d_X0_countByNumbers_4  : Int32 → Int32 → VT → Option (Int32 × VT) :=
  lo2W (d_X0_countByNumbers_4b) FU
def d_X0_countByNumbers  (V : VT) : Option (Int32 × VT) :=
  d_X0_countByNumbers_4 (1 : Int32) (0 : Int32) V
def d_X4_waysAgain  (V : VT) : Option (Int32 × VT) :=
  bd (d_X1_unpainted V) (fun r2 => bd (d_J6_bitCount_0f7a4 r2 V) (fun r4 => if r4 ≤ (4 : Int32) then bw (d_X0_countByNumbers V) (fun r8 V7 => some (r8, V7))
  else bw (d_X0_count (V 1 9) V) (fun r11 V10 => some (r11, V10))))
def d_X0_countWithWish (x2 : Int32) (V : VT) : Option (Int32 × VT) :=
  asr (inb x2 7) (bd (d_X1_isPainted x2 V) (fun r3 => if r3 = (0 : Int32) then bd (d_X0_noteHolders V) (fun V6 => if (V 4 x2.toNatClampNeg) < (0 : Int32) then some ((0 : Int32), V6)
    else if (V6 1 9) ≤ (V 4 x2.toNatClampNeg) then some ((0 : Int32), V6)
      else asr (inb (V 4 x2.toNatClampNeg) 5) (asr (inb x2 7) (if ((V6 103 (V 4 x2.toNatClampNeg).toNatClampNeg) &&& (V6 6 x2.toNatClampNeg)) = (0 : Int32) then asr (inb (V 4 x2.toNatClampNeg) 5) (asr (inb (V 4 x2.toNatClampNeg) 5) (bd (d_X1_unpainted (up2 V6 103 (V 4 x2.toNatClampNeg).toNatClampNeg ((V6 103 (V 4 x2.toNatClampNeg).toNatClampNeg) ||| ((1 : Int32) <<< (x2 &&& 31))))) (fun r15 => bw (d_X0_countFrom (0 : Int32) (r15 &&& (((1 : Int32) <<< (x2 &&& 31)) ^^^ (-1 : Int32))) (V6 1 9) (up2 V6 103 (V 4 x2.toNatClampNeg).toNatClampNeg ((V6 103 (V 4 x2.toNatClampNeg).toNatClampNeg) ||| ((1 : Int32) <<< (x2 &&& 31))))) (fun r18 V17 => some (r18, V17)))))
        else some ((0 : Int32), V6))))
  else bd (d_X1_isFulfilled x2 V) (fun r20 => if r20 = (0 : Int32) then some ((0 : Int32), V)
    else bw (d_X0_count (V 1 9) V) (fun r24 V23 => some (r24, V23)))))
def d_X4_waysFor (x1 : Int32) (V : VT) : Option ((Int32 ⊕ String) × VT) :=
  bx (d_X4_stopIfNoCountry x1 V) (fun r6 V3 => asr (inb x1 7) (if (V3 4 x1.toNatClampNeg) = (-1 : Int32) then some (.inr "java/util/NoSuchElementException", V3)
    else bw (d_X0_countWithWish x1 V3) (fun r11 V10 => some (.inl r11, V10))))
def d_J9_max_7cf53 (x0 : Int32) (x1 : Int32) (V : VT) : Option Int32 :=
  if x0 < x1 then some x1
  else some x0
def d_X1_countHuesNeeded_4b (V : VT) (k4 : Int32 → Int32 → Option Int32) (x1 x2 : Int32)  : Option Int32 :=
  if (V 1 8) ≤ x2 then some x1
  else asr (inb x2 7) (bd (d_J9_max_7cf53 x1 ((V 3 x2.toNatClampNeg) + (1 : Int32)) V) (fun r4 => k4 r4 (x2 + (1 : Int32))))
def d_X1_countHuesNeeded_4 (V : VT) : Int32 → Int32 → Option Int32 :=
  lo2 (d_X1_countHuesNeeded_4b V) FU
def d_X1_countHuesNeeded  (V : VT) : Option Int32 :=
  d_X1_countHuesNeeded_4 V (1 : Int32) (0 : Int32)
def d_X4_fewest_8b  (k8 : Int32 → VT → Option ((Int32 ⊕ String) × VT)) (x1 : Int32) (V : VT) : Option ((Int32 ⊕ String) × VT) :=
  if (5 : Int32) < x1 then some (.inr "java/util/NoSuchElementException", V)
  else bw (d_X0_count x1 V) (fun r4 V3 => if r4 ≤ (0 : Int32) then k8 (x1 + (1 : Int32)) V3
    else some (.inl x1, V3))
def d_X4_fewest_8  : Int32 → VT → Option ((Int32 ⊕ String) × VT) :=
  lo1W (d_X4_fewest_8b) FU
def d_X4_fewest  (V : VT) : Option ((Int32 ⊕ String) × VT) :=
  bd (d_X1_countHuesNeeded V) (fun r2 => d_X4_fewest_8 r2 V)
def d_X1_isClique_13b (V : VT) (k13 : Int32 → Int32 → Option Int32) (x1 x2 : Int32)  : Option Int32 :=
  if (V 1 8) ≤ x2 then some (1 : Int32)
  else asr (inb x2 7) (if (((x1 &&& ((V 6 x2.toNatClampNeg) ^^^ (-1 : Int32))) >>> (x2 &&& 31)) &&& (1 : Int32)) = (0 : Int32) then k13 x1 (x2 + (1 : Int32))
    else if (x1 &&& ((V 6 x2.toNatClampNeg) ^^^ (-1 : Int32))) = ((1 : Int32) <<< (x2 &&& 31)) then k13 x1 (x2 + (1 : Int32))
      else some (0 : Int32))
def d_X1_isClique_13 (V : VT) : Int32 → Int32 → Option Int32 :=
  lo2 (d_X1_isClique_13b V) FU
def d_X1_isClique (x1 : Int32) (V : VT) : Option Int32 :=
  if (x1 >>> ((V 1 8) &&& 31)) = (0 : Int32) then d_X1_isClique_13 V x1 (0 : Int32)
  else some (0 : Int32)
def d_X4_clique_4b (V : VT) (k4 : Int32 → Int32 → Option Int32) (x1 x2 : Int32)  : Option Int32 :=
  if (128 : Int32) ≤ x2 then some x1
  else bd (d_X1_isClique x2 V) (fun r3 => if r3 = (0 : Int32) then k4 x1 (x2 + (1 : Int32))
    else bd (d_J6_bitCount_0f7a4 x2 V) (fun r6 => bd (d_J9_max_7cf53 x1 r6 V) (fun r8 => k4 r8 (x2 + (1 : Int32)))))
def d_X4_clique_4 (V : VT) : Int32 → Int32 → Option Int32 :=
  lo2 (d_X4_clique_4b V) FU
def d_X4_clique  (V : VT) : Option Int32 :=
  d_X4_clique_4 V (0 : Int32) (0 : Int32)
def d_X4_put (x1 : Int32) (V : VT) : Option VT :=
  if (17 : Int32) ≤ (V 0 7) then some V
  else asr (inb (V 0 7) 17) (some (up2 (up2 V 108 (V 0 7).toNatClampNeg (vp_nar .char x1)) 0 7 ((V 0 7) + (1 : Int32))))
def d_X4_putDigit (x1 : Int32) (V : VT) : Option VT :=
  bd (d_X4_put (((48 : Int32) + x1).toUInt32 % 65536).toInt32 V) (fun V2 => some V2)
def d_X4_putNeighbours_37 (k4 : Int32 → Int32 → Int32 → VT → Option VT) (x1 x3 : Int32) (V : VT) : Option VT :=
  bd (d_X4_putDigit x3 V) (fun V2 => k4 x1 (0 : Int32) (x3 + (1 : Int32)) V2)
def d_X4_putNeighbours_4b  (k4 : Int32 → Int32 → Int32 → VT → Option VT) (x1 x2 x3 : Int32) (V : VT) : Option VT :=
  if (V 1 8) ≤ x3 then some V
  else bd (d_X1_areNeighbours x1 x3 V) (fun r3 => if r3 = (0 : Int32) then k4 x1 x2 (x3 + (1 : Int32)) V
    else if x2 = (0 : Int32) then bd (d_X4_put (44 : Int32) V) (fun V7 => d_X4_putNeighbours_37 k4 x1 x3 V7)
      else d_X4_putNeighbours_37 k4 x1 x3 V)
def d_X4_putNeighbours_4  : Int32 → Int32 → Int32 → VT → Option VT :=
  lo3W (d_X4_putNeighbours_4b) FU
def d_X4_putNeighbours (x1 : Int32) (V : VT) : Option VT :=
  d_X4_putNeighbours_4 x1 (1 : Int32) (0 : Int32) V
def d_X4_line_54  (x1 : Int32) (V : VT) : Option ((Int32 ⊕ String) × VT) :=
  bd (d_X4_put (40 : Int32) V) (fun V2 => bd (d_X4_putNeighbours x1 V2) (fun V4 => bd (d_X4_put (41 : Int32) V4) (fun V6 => bd (d_X1_isStuck x1 V6) (fun r8 => if r8 = (0 : Int32) then some (.inl (V6 0 7), V6)
  else bd (d_X4_put (33 : Int32) V6) (fun V11 => some (.inl (V11 0 7), V11))))))
def d_X4_line (x1 : Int32) (V : VT) : Option ((Int32 ⊕ String) × VT) :=
  bx (d_X4_stopIfNoCountry x1 V) (fun r6 V3 => bd (d_X4_putDigit x1 (up2 V3 0 7 (0 : Int32))) (fun V8 => bd (d_X4_put (58 : Int32) V8) (fun V10 => bd (d_X1_isPainted x1 V10) (fun r12 => if r12 = (0 : Int32) then bd (d_X4_put (45 : Int32) V10) (fun V15 => d_X4_line_54 x1 V15)
    else asr (inb x1 7) (bd (d_X4_putDigit (V10 3 x1.toNatClampNeg) V10) (fun V18 => d_X4_line_54 x1 V18))))))
def d_X4_character_12  (V : VT) : Option ((Int32 ⊕ String) × VT) :=
  some (.inr "java/lang/IndexOutOfBoundsException", V)
def d_X4_character (x1 : Int32) (V : VT) : Option ((Int32 ⊕ String) × VT) :=
  if x1 < (0 : Int32) then d_X4_character_12 V
  else if x1 < (V 0 7) then asr (inb x1 17) (asr (cok (V 108 x1.toNatClampNeg)) (some (.inl (V 108 x1.toNatClampNeg), V)))
    else d_X4_character_12 V
def d_X2_add (x1 : Int32) (V : VT) : Option VT :=
  if (60 : Int32) ≤ (V 105 1) then some V
  else asr (inb (V 105 1) 60) (some (up2 (up2 V 106 (V 105 1).toNatClampNeg (vp_nar .char x1)) 105 1 ((V 105 1) + (1 : Int32))))
def d_X4_append (x1 : Int32) (V : VT) : Option ((Int32 ⊕ String) × VT) :=
  if (V 105 1) < (60 : Int32) then bd (d_X2_add x1 V) (fun V3 => some (.inl (V3 105 1), V3))
  else some (.inr "java/lang/IllegalStateException", V)
def d_X2_shapeOf (x0 : Int32) (V : VT) : Option (Option Nat) :=
  if x0 = (98 : Int32) then some (some 1)
  else if x0 = (99 : Int32) then some none
  else if x0 = (100 : Int32) then some none
  else if x0 = (101 : Int32) then some none
  else if x0 = (102 : Int32) then some (some 2)
  else if x0 = (103 : Int32) then some none
  else if x0 = (104 : Int32) then some (some 4)
  else if x0 = (105 : Int32) then some none
  else if x0 = (106 : Int32) then some (some 5)
  else if x0 = (107 : Int32) then some none
  else if x0 = (108 : Int32) then some none
  else if x0 = (109 : Int32) then some none
  else if x0 = (110 : Int32) then some none
  else if x0 = (111 : Int32) then some none
  else if x0 = (112 : Int32) then some (some 0)
  else if x0 = (113 : Int32) then some none
  else if x0 = (114 : Int32) then some none
  else if x0 = (115 : Int32) then some none
  else if x0 = (116 : Int32) then some none
  else if x0 = (117 : Int32) then some none
  else if x0 = (118 : Int32) then some none
  else if x0 = (119 : Int32) then some (some 3)
  else if x0 = (120 : Int32) then some (some 2)
  else some none
def d_X2_takeDigits_82  (x2 x3 : Int32) (V : VT) : Option (Int32 × VT) :=
  if x3 = (0 : Int32) then some ((0 : Int32), V)
  else if (V 105 5) < (3 : Int32) then asr (inb (V 105 5) 3) (some ((1 : Int32), (up2 (up2 V 107 (V 105 5).toNatClampNeg x2) 105 5 ((V 105 5) + (1 : Int32)))))
    else some ((0 : Int32), V)
def d_X2_takeDigits_4b  (k4 : Int32 → Int32 → Int32 → VT → Option (Int32 × VT)) (x1 x2 x3 : Int32) (V : VT) : Option (Int32 × VT) :=
  if x1 ≤ x3 then d_X2_takeDigits_82 x2 x3 V
  else if (V 105 1) ≤ (V 105 2) then d_X2_takeDigits_82 x2 x3 V
    else asr (inb (V 105 2) 60) (if (V 106 (V 105 2).toNatClampNeg) < (48 : Int32) then d_X2_takeDigits_82 x2 x3 V
      else asr (inb (V 105 2) 60) (if (57 : Int32) < (V 106 (V 105 2).toNatClampNeg) then d_X2_takeDigits_82 x2 x3 V
        else asr (inb (V 105 2) 60) (k4 x1 ((x2 * (10 : Int32)) + ((V 106 (V 105 2).toNatClampNeg) - (48 : Int32))) (x3 + (1 : Int32)) (up2 V 105 2 ((V 105 2) + (1 : Int32))))))
def d_X2_takeDigits_4  : Int32 → Int32 → Int32 → VT → Option (Int32 × VT) :=
  lo3W (d_X2_takeDigits_4b) FU
def d_X2_takeDigits (x1 : Int32) (V : VT) : Option (Int32 × VT) :=
  d_X2_takeDigits_4 x1 (0 : Int32) (0 : Int32) V
def d_X2_takePart (x1 : Int32) (V : VT) : Option (Int32 × VT) :=
  if x1 = (100 : Int32) then bw (d_X2_takeDigits (1 : Int32) V) (fun r12 V11 => asr (zok r12) (some (r12, V11)))
  else if x1 = (110 : Int32) then bw (d_X2_takeDigits (2 : Int32) V) (fun r8 V7 => asr (zok r8) (some (r8, V7)))
    else if (V 105 1) ≤ (V 105 2) then some ((0 : Int32), V)
      else asr (inb (V 105 2) 60) (if (V 106 (V 105 2).toNatClampNeg) = x1 then some ((1 : Int32), (up2 V 105 2 ((V 105 2) + (1 : Int32))))
        else some ((0 : Int32), V))
def d_X2_takeParts_57b (i5 : Nat) (k57 : Int32 → VT → Option (Int32 × VT)) (x2 : Int32) (V : VT) : Option (Int32 × VT) :=
  if (nI (strLen.getD i5 0)) ≤ x2 then some ((1 : Int32), V)
  else asr (inb x2 (strLen.getD i5 0)) (bw (d_X2_takePart (strCh i5 x2.toNatClampNeg) V) (fun r5 V4 => if r5 = (0 : Int32) then some ((0 : Int32), V4)
    else k57 (x2 + (1 : Int32)) V4))
def d_X2_takeParts_57 (i5 : Nat) : Int32 → VT → Option (Int32 × VT) :=
  lo1W (d_X2_takeParts_57b i5) FU
def d_X2_takeParts  (V : VT) : Option (Int32 × VT) :=
  if (V 105 2) < (V 105 1) then asr (inb (V 105 2) 60) (bd (d_X2_shapeOf (V 106 (V 105 2).toNatClampNeg) (up2 V 105 3 (V 106 (V 105 2).toNatClampNeg))) (fun o4 => mo o4 (some ((0 : Int32), (up2 V 105 3 (V 106 (V 105 2).toNatClampNeg)))) (fun i5 => d_X2_takeParts_57 i5 (0 : Int32) (up2 (up2 (up2 V 105 3 (V 106 (V 105 2).toNatClampNeg)) 105 2 ((V 105 2) + (1 : Int32))) 105 5 (0 : Int32)))))
  else some ((0 : Int32), V)
def d_X2_findError_7b  (k7 : Int32 → VT → Option (Int32 × VT)) (x1 : Int32) (V : VT) : Option (Int32 × VT) :=
  if (60 : Int32) ≤ x1 then some ((V 105 2), V)
  else bw (d_X2_takeParts V) (fun r4 V3 => if r4 = (0 : Int32) then some ((V3 105 2), V3)
    else if (V3 105 2) < (V3 105 1) then asr (inb (V3 105 2) 60) (if (V3 106 (V3 105 2).toNatClampNeg) = (59 : Int32) then k7 (x1 + (1 : Int32)) (up2 V3 105 2 ((V3 105 2) + (1 : Int32)))
        else some ((V3 105 2), V3))
      else some ((-1 : Int32), V3))
def d_X2_findError_7  : Int32 → VT → Option (Int32 × VT) :=
  lo1W (d_X2_findError_7b) FU
def d_X2_findError  (V : VT) : Option (Int32 × VT) :=
  d_X2_findError_7 (0 : Int32) (up2 V 105 2 (0 : Int32))
def d_X2_takeOrder  (V : VT) : Option (Int32 × VT) :=
  bw (d_X2_takeParts V) (fun r3 V2 => asr (zok r3) (some (r3, (up2 V2 105 2 ((V2 105 2) + (1 : Int32))))))
def d_X4_isInRange (x1 : Int32) (x2 : Int32) (x3 : Int32) (x4 : Int32) (V : VT) : Option Int32 :=
  if x1 = (98 : Int32) then bd (d_X1_isCountry x2 V) (fun r3 => if r3 = (0 : Int32) then some (0 : Int32)
    else bd (d_X1_isCountry x3 V) (fun r6 => if r6 = (0 : Int32) then some (0 : Int32)
      else some (1 : Int32)))
  else if x1 = (104 : Int32) then bd (d_X4_isManyHues x2 V) (fun r10 => asr (zok r10) (some r10))
  else if x1 = (106 : Int32) then bd (d_X4_isHue x2 V) (fun r14 => if r14 = (0 : Int32) then some (0 : Int32)
        else bd (d_X4_isManyPots x3 V) (fun r17 => if r17 = (0 : Int32) then some (0 : Int32)
          else some (1 : Int32)))
  else if x1 = (112 : Int32) then bd (d_X1_isCountry x2 V) (fun r21 => if r21 = (0 : Int32) then some (0 : Int32)
          else bd (d_X4_isHue x3 V) (fun r24 => if r24 = (0 : Int32) then some (0 : Int32)
            else some (1 : Int32)))
  else if x1 = (119 : Int32) then bd (d_X1_isCountry x2 V) (fun r28 => if r28 = (0 : Int32) then some (0 : Int32)
            else bd (d_X4_isHue x3 V) (fun r31 => if r31 = (0 : Int32) then some (0 : Int32)
              else bd (d_X4_isCrown x4 V) (fun r34 => if r34 = (0 : Int32) then some (0 : Int32)
                else some (1 : Int32))))
  else some (1 : Int32)
def d_X4_reasonAgainstOrder (x1 : Int32) (x2 : Int32) (x3 : Int32) (V : VT) : Option Int32 :=
  if x1 = (98 : Int32) then bd (d_X1_reasonAgainstBorder x2 x3 V) (fun r3 => some r3)
  else if x1 = (104 : Int32) then bd (d_X1_reasonAgainstHues x2 V) (fun r6 => some r6)
  else if x1 = (112 : Int32) then bd (d_X1_reasonAgainstPaint x2 x3 V) (fun r9 => some r9)
  else if x1 = (120 : Int32) then bd (d_X1_reasonAgainstBack V) (fun r12 => some r12)
  else some (0 : Int32)
def d_X4_judge (x1 : Int32) (x2 : Int32) (x3 : Int32) (x4 : Int32) (V : VT) : Option (Int32 × VT) :=
  bd (d_X4_isInRange x1 x2 x3 x4 V) (fun r2 => if r2 = (0 : Int32) then some ((-2 : Int32), V)
  else bd (d_X4_reasonAgainstOrder x1 x2 x3 V) (fun r5 => if r5 = (0 : Int32) then some ((0 : Int32), V)
    else bd (d_X4_keepReason r5 x2 x3 V) (fun V8 => some ((-1 : Int32), V8))))
def d_X4_perform (x1 : Int32) (x2 : Int32) (x3 : Int32) (x4 : Int32) (V : VT) : Option VT :=
  if x1 = (98 : Int32) then bd (d_X1_join x2 x3 V) (fun V3 => some V3)
  else if x1 = (99 : Int32) then some V
  else if x1 = (100 : Int32) then some V
  else if x1 = (101 : Int32) then some V
  else if x1 = (102 : Int32) then bw (d_X1_fillIn V) (fun r10 V9 => some V9)
  else if x1 = (103 : Int32) then some V
  else if x1 = (104 : Int32) then some (up2 V 1 9 x2)
  else if x1 = (105 : Int32) then some V
  else if x1 = (106 : Int32) then bd (d_X1_bring x2 x3 V) (fun V16 => some V16)
  else if x1 = (107 : Int32) then some V
  else if x1 = (108 : Int32) then some V
  else if x1 = (109 : Int32) then some V
  else if x1 = (110 : Int32) then some V
  else if x1 = (111 : Int32) then some V
  else if x1 = (112 : Int32) then bd (d_X1_cover x2 x3 V) (fun V24 => some V24)
  else if x1 = (113 : Int32) then some V
  else if x1 = (114 : Int32) then some V
  else if x1 = (115 : Int32) then some V
  else if x1 = (116 : Int32) then some V
  else if x1 = (117 : Int32) then some V
  else if x1 = (118 : Int32) then some V
  else if x1 = (119 : Int32) then bd (d_X1_setWish x2 x3 x4 V) (fun V33 => some V33)
  else if x1 = (120 : Int32) then bw (d_X1_stepBack V) (fun r37 V36 => some V36)
  else some V
def d_X4_carryOutAll_125  (x1 : Int32) (V : VT) : Option (Int32 × VT) :=
  bd (d_X3_keep 10 V) (fun V2 => some (x1, V2))
def d_X4_carryOutAll_21b  (k21 : Int32 → VT → Option (Int32 × VT)) (x1 : Int32) (V : VT) : Option (Int32 × VT) :=
  if (60 : Int32) ≤ x1 then d_X4_carryOutAll_125 x1 V
  else bw (d_X2_takeOrder V) (fun r4 V3 => if r4 = (0 : Int32) then d_X4_carryOutAll_125 x1 V3
    else bw (d_X4_judge (V3 105 3) (V3 107 0) (V3 107 1) (V3 107 2) V3) (fun r8 V7 => if r8 = (0 : Int32) then bd (d_X4_perform (V7 105 3) (V3 107 0) (V3 107 1) (V3 107 2) V7) (fun V11 => k21 (x1 + (1 : Int32)) V11)
      else bd (d_X1_copyFrom 1 10 V7) (fun V13 => some (r8, V13))))
def d_X4_carryOutAll_21  : Int32 → VT → Option (Int32 × VT) :=
  lo1W (d_X4_carryOutAll_21b) FU
def d_X4_carryOutAll  (V : VT) : Option (Int32 × VT) :=
  bd (d_X1_copyFrom 10 1 V) (fun V2 => d_X4_carryOutAll_21 (0 : Int32) (up2 V2 105 2 (0 : Int32)))
def d_X4_read_28  (s0 : Int32) (V : VT) : Option ((Int32 ⊕ String) × VT) :=
  if s0 = (-2 : Int32) then some (.inr "java/lang/IllegalArgumentException", (up2 V 105 1 (0 : Int32)))
  else if s0 = (-1 : Int32) then some (.inr "java/lang/UnsupportedOperationException", (up2 V 105 1 (0 : Int32)))
    else some (.inl s0, (up2 V 105 1 (0 : Int32)))
def d_X4_read  (V : VT) : Option ((Int32 ⊕ String) × VT) :=
  bw (d_X2_findError V) (fun r3 V2 => if r3 = (-1 : Int32) then bw (d_X4_carryOutAll (up2 V2 0 9 r3)) (fun r7 V6 => d_X4_read_28 r7 V6)
  else d_X4_read_28 (-2 : Int32) (up2 V2 0 9 r3))
def d_X4_errorPosition  (V : VT) : Option Int32 :=
  some (V 0 9)
def d_X4_refusal (x1 : Int32) (V : VT) : Option ((Int32 ⊕ String) × VT) :=
  if (V 0 10) = (0 : Int32) then some (.inr "java/util/NoSuchElementException", V)
  else if x1 = (0 : Int32) then some (.inl (V 0 10), V)
    else some (.inl (V 0 11), V)
def d_X1_countPainted  (V : VT) : Option Int32 :=
  bd (d_X1_unpainted V) (fun r2 => bd (d_J6_bitCount_0f7a4 r2 V) (fun r4 => some ((V 1 8) - r4)))
def d_X1_countStuck_4b (V : VT) (k4 : Int32 → Int32 → Option Int32) (x1 x2 : Int32)  : Option Int32 :=
  if (V 1 8) ≤ x2 then some x1
  else bd (d_X1_isStuck x2 V) (fun r3 => if r3 = (0 : Int32) then k4 x1 (x2 + (1 : Int32))
    else k4 (x1 + (1 : Int32)) (x2 + (1 : Int32)))
def d_X1_countStuck_4 (V : VT) : Int32 → Int32 → Option Int32 :=
  lo2 (d_X1_countStuck_4b V) FU
def d_X1_countStuck  (V : VT) : Option Int32 :=
  d_X1_countStuck_4 V (0 : Int32) (0 : Int32)
def d_X4_sum_10b (a : Nat) (V : VT) (k10 : Int32 → Int32 → Int32 → Option Int32) (x1 x3 x4 : Int32)  : Option Int32 :=
  if x3 ≤ x4 then some x1
  else asr (inb x4 (alen a)) (k10 (x1 + (V a x4.toNatClampNeg)) x3 (x4 + (1 : Int32)))
def d_X4_sum_10 (a : Nat) (V : VT) : Int32 → Int32 → Int32 → Option Int32 :=
  lo3 (d_X4_sum_10b a V) FU
def d_X4_sum (a : Nat) (V : VT) : Option Int32 :=
  d_X4_sum_10 a V (0 : Int32) (Int32.ofNat (alen a)) (0 : Int32)
def d_X1_countWishes_4b (V : VT) (k4 : Int32 → Int32 → Option Int32) (x1 x2 : Int32)  : Option Int32 :=
  if (V 1 8) ≤ x2 then some x1
  else asr (inb x2 7) (if (V 4 x2.toNatClampNeg) = (-1 : Int32) then k4 x1 (x2 + (1 : Int32))
    else k4 (x1 + (1 : Int32)) (x2 + (1 : Int32)))
def d_X1_countWishes_4 (V : VT) : Int32 → Int32 → Option Int32 :=
  lo2 (d_X1_countWishes_4b V) FU
def d_X1_countWishes  (V : VT) : Option Int32 :=
  d_X1_countWishes_4 V (0 : Int32) (0 : Int32)
def d_X1_countFulfilled_4b (V : VT) (k4 : Int32 → Int32 → Option Int32) (x1 x2 : Int32)  : Option Int32 :=
  if (V 1 8) ≤ x2 then some x1
  else bd (d_X1_isFulfilled x2 V) (fun r3 => if r3 = (0 : Int32) then k4 x1 (x2 + (1 : Int32))
    else k4 (x1 + (1 : Int32)) (x2 + (1 : Int32)))
def d_X1_countFulfilled_4 (V : VT) : Int32 → Int32 → Option Int32 :=
  lo2 (d_X1_countFulfilled_4b V) FU
def d_X1_countFulfilled  (V : VT) : Option Int32 :=
  d_X1_countFulfilled_4 V (0 : Int32) (0 : Int32)
def d_X4_account (x1 : Int32) (V : VT) : Option ((Int32 ⊕ String) × VT) :=
  if x1 = (0 : Int32) then some (.inl (V 1 8), V)
  else if x1 = (1 : Int32) then bd (d_X1_countBorders V) (fun r4 => some (.inl r4, V))
  else if x1 = (2 : Int32) then some (.inl (V 1 9), V)
  else if x1 = (3 : Int32) then bd (d_X1_countPainted V) (fun r8 => some (.inl r8, V))
  else if x1 = (4 : Int32) then bd (d_X1_countStuck V) (fun r11 => some (.inl r11, V))
  else if x1 = (5 : Int32) then some (.inl (V 1 10), V)
  else if x1 = (6 : Int32) then bd (d_X4_sum 8 V) (fun r15 => some (.inl r15, V))
  else if x1 = (7 : Int32) then bd (d_X4_sum 9 V) (fun r18 => some (.inl r18, V))
  else if x1 = (8 : Int32) then some (.inl (V 1 11), V)
  else if x1 = (9 : Int32) then bd (d_X1_countWishes V) (fun r22 => some (.inl r22, V))
  else if x1 = (10 : Int32) then bd (d_X1_countFulfilled V) (fun r25 => some (.inl r25, V))
  else if x1 = (11 : Int32) then some (.inl (V 105 1), V)
  else if x1 = (12 : Int32) then some (.inl (V 28 2), V)
  else some (.inr "java/lang/IllegalArgumentException", V)
def d_X1_noBorderInOneHue_12b (V : VT) (k2 : Int32 → Option Int32) (k12 : Int32 → Int32 → Option Int32) (x1 x2 : Int32)  : Option Int32 :=
  if x1 ≤ x2 then k2 (x1 + (1 : Int32))
  else bd (d_X1_areNeighbours x1 x2 V) (fun r3 => if r3 = (0 : Int32) then k12 x1 (x2 + (1 : Int32))
    else bd (d_X1_isPainted x1 V) (fun r6 => if r6 = (0 : Int32) then k12 x1 (x2 + (1 : Int32))
      else asr (inb x1 7) (asr (inb x2 7) (if (V 3 x1.toNatClampNeg) = (V 3 x2.toNatClampNeg) then some (0 : Int32)
        else k12 x1 (x2 + (1 : Int32))))))
def d_X1_noBorderInOneHue_12 (V : VT) (k2 : Int32 → Option Int32) : Int32 → Int32 → Option Int32 :=
  lo2 (d_X1_noBorderInOneHue_12b V k2) FU
def d_X1_noBorderInOneHue_2b (V : VT) (k2 : Int32 → Option Int32) (x1 : Int32)  : Option Int32 :=
  if (V 1 8) ≤ x1 then some (1 : Int32)
  else d_X1_noBorderInOneHue_12 V k2 x1 (0 : Int32)
def d_X1_noBorderInOneHue_2 (V : VT) : Int32 → Option Int32 :=
  lo1 (d_X1_noBorderInOneHue_2b V) FU
def d_X1_noBorderInOneHue  (V : VT) : Option Int32 :=
  d_X1_noBorderInOneHue_2 V (0 : Int32)
def d_X1_stepsAreThePainted_4b (V : VT) (k4 : Int32 → Int32 → Option Int32) (x1 x2 : Int32)  : Option Int32 :=
  if (V 1 10) ≤ x2 then bd (d_X1_countPainted V) (fun r3 => if (V 1 10) = r3 then bd (d_X1_unpainted V) (fun r6 => if (x1 ^^^ r6) = (((1 : Int32) <<< ((V 1 8) &&& 31)) - (1 : Int32)) then some (1 : Int32)
      else some (0 : Int32))
    else some (0 : Int32))
  else asr (inb x2 7) (k4 (x1 ||| ((1 : Int32) <<< ((V 7 x2.toNatClampNeg) &&& 31))) (x2 + (1 : Int32)))
def d_X1_stepsAreThePainted_4 (V : VT) : Int32 → Int32 → Option Int32 :=
  lo2 (d_X1_stepsAreThePainted_4b V) FU
def d_X1_stepsAreThePainted  (V : VT) : Option Int32 :=
  d_X1_stepsAreThePainted_4 V (0 : Int32) (0 : Int32)
def d_X4_isWell  (V : VT) : Option Int32 :=
  bd (d_X1_noBorderInOneHue V) (fun r2 => if r2 = (0 : Int32) then some (0 : Int32)
  else bd (d_X1_stepsAreThePainted V) (fun r5 => if r5 = (0 : Int32) then some (0 : Int32)
    else some (1 : Int32)))
def d_X1_sumPaintedSizes_4b (V : VT) (k4 : Int32 → Int32 → Option Int32) (x1 x2 : Int32)  : Option Int32 :=
  if (V 1 8) ≤ x2 then some x1
  else bd (d_X1_isPainted x2 V) (fun r3 => if r3 = (0 : Int32) then k4 x1 (x2 + (1 : Int32))
    else asr (inb x2 7) (k4 (x1 + (V 2 x2.toNatClampNeg)) (x2 + (1 : Int32))))
def d_X1_sumPaintedSizes_4 (V : VT) : Int32 → Int32 → Option Int32 :=
  lo2 (d_X1_sumPaintedSizes_4b V) FU
def d_X1_sumPaintedSizes  (V : VT) : Option Int32 :=
  d_X1_sumPaintedSizes_4 V (0 : Int32) (0 : Int32)
def d_X4_meanSize  (V : VT) : Option ((UInt64 ⊕ String) × VT) :=
  bd (d_X1_countPainted V) (fun r2 => if r2 = (0 : Int32) then some (.inr "java/lang/ArithmeticException", V)
  else bd (d_X1_sumPaintedSizes V) (fun r5 => asr (n64ok (FP.ddiv (FP.i2d r5) (FP.i2d r2))) (some (.inl (FP.ddiv (FP.i2d r5) (FP.i2d r2)), V))))
def d_X4_painted  (V : VT) : Option ((UInt32 ⊕ String) × VT) :=
  if (V 1 8) = (0 : Int32) then some (.inr "java/lang/ArithmeticException", V)
  else bd (d_X1_countPainted V) (fun r3 => asr (n32ok (FP.fdiv (FP.i2f r3) (FP.i2f (V 1 8)))) (some (.inl (FP.fdiv (FP.i2f r3) (FP.i2f (V 1 8))), V)))
def d_X3_takeLatest  (V : VT) : Option VT :=
  if (V 28 2) ≤ (0 : Int32) then some V
  else bd (d_X3_placeAfter ((V 28 2) - (1 : Int32)) (up2 V 28 2 ((V 28 2) - (1 : Int32)))) (fun r3 => asr (inb r3 8) (bd (d_X1_copyFrom 1 (30 + 9 * r3.toNatClampNeg) (up2 V 28 2 ((V 28 2) - (1 : Int32)))) (fun V6 => some V6)))
def d_X4_undo  (V : VT) : Option ((Int32 ⊕ String) × VT) :=
  if (V 28 2) = (0 : Int32) then some (.inr "java/lang/IllegalStateException", V)
  else bd (d_X3_takeLatest V) (fun V3 => some (.inl (V3 28 2), V3))
def d_X4_save  (V : VT) : Option (Int32 × VT) :=
  bd (d_X1_copyFrom 19 1 V) (fun V2 => some ((V2 1 8), (up2 V2 0 8 (1 : Int32))))
def d_X4_restore  (V : VT) : Option ((Int32 ⊕ String) × VT) :=
  if (V 0 8) = (0 : Int32) then some (.inr "java/lang/IllegalStateException", V)
  else bd (d_X1_copyFrom 1 19 V) (fun V3 => some (.inl (V3 1 8), (up2 V3 28 2 (0 : Int32))))
def d_X5_thrown  (V : VT) : Option Int32 :=
  some (V 109 7)
def d_X5_fails (x1 : Int32) (V : VT) : Option (Int32 × VT) :=
  if x1 ≤ (0 : Int32) then some ((0 : Int32), (up2 V 109 7 x1))
  else some ((1 : Int32), (up2 V 109 7 x1))
def d_X5_refuses (x1 : Int32) (x2 : Int32) (x3 : Int32) (V : VT) : Option (Int32 × VT) :=
  some ((0 : Int32), (up2 (up2 (up2 V 109 7 x1) 109 8 x2) 109 9 x3))
def d_X5_in (x0 : Int32) (x1 : Int32) (x2 : Int32) (V : VT) : Option Int32 :=
  if x0 < x1 then some (0 : Int32)
  else if x2 < x0 then some (0 : Int32)
    else some (1 : Int32)
def d_X5_less (x0 : Int32) (x1 : Int32) (V : VT) : Option Int32 :=
  if x1 ≤ x0 then some x1
  else some x0
def d_X5_more (x0 : Int32) (x1 : Int32) (V : VT) : Option Int32 :=
  if x0 ≤ x1 then some x1
  else some x0
def d_X5_copies_3b (a : Nat) (b : Nat) (k3 : Int32 → Int32 → Int32 → VT → Option VT) (x1 x3 x4 : Int32) (V : VT) : Option VT :=
  if (56 : Int32) ≤ x4 then some V
  else asr (inb (x1 + x4) (alen a)) (asr (inb (x3 + x4) (alen b)) (k3 x1 x3 (x4 + (1 : Int32)) (up2 V b (x3 + x4).toNatClampNeg (V a (x1 + x4).toNatClampNeg))))
def d_X5_copies_3 (a : Nat) (b : Nat) : Int32 → Int32 → Int32 → VT → Option VT :=
  lo3W (d_X5_copies_3b a b) FU
def d_X5_copies (a : Nat) (x1 : Int32) (b : Nat) (x3 : Int32) (V : VT) : Option VT :=
  d_X5_copies_3 a b x1 x3 (0 : Int32) V
def d_X5_keeps_57 (a : Nat) (V : VT) : Option VT :=
  bd (d_X5_copies a (0 : Int32) 111 ((56 : Int32) * (V 109 5)) V) (fun V2 => some (up2 V2 109 5 ((V2 109 5) + (1 : Int32))))
def d_X5_keeps_19b (a : Nat) (k19 : Int32 → VT → Option VT) (x2 : Int32) (V : VT) : Option VT :=
  if (392 : Int32) ≤ x2 then d_X5_keeps_57 a (up2 V 109 5 ((V 109 5) - (1 : Int32)))
  else asr (inb (x2 + (56 : Int32)) 448) (asr (inb x2 448) (k19 (x2 + (1 : Int32)) (up2 V 111 x2.toNatClampNeg (V 111 (x2 + (56 : Int32)).toNatClampNeg))))
def d_X5_keeps_19 (a : Nat) : Int32 → VT → Option VT :=
  lo1W (d_X5_keeps_19b a) FU
def d_X5_keeps (a : Nat) (V : VT) : Option VT :=
  if (V 109 6) = (0 : Int32) then if (V 109 5) = (8 : Int32) then d_X5_keeps_19 a (0 : Int32) V
    else d_X5_keeps_57 a V
  else some V
def d_X5_isCountry (x1 : Int32) (V : VT) : Option Int32 :=
  bd (d_X5_in x1 (0 : Int32) ((V 110 0) - (1 : Int32)) V) (fun r2 => asr (zok r2) (some r2))
def d_X5_isHue (x0 : Int32) (V : VT) : Option Int32 :=
  bd (d_X5_in x0 (0 : Int32) (4 : Int32) V) (fun r2 => asr (zok r2) (some r2))
def d_X5_of (x1 : Int32) (x2 : Int32) (V : VT) : Option Int32 :=
  asr (inb (((1 : Int32) + ((4 : Int32) * x1)) + x2) 56) (some (V 110 (((1 : Int32) + ((4 : Int32) * x1)) + x2).toNatClampNeg))
def d_X5_lays (x1 : Int32) (x2 : Int32) (x3 : Int32) (V : VT) : Option VT :=
  asr (inb (((1 : Int32) + ((4 : Int32) * x1)) + x2) 56) (some (up2 V 110 (((1 : Int32) + ((4 : Int32) * x1)) + x2).toNatClampNeg x3))
def d_X5_isPainted (x1 : Int32) (V : VT) : Option Int32 :=
  bd (d_X5_of x1 (1 : Int32) V) (fun r2 => if r2 < (0 : Int32) then some (0 : Int32)
  else some (1 : Int32))
def d_X5_touches (x1 : Int32) (x2 : Int32) (V : VT) : Option Int32 :=
  asr (inb ((29 : Int32) + x1) 56) (if (((V 110 ((29 : Int32) + x1).toNatClampNeg) >>> (x2 &&& 31)) &&& (1 : Int32)) = (1 : Int32) then some (1 : Int32)
  else some (0 : Int32))
def d_X5_borders_16b (V : VT) (k4 : Int32 → Int32 → Option Int32) (k16 : Int32 → Int32 → Int32 → Option Int32) (x1 x2 x3 : Int32)  : Option Int32 :=
  if x2 ≤ x3 then k4 x1 (x2 + (1 : Int32))
  else bd (d_X5_touches x2 x3 V) (fun r3 => if r3 = (0 : Int32) then k16 (x1 + (0 : Int32)) x2 (x3 + (1 : Int32))
    else k16 (x1 + (1 : Int32)) x2 (x3 + (1 : Int32)))
def d_X5_borders_16 (V : VT) (k4 : Int32 → Int32 → Option Int32) : Int32 → Int32 → Int32 → Option Int32 :=
  lo3 (d_X5_borders_16b V k4) FU
def d_X5_borders_4b (V : VT) (k4 : Int32 → Int32 → Option Int32) (x1 x2 : Int32)  : Option Int32 :=
  if (V 110 0) ≤ x2 then some x1
  else d_X5_borders_16 V k4 x1 x2 (0 : Int32)
def d_X5_borders_4 (V : VT) : Int32 → Int32 → Option Int32 :=
  lo2 (d_X5_borders_4b V) FU
def d_X5_borders  (V : VT) : Option Int32 :=
  d_X5_borders_4 V (0 : Int32) (0 : Int32)
def d_X5_country_16  (x1 s0 : Int32) (V : VT) : Option (Int32 × VT) :=
  bw (d_X5_fails s0 V) (fun r3 V2 => if r3 = (0 : Int32) then if (V2 110 0) = (7 : Int32) then bw (d_X5_refuses (2 : Int32) (1 : Int32) (7 : Int32) V2) (fun r19 V18 => some (r19, V18))
    else bd (d_X5_keeps 110 V2) (fun V7 => bd (d_X5_lays (V7 110 0) (0 : Int32) x1 (up2 V7 110 0 ((V7 110 0) + (1 : Int32)))) (fun V9 => bd (d_X5_lays (V7 110 0) (1 : Int32) (-1 : Int32) V9) (fun V11 => bd (d_X5_lays (V7 110 0) (2 : Int32) (-1 : Int32) V11) (fun V13 => bd (d_X5_lays (V7 110 0) (3 : Int32) (0 : Int32) V13) (fun V15 => asr (inb ((29 : Int32) + (V7 110 0)) 56) (some ((V7 110 0), (up2 V15 110 ((29 : Int32) + (V7 110 0)).toNatClampNeg (0 : Int32)))))))))
  else some ((0 : Int32), V2))
def d_X5_country (x1 : Int32) (V : VT) : Option (Int32 × VT) :=
  bd (d_X5_in x1 (1 : Int32) (9 : Int32) V) (fun r2 => if r2 = (0 : Int32) then d_X5_country_16 x1 (1 : Int32) V
  else d_X5_country_16 x1 (0 : Int32) V)
def d_X5_border_98  (x1 x2 : Int32) (V : VT) : Option (Int32 × VT) :=
  bd (d_X5_keeps 110 V) (fun V2 => asr (inb ((29 : Int32) + x1) 56) (asr (inb ((29 : Int32) + x1) 56) (asr (inb ((29 : Int32) + x2) 56) (asr (inb ((29 : Int32) + x2) 56) (bd (d_X5_borders (up2 (up2 V2 110 ((29 : Int32) + x1).toNatClampNeg ((V2 110 ((29 : Int32) + x1).toNatClampNeg) ||| ((1 : Int32) <<< (x2 &&& 31)))) 110 ((29 : Int32) + x2).toNatClampNeg (((up2 V2 110 ((29 : Int32) + x1).toNatClampNeg ((V2 110 ((29 : Int32) + x1).toNatClampNeg) ||| ((1 : Int32) <<< (x2 &&& 31)))) 110 ((29 : Int32) + x2).toNatClampNeg) ||| ((1 : Int32) <<< (x1 &&& 31))))) (fun r8 => some (r8, (up2 (up2 V2 110 ((29 : Int32) + x1).toNatClampNeg ((V2 110 ((29 : Int32) + x1).toNatClampNeg) ||| ((1 : Int32) <<< (x2 &&& 31)))) 110 ((29 : Int32) + x2).toNatClampNeg (((up2 V2 110 ((29 : Int32) + x1).toNatClampNeg ((V2 110 ((29 : Int32) + x1).toNatClampNeg) ||| ((1 : Int32) <<< (x2 &&& 31)))) 110 ((29 : Int32) + x2).toNatClampNeg) ||| ((1 : Int32) <<< (x1 &&& 31)))))))))))
def d_X5_border_22  (x1 x2 s0 : Int32) (V : VT) : Option (Int32 × VT) :=
  bw (d_X5_fails s0 V) (fun r3 V2 => if r3 = (0 : Int32) then if x1 = x2 then bw (d_X5_refuses (2 : Int32) (5 : Int32) x1 V2) (fun r27 V26 => some (r27, V26))
    else bd (d_X5_touches x1 x2 V2) (fun r7 => if r7 = (0 : Int32) then bd (d_X5_isPainted x1 V2) (fun r10 => if r10 = (0 : Int32) then d_X5_border_98 x1 x2 V2
        else bd (d_X5_of x1 (1 : Int32) V2) (fun r13 => bd (d_X5_of x2 (1 : Int32) V2) (fun r15 => if r13 = r15 then bd (d_X5_of x1 (1 : Int32) V2) (fun r18 => bw (d_X5_refuses (2 : Int32) (7 : Int32) r18 V2) (fun r21 V20 => some (r21, V20)))
          else d_X5_border_98 x1 x2 V2)))
      else bw (d_X5_refuses (2 : Int32) (6 : Int32) x2 V2) (fun r24 V23 => some (r24, V23)))
  else some ((0 : Int32), V2))
def d_X5_border_21  (x1 x2 : Int32) (V : VT) : Option (Int32 × VT) :=
  d_X5_border_22 x1 x2 (1 : Int32) V
def d_X5_border (x1 : Int32) (x2 : Int32) (V : VT) : Option (Int32 × VT) :=
  bd (d_X5_isCountry x1 V) (fun r2 => if r2 = (0 : Int32) then d_X5_border_21 x1 x2 V
  else bd (d_X5_isCountry x2 V) (fun r5 => if r5 = (0 : Int32) then d_X5_border_21 x1 x2 V
    else d_X5_border_22 x1 x2 (0 : Int32) V))
def d_X5_erase_22  (x1 x2 s0 : Int32) (V : VT) : Option (Int32 × VT) :=
  bw (d_X5_fails s0 V) (fun r3 V2 => if r3 = (0 : Int32) then if x1 = x2 then bw (d_X5_refuses (2 : Int32) (5 : Int32) x1 V2) (fun r22 V21 => some (r22, V21))
    else bd (d_X5_touches x1 x2 V2) (fun r7 => if r7 = (0 : Int32) then bw (d_X5_refuses (2 : Int32) (6 : Int32) x2 V2) (fun r19 V18 => some (r19, V18))
      else bd (d_X5_keeps 110 V2) (fun V10 => asr (inb ((29 : Int32) + x1) 56) (asr (inb ((29 : Int32) + x1) 56) (asr (inb ((29 : Int32) + x2) 56) (asr (inb ((29 : Int32) + x2) 56) (bd (d_X5_borders (up2 (up2 V10 110 ((29 : Int32) + x1).toNatClampNeg ((V10 110 ((29 : Int32) + x1).toNatClampNeg) &&& (((1 : Int32) <<< (x2 &&& 31)) ^^^ (-1 : Int32)))) 110 ((29 : Int32) + x2).toNatClampNeg (((up2 V10 110 ((29 : Int32) + x1).toNatClampNeg ((V10 110 ((29 : Int32) + x1).toNatClampNeg) &&& (((1 : Int32) <<< (x2 &&& 31)) ^^^ (-1 : Int32)))) 110 ((29 : Int32) + x2).toNatClampNeg) &&& (((1 : Int32) <<< (x1 &&& 31)) ^^^ (-1 : Int32))))) (fun r16 => some (r16, (up2 (up2 V10 110 ((29 : Int32) + x1).toNatClampNeg ((V10 110 ((29 : Int32) + x1).toNatClampNeg) &&& (((1 : Int32) <<< (x2 &&& 31)) ^^^ (-1 : Int32)))) 110 ((29 : Int32) + x2).toNatClampNeg (((up2 V10 110 ((29 : Int32) + x1).toNatClampNeg ((V10 110 ((29 : Int32) + x1).toNatClampNeg) &&& (((1 : Int32) <<< (x2 &&& 31)) ^^^ (-1 : Int32)))) 110 ((29 : Int32) + x2).toNatClampNeg) &&& (((1 : Int32) <<< (x1 &&& 31)) ^^^ (-1 : Int32))))))))))))
  else some ((0 : Int32), V2))
def d_X5_erase_21  (x1 x2 : Int32) (V : VT) : Option (Int32 × VT) :=
  d_X5_erase_22 x1 x2 (1 : Int32) V
def d_X5_erase (x1 : Int32) (x2 : Int32) (V : VT) : Option (Int32 × VT) :=
  bd (d_X5_isCountry x1 V) (fun r2 => if r2 = (0 : Int32) then d_X5_erase_21 x1 x2 V
  else bd (d_X5_isCountry x2 V) (fun r5 => if r5 = (0 : Int32) then d_X5_erase_21 x1 x2 V
    else d_X5_erase_22 x1 x2 (0 : Int32) V))
def d_X5_hasBorder_22  (x1 x2 s0 : Int32) (V : VT) : Option (Int32 × VT) :=
  bw (d_X5_fails s0 V) (fun r3 V2 => if r3 = (0 : Int32) then bd (d_X5_touches x1 x2 V2) (fun r6 => if r6 = (0 : Int32) then some ((0 : Int32), V2)
    else some ((1 : Int32), V2))
  else some ((0 : Int32), V2))
def d_X5_hasBorder_21  (x1 x2 : Int32) (V : VT) : Option (Int32 × VT) :=
  d_X5_hasBorder_22 x1 x2 (1 : Int32) V
def d_X5_hasBorder (x1 : Int32) (x2 : Int32) (V : VT) : Option (Int32 × VT) :=
  bd (d_X5_isCountry x1 V) (fun r2 => if r2 = (0 : Int32) then d_X5_hasBorder_21 x1 x2 V
  else bd (d_X5_isCountry x2 V) (fun r5 => if r5 = (0 : Int32) then d_X5_hasBorder_21 x1 x2 V
    else d_X5_hasBorder_22 x1 x2 (0 : Int32) V))
def d_X5_neighbourIn_2b (V : VT) (k2 : Int32 → Int32 → Int32 → Option Int32) (x1 x2 x3 : Int32)  : Option Int32 :=
  if (V 110 0) ≤ x3 then some (-1 : Int32)
  else bd (d_X5_touches x1 x3 V) (fun r3 => if r3 = (0 : Int32) then k2 x1 x2 (x3 + (1 : Int32))
    else bd (d_X5_of x3 (1 : Int32) V) (fun r6 => if r6 = x2 then some x3
      else k2 x1 x2 (x3 + (1 : Int32))))
def d_X5_neighbourIn_2 (V : VT) : Int32 → Int32 → Int32 → Option Int32 :=
  lo3 (d_X5_neighbourIn_2b V) FU
def d_X5_neighbourIn (x1 : Int32) (x2 : Int32) (V : VT) : Option Int32 :=
  d_X5_neighbourIn_2 V x1 x2 (0 : Int32)
def d_X5_isFree (x1 : Int32) (x2 : Int32) (V : VT) : Option Int32 :=
  bd (d_X5_isPainted x1 V) (fun r2 => if r2 = (0 : Int32) then if (V 110 36) ≤ x2 then some (0 : Int32)
    else bd (d_X5_neighbourIn x1 x2 V) (fun r6 => if (0 : Int32) ≤ r6 then some (0 : Int32)
      else asr (inb ((37 : Int32) + x2) 56) (bd (d_X5_of x1 (0 : Int32) V) (fun r10 => if (V 110 ((37 : Int32) + x2).toNatClampNeg) < r10 then some (0 : Int32)
        else some (1 : Int32))))
  else some (0 : Int32))
def d_X5_freeMany_4b (V : VT) (k4 : Int32 → Int32 → Int32 → Option Int32) (x1 x2 x3 : Int32)  : Option Int32 :=
  if (5 : Int32) ≤ x3 then some x2
  else bd (d_X5_isFree x1 x3 V) (fun r3 => if r3 = (0 : Int32) then k4 x1 (x2 + (0 : Int32)) (x3 + (1 : Int32))
    else k4 x1 (x2 + (1 : Int32)) (x3 + (1 : Int32)))
def d_X5_freeMany_4 (V : VT) : Int32 → Int32 → Int32 → Option Int32 :=
  lo3 (d_X5_freeMany_4b V) FU
def d_X5_freeMany (x1 : Int32) (V : VT) : Option Int32 :=
  d_X5_freeMany_4 V x1 (0 : Int32) (0 : Int32)
def d_X5_neighbours_4b (V : VT) (k4 : Int32 → Int32 → Int32 → Option Int32) (x1 x2 x3 : Int32)  : Option Int32 :=
  if (V 110 0) ≤ x3 then some x2
  else bd (d_X5_touches x1 x3 V) (fun r3 => if r3 = (0 : Int32) then k4 x1 (x2 + (0 : Int32)) (x3 + (1 : Int32))
    else k4 x1 (x2 + (1 : Int32)) (x3 + (1 : Int32)))
def d_X5_neighbours_4 (V : VT) : Int32 → Int32 → Int32 → Option Int32 :=
  lo3 (d_X5_neighbours_4b V) FU
def d_X5_neighbours (x1 : Int32) (V : VT) : Option Int32 :=
  d_X5_neighbours_4 V x1 (0 : Int32) (0 : Int32)
def d_X5_placeOf_2b (V : VT) (k2 : Int32 → Int32 → Option Int32) (x1 x2 : Int32)  : Option Int32 :=
  if (V 110 47) ≤ x2 then some (-1 : Int32)
  else asr (inb ((48 : Int32) + x2) 56) (if (V 110 ((48 : Int32) + x2).toNatClampNeg) = x1 then some x2
    else k2 x1 (x2 + (1 : Int32)))
def d_X5_placeOf_2 (V : VT) : Int32 → Int32 → Option Int32 :=
  lo2 (d_X5_placeOf_2b V) FU
def d_X5_placeOf (x1 : Int32) (V : VT) : Option Int32 :=
  d_X5_placeOf_2 V x1 (0 : Int32)
def d_X5_countryOf_28  (x1 x2 s0 : Int32) (V : VT) : Option (Int32 × VT) :=
  bw (d_X5_fails s0 V) (fun r3 V2 => if r3 = (0 : Int32) then if x2 = (2 : Int32) then bd (d_X5_neighbours x1 V2) (fun r7 => some (r7, V2))
    else if x2 = (3 : Int32) then bd (d_X5_freeMany x1 V2) (fun r10 => some (r10, V2))
    else if x2 = (4 : Int32) then bd (d_X5_of x1 (2 : Int32) V2) (fun r13 => some (r13, V2))
    else if x2 = (5 : Int32) then bd (d_X5_of x1 (3 : Int32) V2) (fun r16 => some (r16, V2))
    else if x2 = (6 : Int32) then bd (d_X5_placeOf x1 V2) (fun r19 => some (r19, V2))
    else bd (d_X5_of x1 x2 V2) (fun r21 => some (r21, V2))
  else some ((0 : Int32), V2))
def d_X5_countryOf (x1 : Int32) (x2 : Int32) (V : VT) : Option (Int32 × VT) :=
  bd (d_X5_isCountry x1 V) (fun r2 => if r2 = (0 : Int32) then d_X5_countryOf_28 x1 x2 (1 : Int32) V
  else bd (d_X5_in x2 (0 : Int32) (6 : Int32) V) (fun r5 => if r5 = (0 : Int32) then d_X5_countryOf_28 x1 x2 (2 : Int32) V
    else d_X5_countryOf_28 x1 x2 (0 : Int32) V))
def d_X5_hues_25b  (k25 : Int32 → Int32 → VT → Option (Int32 × VT)) (x1 x2 : Int32) (V : VT) : Option (Int32 × VT) :=
  if (V 110 0) ≤ x2 then bd (d_X5_keeps 110 V) (fun V3 => some ((V3 110 36), (up2 V3 110 36 x1)))
  else bd (d_X5_of x2 (1 : Int32) V) (fun r5 => if r5 < x1 then k25 x1 (x2 + (1 : Int32)) V
    else bw (d_X5_refuses (2 : Int32) (9 : Int32) x2 V) (fun r9 V8 => some (r9, V8)))
def d_X5_hues_25  : Int32 → Int32 → VT → Option (Int32 × VT) :=
  lo2W (d_X5_hues_25b) FU
def d_X5_hues_15  (x1 s0 : Int32) (V : VT) : Option (Int32 × VT) :=
  bw (d_X5_fails s0 V) (fun r3 V2 => if r3 = (0 : Int32) then d_X5_hues_25 x1 (0 : Int32) V2
  else some ((0 : Int32), V2))
def d_X5_hues (x1 : Int32) (V : VT) : Option (Int32 × VT) :=
  bd (d_X5_in x1 (1 : Int32) (5 : Int32) V) (fun r2 => if r2 = (0 : Int32) then d_X5_hues_15 x1 (1 : Int32) V
  else d_X5_hues_15 x1 (0 : Int32) V)
def d_X5_pots_27  (x1 x2 s0 : Int32) (V : VT) : Option (Int32 × VT) :=
  bw (d_X5_fails s0 V) (fun r3 V2 => if r3 = (0 : Int32) then bd (d_X5_keeps 110 V2) (fun V6 => asr (inb ((37 : Int32) + x1) 56) (bd (d_X5_less (99 : Int32) ((V6 110 ((37 : Int32) + x1).toNatClampNeg) + x2) V6) (fun r9 => asr (inb ((37 : Int32) + x1) 56) (asr (inb ((37 : Int32) + x1) 56) (some (((up2 V6 110 ((37 : Int32) + x1).toNatClampNeg r9) 110 ((37 : Int32) + x1).toNatClampNeg), (up2 V6 110 ((37 : Int32) + x1).toNatClampNeg r9)))))))
  else some ((0 : Int32), V2))
def d_X5_pots (x1 : Int32) (x2 : Int32) (V : VT) : Option (Int32 × VT) :=
  bd (d_X5_isHue x1 V) (fun r2 => if r2 = (0 : Int32) then d_X5_pots_27 x1 x2 (1 : Int32) V
  else bd (d_X5_in x2 (1 : Int32) (50 : Int32) V) (fun r5 => if r5 = (0 : Int32) then d_X5_pots_27 x1 x2 (2 : Int32) V
    else d_X5_pots_27 x1 x2 (0 : Int32) V))
def d_X5_paintedIn_4b (V : VT) (k4 : Int32 → Int32 → Int32 → Option Int32) (x1 x2 x3 : Int32)  : Option Int32 :=
  if (V 110 0) ≤ x3 then some x2
  else bd (d_X5_of x3 (1 : Int32) V) (fun r3 => if r3 = x1 then k4 x1 (x2 + (1 : Int32)) (x3 + (1 : Int32))
    else k4 x1 (x2 + (0 : Int32)) (x3 + (1 : Int32)))
def d_X5_paintedIn_4 (V : VT) : Int32 → Int32 → Int32 → Option Int32 :=
  lo3 (d_X5_paintedIn_4b V) FU
def d_X5_paintedIn (x1 : Int32) (V : VT) : Option Int32 :=
  d_X5_paintedIn_4 V x1 (0 : Int32) (0 : Int32)
def d_X5_hueOf_26  (x1 x2 s0 : Int32) (V : VT) : Option (Int32 × VT) :=
  bw (d_X5_fails s0 V) (fun r3 V2 => if r3 = (0 : Int32) then if x2 = (0 : Int32) then asr (inb ((37 : Int32) + x1) 56) (some ((V2 110 ((37 : Int32) + x1).toNatClampNeg), V2))
    else if x2 = (1 : Int32) then if (V2 110 36) ≤ x1 then some ((0 : Int32), V2)
        else some ((1 : Int32), V2)
    else if x2 = (2 : Int32) then bd (d_X5_paintedIn x1 V2) (fun r11 => some (r11, V2))
    else asr (inb ((42 : Int32) + x1) 56) (some ((V2 110 ((42 : Int32) + x1).toNatClampNeg), V2))
  else some ((0 : Int32), V2))
def d_X5_hueOf (x1 : Int32) (x2 : Int32) (V : VT) : Option (Int32 × VT) :=
  bd (d_X5_isHue x1 V) (fun r2 => if r2 = (0 : Int32) then d_X5_hueOf_26 x1 x2 (1 : Int32) V
  else bd (d_X5_in x2 (0 : Int32) (3 : Int32) V) (fun r5 => if r5 = (0 : Int32) then d_X5_hueOf_26 x1 x2 (2 : Int32) V
    else d_X5_hueOf_26 x1 x2 (0 : Int32) V))
def d_X5_against (x1 : Int32) (x2 : Int32) (V : VT) : Option Int32 :=
  bd (d_X5_isPainted x1 V) (fun r2 => if r2 = (0 : Int32) then if x2 < (V 110 36) then bd (d_X5_neighbourIn x1 x2 V) (fun r6 => if r6 < (0 : Int32) then asr (inb ((37 : Int32) + x2) 56) (bd (d_X5_of x1 (0 : Int32) V) (fun r10 => if r10 ≤ (V 110 ((37 : Int32) + x2).toNatClampNeg) then some (0 : Int32)
        else some (4 : Int32)))
      else some (3 : Int32))
    else some (10 : Int32)
  else some (2 : Int32))
def d_X5_paints (x1 : Int32) (x2 : Int32) (V : VT) : Option VT :=
  bd (d_X5_lays x1 (1 : Int32) x2 V) (fun V2 => asr (inb ((37 : Int32) + x2) 56) (bd (d_X5_of x1 (0 : Int32) V2) (fun r5 => asr (inb ((37 : Int32) + x2) 56) (asr (inb ((42 : Int32) + x2) 56) (bd (d_X5_of x1 (0 : Int32) (up2 V2 110 ((37 : Int32) + x2).toNatClampNeg ((V2 110 ((37 : Int32) + x2).toNatClampNeg) - r5))) (fun r9 => asr (inb ((42 : Int32) + x2) 56) (asr (inb ((48 : Int32) + ((up2 (up2 V2 110 ((37 : Int32) + x2).toNatClampNeg ((V2 110 ((37 : Int32) + x2).toNatClampNeg) - r5)) 110 ((42 : Int32) + x2).toNatClampNeg (((up2 V2 110 ((37 : Int32) + x2).toNatClampNeg ((V2 110 ((37 : Int32) + x2).toNatClampNeg) - r5)) 110 ((42 : Int32) + x2).toNatClampNeg) + r9)) 110 47)) 56) (some (up2 (up2 (up2 (up2 V2 110 ((37 : Int32) + x2).toNatClampNeg ((V2 110 ((37 : Int32) + x2).toNatClampNeg) - r5)) 110 ((42 : Int32) + x2).toNatClampNeg (((up2 V2 110 ((37 : Int32) + x2).toNatClampNeg ((V2 110 ((37 : Int32) + x2).toNatClampNeg) - r5)) 110 ((42 : Int32) + x2).toNatClampNeg) + r9)) 110 ((48 : Int32) + ((up2 (up2 V2 110 ((37 : Int32) + x2).toNatClampNeg ((V2 110 ((37 : Int32) + x2).toNatClampNeg) - r5)) 110 ((42 : Int32) + x2).toNatClampNeg (((up2 V2 110 ((37 : Int32) + x2).toNatClampNeg ((V2 110 ((37 : Int32) + x2).toNatClampNeg) - r5)) 110 ((42 : Int32) + x2).toNatClampNeg) + r9)) 110 47)).toNatClampNeg x1) 110 47 (((up2 (up2 (up2 V2 110 ((37 : Int32) + x2).toNatClampNeg ((V2 110 ((37 : Int32) + x2).toNatClampNeg) - r5)) 110 ((42 : Int32) + x2).toNatClampNeg (((up2 V2 110 ((37 : Int32) + x2).toNatClampNeg ((V2 110 ((37 : Int32) + x2).toNatClampNeg) - r5)) 110 ((42 : Int32) + x2).toNatClampNeg) + r9)) 110 ((48 : Int32) + ((up2 (up2 V2 110 ((37 : Int32) + x2).toNatClampNeg ((V2 110 ((37 : Int32) + x2).toNatClampNeg) - r5)) 110 ((42 : Int32) + x2).toNatClampNeg (((up2 V2 110 ((37 : Int32) + x2).toNatClampNeg ((V2 110 ((37 : Int32) + x2).toNatClampNeg) - r5)) 110 ((42 : Int32) + x2).toNatClampNeg) + r9)) 110 47)).toNatClampNeg x1) 110 47) + (1 : Int32)))))))))))
def d_X5_paint_21  (x1 x2 s0 : Int32) (V : VT) : Option (Int32 × VT) :=
  bw (d_X5_fails s0 V) (fun r3 V2 => if r3 = (0 : Int32) then bd (d_X5_against x1 x2 V2) (fun r6 => if r6 = (2 : Int32) then bd (d_X5_of x1 (1 : Int32) V2) (fun r9 => bw (d_X5_refuses (2 : Int32) (2 : Int32) r9 V2) (fun r12 V11 => some (r12, V11)))
    else if r6 = (3 : Int32) then bd (d_X5_neighbourIn x1 x2 V2) (fun r15 => bw (d_X5_refuses (2 : Int32) (3 : Int32) r15 V2) (fun r18 V17 => some (r18, V17)))
    else if r6 = (4 : Int32) then bd (d_X5_of x1 (0 : Int32) V2) (fun r21 => asr (inb ((37 : Int32) + x2) 56) (bw (d_X5_refuses (2 : Int32) (4 : Int32) (r21 - (V2 110 ((37 : Int32) + x2).toNatClampNeg)) V2) (fun r25 V24 => some (r25, V24))))
    else if r6 = (5 : Int32) then bd (d_X5_keeps 110 V2) (fun V28 => bd (d_X5_paints x1 x2 V28) (fun V30 => some ((V30 110 47), V30)))
    else if r6 = (6 : Int32) then bd (d_X5_keeps 110 V2) (fun V33 => bd (d_X5_paints x1 x2 V33) (fun V35 => some ((V35 110 47), V35)))
    else if r6 = (7 : Int32) then bd (d_X5_keeps 110 V2) (fun V38 => bd (d_X5_paints x1 x2 V38) (fun V40 => some ((V40 110 47), V40)))
    else if r6 = (8 : Int32) then bd (d_X5_keeps 110 V2) (fun V43 => bd (d_X5_paints x1 x2 V43) (fun V45 => some ((V45 110 47), V45)))
    else if r6 = (9 : Int32) then bd (d_X5_keeps 110 V2) (fun V48 => bd (d_X5_paints x1 x2 V48) (fun V50 => some ((V50 110 47), V50)))
    else if r6 = (10 : Int32) then bw (d_X5_refuses (2 : Int32) (10 : Int32) x2 V2) (fun r54 V53 => some (r54, V53))
    else bd (d_X5_keeps 110 V2) (fun V56 => bd (d_X5_paints x1 x2 V56) (fun V58 => some ((V58 110 47), V58))))
  else some ((0 : Int32), V2))
def d_X5_paint_20  (x1 x2 : Int32) (V : VT) : Option (Int32 × VT) :=
  d_X5_paint_21 x1 x2 (1 : Int32) V
def d_X5_paint (x1 : Int32) (x2 : Int32) (V : VT) : Option (Int32 × VT) :=
  bd (d_X5_isCountry x1 V) (fun r2 => if r2 = (0 : Int32) then d_X5_paint_20 x1 x2 V
  else bd (d_X5_isHue x2 V) (fun r5 => if r5 = (0 : Int32) then d_X5_paint_20 x1 x2 V
    else d_X5_paint_21 x1 x2 (0 : Int32) V))
def d_X5_bars_21  (x1 x2 s0 : Int32) (V : VT) : Option (Int32 × VT) :=
  bw (d_X5_fails s0 V) (fun r3 V2 => if r3 = (0 : Int32) then bd (d_X5_against x1 x2 V2) (fun r6 => some (r6, V2))
  else some ((0 : Int32), V2))
def d_X5_bars_20  (x1 x2 : Int32) (V : VT) : Option (Int32 × VT) :=
  d_X5_bars_21 x1 x2 (1 : Int32) V
def d_X5_bars (x1 : Int32) (x2 : Int32) (V : VT) : Option (Int32 × VT) :=
  bd (d_X5_isCountry x1 V) (fun r2 => if r2 = (0 : Int32) then d_X5_bars_20 x1 x2 V
  else bd (d_X5_isHue x2 V) (fun r5 => if r5 = (0 : Int32) then d_X5_bars_20 x1 x2 V
    else d_X5_bars_21 x1 x2 (0 : Int32) V))
def d_X5_back  (V : VT) : Option (Int32 × VT) :=
  if (V 110 47) = (0 : Int32) then bw (d_X5_refuses (1 : Int32) (8 : Int32) (0 : Int32) (up2 V 109 7 (0 : Int32))) (fun r10 V9 => some (r10, V9))
  else bd (d_X5_keeps 110 (up2 V 109 7 (0 : Int32))) (fun V3 => asr (inb ((48 : Int32) + ((V3 110 47) - (1 : Int32))) 56) (asr (inb ((48 : Int32) + ((V3 110 47) - (1 : Int32))) 56) (bd (d_X5_lays ((up2 V3 110 47 ((V3 110 47) - (1 : Int32))) 110 ((48 : Int32) + ((V3 110 47) - (1 : Int32))).toNatClampNeg) (1 : Int32) (-1 : Int32) (up2 (up2 V3 110 47 ((V3 110 47) - (1 : Int32))) 110 ((48 : Int32) + ((V3 110 47) - (1 : Int32))).toNatClampNeg (0 : Int32))) (fun V7 => some (((up2 V3 110 47 ((V3 110 47) - (1 : Int32))) 110 ((48 : Int32) + ((V3 110 47) - (1 : Int32))).toNatClampNeg), (up2 V7 110 55 ((V7 110 55) + (1 : Int32))))))))
def d_X5_onlyHue_13b (V : VT) (k13 : Int32 → Int32 → Option Int32) (x1 x2 : Int32)  : Option Int32 :=
  bd (d_X5_isFree x1 x2 V) (fun r2 => if r2 = (0 : Int32) then k13 x1 (x2 + (1 : Int32))
  else some x2)
def d_X5_onlyHue_13 (V : VT) : Int32 → Int32 → Option Int32 :=
  lo2 (d_X5_onlyHue_13b V) FU
def d_X5_onlyHue (x1 : Int32) (V : VT) : Option Int32 :=
  bd (d_X5_freeMany x1 V) (fun r2 => if r2 = (1 : Int32) then d_X5_onlyHue_13 V x1 (0 : Int32)
  else some (-1 : Int32))
def d_X5_fill_17b  (k17 : Int32 → Int32 → VT → Option (Int32 × VT)) (x1 x2 : Int32) (V : VT) : Option (Int32 × VT) :=
  if (V 110 0) ≤ x2 then some (x1, V)
  else bd (d_X5_onlyHue x2 V) (fun r3 => if (0 : Int32) ≤ r3 then bd (d_X5_paints x2 r3 V) (fun V6 => k17 (x1 + (1 : Int32)) (0 : Int32) V6)
    else k17 x1 (x2 + (1 : Int32)) V)
def d_X5_fill_17  : Int32 → Int32 → VT → Option (Int32 × VT) :=
  lo2W (d_X5_fill_17b) FU
def d_X5_fill  (V : VT) : Option (Int32 × VT) :=
  bd (d_X5_keeps 110 (up2 V 109 7 (0 : Int32))) (fun V2 => d_X5_fill_17 (0 : Int32) (0 : Int32) V2)
def d_X5_step_23  (x1 s0 : Int32) (V : VT) : Option (Int32 × VT) :=
  bw (d_X5_fails s0 V) (fun r3 V2 => if r3 = (0 : Int32) then asr (inb ((48 : Int32) + x1) 56) (some ((V2 110 ((48 : Int32) + x1).toNatClampNeg), V2))
  else some ((0 : Int32), V2))
def d_X5_step (x1 : Int32) (V : VT) : Option (Int32 × VT) :=
  bd (d_X5_in x1 (0 : Int32) ((V 110 47) - (1 : Int32)) V) (fun r2 => if r2 = (0 : Int32) then d_X5_step_23 x1 (1 : Int32) V
  else d_X5_step_23 x1 (0 : Int32) V)
def d_X5_isStuck (x1 : Int32) (V : VT) : Option Int32 :=
  bd (d_X5_isPainted x1 V) (fun r2 => if r2 = (0 : Int32) then bd (d_X5_freeMany x1 V) (fun r5 => if r5 = (0 : Int32) then some (1 : Int32)
    else some (0 : Int32))
  else some (0 : Int32))
def d_X5_stuck_42  (x1 s0 : Int32) (V : VT) : Option (Int32 × VT) :=
  bw (d_X5_fails s0 V) (fun r3 V2 => if r3 = (0 : Int32) then some (x1, V2)
  else some ((0 : Int32), V2))
def d_X5_stuck_26  (x1 : Int32) (V : VT) : Option (Int32 × VT) :=
  if x1 = (V 110 0) then d_X5_stuck_42 x1 (1 : Int32) V
  else d_X5_stuck_42 x1 (0 : Int32) V
def d_X5_stuck_2b  (k2 : Int32 → VT → Option (Int32 × VT)) (x1 : Int32) (V : VT) : Option (Int32 × VT) :=
  if (V 110 0) ≤ x1 then d_X5_stuck_26 x1 V
  else bd (d_X5_isStuck x1 V) (fun r3 => if r3 = (0 : Int32) then k2 (x1 + (1 : Int32)) V
    else d_X5_stuck_26 x1 V)
def d_X5_stuck_2  : Int32 → VT → Option (Int32 × VT) :=
  lo1W (d_X5_stuck_2b) FU
def d_X5_stuck  (V : VT) : Option (Int32 × VT) :=
  d_X5_stuck_2 (0 : Int32) V
def d_X5_plainNeighbours_4b (V : VT) (k4 : Int32 → Int32 → Int32 → Option Int32) (x1 x2 x3 : Int32)  : Option Int32 :=
  if (V 110 0) ≤ x3 then some x2
  else bd (d_X5_touches x1 x3 V) (fun r3 => if r3 = (0 : Int32) then k4 x1 (x2 + (0 : Int32)) (x3 + (1 : Int32))
    else bd (d_X5_isPainted x3 V) (fun r6 => if r6 = (0 : Int32) then k4 x1 (x2 + (1 : Int32)) (x3 + (1 : Int32))
      else k4 x1 (x2 + (0 : Int32)) (x3 + (1 : Int32))))
def d_X5_plainNeighbours_4 (V : VT) : Int32 → Int32 → Int32 → Option Int32 :=
  lo3 (d_X5_plainNeighbours_4b V) FU
def d_X5_plainNeighbours (x1 : Int32) (V : VT) : Option Int32 :=
  d_X5_plainNeighbours_4 V x1 (0 : Int32) (0 : Int32)
def d_X5_next_86  (x1 s0 : Int32) (V : VT) : Option (Int32 × VT) :=
  bw (d_X5_fails s0 V) (fun r3 V2 => if r3 = (0 : Int32) then some (x1, V2)
  else some ((0 : Int32), V2))
def d_X5_next_4b  (k4 : Int32 → Int32 → VT → Option (Int32 × VT)) (x1 x2 : Int32) (V : VT) : Option (Int32 × VT) :=
  if (V 110 0) ≤ x2 then if (0 : Int32) ≤ x1 then d_X5_next_86 x1 (0 : Int32) V
    else d_X5_next_86 x1 (1 : Int32) V
  else bd (d_X5_isPainted x2 V) (fun r4 => if r4 = (0 : Int32) then if x1 < (0 : Int32) then k4 x2 (x2 + (1 : Int32)) V
      else bd (d_X5_freeMany x2 V) (fun r8 => bd (d_X5_freeMany x1 V) (fun r10 => if r8 < r10 then k4 x2 (x2 + (1 : Int32)) V
        else bd (d_X5_freeMany x2 V) (fun r13 => bd (d_X5_freeMany x1 V) (fun r15 => if r13 = r15 then bd (d_X5_plainNeighbours x2 V) (fun r18 => bd (d_X5_plainNeighbours x1 V) (fun r20 => if r18 ≤ r20 then k4 x1 (x2 + (1 : Int32)) V
            else k4 x2 (x2 + (1 : Int32)) V))
          else k4 x1 (x2 + (1 : Int32)) V))))
    else k4 x1 (x2 + (1 : Int32)) V)
def d_X5_next_4  : Int32 → Int32 → VT → Option (Int32 × VT) :=
  lo2W (d_X5_next_4b) FU
def d_X5_next  (V : VT) : Option (Int32 × VT) :=
  d_X5_next_4 (-1 : Int32) (0 : Int32) V
def d_X5_takes_5b (V : VT) (k5 : Int32 → Int32 → Int32 → Int32 → Option Int32) (x1 x2 x3 x4 : Int32)  : Option Int32 :=
  if (V 110 0) ≤ x4 then some x3
  else bd (d_X5_touches x1 x4 V) (fun r3 => if r3 = (0 : Int32) then k5 x1 x2 (x3 + (0 : Int32)) (x4 + (1 : Int32))
    else bd (d_X5_isFree x4 x2 V) (fun r6 => if r6 = (0 : Int32) then k5 x1 x2 (x3 + (0 : Int32)) (x4 + (1 : Int32))
      else k5 x1 x2 (x3 + (1 : Int32)) (x4 + (1 : Int32))))
def d_X5_takes_5 (V : VT) : Int32 → Int32 → Int32 → Int32 → Option Int32 :=
  lo4 (d_X5_takes_5b V) FU
def d_X5_takes (x1 : Int32) (x2 : Int32) (V : VT) : Option Int32 :=
  d_X5_takes_5 V x1 x2 (0 : Int32) (0 : Int32)
def d_X5_gentle_77  (x2 s0 : Int32) (V : VT) : Option (Int32 × VT) :=
  bw (d_X5_fails s0 V) (fun r3 V2 => if r3 = (0 : Int32) then some (x2, V2)
  else some ((0 : Int32), V2))
def d_X5_gentle_26b  (k26 : Int32 → Int32 → Int32 → VT → Option (Int32 × VT)) (x1 x2 x3 : Int32) (V : VT) : Option (Int32 × VT) :=
  if (5 : Int32) ≤ x3 then if (0 : Int32) ≤ x2 then d_X5_gentle_77 x2 (0 : Int32) V
    else d_X5_gentle_77 x2 (2 : Int32) V
  else bd (d_X5_isFree x1 x3 V) (fun r4 => if r4 = (0 : Int32) then k26 x1 x2 (x3 + (1 : Int32)) V
    else if x2 < (0 : Int32) then k26 x1 x3 (x3 + (1 : Int32)) V
      else bd (d_X5_takes x1 x3 V) (fun r8 => bd (d_X5_takes x1 x2 V) (fun r10 => if r10 ≤ r8 then k26 x1 x2 (x3 + (1 : Int32)) V
        else k26 x1 x3 (x3 + (1 : Int32)) V)))
def d_X5_gentle_26  : Int32 → Int32 → Int32 → VT → Option (Int32 × VT) :=
  lo3W (d_X5_gentle_26b) FU
def d_X5_gentle_14  (x1 s0 : Int32) (V : VT) : Option (Int32 × VT) :=
  bw (d_X5_fails s0 V) (fun r3 V2 => if r3 = (0 : Int32) then d_X5_gentle_26 x1 (-1 : Int32) (0 : Int32) V2
  else some ((0 : Int32), V2))
def d_X5_gentle (x1 : Int32) (V : VT) : Option (Int32 × VT) :=
  bd (d_X5_isCountry x1 V) (fun r2 => if r2 = (0 : Int32) then d_X5_gentle_14 x1 (1 : Int32) V
  else d_X5_gentle_14 x1 (0 : Int32) V)
def d_X5_wish_35  (x1 x2 x3 s0 : Int32) (V : VT) : Option (Int32 × VT) :=
  bw (d_X5_fails s0 V) (fun r3 V2 => if r3 = (0 : Int32) then bd (d_X5_keeps 110 V2) (fun V6 => bd (d_X5_of x1 (2 : Int32) V6) (fun r8 => bd (d_X5_lays x1 (2 : Int32) x2 V6) (fun V10 => bd (d_X5_lays x1 (3 : Int32) x3 V10) (fun V12 => some (r8, V12)))))
  else some ((0 : Int32), V2))
def d_X5_wish_16  (x1 x2 x3 : Int32) (V : VT) : Option (Int32 × VT) :=
  d_X5_wish_35 x1 x2 x3 (1 : Int32) V
def d_X5_wish (x1 : Int32) (x2 : Int32) (x3 : Int32) (V : VT) : Option (Int32 × VT) :=
  bd (d_X5_isCountry x1 V) (fun r2 => if r2 = (0 : Int32) then d_X5_wish_16 x1 x2 x3 V
  else bd (d_X5_isHue x2 V) (fun r5 => if r5 = (0 : Int32) then d_X5_wish_16 x1 x2 x3 V
    else bd (d_X5_in x3 (0 : Int32) (9 : Int32) V) (fun r8 => if r8 = (0 : Int32) then d_X5_wish_35 x1 x2 x3 (2 : Int32) V
      else d_X5_wish_35 x1 x2 x3 (0 : Int32) V)))
def d_X5_isFulfilled (x1 : Int32) (V : VT) : Option Int32 :=
  bd (d_X5_isPainted x1 V) (fun r2 => if r2 = (0 : Int32) then some (0 : Int32)
  else bd (d_X5_of x1 (2 : Int32) V) (fun r5 => bd (d_X5_of x1 (1 : Int32) V) (fun r7 => if r5 = r7 then some (1 : Int32)
    else some (0 : Int32))))
def d_X5_fulfilled_9b  (k9 : Int32 → Int32 → VT → Option (Int32 × VT)) (x1 x2 : Int32) (V : VT) : Option (Int32 × VT) :=
  if (V 110 0) ≤ x2 then some (x1, V)
  else bd (d_X5_isFulfilled x2 V) (fun r3 => if r3 = (0 : Int32) then k9 (x1 + (0 : Int32)) (x2 + (1 : Int32)) V
    else bd (d_X5_of x2 (3 : Int32) V) (fun r6 => k9 (x1 + r6) (x2 + (1 : Int32)) V))
def d_X5_fulfilled_9  : Int32 → Int32 → VT → Option (Int32 × VT) :=
  lo2W (d_X5_fulfilled_9b) FU
def d_X5_fulfilled  (V : VT) : Option (Int32 × VT) :=
  d_X5_fulfilled_9 (0 : Int32) (0 : Int32) (up2 V 109 7 (0 : Int32))
def d_X5_clashes_3b (V : VT) (k3 : Int32 → Int32 → Int32 → Int32 → Option Int32) (x1 x2 x3 x4 : Int32)  : Option Int32 :=
  if (V 110 0) ≤ x4 then some (0 : Int32)
  else bd (d_X5_touches x1 x4 V) (fun r3 => if r3 = (0 : Int32) then k3 x1 x2 x3 (x4 + (1 : Int32))
    else bd (d_X5_isPainted x4 V) (fun r6 => if r6 = (0 : Int32) then if x3 ≤ x4 then k3 x1 x2 x3 (x4 + (1 : Int32))
        else asr (inb x4 7) (if (V 116 x4.toNatClampNeg) = x2 then some (1 : Int32)
          else k3 x1 x2 x3 (x4 + (1 : Int32)))
      else bd (d_X5_of x4 (1 : Int32) V) (fun r12 => if r12 = x2 then some (1 : Int32)
        else k3 x1 x2 x3 (x4 + (1 : Int32)))))
def d_X5_clashes_3 (V : VT) : Int32 → Int32 → Int32 → Int32 → Option Int32 :=
  lo4 (d_X5_clashes_3b V) FU
def d_X5_clashes (x1 : Int32) (x2 : Int32) (x3 : Int32) (V : VT) : Option Int32 :=
  d_X5_clashes_3 V x1 x2 x3 (0 : Int32)
def d_X5_waysFrom_56 (kR : Int32 → Int32 → Int32 → Int32 → VT → Option (Int32 × VT)) (k38 : Int32 → Int32 → Int32 → Int32 → Int32 → Int32 → VT → Option (Int32 × VT)) (x1 x2 x3 x4 x5 x6 : Int32) (V : VT) : Option (Int32 × VT) :=
  bd (d_X5_clashes x1 x6 x1 V) (fun r2 => if r2 = (0 : Int32) then asr (inb x1 7) (bw (kR (x1 + (1 : Int32)) x2 x3 x4 (up2 V 116 x1.toNatClampNeg x6)) (fun r7 V6 => k38 x1 x2 x3 x4 (x5 + r7) (x6 + (1 : Int32)) V6))
  else k38 x1 x2 x3 x4 x5 (x6 + (1 : Int32)) V)
def d_X5_waysFrom_38b (kR : Int32 → Int32 → Int32 → Int32 → VT → Option (Int32 × VT)) (k38 : Int32 → Int32 → Int32 → Int32 → Int32 → Int32 → VT → Option (Int32 × VT)) (x1 x2 x3 x4 x5 x6 : Int32) (V : VT) : Option (Int32 × VT) :=
  if x2 ≤ x6 then some (x5, V)
  else if x1 = x3 then if x6 = x4 then d_X5_waysFrom_56 kR k38 x1 x2 x3 x4 x5 x6 V
      else k38 x1 x2 x3 x4 x5 (x6 + (1 : Int32)) V
    else d_X5_waysFrom_56 kR k38 x1 x2 x3 x4 x5 x6 V
def d_X5_waysFrom_38 (kR : Int32 → Int32 → Int32 → Int32 → VT → Option (Int32 × VT)) : Int32 → Int32 → Int32 → Int32 → Int32 → Int32 → VT → Option (Int32 × VT) :=
  lo6W (d_X5_waysFrom_38b kR) FU
def d_X5_waysFromb (kR : Int32 → Int32 → Int32 → Int32 → VT → Option (Int32 × VT))  (x1 : Int32) (x2 : Int32) (x3 : Int32) (x4 : Int32) (V : VT) : Option (Int32 × VT) :=
  if x1 = (V 110 0) then some ((1 : Int32), V)
  else bd (d_X5_isPainted x1 V) (fun r3 => if r3 = (0 : Int32) then d_X5_waysFrom_38 kR x1 x2 x3 x4 (0 : Int32) (0 : Int32) V
    else bw (kR (x1 + (1 : Int32)) x2 x3 x4 V) (fun r7 V6 => some (r7, V6)))
def d_X5_waysFrom : Int32 → Int32 → Int32 → Int32 → VT → Option (Int32 × VT) :=
  lo4W d_X5_waysFromb 12
def d_X5_ways  (V : VT) : Option (Int32 × VT) :=
  bw (d_X5_waysFrom (0 : Int32) (V 110 36) (-1 : Int32) (-1 : Int32) (up2 V 109 7 (0 : Int32))) (fun r3 V2 => some (r3, V2))
def d_X5_left_4b (V : VT) (k4 : Int32 → Int32 → Option Int32) (x1 x2 : Int32)  : Option Int32 :=
  if (V 110 0) ≤ x2 then some x1
  else bd (d_X5_isPainted x2 V) (fun r3 => if r3 = (0 : Int32) then k4 (x1 + (1 : Int32)) (x2 + (1 : Int32))
    else k4 (x1 + (0 : Int32)) (x2 + (1 : Int32)))
def d_X5_left_4 (V : VT) : Int32 → Int32 → Option Int32 :=
  lo2 (d_X5_left_4b V) FU
def d_X5_left  (V : VT) : Option Int32 :=
  d_X5_left_4 V (0 : Int32) (0 : Int32)
def d_X5_waysAgain_152 (k50 : Int32 → Int32 → Int32 → VT → Option (Int32 × VT)) (x1 x2 x3 x5 : Int32) (V : VT) : Option (Int32 × VT) :=
  if x5 = (0 : Int32) then k50 x1 (x2 + (0 : Int32)) (x3 + (1 : Int32)) V
  else k50 x1 (x2 + (1 : Int32)) (x3 + (1 : Int32)) V
def d_X5_waysAgain_64b (k50 : Int32 → Int32 → Int32 → VT → Option (Int32 × VT)) (k64 : Int32 → Int32 → Int32 → Int32 → Int32 → Int32 → VT → Option (Int32 × VT)) (x1 x2 x3 x4 x5 x6 : Int32) (V : VT) : Option (Int32 × VT) :=
  if (V 110 0) ≤ x6 then d_X5_waysAgain_152 k50 x1 x2 x3 x5 V
  else if x5 = (0 : Int32) then d_X5_waysAgain_152 k50 x1 x2 x3 x5 V
    else bd (d_X5_isPainted x6 V) (fun r4 => if r4 = (0 : Int32) then asr (nz (V 110 36)) (asr (inb x6 7) (asr (nz (V 110 36)) (asr (inb x6 7) (bd (d_X5_clashes x6 ((up2 V 116 x6.toNatClampNeg (x4 - x4 / (V 110 36) * (V 110 36))) 116 x6.toNatClampNeg) x6 (up2 V 116 x6.toNatClampNeg (x4 - x4 / (V 110 36) * (V 110 36)))) (fun r11 => if r11 = (0 : Int32) then k64 x1 x2 x3 (x4 / (V 110 36)) (1 : Int32) (x6 + (1 : Int32)) (up2 V 116 x6.toNatClampNeg (x4 - x4 / (V 110 36) * (V 110 36)))
        else k64 x1 x2 x3 (x4 / (V 110 36)) (0 : Int32) (x6 + (1 : Int32)) (up2 V 116 x6.toNatClampNeg (x4 - x4 / (V 110 36) * (V 110 36))))))))
      else k64 x1 x2 x3 x4 x5 (x6 + (1 : Int32)) V)
def d_X5_waysAgain_64 (k50 : Int32 → Int32 → Int32 → VT → Option (Int32 × VT)) : Int32 → Int32 → Int32 → Int32 → Int32 → Int32 → VT → Option (Int32 × VT) :=
  lo6W (d_X5_waysAgain_64b k50) FU
def d_X5_waysAgain_50b  (k50 : Int32 → Int32 → Int32 → VT → Option (Int32 × VT)) (x1 x2 x3 : Int32) (V : VT) : Option (Int32 × VT) :=
  if x1 ≤ x3 then some (x2, V)
  else d_X5_waysAgain_64 k50 x1 x2 x3 x3 (1 : Int32) (0 : Int32) V
def d_X5_waysAgain_50  : Int32 → Int32 → Int32 → VT → Option (Int32 × VT) :=
  lo3W (d_X5_waysAgain_50b) FU
def d_X5_waysAgain_22b  (k22 : Int32 → Int32 → VT → Option (Int32 × VT)) (x1 x2 : Int32) (V : VT) : Option (Int32 × VT) :=
  bd (d_X5_left V) (fun r2 => if r2 ≤ x2 then d_X5_waysAgain_50 x1 (0 : Int32) (0 : Int32) V
  else k22 (x1 * (V 110 36)) (x2 + (1 : Int32)) V)
def d_X5_waysAgain_22  : Int32 → Int32 → VT → Option (Int32 × VT) :=
  lo2W (d_X5_waysAgain_22b) FU
def d_X5_waysAgain  (V : VT) : Option (Int32 × VT) :=
  bd (d_X5_left V) (fun r2 => if r2 ≤ (4 : Int32) then d_X5_waysAgain_22 (1 : Int32) (0 : Int32) (up2 V 109 7 (0 : Int32))
  else bw (d_X5_ways V) (fun r6 V5 => some (r6, V5)))
def d_X5_waysFor_27  (x1 s0 : Int32) (V : VT) : Option (Int32 × VT) :=
  bw (d_X5_fails s0 V) (fun r3 V2 => if r3 = (0 : Int32) then bd (d_X5_isPainted x1 V2) (fun r6 => if r6 = (0 : Int32) then bd (d_X5_of x1 (2 : Int32) V2) (fun r9 => bw (d_X5_waysFrom (0 : Int32) (V2 110 36) x1 r9 V2) (fun r12 V11 => some (r12, V11)))
    else bd (d_X5_isFulfilled x1 V2) (fun r14 => if r14 = (0 : Int32) then some ((0 : Int32), V2)
      else bw (d_X5_waysFrom (0 : Int32) (V2 110 36) (-1 : Int32) (-1 : Int32) V2) (fun r18 V17 => some (r18, V17))))
  else some ((0 : Int32), V2))
def d_X5_waysFor (x1 : Int32) (V : VT) : Option (Int32 × VT) :=
  bd (d_X5_isCountry x1 V) (fun r2 => if r2 = (0 : Int32) then d_X5_waysFor_27 x1 (1 : Int32) V
  else bd (d_X5_of x1 (2 : Int32) V) (fun r5 => if (0 : Int32) ≤ r5 then d_X5_waysFor_27 x1 (0 : Int32) V
    else d_X5_waysFor_27 x1 (2 : Int32) V))
def d_X5_fewest_66  (x1 s0 : Int32) (V : VT) : Option (Int32 × VT) :=
  bw (d_X5_fails s0 V) (fun r3 V2 => if r3 = (0 : Int32) then some (x1, V2)
  else some ((0 : Int32), V2))
def d_X5_fewest_55  (x1 : Int32) (V : VT) : Option (Int32 × VT) :=
  if x1 ≤ (5 : Int32) then d_X5_fewest_66 x1 (0 : Int32) V
  else d_X5_fewest_66 x1 (1 : Int32) V
def d_X5_fewest_33b  (k33 : Int32 → VT → Option (Int32 × VT)) (x1 : Int32) (V : VT) : Option (Int32 × VT) :=
  if (5 : Int32) < x1 then d_X5_fewest_55 x1 V
  else bw (d_X5_waysFrom (0 : Int32) x1 (-1 : Int32) (-1 : Int32) V) (fun r4 V3 => if r4 = (0 : Int32) then k33 (x1 + (1 : Int32)) V3
    else d_X5_fewest_55 x1 V3)
def d_X5_fewest_33  : Int32 → VT → Option (Int32 × VT) :=
  lo1W (d_X5_fewest_33b) FU
def d_X5_fewest_4b  (k4 : Int32 → Int32 → VT → Option (Int32 × VT)) (x1 x2 : Int32) (V : VT) : Option (Int32 × VT) :=
  if (V 110 0) ≤ x2 then d_X5_fewest_33 x1 V
  else bd (d_X5_of x2 (1 : Int32) V) (fun r3 => bd (d_X5_more x1 (r3 + (1 : Int32)) V) (fun r5 => k4 r5 (x2 + (1 : Int32)) V))
def d_X5_fewest_4  : Int32 → Int32 → VT → Option (Int32 × VT) :=
  lo2W (d_X5_fewest_4b) FU
def d_X5_fewest  (V : VT) : Option (Int32 × VT) :=
  d_X5_fewest_4 (1 : Int32) (0 : Int32) V
def d_X5_areAll_2b (V : VT) (k2 : Int32 → Int32 → Option Int32) (x1 x2 : Int32)  : Option Int32 :=
  if (V 110 0) ≤ x2 then some (1 : Int32)
  else if ((x1 >>> (x2 &&& 31)) &&& (1 : Int32)) = (1 : Int32) then asr (inb ((29 : Int32) + x2) 56) (if (x1 &&& (((V 110 ((29 : Int32) + x2).toNatClampNeg) ||| ((1 : Int32) <<< (x2 &&& 31))) ^^^ (-1 : Int32))) = (0 : Int32) then k2 x1 (x2 + (1 : Int32))
      else some (0 : Int32))
    else k2 x1 (x2 + (1 : Int32))
def d_X5_areAll_2 (V : VT) : Int32 → Int32 → Option Int32 :=
  lo2 (d_X5_areAll_2b V) FU
def d_X5_areAll (x1 : Int32) (V : VT) : Option Int32 :=
  d_X5_areAll_2 V x1 (0 : Int32)
def d_X5_clique_26b (k9 : Int32 → Int32 → VT → Option (Int32 × VT)) (k26 : Int32 → Int32 → Int32 → Int32 → VT → Option (Int32 × VT)) (x1 x2 x3 x4 : Int32) (V : VT) : Option (Int32 × VT) :=
  if (V 110 0) ≤ x4 then if x3 ≤ x1 then k9 x1 (x2 + (1 : Int32)) V
    else bd (d_X5_areAll x2 V) (fun r4 => if r4 = (0 : Int32) then k9 x1 (x2 + (1 : Int32)) V
      else k9 x3 (x2 + (1 : Int32)) V)
  else k26 x1 x2 (x3 + ((x2 >>> (x4 &&& 31)) &&& (1 : Int32))) (x4 + (1 : Int32)) V
def d_X5_clique_26 (k9 : Int32 → Int32 → VT → Option (Int32 × VT)) : Int32 → Int32 → Int32 → Int32 → VT → Option (Int32 × VT) :=
  lo4W (d_X5_clique_26b k9) FU
def d_X5_clique_9b  (k9 : Int32 → Int32 → VT → Option (Int32 × VT)) (x1 x2 : Int32) (V : VT) : Option (Int32 × VT) :=
  if ((1 : Int32) <<< ((V 110 0) &&& 31)) ≤ x2 then some (x1, V)
  else d_X5_clique_26 k9 x1 x2 (0 : Int32) (0 : Int32) V
def d_X5_clique_9  : Int32 → Int32 → VT → Option (Int32 × VT) :=
  lo2W (d_X5_clique_9b) FU
def d_X5_clique  (V : VT) : Option (Int32 × VT) :=
  d_X5_clique_9 (0 : Int32) (0 : Int32) (up2 V 109 7 (0 : Int32))
def d_X5_writes (x1 : Int32) (V : VT) : Option VT :=
  asr (inb (V 109 14) 40) (some (up2 (up2 V 115 (V 109 14).toNatClampNeg (vp_nar .char (x1.toUInt32 % 65536).toInt32)) 109 14 ((V 109 14) + (1 : Int32))))
def d_X5_line_109 (k77 : Int32 → Int32 → Int32 → VT → Option (Int32 × VT)) (x1 x3 : Int32) (V : VT) : Option (Int32 × VT) :=
  bd (d_X5_writes ((48 : Int32) + x3) V) (fun V2 => k77 x1 (0 : Int32) (x3 + (1 : Int32)) V2)
def d_X5_line_77b  (k77 : Int32 → Int32 → Int32 → VT → Option (Int32 × VT)) (x1 x2 x3 : Int32) (V : VT) : Option (Int32 × VT) :=
  if (V 110 0) ≤ x3 then bd (d_X5_writes (41 : Int32) V) (fun V3 => bd (d_X5_isStuck x1 V3) (fun r5 => if r5 = (0 : Int32) then some ((V3 109 14), V3)
    else bd (d_X5_writes (33 : Int32) V3) (fun V8 => some ((V8 109 14), V8))))
  else bd (d_X5_touches x1 x3 V) (fun r10 => if r10 = (0 : Int32) then k77 x1 x2 (x3 + (1 : Int32)) V
    else if x2 = (0 : Int32) then bd (d_X5_writes (44 : Int32) V) (fun V14 => d_X5_line_109 k77 x1 x3 V14)
      else d_X5_line_109 k77 x1 x3 V)
def d_X5_line_77  : Int32 → Int32 → Int32 → VT → Option (Int32 × VT) :=
  lo3W (d_X5_line_77b) FU
def d_X5_line_64  (x1 s0 : Int32) (V : VT) : Option (Int32 × VT) :=
  bd (d_X5_writes s0 V) (fun V2 => bd (d_X5_writes (40 : Int32) V2) (fun V4 => d_X5_line_77 x1 (1 : Int32) (0 : Int32) V4))
def d_X5_line_14  (x1 s0 : Int32) (V : VT) : Option (Int32 × VT) :=
  bw (d_X5_fails s0 V) (fun r3 V2 => if r3 = (0 : Int32) then bd (d_X5_writes ((48 : Int32) + x1) (up2 V2 109 14 (0 : Int32))) (fun V6 => bd (d_X5_writes (58 : Int32) V6) (fun V8 => bd (d_X5_isPainted x1 V8) (fun r10 => if r10 = (0 : Int32) then d_X5_line_64 x1 (45 : Int32) V8
    else bd (d_X5_of x1 (1 : Int32) V8) (fun r13 => d_X5_line_64 x1 ((48 : Int32) + r13) V8))))
  else some ((0 : Int32), V2))
def d_X5_line (x1 : Int32) (V : VT) : Option (Int32 × VT) :=
  bd (d_X5_isCountry x1 V) (fun r2 => if r2 = (0 : Int32) then d_X5_line_14 x1 (1 : Int32) V
  else d_X5_line_14 x1 (0 : Int32) V)
def d_X5_character_20  (x1 s0 : Int32) (V : VT) : Option (Int32 × VT) :=
  bw (d_X5_fails s0 V) (fun r3 V2 => if r3 = (0 : Int32) then asr (inb x1 40) (asr (cok (V2 115 x1.toNatClampNeg)) (some ((V2 115 x1.toNatClampNeg), V2)))
  else some ((32 : Int32), V2))
def d_X5_character (x1 : Int32) (V : VT) : Option (Int32 × VT) :=
  bd (d_X5_in x1 (0 : Int32) ((V 109 14) - (1 : Int32)) V) (fun r2 => if r2 = (0 : Int32) then d_X5_character_20 x1 (1 : Int32) V
  else d_X5_character_20 x1 (0 : Int32) V)
def d_X5_append_15  (x1 s0 : Int32) (V : VT) : Option (Int32 × VT) :=
  bw (d_X5_fails s0 V) (fun r3 V2 => if r3 = (0 : Int32) then asr (inb (V2 109 11) 60) (some (((V2 109 11) + (1 : Int32)), (up2 (up2 V2 114 (V2 109 11).toNatClampNeg x1) 109 11 ((V2 109 11) + (1 : Int32)))))
  else some ((0 : Int32), V2))
def d_X5_append (x1 : Int32) (V : VT) : Option (Int32 × VT) :=
  if (V 109 11) = (60 : Int32) then d_X5_append_15 x1 (1 : Int32) V
  else d_X5_append_15 x1 (0 : Int32) V
def d_X5_here  (V : VT) : Option Int32 :=
  if (V 109 11) ≤ (V 109 16) then some (-1 : Int32)
  else asr (inb (V 109 16) 60) (some (V 114 (V 109 16).toNatClampNeg))
def d_X5_skips (x1 : Int32) (V : VT) : Option (Int32 × VT) :=
  bd (d_X5_here V) (fun r2 => if r2 = x1 then some ((1 : Int32), (up2 V 109 16 ((V 109 16) + (1 : Int32))))
  else some ((0 : Int32), V))
def d_X5_number_25b  (k25 : Int32 → Int32 → Int32 → VT → Option (Int32 × VT)) (x1 x2 x3 : Int32) (V : VT) : Option (Int32 × VT) :=
  if x2 ≤ x3 then some ((1 : Int32), V)
  else bd (d_X5_here V) (fun r3 => bd (d_X5_in r3 (48 : Int32) (57 : Int32) V) (fun r5 => if r5 = (0 : Int32) then some ((1 : Int32), V)
    else asr (inb x1 128) (bd (d_X5_here V) (fun r9 => asr (inb x1 128) (k25 x1 x2 (x3 + (1 : Int32)) (up2 (up2 V 117 x1.toNatClampNeg ((((10 : Int32) * (V 117 x1.toNatClampNeg)) + r9) - (48 : Int32))) 109 16 ((V 109 16) + (1 : Int32))))))))
def d_X5_number_25  : Int32 → Int32 → Int32 → VT → Option (Int32 × VT) :=
  lo3W (d_X5_number_25b) FU
def d_X5_number (x1 : Int32) (x2 : Int32) (V : VT) : Option (Int32 × VT) :=
  bd (d_X5_here V) (fun r2 => bd (d_X5_in r2 (48 : Int32) (57 : Int32) V) (fun r4 => if r4 = (0 : Int32) then some ((0 : Int32), V)
  else asr (inb x1 128) (d_X5_number_25 x1 x2 (0 : Int32) (up2 V 117 x1.toNatClampNeg (0 : Int32)))))
def d_X5_orderHere  (V : VT) : Option (Int32 × VT) :=
  bd (d_X5_here V) (fun r2 => asr (inb ((4 : Int32) * (V 109 18)) 128) (bw (d_X5_skips (112 : Int32) (up2 V 117 ((4 : Int32) * (V 109 18)).toNatClampNeg r2)) (fun r6 V5 => if r6 = (0 : Int32) then bw (d_X5_skips (98 : Int32) V5) (fun r10 V9 => if r10 = (0 : Int32) then bw (d_X5_skips (119 : Int32) V9) (fun r14 V13 => if r14 = (0 : Int32) then bw (d_X5_skips (104 : Int32) V13) (fun r18 V17 => if r18 = (0 : Int32) then bw (d_X5_skips (106 : Int32) V17) (fun r22 V21 => if r22 = (0 : Int32) then bw (d_X5_skips (120 : Int32) V21) (fun r26 V25 => if r26 = (0 : Int32) then bw (d_X5_skips (102 : Int32) V25) (fun r30 V29 => if r30 = (0 : Int32) then some ((0 : Int32), V29)
              else some ((1 : Int32), V29))
            else some ((1 : Int32), V25))
          else bw (d_X5_number (((4 : Int32) * (V 109 18)) + (1 : Int32)) (1 : Int32) V21) (fun r34 V33 => if r34 = (0 : Int32) then some ((0 : Int32), V33)
            else bw (d_X5_skips (43 : Int32) V33) (fun r38 V37 => if r38 = (0 : Int32) then some ((0 : Int32), V37)
              else bw (d_X5_number (((4 : Int32) * (V 109 18)) + (2 : Int32)) (2 : Int32) V37) (fun r42 V41 => if r42 = (0 : Int32) then some ((0 : Int32), V41)
                else some ((1 : Int32), V41)))))
        else bw (d_X5_number (((4 : Int32) * (V 109 18)) + (1 : Int32)) (2 : Int32) V17) (fun r46 V45 => asr (zok r46) (some (r46, V45))))
      else bw (d_X5_number (((4 : Int32) * (V 109 18)) + (1 : Int32)) (1 : Int32) V13) (fun r50 V49 => if r50 = (0 : Int32) then some ((0 : Int32), V49)
        else bw (d_X5_skips (61 : Int32) V49) (fun r54 V53 => if r54 = (0 : Int32) then some ((0 : Int32), V53)
          else bw (d_X5_number (((4 : Int32) * (V 109 18)) + (2 : Int32)) (1 : Int32) V53) (fun r58 V57 => if r58 = (0 : Int32) then some ((0 : Int32), V57)
            else bw (d_X5_skips (42 : Int32) V57) (fun r62 V61 => if r62 = (0 : Int32) then some ((0 : Int32), V61)
              else bw (d_X5_number (((4 : Int32) * (V 109 18)) + (3 : Int32)) (1 : Int32) V61) (fun r66 V65 => if r66 = (0 : Int32) then some ((0 : Int32), V65)
                else some ((1 : Int32), V65)))))))
    else bw (d_X5_number (((4 : Int32) * (V 109 18)) + (1 : Int32)) (1 : Int32) V9) (fun r70 V69 => if r70 = (0 : Int32) then some ((0 : Int32), V69)
      else bw (d_X5_skips (45 : Int32) V69) (fun r74 V73 => if r74 = (0 : Int32) then some ((0 : Int32), V73)
        else bw (d_X5_number (((4 : Int32) * (V 109 18)) + (2 : Int32)) (1 : Int32) V73) (fun r78 V77 => if r78 = (0 : Int32) then some ((0 : Int32), V77)
          else some ((1 : Int32), V77)))))
  else bw (d_X5_number (((4 : Int32) * (V 109 18)) + (1 : Int32)) (1 : Int32) V5) (fun r82 V81 => if r82 = (0 : Int32) then some ((0 : Int32), V81)
    else bw (d_X5_skips (61 : Int32) V81) (fun r86 V85 => if r86 = (0 : Int32) then some ((0 : Int32), V85)
      else bw (d_X5_number (((4 : Int32) * (V 109 18)) + (2 : Int32)) (1 : Int32) V85) (fun r90 V89 => if r90 = (0 : Int32) then some ((0 : Int32), V89)
        else some ((1 : Int32), V89)))))))
def d_X5_isText_10b  (k10 : VT → Option (Int32 × VT)) (V : VT) : Option (Int32 × VT) :=
  bw (d_X5_orderHere V) (fun r3 V2 => if r3 = (0 : Int32) then some ((0 : Int32), V2)
  else bw (d_X5_skips (59 : Int32) (up2 V2 109 18 ((V2 109 18) + (1 : Int32)))) (fun r7 V6 => if r7 = (0 : Int32) then if (V6 109 16) = (V6 109 11) then some ((1 : Int32), V6)
      else some ((0 : Int32), V6)
    else k10 V6))
def d_X5_isText_10  : VT → Option (Int32 × VT) :=
  lo0W (d_X5_isText_10b) FU
def d_X5_isText  (V : VT) : Option (Int32 × VT) :=
  d_X5_isText_10 (up2 (up2 V 109 16 (0 : Int32)) 109 18 (0 : Int32))
def d_X5_carries (x1 : Int32) (V : VT) : Option (Int32 × VT) :=
  asr (inb x1 128) (if (V 117 x1.toNatClampNeg) = (98 : Int32) then asr (inb (x1 + (1 : Int32)) 128) (asr (inb (x1 + (2 : Int32)) 128) (bw (d_X5_border (V 117 (x1 + (1 : Int32)).toNatClampNeg) (V 117 (x1 + (2 : Int32)).toNatClampNeg) V) (fun r7 V6 => some (r7, V6))))
  else if (V 117 x1.toNatClampNeg) = (104 : Int32) then asr (inb (x1 + (1 : Int32)) 128) (bw (d_X5_hues (V 117 (x1 + (1 : Int32)).toNatClampNeg) V) (fun r12 V11 => some (r12, V11)))
  else if (V 117 x1.toNatClampNeg) = (106 : Int32) then asr (inb (x1 + (1 : Int32)) 128) (asr (inb (x1 + (2 : Int32)) 128) (bw (d_X5_pots (V 117 (x1 + (1 : Int32)).toNatClampNeg) (V 117 (x1 + (2 : Int32)).toNatClampNeg) V) (fun r18 V17 => some (r18, V17))))
  else if (V 117 x1.toNatClampNeg) = (112 : Int32) then asr (inb (x1 + (1 : Int32)) 128) (asr (inb (x1 + (2 : Int32)) 128) (bw (d_X5_paint (V 117 (x1 + (1 : Int32)).toNatClampNeg) (V 117 (x1 + (2 : Int32)).toNatClampNeg) V) (fun r24 V23 => some (r24, V23))))
  else if (V 117 x1.toNatClampNeg) = (119 : Int32) then asr (inb (x1 + (1 : Int32)) 128) (asr (inb (x1 + (2 : Int32)) 128) (asr (inb (x1 + (3 : Int32)) 128) (bw (d_X5_wish (V 117 (x1 + (1 : Int32)).toNatClampNeg) (V 117 (x1 + (2 : Int32)).toNatClampNeg) (V 117 (x1 + (3 : Int32)).toNatClampNeg) V) (fun r31 V30 => some (r31, V30)))))
  else if (V 117 x1.toNatClampNeg) = (120 : Int32) then bw (d_X5_back V) (fun r35 V34 => some (r35, V34))
  else bw (d_X5_fill V) (fun r38 V37 => some (r38, V37)))
def d_X5_isRefusal_40 (V : VT)  : Option Int32 :=
  if (V 109 7) = (2 : Int32) then some (1 : Int32)
  else some (0 : Int32)
def d_X5_isRefusal (x1 : Int32) (V : VT) : Option Int32 :=
  if x1 = (120 : Int32) then if (V 109 7) = (1 : Int32) then some (1 : Int32)
    else some (0 : Int32)
  else if x1 = (112 : Int32) then d_X5_isRefusal_40 V
    else if x1 = (98 : Int32) then d_X5_isRefusal_40 V
      else if x1 = (104 : Int32) then d_X5_isRefusal_40 V
        else some (0 : Int32)
def d_X5_read_143  (x3 s0 : Int32) (V : VT) : Option (Int32 × VT) :=
  if (0 : Int32) ≤ x3 then some ((0 : Int32), (up2 V 109 7 s0))
  else some (x3, (up2 V 109 7 s0))
def d_X5_read_95  (x2 x3 : Int32) (V : VT) : Option (Int32 × VT) :=
  if (V 109 7) ≤ (0 : Int32) then bd (d_X5_keeps 113 (up2 V 109 6 (0 : Int32))) (fun V3 => some ((V3 109 18), V3))
  else bd (d_X5_copies 113 (0 : Int32) 110 (0 : Int32) (up2 V 109 6 (0 : Int32))) (fun V5 => asr (inb (((4 : Int32) * x2) - (4 : Int32)) 128) (bd (d_X5_isRefusal (V5 117 (((4 : Int32) * x2) - (4 : Int32)).toNatClampNeg) V5) (fun r8 => if r8 = (0 : Int32) then d_X5_read_143 x3 (1 : Int32) V5
    else d_X5_read_143 x3 (2 : Int32) V5)))
def d_X5_read_66b  (k66 : Int32 → Int32 → VT → Option (Int32 × VT)) (x2 x3 : Int32) (V : VT) : Option (Int32 × VT) :=
  if (V 109 18) ≤ x2 then d_X5_read_95 x2 x3 V
  else if (V 109 7) = (0 : Int32) then bw (d_X5_carries ((4 : Int32) * x2) V) (fun r5 V4 => k66 (x2 + (1 : Int32)) r5 V4)
    else d_X5_read_95 x2 x3 V
def d_X5_read_66  : Int32 → Int32 → VT → Option (Int32 × VT) :=
  lo2W (d_X5_read_66b) FU
def d_X5_read_36  (s0 : Int32) (V : VT) : Option (Int32 × VT) :=
  bw (d_X5_fails s0 V) (fun r3 V2 => if r3 = (0 : Int32) then bd (d_X5_copies 110 (0 : Int32) 113 (0 : Int32) V2) (fun V6 => d_X5_read_66 (0 : Int32) (0 : Int32) (up2 V6 109 6 (1 : Int32)))
  else some ((0 : Int32), V2))
def d_X5_read_18  (x1 s0 : Int32) (V : VT) : Option (Int32 × VT) :=
  if x1 = (0 : Int32) then d_X5_read_36 (1 : Int32) (up2 (up2 V 109 12 s0) 109 11 (0 : Int32))
  else d_X5_read_36 (0 : Int32) (up2 (up2 V 109 12 s0) 109 11 (0 : Int32))
def d_X5_read  (V : VT) : Option (Int32 × VT) :=
  bw (d_X5_isText V) (fun r3 V2 => if r3 = (0 : Int32) then d_X5_read_18 r3 (V2 109 16) V2
  else d_X5_read_18 r3 (-1 : Int32) V2)
def d_X5_errorPosition  (V : VT) : Option (Int32 × VT) :=
  some ((V 109 12), (up2 V 109 7 (0 : Int32)))
def d_X5_refusal_13  (x1 s0 : Int32) (V : VT) : Option (Int32 × VT) :=
  bw (d_X5_fails s0 V) (fun r3 V2 => if r3 = (0 : Int32) then if x1 = (0 : Int32) then some ((V2 109 8), V2)
    else some ((V2 109 9), V2)
  else some ((0 : Int32), V2))
def d_X5_refusal (x1 : Int32) (V : VT) : Option (Int32 × VT) :=
  if (V 109 8) = (0 : Int32) then d_X5_refusal_13 x1 (1 : Int32) V
  else d_X5_refusal_13 x1 (0 : Int32) V
def d_X5_sumOf_4b (V : VT) (k4 : Int32 → Int32 → Int32 → Option Int32) (x1 x2 x3 : Int32)  : Option Int32 :=
  if (5 : Int32) ≤ x3 then some x2
  else asr (inb (x1 + x3) 56) (k4 x1 (x2 + (V 110 (x1 + x3).toNatClampNeg)) (x3 + (1 : Int32)))
def d_X5_sumOf_4 (V : VT) : Int32 → Int32 → Int32 → Option Int32 :=
  lo3 (d_X5_sumOf_4b V) FU
def d_X5_sumOf (x1 : Int32) (V : VT) : Option Int32 :=
  d_X5_sumOf_4 V x1 (0 : Int32) (0 : Int32)
def d_X5_paintedMany  (V : VT) : Option Int32 :=
  bd (d_X5_left V) (fun r2 => some ((V 110 0) - r2))
def d_X5_stuckMany_4b (V : VT) (k4 : Int32 → Int32 → Option Int32) (x1 x2 : Int32)  : Option Int32 :=
  if (V 110 0) ≤ x2 then some x1
  else bd (d_X5_isStuck x2 V) (fun r3 => if r3 = (0 : Int32) then k4 (x1 + (0 : Int32)) (x2 + (1 : Int32))
    else k4 (x1 + (1 : Int32)) (x2 + (1 : Int32)))
def d_X5_stuckMany_4 (V : VT) : Int32 → Int32 → Option Int32 :=
  lo2 (d_X5_stuckMany_4b V) FU
def d_X5_stuckMany  (V : VT) : Option Int32 :=
  d_X5_stuckMany_4 V (0 : Int32) (0 : Int32)
def d_X5_wishes_4b (V : VT) (k4 : Int32 → Int32 → Int32 → Option Int32) (x1 x2 x3 : Int32)  : Option Int32 :=
  if (V 110 0) ≤ x3 then some x2
  else bd (d_X5_of x3 (2 : Int32) V) (fun r3 => if r3 < (0 : Int32) then k4 x1 (x2 + (0 : Int32)) (x3 + (1 : Int32))
    else if x1 = (0 : Int32) then k4 x1 (x2 + (1 : Int32)) (x3 + (1 : Int32))
      else bd (d_X5_isFulfilled x3 V) (fun r7 => if r7 = (0 : Int32) then k4 x1 (x2 + (0 : Int32)) (x3 + (1 : Int32))
        else k4 x1 (x2 + (1 : Int32)) (x3 + (1 : Int32))))
def d_X5_wishes_4 (V : VT) : Int32 → Int32 → Int32 → Option Int32 :=
  lo3 (d_X5_wishes_4b V) FU
def d_X5_wishes (x1 : Int32) (V : VT) : Option Int32 :=
  d_X5_wishes_4 V x1 (0 : Int32) (0 : Int32)
def d_X5_account_16  (x1 s0 : Int32) (V : VT) : Option (Int32 × VT) :=
  bw (d_X5_fails s0 V) (fun r3 V2 => if r3 = (0 : Int32) then if x1 = (0 : Int32) then some ((V2 110 0), V2)
    else if x1 = (1 : Int32) then bd (d_X5_borders V2) (fun r8 => some (r8, V2))
    else if x1 = (2 : Int32) then some ((V2 110 36), V2)
    else if x1 = (3 : Int32) then bd (d_X5_paintedMany V2) (fun r12 => some (r12, V2))
    else if x1 = (4 : Int32) then bd (d_X5_stuckMany V2) (fun r15 => some (r15, V2))
    else if x1 = (5 : Int32) then some ((V2 110 47), V2)
    else if x1 = (6 : Int32) then bd (d_X5_sumOf (37 : Int32) V2) (fun r19 => some (r19, V2))
    else if x1 = (7 : Int32) then bd (d_X5_sumOf (42 : Int32) V2) (fun r22 => some (r22, V2))
    else if x1 = (8 : Int32) then some ((V2 110 55), V2)
    else if x1 = (9 : Int32) then bd (d_X5_wishes (0 : Int32) V2) (fun r26 => some (r26, V2))
    else if x1 = (10 : Int32) then bd (d_X5_wishes (1 : Int32) V2) (fun r29 => some (r29, V2))
    else if x1 = (11 : Int32) then some ((V2 109 11), V2)
    else some ((V2 109 5), V2)
  else some ((0 : Int32), V2))
def d_X5_account (x1 : Int32) (V : VT) : Option (Int32 × VT) :=
  bd (d_X5_in x1 (0 : Int32) (12 : Int32) V) (fun r2 => if r2 = (0 : Int32) then d_X5_account_16 x1 (1 : Int32) V
  else d_X5_account_16 x1 (0 : Int32) V)
def d_X5_isWell_100 (k72 : Int32 → VT → Option (Int32 × VT)) (x1 s0 s1 : Int32) (V : VT) : Option (Int32 × VT) :=
  if s1 = s0 then k72 (x1 + (1 : Int32)) V
  else some ((0 : Int32), V)
def d_X5_isWell_72b  (k72 : Int32 → VT → Option (Int32 × VT)) (x1 : Int32) (V : VT) : Option (Int32 × VT) :=
  if (V 110 0) ≤ x1 then bd (d_X5_paintedMany V) (fun r3 => if (V 110 47) = r3 then some ((1 : Int32), V)
    else some ((0 : Int32), V))
  else bd (d_X5_isPainted x1 V) (fun r6 => bd (d_X5_placeOf x1 V) (fun r8 => if r8 < (0 : Int32) then d_X5_isWell_100 k72 x1 (0 : Int32) r6 V
    else d_X5_isWell_100 k72 x1 (1 : Int32) r6 V))
def d_X5_isWell_72  : Int32 → VT → Option (Int32 × VT) :=
  lo1W (d_X5_isWell_72b) FU
def d_X5_isWell_19b (k7 : Int32 → VT → Option (Int32 × VT)) (k19 : Int32 → Int32 → VT → Option (Int32 × VT)) (x1 x2 : Int32) (V : VT) : Option (Int32 × VT) :=
  if x1 ≤ x2 then k7 (x1 + (1 : Int32)) V
  else bd (d_X5_touches x1 x2 V) (fun r3 => if r3 = (0 : Int32) then k19 x1 (x2 + (1 : Int32)) V
    else bd (d_X5_isPainted x1 V) (fun r6 => if r6 = (0 : Int32) then k19 x1 (x2 + (1 : Int32)) V
      else bd (d_X5_of x1 (1 : Int32) V) (fun r9 => bd (d_X5_of x2 (1 : Int32) V) (fun r11 => if r9 = r11 then some ((0 : Int32), V)
        else k19 x1 (x2 + (1 : Int32)) V))))
def d_X5_isWell_19 (k7 : Int32 → VT → Option (Int32 × VT)) : Int32 → Int32 → VT → Option (Int32 × VT) :=
  lo2W (d_X5_isWell_19b k7) FU
def d_X5_isWell_7b  (k7 : Int32 → VT → Option (Int32 × VT)) (x1 : Int32) (V : VT) : Option (Int32 × VT) :=
  if (V 110 0) ≤ x1 then d_X5_isWell_72 (0 : Int32) V
  else d_X5_isWell_19 k7 x1 (0 : Int32) V
def d_X5_isWell_7  : Int32 → VT → Option (Int32 × VT) :=
  lo1W (d_X5_isWell_7b) FU
def d_X5_isWell  (V : VT) : Option (Int32 × VT) :=
  d_X5_isWell_7 (0 : Int32) (up2 V 109 7 (0 : Int32))
def d_X5_meanSize_54  (x1 s0 : Int32) (V : VT) : Option (UInt64 × VT) :=
  bw (d_X5_fails s0 V) (fun r3 V2 => if r3 = (0 : Int32) then bd (d_X5_paintedMany V2) (fun r6 => asr (n64ok (FP.ddiv (FP.i2d x1) (FP.i2d r6))) (some ((FP.ddiv (FP.i2d x1) (FP.i2d r6)), V2)))
  else some (FP.dconst0, V2))
def d_X5_meanSize_4b  (k4 : Int32 → Int32 → VT → Option (UInt64 × VT)) (x1 x2 : Int32) (V : VT) : Option (UInt64 × VT) :=
  if (V 110 0) ≤ x2 then bd (d_X5_paintedMany V) (fun r3 => if r3 = (0 : Int32) then d_X5_meanSize_54 x1 (1 : Int32) V
    else d_X5_meanSize_54 x1 (0 : Int32) V)
  else bd (d_X5_isPainted x2 V) (fun r6 => if r6 = (0 : Int32) then k4 (x1 + (0 : Int32)) (x2 + (1 : Int32)) V
    else bd (d_X5_of x2 (0 : Int32) V) (fun r9 => k4 (x1 + r9) (x2 + (1 : Int32)) V))
def d_X5_meanSize_4  : Int32 → Int32 → VT → Option (UInt64 × VT) :=
  lo2W (d_X5_meanSize_4b) FU
def d_X5_meanSize  (V : VT) : Option (UInt64 × VT) :=
  d_X5_meanSize_4 (0 : Int32) (0 : Int32) V
def d_X5_painted_15  (s0 : Int32) (V : VT) : Option (UInt32 × VT) :=
  bw (d_X5_fails s0 V) (fun r3 V2 => if r3 = (0 : Int32) then bd (d_X5_paintedMany V2) (fun r6 => asr (n32ok (FP.fdiv (FP.i2f r6) (FP.i2f (V2 110 0)))) (some ((FP.fdiv (FP.i2f r6) (FP.i2f (V2 110 0))), V2)))
  else some (FP.fconst0, V2))
def d_X5_painted  (V : VT) : Option (UInt32 × VT) :=
  if (V 110 0) = (0 : Int32) then d_X5_painted_15 (1 : Int32) V
  else d_X5_painted_15 (0 : Int32) V
def d_X5_undo_13  (s0 : Int32) (V : VT) : Option (Int32 × VT) :=
  bw (d_X5_fails s0 V) (fun r3 V2 => if r3 = (0 : Int32) then bd (d_X5_copies 111 ((56 : Int32) * ((V2 109 5) - (1 : Int32))) 110 (0 : Int32) (up2 V2 109 5 ((V2 109 5) - (1 : Int32)))) (fun V6 => some ((V6 109 5), V6))
  else some ((0 : Int32), V2))
def d_X5_undo  (V : VT) : Option (Int32 × VT) :=
  if (V 109 5) = (0 : Int32) then d_X5_undo_13 (1 : Int32) V
  else d_X5_undo_13 (0 : Int32) V
def d_X5_save  (V : VT) : Option (Int32 × VT) :=
  bd (d_X5_copies 110 (0 : Int32) 112 (0 : Int32) (up2 (up2 V 109 7 (0 : Int32)) 109 4 (1 : Int32))) (fun V2 => some ((V2 110 0), V2))
def d_X5_restore_13  (s0 : Int32) (V : VT) : Option (Int32 × VT) :=
  bw (d_X5_fails s0 V) (fun r3 V2 => if r3 = (0 : Int32) then bd (d_X5_copies 112 (0 : Int32) 110 (0 : Int32) V2) (fun V6 => some ((V6 110 0), (up2 V6 109 5 (0 : Int32))))
  else some ((0 : Int32), V2))
def d_X5_restore  (V : VT) : Option (Int32 × VT) :=
  if (V 109 4) = (0 : Int32) then d_X5_restore_13 (1 : Int32) V
  else d_X5_restore_13 (0 : Int32) V
def d_L_country (x1 : Int32) (V : VT) : Option (Int32 × VT) :=
  bh (d_X4_country x1 V) (fun r6 V3 => some ((0 : Int32), (up2 V3 118 0 r6))) (fun E9 V3 => if E9 = "java/lang/IllegalArgumentException" then some ((1 : Int32), V3) else if E9 = "java/lang/UnsupportedOperationException" then some ((2 : Int32), V3) else  none)
def d_L_border (x1 : Int32) (x2 : Int32) (V : VT) : Option (Int32 × VT) :=
  bh (d_X4_border x1 x2 V) (fun r6 V3 => some ((0 : Int32), (up2 V3 118 0 r6))) (fun E9 V3 => if E9 = "java/lang/IndexOutOfBoundsException" then some ((1 : Int32), V3) else if E9 = "java/lang/UnsupportedOperationException" then some ((2 : Int32), V3) else  none)
def d_L_erase (x1 : Int32) (x2 : Int32) (V : VT) : Option (Int32 × VT) :=
  bh (d_X4_erase x1 x2 V) (fun r6 V3 => some ((0 : Int32), (up2 V3 118 0 r6))) (fun E9 V3 => if E9 = "java/lang/IndexOutOfBoundsException" then some ((1 : Int32), V3) else if E9 = "java/lang/UnsupportedOperationException" then some ((2 : Int32), V3) else  none)
def d_L_hasBorder (x1 : Int32) (x2 : Int32) (V : VT) : Option (Int32 × VT) :=
  bh (d_X4_hasBorder x1 x2 V) (fun r6 V3 => if r6 = (0 : Int32) then some ((0 : Int32), (up2 V3 118 0 (0 : Int32)))
    else some ((0 : Int32), (up2 V3 118 0 (1 : Int32)))) (fun E9 V3 => if E9 = "java/lang/IndexOutOfBoundsException" then some ((1 : Int32), V3) else  none)
def d_L_countryOf (x1 : Int32) (x2 : Int32) (V : VT) : Option (Int32 × VT) :=
  bh (d_X4_countryOf x1 x2 V) (fun r6 V3 => some ((0 : Int32), (up2 V3 118 0 r6))) (fun E9 V3 => if E9 = "java/lang/IndexOutOfBoundsException" then some ((1 : Int32), V3) else if E9 = "java/lang/IllegalArgumentException" then some ((2 : Int32), V3) else  none)
def d_L_hues (x1 : Int32) (V : VT) : Option (Int32 × VT) :=
  bh (d_X4_hues x1 V) (fun r6 V3 => some ((0 : Int32), (up2 V3 118 0 r6))) (fun E9 V3 => if E9 = "java/lang/IllegalArgumentException" then some ((1 : Int32), V3) else if E9 = "java/lang/UnsupportedOperationException" then some ((2 : Int32), V3) else  none)
def d_L_pots (x1 : Int32) (x2 : Int32) (V : VT) : Option (Int32 × VT) :=
  bh (d_X4_pots x1 x2 V) (fun r6 V3 => some ((0 : Int32), (up2 V3 118 0 r6))) (fun E9 V3 => if E9 = "java/lang/IndexOutOfBoundsException" then some ((1 : Int32), V3) else if E9 = "java/lang/IllegalArgumentException" then some ((2 : Int32), V3) else  none)
def d_L_hueOf (x1 : Int32) (x2 : Int32) (V : VT) : Option (Int32 × VT) :=
  bh (d_X4_hueOf x1 x2 V) (fun r6 V3 => some ((0 : Int32), (up2 V3 118 0 r6))) (fun E9 V3 => if E9 = "java/lang/IndexOutOfBoundsException" then some ((1 : Int32), V3) else if E9 = "java/lang/IllegalArgumentException" then some ((2 : Int32), V3) else  none)
def d_L_paint (x1 : Int32) (x2 : Int32) (V : VT) : Option (Int32 × VT) :=
  bh (d_X4_paint x1 x2 V) (fun r6 V3 => some ((0 : Int32), (up2 V3 118 0 r6))) (fun E9 V3 => if E9 = "java/lang/IndexOutOfBoundsException" then some ((1 : Int32), V3) else if E9 = "java/lang/UnsupportedOperationException" then some ((2 : Int32), V3) else  none)
def d_L_bars (x1 : Int32) (x2 : Int32) (V : VT) : Option (Int32 × VT) :=
  bh (d_X4_bars x1 x2 V) (fun r6 V3 => some ((0 : Int32), (up2 V3 118 0 r6))) (fun E9 V3 => if E9 = "java/lang/IndexOutOfBoundsException" then some ((1 : Int32), V3) else  none)
def d_L_back  (V : VT) : Option (Int32 × VT) :=
  bh (d_X4_back V) (fun r6 V3 => some ((0 : Int32), (up2 V3 118 0 r6))) (fun E9 V3 => if E9 = "java/lang/UnsupportedOperationException" then some ((1 : Int32), V3) else  none)
def d_L_step (x1 : Int32) (V : VT) : Option (Int32 × VT) :=
  bh (d_X4_step x1 V) (fun r6 V3 => some ((0 : Int32), (up2 V3 118 0 r6))) (fun E9 V3 => if E9 = "java/util/NoSuchElementException" then some ((1 : Int32), V3) else  none)
def d_L_stuck  (V : VT) : Option (Int32 × VT) :=
  bh (d_X4_stuck V) (fun r6 V3 => some ((0 : Int32), (up2 V3 118 0 r6))) (fun E9 V3 => if E9 = "java/util/NoSuchElementException" then some ((1 : Int32), V3) else  none)
def d_L_next  (V : VT) : Option (Int32 × VT) :=
  bh (d_X4_next V) (fun r6 V3 => some ((0 : Int32), (up2 V3 118 0 r6))) (fun E9 V3 => if E9 = "java/util/NoSuchElementException" then some ((1 : Int32), V3) else  none)
def d_L_gentle (x1 : Int32) (V : VT) : Option (Int32 × VT) :=
  bh (d_X4_gentle x1 V) (fun r6 V3 => some ((0 : Int32), (up2 V3 118 0 r6))) (fun E9 V3 => if E9 = "java/lang/IndexOutOfBoundsException" then some ((1 : Int32), V3) else if E9 = "java/util/NoSuchElementException" then some ((2 : Int32), V3) else  none)
def d_L_wish (x1 : Int32) (x2 : Int32) (x3 : Int32) (V : VT) : Option (Int32 × VT) :=
  bh (d_X4_wish x1 x2 x3 V) (fun r6 V3 => some ((0 : Int32), (up2 V3 118 0 r6))) (fun E9 V3 => if E9 = "java/lang/IndexOutOfBoundsException" then some ((1 : Int32), V3) else if E9 = "java/lang/IllegalArgumentException" then some ((2 : Int32), V3) else  none)
def d_L_waysFor (x1 : Int32) (V : VT) : Option (Int32 × VT) :=
  bh (d_X4_waysFor x1 V) (fun r6 V3 => some ((0 : Int32), (up2 V3 118 0 r6))) (fun E9 V3 => if E9 = "java/lang/IndexOutOfBoundsException" then some ((1 : Int32), V3) else if E9 = "java/util/NoSuchElementException" then some ((2 : Int32), V3) else  none)
def d_L_fewest  (V : VT) : Option (Int32 × VT) :=
  bh (d_X4_fewest V) (fun r6 V3 => some ((0 : Int32), (up2 V3 118 0 r6))) (fun E9 V3 => if E9 = "java/util/NoSuchElementException" then some ((1 : Int32), V3) else  none)
def d_L_line (x1 : Int32) (V : VT) : Option (Int32 × VT) :=
  bh (d_X4_line x1 V) (fun r6 V3 => some ((0 : Int32), (up2 V3 118 0 r6))) (fun E9 V3 => if E9 = "java/lang/IndexOutOfBoundsException" then some ((1 : Int32), V3) else  none)
def d_L_character (x1 : Int32) (V : VT) : Option (Int32 × VT) :=
  bh (d_X4_character x1 V) (fun r6 V3 => some ((0 : Int32), (up2 V3 118 0 r6))) (fun E9 V3 => if E9 = "java/lang/IndexOutOfBoundsException" then some ((1 : Int32), V3) else  none)
def d_L_append (x1 : Int32) (V : VT) : Option (Int32 × VT) :=
  bh (d_X4_append x1 V) (fun r6 V3 => some ((0 : Int32), (up2 V3 118 0 r6))) (fun E9 V3 => if E9 = "java/lang/IllegalStateException" then some ((1 : Int32), V3) else  none)
def d_L_read  (V : VT) : Option (Int32 × VT) :=
  bh (d_X4_read V) (fun r6 V3 => some ((0 : Int32), (up2 V3 118 0 r6))) (fun E9 V3 => if E9 = "java/lang/IllegalArgumentException" then some ((1 : Int32), V3) else if E9 = "java/lang/UnsupportedOperationException" then some ((2 : Int32), V3) else  none)
def d_L_refusal (x1 : Int32) (V : VT) : Option (Int32 × VT) :=
  bh (d_X4_refusal x1 V) (fun r6 V3 => some ((0 : Int32), (up2 V3 118 0 r6))) (fun E9 V3 => if E9 = "java/util/NoSuchElementException" then some ((1 : Int32), V3) else  none)
def d_L_account (x1 : Int32) (V : VT) : Option (Int32 × VT) :=
  bh (d_X4_account x1 V) (fun r6 V3 => some ((0 : Int32), (up2 V3 118 0 r6))) (fun E9 V3 => if E9 = "java/lang/IllegalArgumentException" then some ((1 : Int32), V3) else  none)
def d_L_meanSize  (V : VT) : Option (Int32 × VT) :=
  bh (d_X4_meanSize V) (fun r6 V3 => some ((0 : Int32), (upD V3 119 r6))) (fun E9 V3 => if E9 = "java/lang/ArithmeticException" then some ((1 : Int32), V3) else  none)
def d_L_painted  (V : VT) : Option (Int32 × VT) :=
  bh (d_X4_painted V) (fun r6 V3 => asr (n64ok (FP.f2d r6)) (some ((0 : Int32), (upD V3 119 (FP.f2d r6))))) (fun E9 V3 => if E9 = "java/lang/ArithmeticException" then some ((1 : Int32), V3) else  none)
def d_L_undo  (V : VT) : Option (Int32 × VT) :=
  bh (d_X4_undo V) (fun r6 V3 => some ((0 : Int32), (up2 V3 118 0 r6))) (fun E9 V3 => if E9 = "java/lang/IllegalStateException" then some ((1 : Int32), V3) else  none)
def d_L_restore  (V : VT) : Option (Int32 × VT) :=
  bh (d_X4_restore V) (fun r6 V3 => some ((0 : Int32), (up2 V3 118 0 r6))) (fun E9 V3 => if E9 = "java/lang/IllegalStateException" then some ((1 : Int32), V3) else  none)
