/-! PURE ROWS: a land as a row of ints (the reference's row g), what holds of it, the land of the landed text beside it -/
abbrev Row : Type := Nat → Int32
def gN (g : Row) : Nat := (g 0).toNatClampNeg
def gU (g : Row) : Nat := (g 36).toNatClampNeg
def gS (g : Row) : Nat := (g 47).toNatClampNeg
def sz (g : Row) (c : Nat) : Int32 := g (1 + 4 * c + 0)
def hu (g : Row) (c : Nat) : Int32 := g (1 + 4 * c + 1)
def wi (g : Row) (c : Nat) : Int32 := g (1 + 4 * c + 2)
def cr (g : Row) (c : Nat) : Int32 := g (1 + 4 * c + 3)
def nb (g : Row) (c : Nat) : Nat := (g (29 + c)).toNatClampNeg
def po (g : Row) (h : Nat) : Int32 := g (37 + h)
def us (g : Row) (h : Nat) : Int32 := g (42 + h)
def st (g : Row) (k : Nat) : Nat := (g (48 + k)).toNatClampNeg
def ptd (g : Row) (c : Nat) : Bool := !decide (hu g c = iM)
def tt (g : Row) (a b : Nat) : Bool := (nb g a).testBit b
/-- the lowest neighbour that has the hue x -/
def nbIn (g : Row) (c : Nat) (x : Int32) : Option Nat := fnd (fun o => tt g c o && decide (hu g o = x)) (gN g)
def fre (g : Row) (c h : Nat) : Bool := !ptd g c && decide (h < gU g) && (nbIn g c (nI h)).isNone && !decide (po g h < sz g c)
def fm (g : Row) (c : Nat) : Nat := cnt (fre g c) 5
def WF (g : Row) : Prop :=
  (g 0 = nI (gN g) ∧ gN g ≤ 7) ∧ (g 36 = nI (gU g) ∧ 1 ≤ gU g ∧ gU g ≤ 5) ∧ (g 47 = nI (gS g) ∧ gS g = cnt (ptd g) (gN g)) ∧
  (∀ c, c < 7 → hu g c = iM ∨ ∃ h, h < 5 ∧ hu g c = nI h) ∧ (∀ c, c < 7 → wi g c = iM ∨ ∃ h, h < 5 ∧ wi g c = nI h) ∧
  (∀ c, c < gN g → ∃ z, z < 10 ∧ sz g c = nI z) ∧
  (∀ a, a < 7 → g (29 + a) = nI (nb g a) ∧ nb g a < 128) ∧ (∀ a b, a < 7 → b < 7 → tt g a b = true → a < gN g ∧ b < gN g ∧ a ≠ b ∧ tt g b a = true) ∧
  (∀ a b, a < 7 → b < 7 → tt g a b = true → ptd g a = true → hu g a ≠ hu g b) ∧
  (∀ k, k < gS g → g (48 + k) = nI (st g k) ∧ st g k < gN g ∧ ptd g (st g k) = true) ∧ (∀ j k, j < k → k < gS g → st g j ≠ st g k) ∧
  (∀ c, c < gN g → ptd g c = true → ∃ k, k < gS g ∧ st g k = c)
def LR (V : VT) (a : Nat) (g : Row) : Prop :=
  V a 8 = g 0 ∧ V a 9 = g 36 ∧ V a 10 = g 47 ∧ V a 11 = g 55 ∧
  (∀ c, c < 7 → V (a + 1) c = sz g c ∧ V (a + 2) c = hu g c ∧ V (a + 3) c = wi g c ∧ V (a + 4) c = cr g c ∧ V (a + 5) c = g (29 + c)) ∧
  (∀ h, h < 5 → V (a + 7) h = po g h ∧ V (a + 8) h = us g h) ∧ (∀ k, k < gS g → V (a + 6) k = g (48 + k))
section
variable {g : Row} {V : VT}
theorem wf_n (w : WF g) : g 0 = nI (gN g) := w.1.1
theorem wf_n7 (w : WF g) : gN g ≤ 7 := w.1.2
theorem wf_u (w : WF g) : g 36 = nI (gU g) := w.2.1.1
theorem wf_u1 (w : WF g) : 1 ≤ gU g := w.2.1.2.1
theorem wf_u5 (w : WF g) : gU g ≤ 5 := w.2.1.2.2
theorem wf_s (w : WF g) : g 47 = nI (gS g) := w.2.2.1.1
theorem wf_sc (w : WF g) : gS g = cnt (ptd g) (gN g) := w.2.2.1.2
theorem wf_sn (w : WF g) : gS g ≤ gN g := by rw [wf_sc w]; exact cnt_le _ _
theorem wf_s7 (w : WF g) : gS g ≤ 7 := Nat.le_trans (wf_sn w) (wf_n7 w)
theorem wf_hu (w : WF g) : ∀ c, c < 7 → hu g c = iM ∨ ∃ h, h < 5 ∧ hu g c = nI h := w.2.2.2.1
theorem wf_wi (w : WF g) : ∀ c, c < 7 → wi g c = iM ∨ ∃ h, h < 5 ∧ wi g c = nI h := w.2.2.2.2.1
theorem wf_sz (w : WF g) : ∀ c, c < gN g → ∃ z, z < 10 ∧ sz g c = nI z := w.2.2.2.2.2.1
theorem wf_nb (w : WF g) {a : Nat} (h : a < 7) : g (29 + a) = nI (nb g a) := (w.2.2.2.2.2.2.1 a h).1
theorem wf_nb7 (w : WF g) {a : Nat} (h : a < 7) : nb g a < 128 := (w.2.2.2.2.2.2.1 a h).2
theorem wf_tt (w : WF g) {a b : Nat} (ha : a < 7) (hb : b < 7) (h : tt g a b = true) : a < gN g ∧ b < gN g ∧ a ≠ b ∧ tt g b a = true := w.2.2.2.2.2.2.2.1 a b ha hb h
theorem wf_nh (w : WF g) {a b : Nat} (ha : a < 7) (hb : b < 7) (h : tt g a b = true) (hp : ptd g a = true) : hu g a ≠ hu g b := w.2.2.2.2.2.2.2.2.1 a b ha hb h hp
theorem wf_st (w : WF g) {k : Nat} (h : k < gS g) : g (48 + k) = nI (st g k) := (w.2.2.2.2.2.2.2.2.2.1 k h).1
theorem wf_stn (w : WF g) {k : Nat} (h : k < gS g) : st g k < gN g := (w.2.2.2.2.2.2.2.2.2.1 k h).2.1
theorem wf_stp (w : WF g) {k : Nat} (h : k < gS g) : ptd g (st g k) = true := (w.2.2.2.2.2.2.2.2.2.1 k h).2.2
theorem wf_std (w : WF g) {j k : Nat} (hj : j < k) (h : k < gS g) : st g j ≠ st g k := w.2.2.2.2.2.2.2.2.2.2.1 j k hj h
theorem wf_all (w : WF g) {c : Nat} (hc : c < gN g) (h : ptd g c = true) : ∃ k, k < gS g ∧ st g k = c := w.2.2.2.2.2.2.2.2.2.2.2 c hc h
theorem wf_ts (w : WF g) {a b : Nat} (ha : a < 7) (hb : b < 7) : tt g a b = tt g b a := by
  cases h : tt g a b with
  | true => exact (wf_tt w ha hb h).2.2.2.symm
  | false => cases h2 : tt g b a with
    | true => exact absurd ((wf_tt w hb ha h2).2.2.2) (by rw [h]; decide)
    | false => rfl
theorem wf_ti (w : WF g) {a : Nat} (ha : a < 7) : tt g a a = false := by
  cases h : tt g a a with
  | true => exact absurd rfl (wf_tt w ha ha h).2.2.1
  | false => rfl
theorem ptd_f {c : Nat} : (ptd g c = false) = (hu g c = iM) := by unfold ptd; simp
theorem ptd_t {c : Nat} : (ptd g c = true) = ¬ (hu g c = iM) := by unfold ptd; simp
theorem ptd_h (w : WF g) {c : Nat} (hc : c < 7) (h : ptd g c = true) : ∃ k, k < 5 ∧ hu g c = nI k := by
  rw [ptd_t] at h
  exact (wf_hu w c hc).resolve_left h
theorem lr_n (r : LR V 1 g) (w : WF g) : V 1 8 = nI (gN g) := r.1.trans (wf_n w)
theorem lr_u (r : LR V 1 g) (w : WF g) : V 1 9 = nI (gU g) := r.2.1.trans (wf_u w)
theorem lr_s (r : LR V 1 g) (w : WF g) : V 1 10 = nI (gS g) := r.2.2.1.trans (wf_s w)
theorem lr_o (r : LR V 1 g) : V 1 11 = g 55 := r.2.2.2.1
theorem lr_sz (r : LR V 1 g) {c : Nat} (h : c < 7) : V 2 c = sz g c := (r.2.2.2.2.1 c h).1
theorem lr_hu (r : LR V 1 g) {c : Nat} (h : c < 7) : V 3 c = hu g c := (r.2.2.2.2.1 c h).2.1
theorem lr_wi (r : LR V 1 g) {c : Nat} (h : c < 7) : V 4 c = wi g c := (r.2.2.2.2.1 c h).2.2.1
theorem lr_cr (r : LR V 1 g) {c : Nat} (h : c < 7) : V 5 c = cr g c := (r.2.2.2.2.1 c h).2.2.2.1
theorem lr_nb (r : LR V 1 g) (w : WF g) {c : Nat} (h : c < 7) : V 6 c = nI (nb g c) := (r.2.2.2.2.1 c h).2.2.2.2.trans (wf_nb w h)
theorem lr_po (r : LR V 1 g) {h : Nat} (hh : h < 5) : V 8 h = po g h := (r.2.2.2.2.2.1 h hh).1
theorem lr_us (r : LR V 1 g) {h : Nat} (hh : h < 5) : V 9 h = us g h := (r.2.2.2.2.2.1 h hh).2
theorem lr_st (r : LR V 1 g) (w : WF g) {k : Nat} (hk : k < gS g) : V 7 k = nI (st g k) := (r.2.2.2.2.2.2 k hk).trans (wf_st w hk)
end
