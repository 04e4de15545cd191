/-! A FORMAT, as numbers: sign bits, exponent bits, fraction bits, bias, subnormals, top -/
abbrev FM : Type := Nat × Nat × Nat × Nat × Bool × Nat
def fS (F : FM) : Nat := F.1
def fE (F : FM) : Nat := F.2.1
def fF (F : FM) : Nat := F.2.2.1
def fB (F : FM) : Nat := F.2.2.2.1
def fU (F : FM) : Bool := F.2.2.2.2.1
def fT (F : FM) : Nat := F.2.2.2.2.2
def VF (F : FM) : Prop := fS F ≤ 1 ∧ 1 ≤ fE F ∧ fE F ≤ 4 ∧ fF F ≤ 5 ∧ fB F ≤ 15 ∧ fT F ≤ 2 ∧ 3 ≤ fS F + fE F + fF F
def fN (F : FM) : Nat := fE F + fF F
def fP (F : FM) : Nat := 2 ^ (fE F + fF F)
/-- the size in units of a code without sign, by exponent bits' place and subnormals -/
def Us (f : Nat) (u : Bool) (m : Nat) : Nat := if m = 0 then 0 else if m / 2 ^ f = 0 ∧ u = true then 2 * (m % 2 ^ f) else (2 ^ f + m % 2 ^ f) * 2 ^ (m / 2 ^ f)
def fM (F : FM) (m : Nat) : Nat := Us (fF F) (fU F) m
def gr (F : FM) : Nat := if fT F = 0 then fP F - 2 ^ fF F - 1 else if fT F = 1 then fP F - 2 else fP F - 1
def bits (F : FM) : Nat := fS F + fE F + fF F
def mg (F : FM) (c : Nat) : Nat := c % fP F
def ng (F : FM) (c : Nat) : Bool := decide (fS F = 1) && decide (fP F ≤ c)
def sg (F : FM) (mi : Bool) (m : Nat) : Nat := if (mi && decide (fS F = 1)) = true then m + fP F else m
def isNu (F : FM) (c : Nat) : Bool := decide (mg F c ≤ gr F)
def isEn (F : FM) (c : Nat) : Bool := decide (fT F = 0) && decide (mg F c = gr F + 1)
def isNo (F : FM) (c : Nat) : Bool := !isNu F c && !isEn F c
def nc (F : FM) : Option Nat := if fT F = 1 then some (gr F + 1) else if fT F = 0 ∧ 0 < fF F then some (gr F + 1 + 2 ^ (fF F - 1)) else none
def ncI (F : FM) : Int32 := match nc F with
  | some c => nI c
  | none => -9
def bey (F : FM) (mi : Bool) : Nat := if (mi && decide (fS F = 0)) = true then 0 else if fT F = 1 then gr F + 1 else sg F mi (if fT F = 0 then gr F + 1 else gr F)
def sc (F : FM) : Nat := fB F + fF F
/-- a NUMBER with its sign -/
def uz (F : FM) (c : Nat) : Int := if ng F c = true then -(fM F (mg F c) : Int) else (fM F (mg F c) : Int)
def fmtE (F : FM) : xmE := Sum.inl (1, [xI (nI (fS F)), xI (nI (fE F)), xI (nI (fF F)), xI (nI (fB F)), xI (bI (fU F)), xI (nI (fT F)), xI (nI (gr F))])
/-! facts by counting: exponents 1 .. 4, fractions 0 .. 5 -/
theorem Us_step : ∀ e, e < 5 → ∀ f, f < 6 → ∀ u : Bool, ∀ m, m < 511 → m + 1 < 2 ^ (e + f) → Us f u m < Us f u (m + 1) := by decide +kernel
theorem Us_top : ∀ e, e < 5 → ∀ f, f < 6 → ∀ u : Bool, ∀ m, m < 512 → m < 2 ^ (e + f) → Us f u m < 2097152 := by decide +kernel
theorem pw_le : ∀ e, e < 5 → ∀ f, f < 6 → 2 ^ (e + f) ≤ 512 := by decide +kernel
theorem pw_lt : ∀ e, e < 5 → ∀ f, f < 6 → 1 ≤ e → 2 ^ f * 2 ≤ 2 ^ (e + f) := by decide +kernel
theorem fP_pos (F : FM) : 0 < fP F := Nat.two_pow_pos _
theorem VF.p {F : FM} (h : VF F) : fP F ≤ 512 := pw_le _ (by have := h.2.2.1; omega) _ (by have := h.2.2.2.1; omega)
theorem VF.q {F : FM} (h : VF F) : 2 ^ fF F * 2 ≤ fP F := pw_lt _ (by have := h.2.2.1; omega) _ (by have := h.2.2.2.1; omega) h.2.1
theorem VF.f2 {F : FM} (h : VF F) : 4 ≤ fP F ∧ (fE F = 1 → 1 ≤ fF F) := by
  obtain ⟨h1, h2, h3, h4, h5, h6, h7⟩ := h
  refine ⟨?_, by omega⟩
  have : 2 ^ 2 ≤ fP F := Nat.pow_le_pow_right (by omega) (by omega)
  omega
theorem fM_top {F : FM} (h : VF F) {m : Nat} (hm : m < fP F) : fM F m < 2097152 :=
  Us_top _ (by have := h.2.2.1; omega) _ (by have := h.2.2.2.1; omega) _ m (by have := h.p; omega) hm
theorem fM_step {F : FM} (h : VF F) {m : Nat} (hm : m + 1 < fP F) : fM F m < fM F (m + 1) :=
  Us_step _ (by have := h.2.2.1; omega) _ (by have := h.2.2.2.1; omega) _ m (by have := h.p; omega) hm
theorem fM_lt {F : FM} (h : VF F) {a b : Nat} (hab : a < b) (hb : b < fP F) : fM F a < fM F b := by
  induction b with
  | zero => omega
  | succ b ih =>
    by_cases h1 : a = b
    · subst h1; exact fM_step h hb
    · exact Nat.lt_trans (ih (by omega) (by omega)) (fM_step h hb)
theorem fM_le {F : FM} (h : VF F) {a b : Nat} (hab : a ≤ b) (hb : b < fP F) : fM F a ≤ fM F b := by
  by_cases h1 : a = b
  · subst h1; exact Nat.le_refl _
  · exact Nat.le_of_lt (fM_lt h (by omega) hb)
theorem fM_0 (F : FM) : fM F 0 = 0 := rfl
theorem fM_inj {F : FM} (h : VF F) {a b : Nat} (ha : a < fP F) (hb : b < fP F) (he : fM F a = fM F b) : a = b := by
  by_cases h1 : a < b
  · have := fM_lt h h1 hb; omega
  · by_cases h2 : b < a
    · have := fM_lt h h2 ha; omega
    · omega
theorem fM_pos {F : FM} (h : VF F) {m : Nat} (h0 : 0 < m) (hm : m < fP F) : 0 < fM F m := by
  have := fM_lt h h0 hm; rw [fM_0] at this; omega
theorem gr_lt {F : FM} (h : VF F) : gr F + 1 ≤ fP F ∧ 1 ≤ gr F ∧ (fT F ≠ 2 → gr F + 1 < fP F) := by
  have h1 := h.q
  obtain ⟨h2, h3⟩ := h.f2
  have h4 : 0 < 2 ^ fF F := Nat.two_pow_pos _
  have h6 := h.2.2.2.2.2.1
  unfold gr
  by_cases ht : fT F = 0
  · rw [if_pos ht]
    refine ⟨by omega, ?_, by omega⟩
    by_cases hq : 2 ≤ 2 ^ fF F
    · omega
    · omega
  · rw [if_neg ht]
    by_cases ht1 : fT F = 1
    · rw [if_pos ht1]; omega
    · rw [if_neg ht1]; omega
theorem mg_lt (F : FM) (c : Nat) : mg F c < fP F := Nat.mod_lt _ (fP_pos F)
theorem bits_pw (F : FM) : 2 ^ bits F = 2 ^ fS F * fP F := by
  unfold bits fP; rw [Nat.add_assoc, Nat.pow_add]
theorem code_lt {F : FM} (h : VF F) {c : Nat} (hc : c < 2 ^ bits F) : c < 1024 := by
  rw [bits_pw] at hc
  have h1 := h.p
  have h2 := h.1
  have h3 : 2 ^ fS F ≤ 2 := by
    have : 2 ^ fS F ≤ 2 ^ 1 := Nat.pow_le_pow_right (by omega) h2
    omega
  have h4 : 2 ^ fS F * fP F ≤ 2 * 512 := Nat.mul_le_mul h3 h1
  omega
/-- a code is its sign and its size -/
theorem code_sg {F : FM} (h : VF F) {c : Nat} (hc : c < 2 ^ bits F) : c = sg F (ng F c) (mg F c) := by
  rw [bits_pw] at hc
  have hS := h.1
  have hp := fP_pos F
  unfold sg ng mg
  by_cases h1 : fS F = 1
  · rw [h1] at hc
    simp only [h1, decide_true, Bool.true_and, Bool.and_true, decide_eq_true_eq]
    by_cases h2 : fP F ≤ c
    · rw [if_pos h2, Nat.mod_eq_sub_mod h2, Nat.mod_eq_of_lt (by omega)]; omega
    · rw [if_neg h2, Nat.mod_eq_of_lt (by omega)]
  · have h0 : fS F = 0 := by omega
    rw [h0] at hc
    simp only [h0]
    rw [if_neg (by simp), Nat.mod_eq_of_lt (by omega)]
theorem mg_small {F : FM} {m : Nat} (hm : m < fP F) : mg F m = m := Nat.mod_eq_of_lt hm
theorem mg_sg {F : FM} {mi : Bool} {m : Nat} (hm : m < fP F) : mg F (sg F mi m) = m := by
  unfold sg mg
  split
  · rw [Nat.add_mod_right, Nat.mod_eq_of_lt hm]
  · exact Nat.mod_eq_of_lt hm
theorem sg_lt {F : FM} {mi : Bool} {m : Nat} (hm : m < fP F) : sg F mi m < 2 ^ bits F := by
  rw [bits_pw]
  unfold sg
  split
  · rename_i h
    simp only [Bool.and_eq_true, decide_eq_true_eq] at h
    rw [h.2]; omega
  · have : 1 ≤ 2 ^ fS F := Nat.one_le_two_pow
    have := Nat.mul_le_mul_right (fP F) this
    omega
