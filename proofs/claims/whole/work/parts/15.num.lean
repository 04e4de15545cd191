/-! NUMBERS: an int by an Int, a long by an Int -/
def iZ (z : Int) : Int32 := Int32.ofInt z
def lZ (z : Int) : Int64 := Int64.ofInt z
theorem nI_iZ (n : Nat) : nI n = iZ (n : Int) := (Int32.ofInt_eq_ofNat (n := n)).symm
theorem lN_lZ (n : Nat) : lN n = lZ (n : Int) := (Int64.ofInt_eq_ofNat (n := n)).symm
theorem lZ_toInt {z : Int} (h1 : -9223372036854775808 ≤ z) (h2 : z < 9223372036854775808) : (lZ z).toInt = z := Int64.toInt_ofInt_of_le h1 h2
theorem iZ_toInt {z : Int} (h1 : -2147483648 ≤ z) (h2 : z < 2147483648) : (iZ z).toInt = z := Int32.toInt_ofInt_of_le h1 h2
theorem lZ_add (a b : Int) : lZ a + lZ b = lZ (a + b) := (Int64.ofInt_add a b).symm
theorem lZ_sub (a b : Int) : lZ a - lZ b = lZ (a - b) := (Int64.ofInt_sub a b).symm
theorem lZ_mul (a b : Int) : lZ a * lZ b = lZ (a * b) := (Int64.ofInt_mul a b).symm
theorem lZ_neg (a : Int) : -lZ a = lZ (-a) := (Int64.ofInt_neg a).symm
theorem iZ_add (a b : Int) : iZ a + iZ b = iZ (a + b) := (Int32.ofInt_add a b).symm
theorem iZ_sub (a b : Int) : iZ a - iZ b = iZ (a - b) := (Int32.ofInt_sub a b).symm
theorem iZ_mul (a b : Int) : iZ a * iZ b = iZ (a * b) := (Int32.ofInt_mul a b).symm
theorem iZ_neg (a : Int) : -iZ a = iZ (-a) := (Int32.ofInt_neg a).symm
theorem lZ_lit (n : Nat) : (OfNat.ofNat n : Int64) = lZ (n : Int) := lN_lZ n
theorem iZ_lit (n : Nat) : (OfNat.ofNat n : Int32) = iZ (n : Int) := nI_iZ n
/-- in range -/
def LR (z : Int) : Prop := -9223372036854775808 ≤ z ∧ z < 9223372036854775808
def IR (z : Int) : Prop := -2147483648 ≤ z ∧ z < 2147483648
theorem lZ_lt {a b : Int} (ha : LR a) (hb : LR b) : lZ a < lZ b ↔ a < b := by
  rw [Int64.lt_iff_toInt_lt, lZ_toInt ha.1 ha.2, lZ_toInt hb.1 hb.2]
theorem lZ_le {a b : Int} (ha : LR a) (hb : LR b) : lZ a ≤ lZ b ↔ a ≤ b := by
  rw [Int64.le_iff_toInt_le, lZ_toInt ha.1 ha.2, lZ_toInt hb.1 hb.2]
theorem lZ_eq {a b : Int} (ha : LR a) (hb : LR b) : lZ a = lZ b ↔ a = b := by
  rw [← Int64.toInt_inj, lZ_toInt ha.1 ha.2, lZ_toInt hb.1 hb.2]
theorem iZ_lt {a b : Int} (ha : IR a) (hb : IR b) : iZ a < iZ b ↔ a < b := by
  rw [Int32.lt_iff_toInt_lt, iZ_toInt ha.1 ha.2, iZ_toInt hb.1 hb.2]
theorem iZ_le {a b : Int} (ha : IR a) (hb : IR b) : iZ a ≤ iZ b ↔ a ≤ b := by
  rw [Int32.le_iff_toInt_le, iZ_toInt ha.1 ha.2, iZ_toInt hb.1 hb.2]
theorem iZ_eq {a b : Int} (ha : IR a) (hb : IR b) : iZ a = iZ b ↔ a = b := by
  rw [← Int32.toInt_inj, iZ_toInt ha.1 ha.2, iZ_toInt hb.1 hb.2]
theorem lZ_of (x : Int64) : ∃ z, LR z ∧ x = lZ z := ⟨x.toInt, ⟨by have := Int64.le_toInt x; omega, by have := Int64.toInt_lt x; omega⟩, (Int64.ofInt_toInt x).symm⟩
theorem iZ_of (x : Int32) : ∃ z, IR z ∧ x = iZ z := ⟨x.toInt, ⟨by have := Int32.le_toInt x; omega, by have := Int32.toInt_lt x; omega⟩, (Int32.ofInt_toInt x).symm⟩
theorem iZ_l {z : Int} (h : IR z) : (iZ z).toInt64 = lZ z := by
  rw [← Int64.toInt_inj, Int32.toInt_toInt64, iZ_toInt h.1 h.2, lZ_toInt (by have := h.1; omega) (by have := h.2; omega)]
theorem nI_l2 {n : Nat} (h : n < 2147483648) : (nI n).toInt64 = lZ (n : Int) := by rw [nI_iZ, iZ_l ⟨by omega, by omega⟩]
/-- the three answers of a comparison -/
def cmp3 (a b : Int) : Int := if a < b then -1 else if a = b then 0 else 1
theorem lg_cmpZ {a b : Int} (ha : LR a) (hb : LR b) : lg_cmp (lZ a) (lZ b) = iZ (cmp3 a b) := by
  unfold lg_cmp cmp3
  show (if lZ b < lZ a then (1 : Int32) else if lZ a = lZ b then 0 else -1) = iZ (if a < b then -1 else if a = b then 0 else 1)
  by_cases h1 : a < b
  · rw [if_neg (by rw [lZ_lt hb ha]; omega), if_neg (by rw [lZ_eq ha hb]; omega), if_pos h1]; decide
  · by_cases h2 : a = b
    · rw [if_neg (by rw [lZ_lt hb ha]; omega), if_pos (by rw [lZ_eq ha hb]; exact h2), if_neg h1, if_pos h2]; decide
    · rw [if_pos (by rw [lZ_lt hb ha]; omega), if_neg h1, if_neg h2]; decide
theorem lc_eq {a b : Int} (ha : LR a) (hb : LR b) : (lg_cmp (lZ a) (lZ b) = 0) ↔ a = b := by rw [lg_cmp_eq, lZ_eq ha hb]
theorem lc_ge {a b : Int} (ha : LR a) (hb : LR b) : (0 ≤ lg_cmp (lZ a) (lZ b)) ↔ b ≤ a := by rw [lg_cmp_ge, lZ_le hb ha]
theorem lc_le {a b : Int} (ha : LR a) (hb : LR b) : (lg_cmp (lZ a) (lZ b) ≤ 0) ↔ a ≤ b := by rw [lg_cmp_le, lZ_le ha hb]
theorem lc_gt {a b : Int} (ha : LR a) (hb : LR b) : (0 < lg_cmp (lZ a) (lZ b)) ↔ b < a := by rw [lg_cmp_gt, lZ_lt hb ha]
theorem lc_lt {a b : Int} (ha : LR a) (hb : LR b) : (lg_cmp (lZ a) (lZ b) < 0) ↔ a < b := by rw [lg_cmp_lt, lZ_lt ha hb]
/-! shifts and masks of small numbers -/
theorem sh_cnt : ∀ n, n < 32 → ((nI n &&& 31).toBitVec.smod 32).toNat = n := by decide +kernel
theorem sh_one : ∀ n, n < 31 → (1 : Int32) <<< (nI n &&& 31) = nI (2 ^ n) := by decide +kernel
theorem sh_r {m n : Nat} (hm : m < 2 ^ 31) (hn : n < 32) : nI m >>> (nI n &&& 31) = nI (m / 2 ^ n) := pk_shrN hm _ n (sh_cnt n hn)
theorem sh_l {m n : Nat} (hn : n < 32) (h : m * 2 ^ n < 2 ^ 32) : nI m <<< (nI n &&& 31) = nI (m * 2 ^ n) := pk_shlN _ n (sh_cnt n hn) h
theorem sh_mask {m n : Nat} (hm : m < 2 ^ 32) (hn : n < 31) : nI m &&& (nI (2 ^ n) - 1) = nI (m % 2 ^ n) := by
  have h1 : (1 : Int32) = nI 1 := rfl
  have h2 : 0 < 2 ^ n := Nat.two_pow_pos n
  have h3 : 2 ^ n ≤ 2 ^ 30 := Nat.pow_le_pow_right (by omega) (by omega)
  rw [h1, pk_sub (by omega)]
  exact pk_andN hm n (by rw [pk_tn (by omega)])
theorem or_nI (a b : Nat) : nI a ||| nI b = nI (a ||| b) := by
  apply Int32.toBitVec_inj.mp
  show BitVec.ofNat 32 a ||| BitVec.ofNat 32 b = BitVec.ofNat 32 (a ||| b)
  apply BitVec.eq_of_toNat_eq
  simp only [BitVec.toNat_or, BitVec.toNat_ofNat]
  exact (Nat.or_mod_two_pow (a := a) (b := b) (n := 32)).symm
theorem or_sum {m n : Nat} (h : m < 2 ^ n) : nI m ||| nI (2 ^ n) = nI (m + 2 ^ n) := by
  rw [or_nI]
  congr 1
  have h2 := Nat.two_pow_add_eq_or_of_lt h 1
  rw [Nat.mul_one] at h2
  rw [Nat.add_comm, h2, Nat.or_comm]
theorem sl_c : ∀ k, k < 64 → ((nI k).toInt64 &&& 63) = lN k := by decide +kernel
theorem sl_sm : ∀ k, k < 64 → (BitVec.ofNat 64 k).smod 64 = BitVec.ofNat 64 k := by decide +kernel
theorem sl_tb (n : Nat) : (lN n).toBitVec = BitVec.ofNat 64 n := rfl
theorem sl_one : ∀ n, n < 63 → (1 : Int64) <<< ((nI n).toInt64 &&& 63) = lN (2 ^ n) := by decide +kernel
theorem sl_l (n : Nat) {k : Nat} (hk : k < 64) : lN n <<< ((nI k).toInt64 &&& 63) = lN (n * 2 ^ k) := by
  rw [sl_c k hk]
  apply Int64.toBitVec_inj.mp
  rw [Int64.toBitVec_shiftLeft, sl_tb, sl_tb, sl_tb, sl_sm k hk]
  apply BitVec.eq_of_toNat_eq
  rw [BitVec.shiftLeft_eq', BitVec.toNat_shiftLeft, BitVec.toNat_ofNat, BitVec.toNat_ofNat, BitVec.toNat_ofNat, Nat.mod_eq_of_lt (show k < 2 ^ 64 by omega), Nat.shiftLeft_eq, Nat.mul_mod, Nat.mod_mod, ← Nat.mul_mod]
theorem xmbz0 : xmbz 0 = some 0 := rfl
theorem xmbz1 : xmbz 1 = some 1 := rfl
/-- a boolean as an int -/
def bI (p : Bool) : Int32 := if p then 1 else 0
theorem bI_t : bI true = 1 := rfl
theorem bI_f : bI false = 0 := rfl
theorem bI_z (p : Bool) : xmbz (bI p) = some (bI p) := by cases p <;> rfl
theorem bI_0 (p : Bool) : (bI p = 0) ↔ p = false := by cases p <;> decide
theorem bI_1 (p : Bool) : (bI p = 1) ↔ p = true := by cases p <;> decide
theorem bI_eq (p q : Bool) : (bI p = bI q) ↔ p = q := by cases p <;> cases q <;> decide
theorem bI_if (c : Prop) [Decidable c] : (if c then (1 : Int32) else 0) = bI (decide c) := by
  by_cases h : c
  · rw [if_pos h, decide_eq_true h]; rfl
  · rw [if_neg h, decide_eq_false h]; rfl
theorem bI_ifn (c : Prop) [Decidable c] : (if c then (0 : Int32) else 1) = bI (!decide c) := by
  by_cases h : c
  · rw [if_pos h, decide_eq_true h]; rfl
  · rw [if_neg h, decide_eq_false h]; rfl
