/-! the class's Format: what its methods answer -/
theorem nI_0' {a : Nat} (ha : a < 2 ^ 31) : (nI a = 0) ↔ a = 0 := nI_eq (b := 0) ha (by omega)
theorem nI_1' {a : Nat} (ha : a < 2 ^ 31) : (nI a = 1) ↔ a = 1 := nI_eq (b := 1) ha (by omega)
theorem nI_2' {a : Nat} (ha : a < 2 ^ 31) : (nI a = 2) ↔ a = 2 := nI_eq (b := 2) ha (by omega)
theorem nI_3' {a : Nat} (ha : a < 2 ^ 31) : (nI a = 3) ↔ a = 3 := nI_eq (b := 3) ha (by omega)
theorem nI_4' {a : Nat} (ha : a < 2 ^ 31) : (nI a = 4) ↔ a = 4 := nI_eq (b := 4) ha (by omega)
theorem nI_s1 {a : Nat} (h : 1 ≤ a) : nI a - 1 = nI (a - 1) := pk_sub h
theorem nI_le0 {a : Nat} (ha : a < 2 ^ 31) : (nI a ≤ 0) ↔ a = 0 := by
  have h : (0 : Int32) = nI 0 := rfl
  rw [h, nI_leI ha (by omega)]; omega
section XF
variable {w : xmW} {k : Nat} {F : FM}
theorem x_ob (h : w[k]? = some (fmtE F)) : xmob w (some k) 1 = some [xI (nI (fS F)), xI (nI (fE F)), xI (nI (fF F)), xI (nI (fB F)), xI (bI (fU F)), xI (nI (fT F)), xI (nI (gr F))] := by
  simp [xmob, h, fmtE]
theorem x_g0 (h : w[k]? = some (fmtE F)) : xmgI w (some k) 1 0 = some (nI (fS F)) := by simp [xmgI, x_ob h]
theorem x_g1 (h : w[k]? = some (fmtE F)) : xmgI w (some k) 1 1 = some (nI (fE F)) := by simp [xmgI, x_ob h]
theorem x_g2 (h : w[k]? = some (fmtE F)) : xmgI w (some k) 1 2 = some (nI (fF F)) := by simp [xmgI, x_ob h]
theorem x_g3 (h : w[k]? = some (fmtE F)) : xmgI w (some k) 1 3 = some (nI (fB F)) := by simp [xmgI, x_ob h]
theorem x_g4 (h : w[k]? = some (fmtE F)) : xmgI w (some k) 1 4 = some (bI (fU F)) := by simp [xmgI, x_ob h]
theorem x_g5 (h : w[k]? = some (fmtE F)) : xmgI w (some k) 1 5 = some (nI (fT F)) := by simp [xmgI, x_ob h]
theorem x_g6 (h : w[k]? = some (fmtE F)) : xmgI w (some k) 1 6 = some (nI (gr F)) := by simp [xmgI, x_ob h]
theorem x_bits (h : w[k]? = some (fmtE F)) : fX1_bits w (some k) = some (nI (bits F)) := by
  simp only [fX1_bits, x_ob h, x_g0 h, x_g1 h, x_g2 h, Option.bind_some, nI_add]; rfl
theorem x_scale (h : w[k]? = some (fmtE F)) : fX1_scale w (some k) = some (nI (sc F)) := by
  simp only [fX1_scale, x_ob h, x_g3 h, x_g2 h, Option.bind_some, nI_add]; rfl
theorem x_mag (h : w[k]? = some (fmtE F)) (hv : VF F) {c : Nat} (hc : c < 2 ^ 31) : fX1_magnitude w (some k) (nI c) = some (nI (mg F c)) := by
  simp only [fX1_magnitude, x_ob h, x_g1 h, x_g2 h, Option.bind_some, nI_add]
  have h1 : fE F + fF F < 31 := by have := hv.2.2.1; have := hv.2.2.2.1; omega
  rw [sh_one _ h1, sh_mask (by omega) h1]; rfl
theorem x_isMinus (h : w[k]? = some (fmtE F)) (hv : VF F) {c : Nat} (hc : c < 2 ^ 31) : fX1_isMinus w (some k) (nI c) = some (bI (ng F c)) := by
  simp only [fX1_isMinus, x_ob h, x_g0 h, x_g1 h, x_g2 h, Option.bind_some, nI_add]
  have h1 : fE F + fF F < 31 := by have := hv.2.2.1; have := hv.2.2.2.1; omega
  have hS := hv.1
  by_cases hs : fS F = 1
  · rw [if_pos (by rw [hs]; rfl), sh_r hc (by omega)]
    have hd : c / 2 ^ (fE F + fF F) < 2 ^ 31 := Nat.lt_of_le_of_lt (Nat.div_le_self _ _) hc
    by_cases hq : fP F ≤ c
    · have hz : ¬ nI (c / 2 ^ (fE F + fF F)) = 0 := by
        rw [nI_0' hd, Nat.div_eq_zero_iff_lt (Nat.two_pow_pos _)]
        exact Nat.not_lt.mpr hq
      rw [if_neg hz]
      unfold ng; simp only [hs, hq, decide_true, Bool.and_self]; rfl
    · have hz : nI (c / 2 ^ (fE F + fF F)) = 0 := by
        rw [nI_0' hd, Nat.div_eq_zero_iff_lt (Nat.two_pow_pos _)]
        exact Nat.not_le.mp hq
      rw [if_pos hz]
      unfold ng; simp only [hs, hq, decide_true, decide_false, Bool.and_false]; rfl
  · have h0 : fS F = 0 := by omega
    rw [if_neg (by rw [h0]; decide)]
    unfold ng
    rw [h0]; rfl
theorem x_withSign (h : w[k]? = some (fmtE F)) (hv : VF F) {m : Nat} (mi : Bool) (hm : m < fP F) : fX1_withSign w (some k) (bI mi) (nI m) = some (nI (sg F mi m)) := by
  simp only [fX1_withSign, x_ob h, x_g0 h, x_g1 h, x_g2 h, Option.bind_some, nI_add]
  have h1 : fE F + fF F < 31 := by have := hv.2.2.1; have := hv.2.2.2.1; omega
  have hS := hv.1
  cases mi with
  | false => rw [if_pos (show bI false = 0 from rfl)]; rfl
  | true =>
    rw [if_neg (show ¬ bI true = 0 by decide)]
    by_cases hs : fS F = 1
    · rw [if_pos (by rw [hs]; rfl), sh_one _ h1, or_sum hm]
      unfold sg; rw [hs]; rfl
    · have h0 : fS F = 0 := by omega
      rw [if_neg (by rw [h0]; decide)]
      unfold sg; rw [h0]; rfl
theorem x_um (h : w[k]? = some (fmtE F)) (hv : VF F) {m : Nat} (hm : m < fP F) : fX1_unitsOfMagnitude w (some k) (nI m) = some (lZ (fM F m)) := by
  have hp := hv.p
  have hf := hv.2.2.2.1
  have he := hv.2.2.1
  have hdiv : m / 2 ^ fF F < 16 := by
    have h2 : m < 2 ^ fF F * 2 ^ fE F := by rw [← Nat.pow_add, Nat.add_comm]; exact hm
    have h3 := Nat.div_lt_of_lt_mul h2
    have h4 : 2 ^ fE F ≤ 2 ^ 4 := Nat.pow_le_pow_right (by omega) he
    omega
  have hmod : m % 2 ^ fF F < 512 := Nat.lt_of_le_of_lt (Nat.mod_le _ _) (by omega)
  simp only [fX1_unitsOfMagnitude, fX1_unitsOfMagnitude_L42, x_ob h, x_g2 h, x_g4 h, Option.bind_some]
  have hA : (nI (m % 2 ^ fF F)).toInt64 = lN (m % 2 ^ fF F) := nI_l (by omega)
  rw [sh_one _ (by omega), sh_mask (by omega) (by omega), sh_r (by omega) (by omega), hA, sl_one _ (by omega), lN_add, sl_l _ (by omega)]
  unfold fM Us
  by_cases h0 : m = 0
  · rw [if_pos (by rw [h0]; rfl), if_pos h0]; rfl
  · rw [if_neg (by rw [nI_0' (by omega)]; exact h0), if_neg h0]
    by_cases h1 : m / 2 ^ fF F = 0
    · rw [if_pos (by rw [h1]; rfl)]
      cases hu : fU F with
      | false => rw [if_pos (show bI false = 0 from rfl), if_neg (by simp), lN_lZ]
      | true => rw [if_neg (show ¬ bI true = 0 by decide), if_pos ⟨h1, rfl⟩, lN_lZ]; rw [show (2 : Int64) = lZ 2 from rfl, lZ_mul]; rfl
    · rw [if_neg (by rw [nI_0' (by omega)]; exact h1), if_neg (by intro q; exact h1 q.1), lN_lZ]
theorem x_noneCode (h : w[k]? = some (fmtE F)) (hv : VF F) : fX1_noneCode w (some k) = some (ncI F) := by
  have hg := gr_lt hv
  have hp := hv.p
  have hf := hv.2.2.2.1
  have hT := hv.2.2.2.2.2.1
  simp only [fX1_noneCode, fX1_noneCode_L34, x_ob h, x_g5 h, x_g6 h, x_g2 h, Option.bind_some, nI_1]
  unfold ncI nc
  by_cases h1 : fT F = 1
  · rw [if_pos (by rw [h1]; rfl), if_pos h1]
  · rw [if_neg (by rw [nI_1' (by omega)]; exact h1), if_neg h1]
    by_cases h0 : fT F = 0
    · rw [if_pos (by rw [h0]; rfl)]
      by_cases hf0 : fF F = 0
      · have hz : nI (fF F) ≤ 0 := by rw [hf0]; decide
        rw [if_pos hz, if_pos (show (0 : Int32) = 0 from rfl), if_neg (show ¬ (fT F = 0 ∧ 0 < fF F) by omega)]
      · have hz : ¬ nI (fF F) ≤ 0 := by rw [nI_le0 (by omega)]; exact hf0
        rw [if_neg hz, if_neg (show ¬ (1 : Int32) = 0 by decide), if_pos (show fT F = 0 ∧ 0 < fF F from ⟨h0, by omega⟩), nI_s1 (by omega), sh_one _ (by omega)]
        have hgr : gr F + 1 = 2 ^ fF F * (2 ^ fE F - 1) := by
          have h5 : fP F = 2 ^ fF F * 2 ^ fE F := by unfold fP; rw [Nat.add_comm, Nat.pow_add]
          unfold gr; rw [if_pos h0, h5, Nat.mul_sub, Nat.mul_one]
          have := hv.q
          rw [h5] at this
          have : 0 < 2 ^ fF F := Nat.two_pow_pos _
          omega
        rw [or_nI, hgr]
        have h6 : 2 ^ (fF F - 1) < 2 ^ fF F := Nat.pow_lt_pow_right (by omega) (by omega)
        rw [← Nat.two_pow_add_eq_or_of_lt h6]
    · have hz : ¬ nI (fT F) = 0 := by rw [nI_0' (by omega)]; exact h0
      simp only [if_neg hz, if_neg (show ¬ (fT F = 0 ∧ 0 < fF F) by omega), if_true]
theorem x_beyond (h : w[k]? = some (fmtE F)) (hv : VF F) (mi : Bool) : fX1_beyond w (some k) (bI mi) = some (nI (bey F mi)) := by
  obtain ⟨g1, g2, g3⟩ := gr_lt hv
  have hT := hv.2.2.2.2.2.1
  have hS := hv.1
  have hT31 : fT F < 2 ^ 31 := by omega
  have hS31 : fS F < 2 ^ 31 := by omega
  have key : (mi && decide (fS F = 0)) = false → fX1_beyond_L13 w (some k) (bI mi) = some (nI (bey F mi)) := by
    intro hq
    simp only [fX1_beyond_L13, x_g5 h, x_g6 h, Option.bind_some, x_noneCode h hv, nI_1, nI_1' hT31, nI_0' hT31]
    unfold bey
    simp only [hq, Bool.false_eq_true, if_false]
    by_cases h1 : fT F = 1
    · simp only [if_pos h1]; unfold ncI nc; simp only [if_pos h1]
    · simp only [if_neg h1]
      by_cases h0 : fT F = 0
      · simp only [if_pos h0]; rw [x_withSign h hv mi (by omega)]; rfl
      · simp only [if_neg h0]; rw [x_withSign h hv mi (by omega)]; rfl
  simp only [fX1_beyond, x_ob h, x_g0 h, Option.bind_some, nI_0' hS31]
  cases mi with
  | false => simp only [if_pos (show bI false = 0 from rfl)]; exact key rfl
  | true =>
    simp only [if_neg (show ¬ bI true = 0 by decide)]
    by_cases h0 : fS F = 0
    · simp only [if_pos h0]; unfold bey; rw [h0]; rfl
    · simp only [if_neg h0]
      exact key (by simp [h0])
/-- twice the middle above -/
def tm (F : FM) (m : Nat) : Int := if m = gr F then 3 * (fM F m : Int) - fM F (m - 1) else (fM F m : Int) + fM F (m + 1)
theorem x_tm (h : w[k]? = some (fmtE F)) (hv : VF F) {m : Nat} (hm : m ≤ gr F) : fX1_twiceMiddleAbove w (some k) (nI m) = some (lZ (tm F m)) := by
  obtain ⟨g1, g2, g3⟩ := gr_lt hv
  have hp := hv.p
  simp only [fX1_twiceMiddleAbove, x_ob h, x_g6 h, Option.bind_some, nI_1, nI_s1 g2]
  rw [x_um h hv (by omega)]
  simp only [Option.bind_some]
  unfold tm
  by_cases hq : m = gr F
  · rw [if_pos (by rw [hq]), if_pos hq, x_um h hv (by omega), hq]
    simp only [Option.bind_some]
    rw [show (3 : Int64) = lZ 3 from rfl, lZ_mul, lZ_sub]
  · rw [if_neg (by rw [nI_eq (by omega) (by omega)]; exact hq), if_neg hq, x_um h hv (by omega)]
    simp only [Option.bind_some]
    rw [lZ_add]
theorem x_hasCode (h : w[k]? = some (fmtE F)) (hv : VF F) (x : Int32) : fX1_hasCode w (some k) x = some (bI (decide (0 ≤ x.toInt ∧ x.toInt < (2 ^ bits F : Nat)))) := by
  have hb : bits F < 31 := by obtain ⟨h1, h2, h3, h4, h5, h6, h7⟩ := hv; unfold bits; omega
  have hp : 2 ^ bits F ≤ 2 ^ 30 := Nat.pow_le_pow_right (by omega) (by omega)
  simp only [fX1_hasCode, x_ob h, x_bits h, Option.bind_some]
  rw [sh_one _ hb]
  by_cases h0 : x < 0
  · have hx := Int32.lt_iff_toInt_lt.mp h0
    rw [Int32.toInt_zero] at hx
    simp only [if_pos h0, xmbz0]
    rw [decide_eq_false (by omega)]; rfl
  · simp only [if_neg h0]
    obtain ⟨j, hj, rfl⟩ := nI_of h0
    rw [nI_toInt hj]
    by_cases hc : 2 ^ bits F ≤ j
    · simp only [if_pos ((nI_leI (a := 2 ^ bits F) (by omega) hj).mpr hc), xmbz0]
      rw [decide_eq_false (by omega)]; rfl
    · simp only [if_neg (fun q => hc ((nI_leI (a := 2 ^ bits F) (by omega) hj).mp q)), xmbz1]
      rw [decide_eq_true (by omega)]; rfl
theorem x_isNumber (h : w[k]? = some (fmtE F)) (hv : VF F) {c : Nat} (hc : c < 2 ^ 31) : fX1_isNumber w (some k) (nI c) = some (bI (isNu F c)) := by
  have hg := gr_lt hv
  have hp := hv.p
  have hm := mg_lt F c
  simp only [fX1_isNumber, x_ob h, x_g6 h, x_mag h hv hc, Option.bind_some, nI_ltI (show gr F < 2 ^ 31 by omega) (show mg F c < 2 ^ 31 by omega)]
  rw [bI_ifn, bI_z]
  unfold isNu
  by_cases hq : gr F < mg F c
  · rw [decide_eq_true hq, decide_eq_false (by omega)]; rfl
  · rw [decide_eq_false hq, decide_eq_true (by omega)]; rfl
theorem x_isEndless (h : w[k]? = some (fmtE F)) (hv : VF F) {c : Nat} (hc : c < 2 ^ 31) : fX1_isEndless w (some k) (nI c) = some (bI (isEn F c)) := by
  have hg := gr_lt hv
  have hp := hv.p
  have hm := mg_lt F c
  have hT : fT F < 2 ^ 31 := by have := hv.2.2.2.2.2.1; omega
  simp only [fX1_isEndless, x_ob h, x_g5 h, x_g6 h, x_mag h hv hc, Option.bind_some, nI_1, nI_0' hT, nI_eq (show mg F c < 2 ^ 31 by omega) (show gr F + 1 < 2 ^ 31 by omega)]
  unfold isEn
  by_cases h0 : fT F = 0
  · simp only [if_pos h0]
    rw [bI_if, bI_z, decide_eq_true h0, Bool.true_and]
  · simp only [if_neg h0]
    rw [xmbz0, decide_eq_false h0, Bool.false_and]; rfl
theorem x_isNone (h : w[k]? = some (fmtE F)) (hv : VF F) {c : Nat} (hc : c < 2 ^ 31) : fX1_isNone w (some k) (nI c) = some (bI (isNo F c)) := by
  simp only [fX1_isNone, x_ob h, x_isNumber h hv hc, x_isEndless h hv hc, Option.bind_some, bI_0]
  unfold isNo
  cases isNu F c with
  | false =>
    simp only [if_true]
    cases isEn F c <;> rfl
  | true => rfl
/-- what a code is: 0 ZERO, 1 subnormal, 2 another NUMBER, 3 ENDLESS, 4 NONE -/
def kd (F : FM) (c : Nat) : Nat := if isNo F c = true then 4 else if isEn F c = true then 3 else if mg F c = 0 then 0 else if fU F = true ∧ mg F c / 2 ^ fF F = 0 then 1 else 2
theorem x_kindOf (h : w[k]? = some (fmtE F)) (hv : VF F) {c : Nat} (hc : c < 2 ^ 31) : fX1_kindOf w (some k) (nI c) = some (nI (kd F c)) := by
  have hp := hv.p
  have hm := mg_lt F c
  have hf := hv.2.2.2.1
  have hd : mg F c / 2 ^ fF F < 2 ^ 31 := Nat.lt_of_le_of_lt (Nat.div_le_self _ _) (by omega)
  simp only [fX1_kindOf, x_ob h, x_g4 h, x_g2 h, x_isNone h hv hc, x_isEndless h hv hc, x_mag h hv hc, Option.bind_some, bI_0, nI_0' (show mg F c < 2 ^ 31 by omega)]
  rw [sh_r (by omega) (by omega)]
  simp only [nI_0' hd]
  unfold kd
  cases isNo F c with
  | true => rfl
  | false =>
    cases isEn F c with
    | true => rfl
    | false =>
      by_cases h0 : mg F c = 0
      · simp only [if_pos h0]; rfl
      · simp only [if_neg h0]
        cases fU F with
        | false => simp; rfl
        | true =>
          by_cases h1 : mg F c / 2 ^ fF F = 0
          · simp [h1]; rfl
          · simp [h1]; rfl
theorem x_unitsOf (h : w[k]? = some (fmtE F)) (hv : VF F) {c : Nat} (hc : c < 2 ^ 31) : fX1_unitsOf w (some k) (nI c) = some (lZ (uz F c)) := by
  simp only [fX1_unitsOf, x_ob h, x_mag h hv hc, x_um h hv (mg_lt F c), x_isMinus h hv hc, Option.bind_some, bI_0]
  unfold uz
  cases ng F c with
  | false => rfl
  | true => simp only [Bool.true_eq_false, if_false, if_true]; rw [lZ_neg]
/-- a size: of a NUMBER its units, -1 of an ENDLESS, -2 of a NONE -/
def siz (F : FM) (c : Nat) : Int := if isNu F c = true then (fM F (mg F c) : Int) else if isEn F c = true then -1 else -2
theorem x_sizeOf (h : w[k]? = some (fmtE F)) (hv : VF F) {c : Nat} (hc : c < 2 ^ 31) : fX1_sizeOf w (some k) (nI c) = some (lZ (siz F c)) := by
  have hg := gr_lt hv
  have hp := hv.p
  have hm := mg_lt F c
  have hT : fT F < 2 ^ 31 := by have := hv.2.2.2.2.2.1; omega
  simp only [fX1_sizeOf, x_ob h, x_mag h hv hc, x_um h hv hm, x_g5 h, x_g6 h, Option.bind_some, nI_1, nI_ltI (show gr F < 2 ^ 31 by omega) (show mg F c < 2 ^ 31 by omega), nI_0' hT, nI_eq (show mg F c < 2 ^ 31 by omega) (show gr F + 1 < 2 ^ 31 by omega)]
  unfold siz isNu isEn
  by_cases hq : gr F < mg F c
  · simp only [if_pos hq]
    rw [decide_eq_false (show ¬ mg F c ≤ gr F by omega)]
    by_cases h0 : fT F = 0
    · simp only [if_pos h0]
      by_cases h1 : mg F c = gr F + 1
      · simp [h0, h1]; rfl
      · simp [h0, h1]; rfl
    · simp [h0]; rfl
  · simp only [if_neg hq]
    rw [decide_eq_true (show mg F c ≤ gr F by omega)]; rfl
theorem siz_r {F : FM} (hv : VF F) (c : Nat) : -2 ≤ siz F c ∧ siz F c < 2097152 := by
  have h1 := fM_top hv (mg_lt F c)
  unfold siz
  split
  · omega
  · split <;> omega
/-- of a product: -3 where it is INVALID -/
def szp (F : FM) (a b : Nat) : Int := if siz F a = -2 ∨ siz F b = -2 then -2 else if siz F a = -1 ∨ siz F b = -1 then (if siz F a = 0 ∨ siz F b = 0 then -3 else -1) else siz F a * siz F b
theorem x_sizeOfProduct (h : w[k]? = some (fmtE F)) (hv : VF F) {a b : Nat} (ha : a < 2 ^ 31) (hb : b < 2 ^ 31) : fX1_sizeOfProduct w (some k) (nI a) (nI b) = some (lZ (szp F a b)) := by
  have ra := siz_r hv a
  have rb := siz_r hv b
  have la : LR (siz F a) := ⟨by omega, by omega⟩
  have lb : LR (siz F b) := ⟨by omega, by omega⟩
  have e2 : (-2 : Int64) = lZ (-2) := rfl
  have e1 : (-1 : Int64) = lZ (-1) := rfl
  have e0 : (0 : Int64) = lZ 0 := rfl
  simp only [fX1_sizeOfProduct, fX1_sizeOfProduct_L51, x_ob h, x_sizeOf h hv ha, x_sizeOf h hv hb, Option.bind_some]
  rw [e2, e1, e0]
  simp only [lc_eq la (show LR (-2) from ⟨by omega, by omega⟩), lc_eq lb (show LR (-2) from ⟨by omega, by omega⟩), lc_eq la (show LR (-1) from ⟨by omega, by omega⟩), lc_eq lb (show LR (-1) from ⟨by omega, by omega⟩), lc_eq la (show LR 0 from ⟨by omega, by omega⟩), lc_eq lb (show LR 0 from ⟨by omega, by omega⟩), lZ_mul]
  unfold szp
  by_cases h1 : siz F a = -2
  · simp [h1]
  · by_cases h2 : siz F b = -2
    · simp [h1, h2]
    · by_cases h3 : siz F a = -1
      · by_cases h5 : siz F b = 0
        · simp [h3, h5]; rfl
        · simp [h2, h3, h5]
      · by_cases h4 : siz F b = -1
        · by_cases h5 : siz F a = 0
          · simp [h4, h5]; rfl
          · simp [h1, h3, h4, h5]
        · simp [h1, h2, h3, h4]
/-- ranks: what codes are, both ZEROS alike -/
def rk (F : FM) (c : Nat) : Int := if ng F c = true then -(mg F c : Int) else (mg F c : Int)
theorem x_rank (h : w[k]? = some (fmtE F)) (hv : VF F) {c : Nat} (hc : c < 2 ^ 31) : fX1_rank w (some k) (nI c) = some (iZ (rk F c)) := by
  simp only [fX1_rank, x_ob h, x_mag h hv hc, x_isMinus h hv hc, Option.bind_some, bI_0]
  unfold rk
  cases ng F c with
  | false => simp only [if_true, Bool.false_eq_true, if_false]; rw [nI_iZ]
  | true => simp only [Bool.true_eq_false, if_false, if_true]; rw [nI_iZ, iZ_neg]
theorem rk_r {F : FM} (hv : VF F) (c : Nat) : IR (rk F c) ∧ -512 < rk F c ∧ rk F c < 512 := by
  have hp := hv.p
  have hm := mg_lt F c
  unfold rk IR
  split <;> omega
def lesC (F : FM) (a b : Nat) : Nat := if rk F a = rk F b then (if ng F b = true then b else a) else if rk F a < rk F b then a else b
def grtC (F : FM) (a b : Nat) : Nat := if rk F a = rk F b then (if ng F a = true then b else a) else if rk F b < rk F a then a else b
theorem x_lesser (h : w[k]? = some (fmtE F)) (hv : VF F) {a b : Nat} (ha : a < 2 ^ 31) (hb : b < 2 ^ 31) : fX1_lesser w (some k) (nI a) (nI b) = some (nI (lesC F a b)) := by
  have ra := (rk_r hv a).1
  have rb := (rk_r hv b).1
  simp only [fX1_lesser, x_ob h, x_rank h hv ha, x_rank h hv hb, x_isMinus h hv hb, Option.bind_some, bI_0, iZ_eq ra rb, iZ_le rb ra]
  unfold lesC
  by_cases h1 : rk F a = rk F b
  · simp only [if_pos h1]
    cases ng F b <;> rfl
  · simp only [if_neg h1]
    by_cases h2 : rk F b ≤ rk F a
    · simp only [if_pos h2, if_neg (show ¬ rk F a < rk F b by omega)]
    · simp only [if_neg h2, if_pos (show rk F a < rk F b by omega)]
theorem x_greater (h : w[k]? = some (fmtE F)) (hv : VF F) {a b : Nat} (ha : a < 2 ^ 31) (hb : b < 2 ^ 31) : fX1_greater w (some k) (nI a) (nI b) = some (nI (grtC F a b)) := by
  have ra := (rk_r hv a).1
  have rb := (rk_r hv b).1
  simp only [fX1_greater, x_ob h, x_rank h hv ha, x_rank h hv hb, x_isMinus h hv ha, Option.bind_some, bI_0, iZ_eq ra rb, iZ_le ra rb]
  unfold grtC
  by_cases h1 : rk F a = rk F b
  · simp only [if_pos h1]
    cases ng F a <;> rfl
  · simp only [if_neg h1]
    by_cases h2 : rk F a ≤ rk F b
    · simp only [if_pos h2, if_neg (show ¬ rk F b < rk F a by omega)]
    · simp only [if_neg h2, if_pos (show rk F b < rk F a by omega)]
end XF
