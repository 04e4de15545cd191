/-! ROUNDING: one value, and both sides of it -/
def low (P : Nat → Bool) : Nat → Nat
  | 0 => 0
  | n + 1 => if P (n + 1) = true then n + 1 else low P n
theorem low_le (P : Nat → Bool) (n : Nat) : low P n ≤ n := by
  induction n with
  | zero => exact Nat.le_refl _
  | succ n ih => unfold low; split <;> omega
theorem low_in (P : Nat → Bool) (n : Nat) : low P n = 0 ∨ P (low P n) = true := by
  induction n with
  | zero => exact Or.inl rfl
  | succ n ih =>
    unfold low
    by_cases h : P (n + 1) = true
    · rw [if_pos h]; exact Or.inr h
    · rw [if_neg h]; exact ih
theorem low_out (P : Nat → Bool) (n : Nat) : ∀ k, low P n < k → k ≤ n → P k = false := by
  induction n with
  | zero => intro k h1 h2; omega
  | succ n ih =>
    intro k h1 h2
    unfold low at h1
    by_cases h : P (n + 1) = true
    · rw [if_pos h] at h1; omega
    · rw [if_neg h] at h1
      by_cases hk : k = n + 1
      · subst hk; exact Bool.eq_false_iff.mpr h
      · exact ih k h1 (by omega)
theorem low_uniq {P : Nat → Bool} {n T : Nat} (h1 : T ≤ n) (h2 : T = 0 ∨ P T = true) (h3 : ∀ k, T < k → k ≤ n → P k = false) : low P n = T := by
  have a := low_le P n
  have b := low_in P n
  have c := low_out P n
  by_cases q : low P n < T
  · have := c T q h1
    rcases h2 with h2 | h2
    · omega
    · rw [h2] at this; cases this
  · by_cases q2 : T < low P n
    · have := h3 _ q2 a
      rcases b with b | b
      · omega
      · rw [b] at this; cases this
    · omega
theorem cmp3_ge {a b : Int} : (0 ≤ cmp3 a b) ↔ b ≤ a := by unfold cmp3; split <;> (try split) <;> omega
theorem cmp3_gt {a b : Int} : (0 < cmp3 a b) ↔ b < a := by unfold cmp3; split <;> (try split) <;> omega
theorem cmp3_lt {a b : Int} : (cmp3 a b < 0) ↔ a < b := by unfold cmp3; split <;> (try split) <;> omega
theorem cmp3_eq {a b : Int} : (cmp3 a b = 0) ↔ a = b := by unfold cmp3; split <;> (try split) <;> omega
theorem cmp3_r (a b : Int) : IR (cmp3 a b) := by unfold cmp3 IR; split <;> (try split) <;> omega
/-- whether a size above l is rounded away from ZERO -/
def go (mode l : Nat) (mi tie : Bool) (half : Int) : Bool := if mode = 0 then decide (0 < half) || (decide (half = 0) && tie) else if mode = 1 then decide (0 ≤ half) else if mode = 3 then mi else if mode = 4 then !mi else if mode = 5 then decide (l % 2 = 0) else false
/-- the greatest size that is not above what cm compares with (twice it) -/
def lowOf (F : FM) (cm : Int → Int) : Nat := low (fun k => decide (0 ≤ cm (2 * (fM F k : Int)))) (gr F)
/-- the code, how many INEXACT, how many OVER -/
def rnd (F : FM) (mi : Bool) (mode : Nat) (cm : Int → Int) : Nat × Nat × Nat :=
  if (mi && decide (fS F = 0)) = true then (0, 1, 0)
  else if cm (2 * (fM F (lowOf F cm) : Int)) = 0 then (sg F mi (lowOf F cm), 0, 0)
  else (if go mode (lowOf F cm) mi (decide (lowOf F cm = gr F) || decide (lowOf F cm % 2 = 1)) (cm (tm F (lowOf F cm))) = true then (if lowOf F cm = gr F then bey F mi else sg F mi (lowOf F cm + 1)) else sg F mi (lowOf F cm), 1, if lowOf F cm = gr F then 1 else 0)
/-- a fraction of units against halves -/
def cq (num den : Nat) : Int → Int := fun t => cmp3 (2 * (num : Int)) (t * (den : Int))
theorem lowOf_le (F : FM) (cm : Int → Int) : lowOf F cm ≤ gr F := low_le _ _
theorem cq_P {F : FM} (hv : VF F) (num den : Nat) {k : Nat} (hk : k ≤ gr F) : (fM F k * den ≤ num) ↔ k ≤ lowOf F (cq num den) := by
  have hg := gr_lt hv
  have e : ∀ k, (decide (0 ≤ cq num den (2 * (fM F k : Int))) = true) ↔ fM F k * den ≤ num := by
    intro k
    rw [decide_eq_true_eq]
    unfold cq
    rw [cmp3_ge]
    constructor
    · intro h
      have : ((fM F k * den : Nat) : Int) ≤ (num : Int) := by rw [Int.natCast_mul]; rw [Int.mul_assoc] at h; omega
      omega
    · intro h
      have : ((fM F k * den : Nat) : Int) ≤ (num : Int) := by omega
      rw [Int.natCast_mul] at this
      rw [Int.mul_assoc]; omega
  constructor
  · intro h
    by_cases q : k ≤ lowOf F (cq num den)
    · exact q
    · have h2 := low_out (fun k => decide (0 ≤ cq num den (2 * (fM F k : Int)))) (gr F) k (Nat.not_le.mp q) hk
      have h3 := (e k).mpr h
      rw [h2] at h3; cases h3
  · intro h
    have h2 := low_in (fun k => decide (0 ≤ cq num den (2 * (fM F k : Int)))) (gr F)
    have h5 := lowOf_le F (cq num den)
    have h4 : fM F k ≤ fM F (lowOf F (cq num den)) := fM_le hv h (by omega)
    rcases h2 with h2 | h2
    · have h6 : lowOf F (cq num den) = 0 := h2
      have : k = 0 := by omega
      subst this
      rw [fM_0, Nat.zero_mul]; exact Nat.zero_le _
    · exact Nat.le_trans (Nat.mul_le_mul_right _ h4) ((e _).mp h2)
theorem nI_5' {a : Nat} (ha : a < 2 ^ 31) : (nI a = 5) ↔ a = 5 := nI_eq (b := 5) ha (by omega)
theorem and_1 {a : Nat} (ha : a < 2 ^ 31) : nI a &&& 1 = nI (a % 2) := pk_andN (by omega) 1 (by decide)
theorem sh_r1 {a : Nat} (ha : a < 2 ^ 31) : nI a >>> ((1 : Int32) &&& 31) = nI (a / 2) := sh_r (n := 1) ha (by omega)
theorem x_goesOut {w : xmW} {l mode : Nat} (mi tie : Bool) {half : Int} (hl : l < 2 ^ 31) (hm : mode ≤ 5) (hh : IR half) : fX0_goesOut w (nI l) (bI mi) (iZ half) (bI tie) (nI mode) = some (bI (go mode l mi tie half)) := by
  have hm31 : mode < 2 ^ 31 := by omega
  have z0 : (0 : Int32) = iZ 0 := rfl
  have r0 : IR 0 := ⟨by omega, by omega⟩
  have c1 : (0 < iZ half) ↔ 0 < half := by rw [z0, iZ_lt r0 hh]
  have c2 : (iZ half = 0) ↔ half = 0 := by rw [z0, iZ_eq hh r0]
  have c3 : (iZ half < 0) ↔ half < 0 := by rw [z0, iZ_lt hh r0]
  simp only [fX0_goesOut, nI_0' hm31, nI_1' hm31, nI_2' hm31, nI_3' hm31, nI_4' hm31, nI_5' hm31, c1, c2, c3, and_1 hl, nI_0' (show l % 2 < 2 ^ 31 by omega), bI_0]
  unfold go
  by_cases m0 : mode = 0
  · simp only [if_pos m0]
    by_cases h1 : 0 < half
    · simp [h1]; rfl
    · by_cases h2 : half = 0
      · cases tie <;> simp [h2] <;> rfl
      · simp [h1, h2]; rfl
  · simp only [if_neg m0]
    by_cases m1 : mode = 1
    · simp only [if_pos m1]
      rw [bI_ifn, bI_z]
      by_cases h1 : half < 0
      · rw [decide_eq_true h1, decide_eq_false (show ¬ 0 ≤ half by omega)]; rfl
      · rw [decide_eq_false h1, decide_eq_true (show 0 ≤ half by omega)]; rfl
    · simp only [if_neg m1]
      by_cases m2 : mode = 2
      · simp [m2]; rfl
      · simp only [if_neg m2]
        by_cases m3 : mode = 3
        · simp only [if_pos m3, bI_z]
        · simp only [if_neg m3]
          by_cases m4 : mode = 4
          · simp only [if_pos m4]; cases mi <;> rfl
          · simp only [if_neg m4, if_pos (show mode = 5 by omega)]
            rw [bI_if, bI_z]
theorem x_cmpL {w : xmW} {a b : Int} (ha : LR a) (hb : LR b) : fJ13_compare_74951 w (lZ a) (lZ b) = some (iZ (cmp3 a b)) := by
  simp only [fJ13_compare_74951, lc_ge ha hb, lc_eq ha hb]
  unfold cmp3
  by_cases h1 : a < b
  · rw [if_neg (show ¬ b ≤ a by omega), if_pos h1]; rfl
  · rw [if_pos (show b ≤ a by omega), if_neg h1]
    by_cases h2 : a = b
    · rw [if_pos h2, if_pos h2]; rfl
    · rw [if_neg h2, if_neg h2]; rfl
theorem x_gut {w : xmW} {k : Nat} {F : FM} (h : w[k]? = some (fmtE F)) (hv : VF F) {num den T : Nat} (hn : num < 2 ^ 62) (hd : den ≤ 2097152) (hT : T ≤ gr F) (hP : ∀ i, i ≤ gr F → ((fM F i * den ≤ num) ↔ i ≤ T)) :
    ∀ (j n lo : Nat), j ≤ 8 → j + 2 ≤ n → lo ≤ T → T < lo + 2 ^ (j + 1) → fX0_greatestUpTo_L8 n w (some k) (lZ (num : Int)) (lZ (den : Int)) (nI lo) (nI (2 ^ j)) = some (nI T) := by
  have hg := gr_lt hv
  have hp := hv.p
  intro j
  induction j with
  | zero =>
    intro n lo _ hn2 h1 h2
    obtain ⟨n, rfl⟩ : ∃ n', n = n' + 2 := ⟨n - 2, by omega⟩
    rw [fX0_greatestUpTo_L8]
    have fin : ∀ lo', lo' = T → fX0_greatestUpTo_L8 (n + 1) w (some k) (lZ (num : Int)) (lZ (den : Int)) (nI lo') (nI (2 ^ 0) >>> ((1 : Int32) &&& 31)) = some (nI T) := by
      intro lo' he
      rw [fX0_greatestUpTo_L8, he]
      rfl
    rw [if_neg (by rw [nI_le0 (by decide)]; decide), x_g6 h]
    simp only [Option.bind_some, nI_add, nI_ltI (show gr F < 2 ^ 31 by omega) (show lo + 2 ^ 0 < 2 ^ 31 by omega)]
    by_cases q : gr F < lo + 2 ^ 0
    · rw [if_pos q]; exact fin lo (by omega)
    · rw [if_neg q, x_um h hv (by omega)]
      simp only [Option.bind_some, lZ_mul]
      have ht := fM_top hv (m := lo + 2 ^ 0) (by omega)
      have hu : fM F (lo + 2 ^ 0) * den ≤ 2097152 * 2097152 := Nat.mul_le_mul (by omega) hd
      have hz : ((fM F (lo + 2 ^ 0) : Int) * (den : Int)) = ((fM F (lo + 2 ^ 0) * den : Nat) : Int) := (Int.natCast_mul _ _).symm
      rw [hz]
      simp only [lc_gt (show LR ((fM F (lo + 2 ^ 0) * den : Nat) : Int) from ⟨by omega, by omega⟩) (show LR (num : Int) from ⟨by omega, by omega⟩)]
      have hq := hP (lo + 2 ^ 0) (by omega)
      by_cases q2 : (num : Int) < ((fM F (lo + 2 ^ 0) * den : Nat) : Int)
      · rw [if_pos q2]; exact fin lo (by omega)
      · rw [if_neg q2]; exact fin (lo + 2 ^ 0) (by omega)
  | succ j ih =>
    intro n lo hj hn2 h1 h2
    obtain ⟨n, rfl⟩ : ∃ n', n = n' + 1 := ⟨n - 1, by omega⟩
    have hpj : 2 ^ (j + 1) = 2 * 2 ^ j := by rw [Nat.pow_succ]; omega
    have hpj2 : 2 ^ (j + 1 + 1) = 2 * 2 ^ (j + 1) := by rw [Nat.pow_succ]; omega
    have hpb : 2 ^ (j + 1) ≤ 2 ^ 8 := Nat.pow_le_pow_right (by omega) hj
    have hp0 : 0 < 2 ^ j := Nat.two_pow_pos _
    have hsh : nI (2 ^ (j + 1)) >>> ((1 : Int32) &&& 31) = nI (2 ^ j) := by rw [sh_r1 (by omega), hpj, Nat.mul_div_cancel_left _ (by omega)]
    rw [fX0_greatestUpTo_L8, hsh]
    rw [if_neg (by rw [nI_le0 (by omega)]; omega), x_g6 h]
    simp only [Option.bind_some, nI_add, nI_ltI (show gr F < 2 ^ 31 by omega) (show lo + 2 ^ (j + 1) < 2 ^ 31 by omega)]
    by_cases q : gr F < lo + 2 ^ (j + 1)
    · rw [if_pos q]; exact ih n lo (by omega) (by omega) h1 (by omega)
    · rw [if_neg q, x_um h hv (by omega)]
      simp only [Option.bind_some, lZ_mul]
      have ht := fM_top hv (m := lo + 2 ^ (j + 1)) (by omega)
      have hu : fM F (lo + 2 ^ (j + 1)) * den ≤ 2097152 * 2097152 := Nat.mul_le_mul (by omega) hd
      have hz : ((fM F (lo + 2 ^ (j + 1)) : Int) * (den : Int)) = ((fM F (lo + 2 ^ (j + 1)) * den : Nat) : Int) := (Int.natCast_mul _ _).symm
      rw [hz]
      simp only [lc_gt (show LR ((fM F (lo + 2 ^ (j + 1)) * den : Nat) : Int) from ⟨by omega, by omega⟩) (show LR (num : Int) from ⟨by omega, by omega⟩)]
      have hq := hP (lo + 2 ^ (j + 1)) (by omega)
      by_cases q2 : (num : Int) < ((fM F (lo + 2 ^ (j + 1)) * den : Nat) : Int)
      · rw [if_pos q2]; exact ih n lo (by omega) (by omega) h1 (by omega)
      · rw [if_neg q2]; exact ih n (lo + 2 ^ (j + 1)) (by omega) (by omega) (by omega) (by omega)
/-! what a rounding counts -/
def xinc (x : XS) (i o v : Nat) : XS := (fun k => if k = 5 then x.1 5 + nI i else if k = 6 then x.1 6 + nI o else if k = 7 then x.1 7 + nI v else x.1 k, x.2)
theorem nI_zz : nI 0 = 0 := rfl
theorem xinc_0 (x : XS) : xinc x 0 0 0 = x := by
  refine Prod.ext (funext fun k => ?_) rfl
  show (if k = 5 then x.1 5 + nI 0 else if k = 6 then x.1 6 + nI 0 else if k = 7 then x.1 7 + nI 0 else x.1 k) = x.1 k
  rw [nI_zz, Int32.add_zero, Int32.add_zero, Int32.add_zero]
  split
  · rename_i h; rw [h]
  · split
    · rename_i h; rw [h]
    · split
      · rename_i h; rw [h]
      · rfl
theorem xinc_i (x : XS) : xset x 5 (x.1 5 + 1) = xinc x 1 0 0 := by
  refine Prod.ext (funext fun k => ?_) rfl
  show (if k = 5 then x.1 5 + 1 else x.1 k) = (if k = 5 then x.1 5 + nI 1 else if k = 6 then x.1 6 + nI 0 else if k = 7 then x.1 7 + nI 0 else x.1 k)
  rw [nI_zz, Int32.add_zero, Int32.add_zero]
  by_cases h5 : k = 5
  · rw [if_pos h5, if_pos h5]; rfl
  · rw [if_neg h5, if_neg h5]
    split
    · rename_i h; rw [h]
    · split
      · rename_i h; rw [h]
      · rfl
theorem xinc_o (x : XS) : xset x 6 (x.1 6 + 1) = xinc x 0 1 0 := by
  refine Prod.ext (funext fun k => ?_) rfl
  show (if k = 6 then x.1 6 + 1 else x.1 k) = (if k = 5 then x.1 5 + nI 0 else if k = 6 then x.1 6 + nI 1 else if k = 7 then x.1 7 + nI 0 else x.1 k)
  rw [nI_zz, Int32.add_zero, Int32.add_zero]
  by_cases h5 : k = 6
  · rw [if_pos h5, if_neg (by omega), if_pos h5]; rfl
  · rw [if_neg h5, if_neg h5]
    split
    · rename_i h; rw [h]
    · split
      · rename_i h; rw [h]
      · rfl
theorem xinc_v (x : XS) : xset x 7 (x.1 7 + 1) = xinc x 0 0 1 := by
  refine Prod.ext (funext fun k => ?_) rfl
  show (if k = 7 then x.1 7 + 1 else x.1 k) = (if k = 5 then x.1 5 + nI 0 else if k = 6 then x.1 6 + nI 0 else if k = 7 then x.1 7 + nI 1 else x.1 k)
  rw [nI_zz, Int32.add_zero, Int32.add_zero]
  by_cases h5 : k = 7
  · rw [if_pos h5, if_neg (by omega), if_neg (by omega), if_pos h5]; rfl
  · rw [if_neg h5, if_neg h5]
    split
    · rename_i h; rw [h]
    · split
      · rename_i h; rw [h]
      · rfl
theorem xinc_a (x : XS) (i o v i2 o2 v2 : Nat) : xinc (xinc x i o v) i2 o2 v2 = xinc x (i + i2) (o + o2) (v + v2) := by
  refine Prod.ext (funext fun k => ?_) rfl
  show (if k = 5 then (x.1 5 + nI i) + nI i2 else if k = 6 then (x.1 6 + nI o) + nI o2 else if k = 7 then (x.1 7 + nI v) + nI v2 else (if k = 5 then x.1 5 + nI i else if k = 6 then x.1 6 + nI o else if k = 7 then x.1 7 + nI v else x.1 k)) = (if k = 5 then x.1 5 + nI (i + i2) else if k = 6 then x.1 6 + nI (o + o2) else if k = 7 then x.1 7 + nI (v + v2) else x.1 k)
  rw [Int32.add_assoc, Int32.add_assoc, Int32.add_assoc, nI_add, nI_add, nI_add]
  by_cases h5 : k = 5
  · simp only [if_pos h5]
  · simp only [if_neg h5]
    by_cases h6 : k = 6
    · simp only [if_pos h6]
    · simp only [if_neg h6]
      by_cases h7 : k = 7
      · simp only [if_pos h7]
      · simp only [if_neg h7]
theorem tm_r {F : FM} (hv : VF F) {l : Nat} (hl : l ≤ gr F) : 0 ≤ tm F l ∧ tm F l < 8388608 := by
  have hg := gr_lt hv
  have h1 := fM_top hv (m := l) (by omega)
  unfold tm
  split
  · rename_i h
    have h2 := fM_le hv (a := l - 1) (b := l) (by omega) (by omega)
    omega
  · have h2 := fM_top hv (m := l + 1) (by omega)
    omega
theorem x_rounded {x : XS} {m : MS} {fl : List xmE} {k : Nat} {F : FM} (hF : XF fl k F) (hv : VF F) (mi : Bool) {num den mode : Nat} (hn : num < 2 ^ 61) (hd : den ≤ 2097152) (hm : mode ≤ 5) :
    fX0_rounded (WB x m fl) (some 4) (some k) (bI mi) (lZ (num : Int)) (lZ (den : Int)) (nI mode) = some (nI (rnd F mi mode (cq num den)).1, WB (xinc x (rnd F mi mode (cq num den)).2.1 (rnd F mi mode (cq num den)).2.2 0) m fl) := by
  have hg := gr_lt hv
  have hp := hv.p
  have hS := hv.1
  have hT := lowOf_le F (cq num den)
  have hgu : fX0_greatestUpTo (WB x m fl) (some k) (lZ (num : Int)) (lZ (den : Int)) = some (nI (lowOf F (cq num den))) :=
    x_gut (hF.w x m) hv (by omega) hd hT (fun i hi => cq_P hv num den hi) 8 xmN 0 (by omega) (by decide) (Nat.zero_le _) (by omega)
  have L26 : (mi && decide (fS F = 0)) = false → fX0_rounded_L26 (WB x m fl) (some 4) (some k) (bI mi) (lZ (num : Int)) (lZ (den : Int)) (nI mode) = some (nI (rnd F mi mode (cq num den)).1, WB (xinc x (rnd F mi mode (cq num den)).2.1 (rnd F mi mode (cq num den)).2.2 0) m fl) := by
    intro hq
    unfold rnd
    simp only [hq, Bool.false_eq_true, if_false]
    generalize lowOf F (cq num den) = T at hT hgu
    have ht := fM_top hv (m := T) (by omega)
    have hu : fM F T * den ≤ 2097152 * 2097152 := Nat.mul_le_mul (by omega) hd
    have hz : ((fM F T : Int) * (den : Int)) = ((fM F T * den : Nat) : Int) := (Int.natCast_mul _ _).symm
    obtain ⟨t1, t2⟩ := tm_r hv hT
    have hh : cq num den (tm F T) = cmp3 (2 * (num : Int)) (tm F T * (den : Int)) := rfl
    have hden : (den : Int) ≤ 2097152 := by omega
    have ht3 : tm F T * (den : Int) ≤ 8388608 * 2097152 := Int.mul_le_mul (by omega) hden (by omega) (by omega)
    have ht4 : 0 ≤ tm F T * (den : Int) := Int.mul_nonneg t1 (by omega)
    have L104 : ∀ (x' : XS), fX0_rounded_L104 (WB x' m fl) (some k) (bI mi) (lZ (num : Int)) (lZ (den : Int)) (nI mode) (nI T) (bI (decide (T = gr F))) = some (nI (if go mode T mi (decide (T = gr F) || decide (T % 2 = 1)) (cq num den (tm F T)) = true then (if T = gr F then bey F mi else sg F mi (T + 1)) else sg F mi T), WB x' m fl) := by
      intro x'
      have hw := hF.w x' m
      have L141 : fX0_rounded_L141 (WB x' m fl) (some k) (bI mi) (nI mode) (nI T) (bI (decide (T = gr F))) (iZ (cq num den (tm F T))) (bI (decide (T = gr F) || decide (T % 2 = 1))) = some (nI (if go mode T mi (decide (T = gr F) || decide (T % 2 = 1)) (cq num den (tm F T)) = true then (if T = gr F then bey F mi else sg F mi (T + 1)) else sg F mi T), WB x' m fl) := by
        simp only [fX0_rounded_L141, x_goesOut mi (decide (T = gr F) || decide (T % 2 = 1)) (show T < 2 ^ 31 by omega) hm (show IR (cq num den (tm F T)) from cmp3_r _ _), Option.bind_some, bI_0, nI_1]
        cases go mode T mi (decide (T = gr F) || decide (T % 2 = 1)) (cq num den (tm F T)) with
        | false => simp only [if_true, Bool.false_eq_true, if_false, x_withSign hw hv mi (show T < fP F by omega), Option.bind_some]
        | true =>
          simp only [Bool.true_eq_false, if_false, if_true, decide_eq_false_iff_not]
          by_cases ho : T = gr F
          · simp only [ho, not_true_eq_false, if_false, if_true, x_beyond hw hv mi, Option.bind_some]
          · simp only [ho, not_false_eq_true, if_false, if_true, x_withSign hw hv mi (show T + 1 < fP F by omega), Option.bind_some]
      simp only [fX0_rounded_L104, x_tm hw hv hT, Option.bind_some, lZ_mul, and_1 (show T < 2 ^ 31 by omega), nI_1' (show T % 2 < 2 ^ 31 by omega), bI_0]
      rw [show (2 : Int64) = lZ 2 from rfl, lZ_mul, x_cmpL ⟨by omega, by omega⟩ ⟨by omega, by omega⟩]
      simp only [Option.bind_some, bI_if]
      rw [← hh]
      by_cases ho : T = gr F
      · rw [decide_eq_true ho] at L141 ⊢
        rw [if_neg (by decide)]
        exact L141
      · rw [decide_eq_false ho] at L141 ⊢
        rw [if_pos rfl]
        rw [Bool.false_or] at L141
        exact L141
    have hce : (lg_cmp (lZ ((fM F T : Int) * (den : Int))) (lZ (num : Int)) = 0) ↔ cq num den (2 * (fM F T : Int)) = 0 := by
      rw [lc_eq (by rw [hz]; exact ⟨by omega, by omega⟩) ⟨by omega, by omega⟩]
      unfold cq
      rw [cmp3_eq, Int.mul_assoc]
      omega
    simp only [fX0_rounded_L26, hgu, Option.bind_some, x_um (hF.w x m) hv (show T < fP F by omega), lZ_mul, hce]
    by_cases he : cq num den (2 * (fM F T : Int)) = 0
    · simp only [if_pos he, x_withSign (hF.w x m) hv mi (show T < fP F by omega), Option.bind_some, xinc_0]
    · simp only [if_neg he, g_4_0, g_5_0, p_5_0, Option.bind_some, x_g6 (hF.w (xset x 5 (x.1 5 + 1)) m), nI_eq (show T < 2 ^ 31 by omega) (show gr F < 2 ^ 31 by omega)]
      rw [bI_if]
      simp only [bI_0, decide_eq_false_iff_not]
      by_cases ho : T = gr F
      · rw [if_neg (fun q => q ho)]
        rw [g_5_1]
        simp only [Option.bind_some]
        rw [p_5_1]
        simp only [Option.bind_some]
        rw [L104, xinc_i, xinc_o, xinc_a, if_pos ho, if_pos ho]
      · rw [if_pos ho, L104, xinc_i, if_neg ho, if_neg ho]
  simp only [fX0_rounded, o_4, Option.bind_some, bI_0, x_g0 (hF.w x m), nI_0' (show fS F < 2 ^ 31 by omega)]
  cases mi with
  | false => rw [if_pos rfl]; exact L26 rfl
  | true =>
    rw [if_neg (by decide)]
    by_cases hs : fS F = 0
    · rw [if_pos hs]
      simp only [g_4_0, g_5_0, p_5_0, Option.bind_some]
      unfold rnd
      rw [if_pos (by simp [hs]), xinc_i]
      rfl
    · rw [if_neg hs]; exact L26 (by simp [hs])
