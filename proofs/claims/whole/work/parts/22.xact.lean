/-! ACTS: one value (a code, or none where the act is refused; INEXACT, OVER, INVALID), and the class's side -/
abbrev RS : Type := Option Nat × Nat × Nat × Nat
def rv (r : RS) : Int32 := match r.1 with
  | some c => nI c
  | none => -4
def okS (c : Nat) : RS := (some c, 0, 0, 0)
def invS (F : FM) : RS := (nc F, 0, 0, 1)
def rnS (r : Nat × Nat × Nat) : RS := (some r.1, r.2.1, r.2.2, 0)
/-- a fraction of units, rounded; of 0 a ZERO, minus or not -/
def frS (F : FM) (z : Int) (q mode : Nat) (mz : Bool) : RS := if z = 0 then okS (sg F mz 0) else rnS (rnd F (decide (z < 0)) mode (cq z.natAbs q))
def sz (mi : Bool) (z : Int) : Int := if mi = true then -z else z
def eq3 (mode : Nat) : Bool := decide (mode = 3)
def addS (F : FM) (a b : Nat) (mb : Bool) (mode : Nat) : RS :=
  if siz F a = -1 ∧ siz F b = -1 ∧ ng F a ≠ mb then invS F
  else if siz F a = -1 ∨ siz F b = -1 then okS (bey F (if siz F a = -1 then ng F a else mb))
  else frS F (sz (ng F a) (siz F a) + sz mb (siz F b)) 1 mode (if siz F a = 0 ∧ ng F a = mb then ng F a else eq3 mode)
def mulS (F : FM) (a b mode : Nat) : RS :=
  if szp F a b = -3 then invS F
  else if szp F a b = -1 then okS (bey F (ng F a != ng F b))
  else frS F (sz (ng F a != ng F b) (szp F a b)) (2 ^ sc F) mode (ng F a != ng F b)
def divS (F : FM) (a b mode : Nat) : RS :=
  if siz F a = siz F b ∧ (siz F a = 0 ∨ siz F a = -1) then invS F
  else if siz F a = -1 ∨ siz F b = 0 then okS (bey F (ng F a != ng F b))
  else if siz F a = 0 ∨ siz F b = -1 then okS (sg F (ng F a != ng F b) 0)
  else frS F (sz (ng F a != ng F b) (siz F a * (2 ^ sc F : Nat))) (siz F b).natAbs mode (ng F a != ng F b)
def rooS (F : FM) (a mode : Nat) : RS :=
  if siz F a = 0 then okS a else if ng F a = true then invS F else if siz F a = -1 then okS a
  else rnS (rnd F false mode (crt ((siz F a).natAbs * 2 ^ sc F)))
def actS (F : FM) (what a b mode : Nat) : RS :=
  if isNo F a = true ∨ (what ≠ 4 ∧ isNo F b = true) then (nc F, 0, 0, 0)
  else if what = 0 then addS F a b (ng F b) mode
  else if what = 1 then addS F a b (!ng F b) mode
  else if what = 2 then mulS F a b mode
  else if what = 3 then divS F a b mode
  else if what = 4 then rooS F a mode
  else if what = 5 then okS (lesC F a b)
  else okS (grtC F a b)
theorem nc_lt {F : FM} (hv : VF F) {c : Nat} (h : nc F = some c) : c < 1024 := by
  have hg := gr_lt hv
  have hp := hv.p
  have hq := hv.q
  unfold nc at h
  split at h
  · have := Option.some.inj h; omega
  · split at h
    · rename_i h2
      have := Option.some.inj h
      have h6 : 2 ^ (fF F - 1) < 2 ^ fF F := Nat.pow_lt_pow_right (by omega) (by omega)
      omega
    · cases h
theorem nI_m9 {c : Nat} (h : c < 2 ^ 31) : ¬ nI c = -9 := by
  intro q
  have h1 := nI_toInt h
  rw [q] at h1
  have : (-9 : Int32).toInt = -9 := by decide
  omega
theorem nI_m4 {c : Nat} (h : c < 2 ^ 31) : ¬ nI c = -4 := by
  intro q
  have h1 := nI_toInt h
  rw [q] at h1
  have : (-4 : Int32).toInt = -4 := by decide
  omega
theorem ncI_9 {F : FM} (hv : VF F) : (ncI F = -9) ↔ nc F = none := by
  unfold ncI
  cases h : nc F with
  | none => simp
  | some c => have := nc_lt hv h; simp [nI_m9 (show c < 2 ^ 31 by omega)]
theorem rv_inv {F : FM} : rv (invS F) = if nc F = none then -4 else ncI F := by
  unfold rv invS ncI
  cases nc F <;> rfl
theorem rnd_lt {F : FM} (hv : VF F) (mi : Bool) (mode : Nat) (cm : Int → Int) : (rnd F mi mode cm).1 < 2 ^ bits F := by
  have hg := gr_lt hv
  have hT := lowOf_le F cm
  have h0 : ∀ m, m < fP F → m < 2 ^ bits F := fun m h => Nat.lt_of_lt_of_le h (by rw [bits_pw]; exact Nat.le_mul_of_pos_left _ (Nat.two_pow_pos _))
  have hb : lowOf F cm = gr F → bey F mi < 2 ^ bits F := by
    intro _
    unfold bey
    split
    · exact h0 0 (fP_pos F)
    · split
      · exact h0 _ (by omega)
      · split
        · exact sg_lt (by omega)
        · exact sg_lt (by omega)
  unfold rnd
  split
  · exact h0 0 (fP_pos F)
  · split
    · exact sg_lt (by omega)
    · show (if _ then _ else _) < _
      split
      · split
        · exact hb (by assumption)
        · exact sg_lt (by omega)
      · exact sg_lt (by omega)
theorem bey_lt {F : FM} (hv : VF F) (mi : Bool) : bey F mi < 2 ^ bits F := by
  have hg := gr_lt hv
  have h0 : ∀ m, m < fP F → m < 2 ^ bits F := fun m h => Nat.lt_of_lt_of_le h (by rw [bits_pw]; exact Nat.le_mul_of_pos_left _ (Nat.two_pow_pos _))
  unfold bey
  split
  · exact h0 0 (fP_pos F)
  · split
    · exact h0 _ (by omega)
    · split
      · exact sg_lt (by omega)
      · exact sg_lt (by omega)
theorem sc_le {F : FM} (hv : VF F) : sc F ≤ 20 := by unfold sc; have := hv.2.2.2.1; have := hv.2.2.2.2.1; omega
theorem pw20 {n : Nat} (h : n ≤ 20) : 2 ^ n ≤ 1048576 := Nat.pow_le_pow_right (by omega) h
theorem lowOf_congr (F : FM) {cm cm' : Int → Int} (h : ∀ t, 0 ≤ t → cm t = cm' t) : lowOf F cm = lowOf F cm' := by
  unfold lowOf
  congr 1
  funext k
  rw [h _ (by omega)]
theorem rnd_congr {F : FM} (hv : VF F) (mi : Bool) (mode : Nat) {cm cm' : Int → Int} (h : ∀ t, 0 ≤ t → cm t = cm' t) : rnd F mi mode cm = rnd F mi mode cm' := by
  have hl := lowOf_congr F h
  have ht := (tm_r hv (lowOf_le F cm')).1
  unfold rnd
  rw [hl, h _ (show (0 : Int) ≤ 2 * (fM F (lowOf F cm') : Int) by omega), h _ ht]
/-- the whole root -/
def isq (X : Nat) : Nat := low (fun k => decide (k * k ≤ X)) 4194303
theorem isq_le (X : Nat) : isq X * isq X ≤ X ∧ isq X ≤ 4194303 := by
  refine ⟨?_, low_le _ _⟩
  rcases low_in (fun k => decide (k * k ≤ X)) 4194303 with h | h
  · unfold isq; rw [h]; omega
  · exact of_decide_eq_true h
theorem isq_lt {X : Nat} (hX : X < 17592186044416) : X < (isq X + 1) * (isq X + 1) := by
  by_cases h : isq X + 1 ≤ 4194303
  · have h2 := low_out (fun k => decide (k * k ≤ X)) 4194303 (isq X + 1) (Nat.lt_succ_self _) h
    have h3 := of_decide_eq_false h2
    omega
  · have h1 : 4194304 ≤ isq X + 1 := by omega
    have h2 : 4194304 * 4194304 ≤ (isq X + 1) * (isq X + 1) := Nat.mul_le_mul h1 h1
    omega
theorem isq_iff {X : Nat} (hX : X < 17592186044416) (i : Nat) : i * i ≤ X ↔ i ≤ isq X := by
  constructor
  · intro h
    by_cases q : i ≤ isq X
    · exact q
    · have h2 : (isq X + 1) * (isq X + 1) ≤ i * i := Nat.mul_le_mul (by omega) (by omega)
      have := isq_lt hX
      omega
  · intro h
    exact Nat.le_trans (Nat.mul_le_mul h h) (isq_le X).1
theorem sq_sh : ∀ j, j < 22 → lN (2 ^ (j + 1)) >>> ((1 : Int32).toInt64 &&& 63) = lN (2 ^ j) := by decide +kernel
theorem x_wr {w : xmW} {X : Nat} (hX : X < 17592186044416) : ∀ (j n lo : Nat), j ≤ 21 → j + 2 ≤ n → lo ≤ isq X → isq X < lo + 2 ^ (j + 1) → fX0_wholeRoot_L7 n w (lZ (X : Int)) (lZ (lo : Int)) (lN (2 ^ j)) = some (lZ (isq X : Int)) := by
  have hle := (isq_le X).2
  have l0 : LR 0 := ⟨by omega, by omega⟩
  have e0 : (0 : Int64) = lZ 0 := rfl
  intro j
  induction j with
  | zero =>
    intro n lo _ hn h1 h2
    obtain ⟨n, rfl⟩ : ∃ n', n = n' + 2 := ⟨n - 2, by omega⟩
    have fin : ∀ lo' : Nat, lo' = isq X → fX0_wholeRoot_L7 (n + 1) w (lZ (X : Int)) (lZ (lo' : Int)) (lN (2 ^ 0) >>> ((1 : Int32).toInt64 &&& 63)) = some (lZ (isq X : Int)) := by
      intro lo' he
      rw [fX0_wholeRoot_L7, he]
      rfl
    have hq := isq_iff hX (lo + 1)
    have hsq : (lo + 1) * (lo + 1) ≤ 4194304 * 4194304 := Nat.mul_le_mul (by omega) (by omega)
    rw [fX0_wholeRoot_L7, if_neg (by decide)]
    have ea : lZ (lo : Int) + lN (2 ^ 0) = lZ ((lo + 1 : Nat) : Int) := by rw [lN_lZ, lZ_add]; rfl
    rw [ea, lZ_mul, ← Int.natCast_mul]
    simp only [lc_gt (show LR (((lo + 1) * (lo + 1) : Nat) : Int) from ⟨by omega, by omega⟩) (show LR (X : Int) from ⟨by omega, by omega⟩)]
    by_cases q2 : (X : Int) < (((lo + 1) * (lo + 1) : Nat) : Int)
    · rw [if_pos q2]; exact fin lo (by omega)
    · rw [if_neg q2]; exact fin (lo + 1) (by omega)
  | succ j ih =>
    intro n lo hj hn h1 h2
    obtain ⟨n, rfl⟩ : ∃ n', n = n' + 1 := ⟨n - 1, by omega⟩
    have hpj : 2 ^ (j + 1) = 2 * 2 ^ j := by rw [Nat.pow_succ]; omega
    have hpj2 : 2 ^ (j + 1 + 1) = 2 * 2 ^ (j + 1) := by rw [Nat.pow_succ]; omega
    have hpb : 2 ^ (j + 1) ≤ 2 ^ 21 := Nat.pow_le_pow_right (by omega) hj
    have hp0 : 0 < 2 ^ j := Nat.two_pow_pos _
    have hq := isq_iff hX (lo + 2 ^ (j + 1))
    have hsq : (lo + 2 ^ (j + 1)) * (lo + 2 ^ (j + 1)) ≤ 8388608 * 8388608 := Nat.mul_le_mul (by omega) (by omega)
    rw [fX0_wholeRoot_L7, sq_sh j (by omega)]
    have hc : ¬ lg_cmp (lN (2 ^ (j + 1))) 0 ≤ 0 := by
      rw [lN_lZ, e0, lc_le ⟨by omega, by omega⟩ l0]; omega
    rw [if_neg hc]
    have ea : lZ (lo : Int) + lN (2 ^ (j + 1)) = lZ ((lo + 2 ^ (j + 1) : Nat) : Int) := by rw [lN_lZ, lZ_add]; rfl
    rw [ea, lZ_mul, ← Int.natCast_mul]
    simp only [lc_gt (show LR (((lo + 2 ^ (j + 1)) * (lo + 2 ^ (j + 1)) : Nat) : Int) from ⟨by omega, by omega⟩) (show LR (X : Int) from ⟨by omega, by omega⟩)]
    by_cases q2 : (X : Int) < (((lo + 2 ^ (j + 1)) * (lo + 2 ^ (j + 1)) : Nat) : Int)
    · rw [if_pos q2]; exact ih n lo (by omega) (by omega) h1 (by omega)
    · rw [if_neg q2]; exact ih n (lo + 2 ^ (j + 1)) (by omega) (by omega) (by omega) (by omega)
/-- a root by its whole quarters -/
theorem cq_crt {X : Nat} (hX : 4 * X < 17592186044416) : ∀ t : Int, 0 ≤ t → cq (2 * isq (4 * X) + (if isq (4 * X) * isq (4 * X) = 4 * X then 0 else 1)) 4 t = crt X t := by
  intro t ht
  obtain ⟨n, rfl⟩ := Int.eq_ofNat_of_zero_le ht
  have h1 := (isq_le (4 * X)).1
  have h2 := isq_lt hX
  generalize isq (4 * X) = v at h1 h2
  unfold cq crt
  rw [← Int.natCast_mul]
  by_cases q1 : n < v
  · have h3 : n * n < v * v := Nat.mul_self_lt_mul_self q1
    unfold cmp3
    rw [if_neg (by split <;> omega), if_neg (by split <;> omega), if_neg (by omega), if_neg (by omega)]
  · by_cases q2 : n = v
    · subst q2
      unfold cmp3
      by_cases q3 : n * n = 4 * X
      · rw [if_pos q3, if_neg (by omega), if_pos (by omega), if_neg (by omega), if_pos (by omega)]
      · rw [if_neg q3, if_neg (by omega), if_neg (by omega), if_neg (by omega), if_neg (by omega)]
    · have h3 : (v + 1) * (v + 1) ≤ n * n := Nat.mul_le_mul (by omega) (by omega)
      unfold cmp3
      rw [if_pos (by split <;> omega), if_pos (by omega)]
section XA
variable {x : XS} {m : MS} {fl : List xmE} {k : Nat} {F : FM}
theorem x_invalid (hF : XF fl k F) (hv : VF F) : fX0_invalid (WB x m fl) (some 4) (some k) = some (rv (invS F), WB (xinc x 0 0 1) m fl) := by
  simp only [fX0_invalid, o_4, g_4_0, g_5_2, p_5_2, Option.bind_some, x_noneCode (hF.w (xinc x 0 0 1) m) hv, xinc_v, ncI_9 hv]
  rw [rv_inv]
  by_cases h : nc F = none
  · rw [if_pos h, if_pos h]
  · rw [if_neg h, if_neg h]
/-- rounding of what isn't 0 -/
theorem x_rz (hF : XF fl k F) (hv : VF F) {z : Int} (hz : z ≠ 0) (hz1 : -2 ^ 60 ≤ z ∧ z ≤ 2 ^ 60) {q mode : Nat} (hq : q ≤ 2097152) (hm : mode ≤ 5) (mz : Bool) {mi : Int32} {ab : Int64} (hmi : mi = bI (decide (z < 0))) (hab : ab = lZ (z.natAbs : Int)) :
    fX0_rounded (WB x m fl) (some 4) (some k) mi ab (lZ (q : Int)) (nI mode) = some (rv (frS F z q mode mz), WB (xinc x (frS F z q mode mz).2.1 (frS F z q mode mz).2.2.1 (frS F z q mode mz).2.2.2) m fl) := by
  rw [hmi, hab, x_rounded hF hv (decide (z < 0)) (show z.natAbs < 2 ^ 61 by omega) hq hm]
  unfold frS
  rw [if_neg hz]
  rfl
theorem okS_ret (c : Nat) : some (nI c, WB x m fl) = some (rv (okS c), WB (xinc x (okS c).2.1 (okS c).2.2.1 (okS c).2.2.2) m fl) := by
  show some (nI c, WB x m fl) = some (nI c, WB (xinc x 0 0 0) m fl)
  rw [xinc_0]
theorem bI_ne (p q : Bool) : (if bI p = bI q then (0 : Int32) else 1) = bI (p != q) := by cases p <;> cases q <;> rfl
theorem x_signed {w : xmW} (mi : Bool) (z : Int) : fX0_signed w (bI mi) (lZ z) = some (lZ (sz mi z)) := by
  unfold fX0_signed sz
  cases mi with
  | false => rfl
  | true => rw [if_neg (by decide), if_pos rfl, lZ_neg]
theorem x_eos (hF : XF fl k F) (hv : VF F) (ma mb : Bool) {za zb : Int} (ra : LR za) (rb : LR zb) :
    fX0_endlessOfSum (WB x m fl) (some 4) (some k) (bI ma) (lZ za) (bI mb) (lZ zb) = if za = -1 ∧ zb = -1 ∧ ma ≠ mb then some (rv (invS F), WB (xinc x 0 0 1) m fl) else if za = -1 ∨ zb = -1 then some (nI (bey F (if za = -1 then ma else mb)), WB x m fl) else some (-9, WB x m fl) := by
  have e1 : (-1 : Int64) = lZ (-1) := rfl
  have r1 : LR (-1) := ⟨by omega, by omega⟩
  have hw := hF.w x m
  simp only [fX0_endlessOfSum, fX0_endlessOfSum_L53, o_4, Option.bind_some]
  rw [e1]
  simp only [lc_eq ra r1, lc_eq rb r1, bI_if, bI_0, decide_eq_false_iff_not, x_beyond hw hv, x_invalid hF hv, Option.bind_some, bI_eq, xmb2]
  by_cases h1 : za = -1
  · by_cases h2 : zb = -1
    · by_cases h3 : ma = mb
      · simp [h1, h2, h3]
      · simp [h1, h2, h3]
    · simp [h1, h2]
  · by_cases h2 : zb = -1
    · simp [h1, h2]
    · simp [h1, h2]
theorem lZ_abs {z : Int} (h : LR z) : (if 0 < lZ z then lZ z else -lZ z) = lZ (z.natAbs : Int) := by
  have e0 : (0 : Int64) = lZ 0 := rfl
  rw [e0]
  simp only [lZ_lt (show LR 0 from ⟨by omega, by omega⟩) h]
  by_cases q : 0 < z
  · rw [if_pos q]; congr 1; omega
  · rw [if_neg q, lZ_neg]; congr 1; omega
theorem lZ_neg0 {z : Int} (h : LR z) : (if 0 ≤ lg_cmp (lZ z) 0 then (0 : Int32) else 1) = bI (decide (z < 0)) := by
  have e0 : (0 : Int64) = lZ 0 := rfl
  rw [e0]
  simp only [lc_ge h (show LR 0 from ⟨by omega, by omega⟩)]
  by_cases q : 0 ≤ z
  · rw [if_pos q, decide_eq_false (by omega)]; rfl
  · rw [if_neg q, decide_eq_true (by omega)]; rfl
theorem x_added (hF : XF fl k F) (hv : VF F) {a b : Nat} (mb : Bool) {mode : Nat} (ha : a < 2 ^ bits F) (hb : b < 2 ^ bits F) (hm : mode ≤ 5) (na : isNo F a = false) (nb : isNo F b = false) :
    fX0_added (WB x m fl) (some 4) (some k) (nI a) (nI b) (bI mb) (nI mode) = some (rv (addS F a b mb mode), WB (xinc x (addS F a b mb mode).2.1 (addS F a b mb mode).2.2.1 (addS F a b mb mode).2.2.2) m fl) := by
  have ka := code_lt hv ha
  have kb := code_lt hv hb
  have hw := hF.w x m
  have ra := siz_r hv a
  have rb := siz_r hv b
  have la : LR (siz F a) := ⟨by omega, by omega⟩
  have lb : LR (siz F b) := ⟨by omega, by omega⟩
  have l0 : LR 0 := ⟨by omega, by omega⟩
  have hp := fP_pos F
  simp only [fX0_added, o_4, x_isMinus hw hv (show a < 2 ^ 31 by omega), x_sizeOf hw hv (show a < 2 ^ 31 by omega), x_sizeOf hw hv (show b < 2 ^ 31 by omega), Option.bind_some, x_eos hF hv (ng F a) mb la lb]
  have hbl := bey_lt hv (if siz F a = -1 then ng F a else mb)
  have hbk := code_lt hv hbl
  unfold addS
  by_cases h1 : siz F a = -1 ∧ siz F b = -1 ∧ ng F a ≠ mb
  · rw [if_pos h1, if_pos h1]
    have hne : ¬ rv (invS F) = -9 := by
      rw [rv_inv]
      by_cases hn : nc F = none
      · rw [if_pos hn]; decide
      · rw [if_neg hn, ncI_9 hv]; exact hn
    simp only [xmb2, if_neg hne]
    rfl
  · rw [if_neg h1, if_neg h1]
    by_cases h2 : siz F a = -1 ∨ siz F b = -1
    · rw [if_pos h2, if_pos h2]
      simp only [xmb2, if_neg (nI_m9 (show bey F (if siz F a = -1 then ng F a else mb) < 2 ^ 31 by omega))]
      show _ = some (nI _, WB (xinc x 0 0 0) m fl)
      rw [xinc_0]
    · rw [if_neg h2, if_neg h2]
      simp only [xmb2, if_true, x_signed, Option.bind_some, lZ_add]
      have hsa : -2097152 ≤ sz (ng F a) (siz F a) ∧ sz (ng F a) (siz F a) ≤ 2097152 := by unfold sz; split <;> omega
      have hsb : -2097152 ≤ sz mb (siz F b) ∧ sz mb (siz F b) ≤ 2097152 := by unfold sz; split <;> omega
      have lab : LR (sz (ng F a) (siz F a) + sz mb (siz F b)) := ⟨by omega, by omega⟩
      have e0 : (0 : Int64) = lZ 0 := rfl
      have q0 : (lg_cmp (lZ (sz (ng F a) (siz F a) + sz mb (siz F b))) 0 = 0) ↔ sz (ng F a) (siz F a) + sz mb (siz F b) = 0 := by rw [e0]; exact lc_eq lab l0
      have q1 : (lg_cmp (lZ (siz F a)) 0 = 0) ↔ siz F a = 0 := by rw [e0]; exact lc_eq la l0
      simp only [q0, q1, bI_eq]
      by_cases h3 : sz (ng F a) (siz F a) + sz mb (siz F b) = 0
      · simp only [if_pos h3]
        have hx3 : (if nI mode = 3 then (1 : Int32) else 0) = bI (eq3 mode) := by
          simp only [nI_3' (show mode < 2 ^ 31 by omega)]; rw [bI_if]; rfl
        have ws : ∀ b : Bool, fX1_withSign (WB x m fl) (some k) (bI b) 0 = some (nI (sg F b 0)) := fun b => x_withSign hw hv b hp
        rw [hx3]
        simp only [ws, Option.bind_some]
        unfold frS
        rw [if_pos h3]
        show _ = some (nI _, WB (xinc x 0 0 0) m fl)
        rw [xinc_0]
        by_cases h4 : siz F a = 0
        · by_cases h5 : ng F a = mb
          · rw [if_pos h4, if_pos h5, if_pos ⟨h4, h5⟩]
          · rw [if_pos h4, if_neg h5, if_neg (fun q => h5 q.2)]
        · rw [if_neg h4, if_neg (fun q => h4 q.1)]
      · simp only [if_neg h3]
        rw [lZ_abs lab, lZ_neg0 lab]
        have := x_rz (x := x) (m := m) hF hv h3 ⟨by omega, by omega⟩ (q := 1) (by omega) hm (if siz F a = 0 ∧ ng F a = mb then ng F a else eq3 mode) rfl rfl
        rw [show (1 : Int64) = lZ ((1 : Nat) : Int) from rfl, this]
theorem sz_pos {mi : Bool} {z : Int} (h : 0 < z) : sz mi z ≠ 0 ∧ decide (sz mi z < 0) = mi ∧ ((sz mi z).natAbs : Int) = z := by
  unfold sz
  cases mi with
  | true => rw [if_pos rfl]; exact ⟨by omega, decide_eq_true (by omega), by omega⟩
  | false => rw [if_neg (by decide)]; exact ⟨by omega, decide_eq_false (by omega), by omega⟩
theorem szp_r {F : FM} (hv : VF F) (a b : Nat) : -3 ≤ szp F a b ∧ szp F a b ≤ 4398046511104 := by
  have ra := siz_r hv a
  have rb := siz_r hv b
  unfold szp
  split
  · omega
  · split
    · split <;> omega
    · have h1 : 0 ≤ siz F a := by omega
      have h2 : 0 ≤ siz F b := by omega
      have h3 : siz F a * siz F b ≤ 2097152 * 2097152 := Int.mul_le_mul (by omega) (by omega) h2 (by omega)
      have h4 : 0 ≤ siz F a * siz F b := Int.mul_nonneg h1 h2
      omega
theorem siz_no {F : FM} (c : Nat) : (siz F c = -2) ↔ isNo F c = true := by
  unfold siz isNo
  cases isNu F c with
  | true => simp
  | false => cases isEn F c <;> simp
theorem x_multiplied (hF : XF fl k F) (hv : VF F) {a b mode : Nat} (ha : a < 2 ^ bits F) (hb : b < 2 ^ bits F) (hm : mode ≤ 5) (na : isNo F a = false) (nb : isNo F b = false) :
    fX0_multiplied (WB x m fl) (some 4) (some k) (nI a) (nI b) (nI mode) = some (rv (mulS F a b mode), WB (xinc x (mulS F a b mode).2.1 (mulS F a b mode).2.2.1 (mulS F a b mode).2.2.2) m fl) := by
  have ka := code_lt hv ha
  have kb := code_lt hv hb
  have hw := hF.w x m
  obtain ⟨r1, r2⟩ := szp_r hv a b
  have hsc := sc_le hv
  have hpw := pw20 hsc
  have lp : LR (szp F a b) := ⟨by omega, by omega⟩
  have l0 : LR 0 := ⟨by omega, by omega⟩
  have l1 : LR (-1) := ⟨by omega, by omega⟩
  have l3 : LR (-3) := ⟨by omega, by omega⟩
  have e0 : (0 : Int64) = lZ 0 := rfl
  have e1 : (-1 : Int64) = lZ (-1) := rfl
  have e3 : (-3 : Int64) = lZ (-3) := rfl
  have hp := fP_pos F
  have q0 : (lg_cmp (lZ (szp F a b)) 0 = 0) ↔ szp F a b = 0 := by rw [e0]; exact lc_eq lp l0
  have q1 : (lg_cmp (lZ (szp F a b)) (-1) = 0) ↔ szp F a b = -1 := by rw [e1]; exact lc_eq lp l1
  have q3 : (lg_cmp (lZ (szp F a b)) (-3) = 0) ↔ szp F a b = -3 := by rw [e3]; exact lc_eq lp l3
  have hn2 : szp F a b ≠ -2 := by
    unfold szp
    have s1 : ¬ siz F a = -2 := by rw [siz_no, na]; decide
    have s2 : ¬ siz F b = -2 := by rw [siz_no, nb]; decide
    have ra := siz_r hv a
    have rb := siz_r hv b
    rw [if_neg (by omega)]
    split
    · split <;> omega
    · have h4 : 0 ≤ siz F a * siz F b := Int.mul_nonneg (by omega) (by omega)
      omega
  simp only [fX0_multiplied, o_4, x_isMinus hw hv (show a < 2 ^ 31 by omega), x_isMinus hw hv (show b < 2 ^ 31 by omega), x_sizeOfProduct hw hv (show a < 2 ^ 31 by omega) (show b < 2 ^ 31 by omega), Option.bind_some, q0, q1, q3, bI_ne]
  unfold mulS
  generalize (ng F a != ng F b) = mi
  by_cases h3 : szp F a b = -3
  · simp only [if_pos h3, x_invalid hF hv, xmb2]; rfl
  · simp only [if_neg h3]
    by_cases h1 : szp F a b = -1
    · simp only [if_pos h1, x_beyond hw hv, Option.bind_some]
      exact okS_ret _
    · simp only [if_neg h1]
      by_cases h0 : szp F a b = 0
      · have ws : fX1_withSign (WB x m fl) (some k) (bI mi) 0 = some (nI (sg F mi 0)) := x_withSign hw hv mi hp
        simp only [if_pos h0, ws, Option.bind_some]
        have hz : sz mi (szp F a b) = 0 := by unfold sz; rw [h0]; split <;> rfl
        unfold frS
        rw [if_pos hz]
        exact okS_ret _
      · simp only [if_neg h0, x_scale hw, Option.bind_some]
        obtain ⟨z1, z2, z3⟩ := sz_pos (mi := mi) (show 0 < szp F a b by omega)
        rw [sl_one _ (by omega), lN_lZ, x_rz hF hv z1 (by unfold sz; split <;> omega) (q := 2 ^ sc F) (by omega) hm mi (by rw [z2]) (by rw [z3])]
        rfl
theorem x_divided (hF : XF fl k F) (hv : VF F) {a b mode : Nat} (ha : a < 2 ^ bits F) (hb : b < 2 ^ bits F) (hm : mode ≤ 5) (na : isNo F a = false) (nb : isNo F b = false) :
    fX0_divided (WB x m fl) (some 4) (some k) (nI a) (nI b) (nI mode) = some (rv (divS F a b mode), WB (xinc x (divS F a b mode).2.1 (divS F a b mode).2.2.1 (divS F a b mode).2.2.2) m fl) := by
  have ka := code_lt hv ha
  have kb := code_lt hv hb
  have hw := hF.w x m
  have ra := siz_r hv a
  have rb := siz_r hv b
  have sa : ¬ siz F a = -2 := by rw [siz_no, na]; decide
  have sb : ¬ siz F b = -2 := by rw [siz_no, nb]; decide
  have hsc := sc_le hv
  have hpw := pw20 hsc
  have la : LR (siz F a) := ⟨by omega, by omega⟩
  have lb : LR (siz F b) := ⟨by omega, by omega⟩
  have l0 : LR 0 := ⟨by omega, by omega⟩
  have l1 : LR (-1) := ⟨by omega, by omega⟩
  have e0 : (0 : Int64) = lZ 0 := rfl
  have e1 : (-1 : Int64) = lZ (-1) := rfl
  have hp := fP_pos F
  have a0 : (lg_cmp (lZ (siz F a)) 0 = 0) ↔ siz F a = 0 := by rw [e0]; exact lc_eq la l0
  have a1 : (lg_cmp (lZ (siz F a)) (-1) = 0) ↔ siz F a = -1 := by rw [e1]; exact lc_eq la l1
  have b0 : (lg_cmp (lZ (siz F b)) 0 = 0) ↔ siz F b = 0 := by rw [e0]; exact lc_eq lb l0
  have b1 : (lg_cmp (lZ (siz F b)) (-1) = 0) ↔ siz F b = -1 := by rw [e1]; exact lc_eq lb l1
  have hbl : ∀ mi, fX1_withSign (WB x m fl) (some k) (bI mi) 0 = some (nI (sg F mi 0)) := fun mi => x_withSign hw hv mi hp
  have L64 : ∀ mi : Bool, ¬ (siz F a = siz F b ∧ (siz F a = 0 ∨ siz F a = -1)) → fX0_divided_L64 (WB x m fl) (some 4) (some k) (nI mode) (bI mi) (lZ (siz F a)) (lZ (siz F b)) = (fun r : RS => some (rv r, WB (xinc x r.2.1 r.2.2.1 r.2.2.2) m fl)) (if siz F a = -1 ∨ siz F b = 0 then okS (bey F mi) else if siz F a = 0 ∨ siz F b = -1 then okS (sg F mi 0) else frS F (sz mi (siz F a * (2 ^ sc F : Nat))) (siz F b).natAbs mode mi) := by
    intro mi hne
    simp only [fX0_divided_L64, a0, a1, b0, b1, x_beyond hw hv, hbl, x_scale hw, Option.bind_some]
    by_cases h1 : siz F a = -1
    · simp only [if_pos h1, if_pos (show siz F a = -1 ∨ siz F b = 0 from Or.inl h1)]
      exact okS_ret _
    · simp only [if_neg h1]
      by_cases h2 : siz F b = 0
      · simp only [if_pos h2, if_pos (show siz F a = -1 ∨ siz F b = 0 from Or.inr h2)]
        exact okS_ret _
      · simp only [if_neg h2, if_neg (show ¬ (siz F a = -1 ∨ siz F b = 0) by omega)]
        by_cases h3 : siz F a = 0
        · simp only [if_pos h3, if_pos (show siz F a = 0 ∨ siz F b = -1 from Or.inl h3)]
          exact okS_ret _
        · simp only [if_neg h3]
          by_cases h4 : siz F b = -1
          · simp only [if_pos h4, if_pos (show siz F a = 0 ∨ siz F b = -1 from Or.inr h4)]
            exact okS_ret _
          · simp only [if_neg h4, if_neg (show ¬ (siz F a = 0 ∨ siz F b = -1) by omega)]
            have hsz : lZ (siz F a) <<< ((nI (sc F)).toInt64 &&& 63) = lZ (siz F a * (2 ^ sc F : Nat)) := by
              have : siz F a = (((siz F a).natAbs : Nat) : Int) := by omega
              rw [this, ← lN_lZ, sl_l _ (by omega), lN_lZ, Int.natCast_mul]
            have hpos : 0 < siz F a * ((2 ^ sc F : Nat) : Int) := Int.mul_pos (by omega) (by have := Nat.two_pow_pos (sc F); omega)
            have hbd : siz F a * ((2 ^ sc F : Nat) : Int) ≤ 2097152 * 1048576 := Int.mul_le_mul (by omega) (Int.ofNat_le.mpr hpw) (Int.natCast_nonneg _) (by omega)
            obtain ⟨z1, z2, z3⟩ := sz_pos (mi := mi) hpos
            have hq : lZ (siz F b) = lZ (((siz F b).natAbs : Nat) : Int) := by congr 1; omega
            rw [hsz, hq, x_rz hF hv z1 (by unfold sz; split <;> omega) (q := (siz F b).natAbs) (by omega) hm mi (by rw [z2]) (by rw [z3])]
            rfl
  simp only [fX0_divided, o_4, x_isMinus hw hv (show a < 2 ^ 31 by omega), x_isMinus hw hv (show b < 2 ^ 31 by omega), x_sizeOf hw hv (show a < 2 ^ 31 by omega), x_sizeOf hw hv (show b < 2 ^ 31 by omega), Option.bind_some, lc_eq la lb, a0, a1, bI_ne, x_invalid hF hv, xmb2]
  unfold divS
  by_cases h0 : siz F a = siz F b
  · by_cases h1 : siz F a = 0
    · simp only [if_pos h0, if_pos h1, if_pos (show siz F a = siz F b ∧ (siz F a = 0 ∨ siz F a = -1) from ⟨h0, Or.inl h1⟩)]; rfl
    · by_cases h2 : siz F a = -1
      · simp only [if_pos h0, if_neg h1, if_pos h2, if_pos (show siz F a = siz F b ∧ (siz F a = 0 ∨ siz F a = -1) from ⟨h0, Or.inr h2⟩)]; rfl
      · have hne : ¬ (siz F a = siz F b ∧ (siz F a = 0 ∨ siz F a = -1)) := by omega
        simp only [if_pos h0, if_neg h1, if_neg h2, if_neg hne]
        have := L64 (ng F a != ng F b) hne
        simp only [if_neg h2] at this
        exact this
  · have hne : ¬ (siz F a = siz F b ∧ (siz F a = 0 ∨ siz F a = -1)) := by omega
    simp only [if_neg h0, if_neg hne]
    exact L64 (ng F a != ng F b) hne
theorem x_rootOf (hF : XF fl k F) (hv : VF F) {a mode : Nat} (ha : a < 2 ^ bits F) (hm : mode ≤ 5) (na : isNo F a = false) :
    fX0_rootOf (WB x m fl) (some 4) (some k) (nI a) (nI mode) = some (rv (rooS F a mode), WB (xinc x (rooS F a mode).2.1 (rooS F a mode).2.2.1 (rooS F a mode).2.2.2) m fl) := by
  have ka := code_lt hv ha
  have hw := hF.w x m
  have ra := siz_r hv a
  have sa : ¬ siz F a = -2 := by rw [siz_no, na]; decide
  have hsc := sc_le hv
  have hpw := pw20 hsc
  have la : LR (siz F a) := ⟨by omega, by omega⟩
  have l0 : LR 0 := ⟨by omega, by omega⟩
  have l1 : LR (-1) := ⟨by omega, by omega⟩
  have e0 : (0 : Int64) = lZ 0 := rfl
  have e1 : (-1 : Int64) = lZ (-1) := rfl
  have a0 : (lg_cmp (lZ (siz F a)) 0 = 0) ↔ siz F a = 0 := by rw [e0]; exact lc_eq la l0
  have a1 : (lg_cmp (lZ (siz F a)) (-1) = 0) ↔ siz F a = -1 := by rw [e1]; exact lc_eq la l1
  simp only [fX0_rootOf, o_4, x_isMinus hw hv (show a < 2 ^ 31 by omega), x_sizeOf hw hv (show a < 2 ^ 31 by omega), Option.bind_some, a0, a1, bI_0, x_invalid hF hv, xmb2, x_scale hw]
  unfold rooS
  by_cases h0 : siz F a = 0
  · simp only [if_pos h0]; exact okS_ret _
  · simp only [if_neg h0]
    cases hn : ng F a with
    | true => rfl
    | false =>
      simp only [if_true, Bool.false_eq_true, if_false]
      by_cases h1 : siz F a = -1
      · simp only [if_pos h1]; exact okS_ret _
      · simp only [if_neg h1]
        have hsz : lZ (siz F a) <<< ((nI (sc F)).toInt64 &&& 63) = lZ (((siz F a).natAbs * 2 ^ sc F : Nat) : Int) := by
          have : siz F a = (((siz F a).natAbs : Nat) : Int) := by omega
          rw [this, ← lN_lZ, sl_l _ (by omega), lN_lZ]; rfl
        have hX : (siz F a).natAbs * 2 ^ sc F ≤ 2097152 * 1048576 := Nat.mul_le_mul (by omega) hpw
        have hX2 : (siz F a).natAbs * 2 ^ sc F < 2097152 * 1048576 := Nat.lt_of_le_of_lt (Nat.mul_le_mul_left _ hpw) (by omega)
        generalize (siz F a).natAbs * 2 ^ sc F = X at hsz hX hX2
        have h4 : (4 : Int64) * lZ (X : Int) = lZ ((4 * X : Nat) : Int) := by rw [show (4 : Int64) = lZ 4 from rfl, lZ_mul]; rfl
        have hwr : fX0_wholeRoot (WB x m fl) (lZ ((4 * X : Nat) : Int)) = some (lZ (isq (4 * X) : Int)) :=
          x_wr (w := WB x m fl) (X := 4 * X) (by omega) 21 xmN 0 (by omega) (by decide) (Nat.zero_le _) (by have := (isq_le (4 * X)).2; omega)
        have hle := (isq_le (4 * X)).2
        have hs1 := (isq_le (4 * X)).1
        rw [hsz, h4, hwr]
        simp only [Option.bind_some, lZ_mul, ← Int.natCast_mul]
        simp only [lc_eq (show LR ((isq (4 * X) * isq (4 * X) : Nat) : Int) from ⟨by omega, by omega⟩) (show LR ((4 * X : Nat) : Int) from ⟨by omega, by omega⟩)]
        have hc := cq_crt (X := X) (by omega)
        have hr : ∀ e : Nat, e = (if isq (4 * X) * isq (4 * X) = 4 * X then 0 else 1) → fX0_rootOf_L77 (WB x m fl) (some 4) (some k) (nI mode) (lZ (isq (4 * X) : Int)) (lZ (e : Int)) = some (rv (rnS (rnd F false mode (crt X))), WB (xinc x (rnd F false mode (crt X)).2.1 (rnd F false mode (crt X)).2.2 0) m fl) := by
          intro e he
          have hnum : (2 : Int64) * lZ (isq (4 * X) : Int) + lZ (e : Int) = lZ ((2 * isq (4 * X) + e : Nat) : Int) := by rw [show (2 : Int64) = lZ 2 from rfl, lZ_mul, lZ_add]; rfl
          have hb : e ≤ 1 := by rw [he]; split <;> omega
          simp only [fX0_rootOf_L77, hnum]
          rw [show (0 : Int32) = bI false from rfl, show (4 : Int64) = lZ ((4 : Nat) : Int) from rfl, x_rounded hF hv false (by omega) (by omega) hm, he, rnd_congr hv false mode hc]
          rfl
        by_cases hq : isq (4 * X) * isq (4 * X) = 4 * X
        · rw [if_pos (by omega)]
          exact hr 0 (by rw [if_pos hq])
        · rw [if_neg (by omega)]
          exact hr 1 (by rw [if_neg hq])
theorem x_acted (hF : XF fl k F) (hv : VF F) {what a b mode : Nat} (hwh : what ≤ 6) (ha : a < 2 ^ bits F) (hb : what ≠ 4 → b < 2 ^ bits F) (hb31 : b < 2 ^ 31) (hm : mode ≤ 5) :
    fX0_acted (WB x m fl) (some 4) (some k) (nI what) (nI a) (nI b) (nI mode) = some (rv (actS F what a b mode), WB (xinc x (actS F what a b mode).2.1 (actS F what a b mode).2.2.1 (actS F what a b mode).2.2.2) m fl) := by
  have ka := code_lt hv ha
  have hw := hF.w x m
  have hwh31 : what < 2 ^ 31 := by omega
  have hno : ∀ c, isNo F c = true → some (ncI F, WB x m fl) = some (rv (nc F, 0, 0, 0), WB (xinc x 0 0 0) m fl) := by
    intro c hc
    rw [xinc_0]
    have hnn : nc F ≠ none := by
      unfold isNo isNu isEn at hc
      have hmg := mg_lt F c
      unfold nc
      by_cases t1 : fT F = 1
      · rw [if_pos t1]; simp
      · rw [if_neg t1]
        have hT := hv.2.2.2.2.2.1
        by_cases t0 : fT F = 0
        · by_cases f0 : fF F = 0
          · exfalso
            obtain ⟨g1, g2⟩ := gr_top0 hv t0
            rw [f0, Nat.pow_zero, Nat.mul_one] at g1 g2
            simp only [t0, decide_true, Bool.true_and, Bool.and_eq_true, Bool.not_eq_true', decide_eq_false_iff_not] at hc
            have : 0 < 2 ^ fE F := Nat.two_pow_pos _
            omega
          · rw [if_pos ⟨t0, by omega⟩]; simp
        · exfalso
          have hgr : gr F = fP F - 1 := by unfold gr; rw [if_neg t0, if_neg t1]
          simp only [t0, decide_false, Bool.false_and, Bool.not_false, Bool.and_true, Bool.not_eq_true', decide_eq_false_iff_not] at hc
          omega
    unfold rv ncI
    cases h : nc F with
    | none => exact absurd h hnn
    | some c => rfl
  have L27 : isNo F a = false → (what ≠ 4 → isNo F b = false) → fX0_acted_L27 (WB x m fl) (some 4) (some k) (nI what) (nI a) (nI b) (nI mode) = (fun r : RS => some (rv r, WB (xinc x r.2.1 r.2.2.1 r.2.2.2) m fl)) (if what = 0 then addS F a b (ng F b) mode else if what = 1 then addS F a b (!ng F b) mode else if what = 2 then mulS F a b mode else if what = 3 then divS F a b mode else if what = 4 then rooS F a mode else if what = 5 then okS (lesC F a b) else okS (grtC F a b)) := by
    intro na nb
    simp only [fX0_acted_L27, nI_0' hwh31, nI_1' hwh31, nI_2' hwh31, nI_3' hwh31, nI_4' hwh31, nI_5' hwh31]
    by_cases w0 : what = 0
    · have nb := nb (by omega)
      have hb := hb (by omega)
      simp only [if_pos w0, x_isMinus hw hv hb31, Option.bind_some, x_added hF hv (ng F b) ha hb hm na nb, xmb2]
    · simp only [if_neg w0]
      by_cases w1 : what = 1
      · have nb := nb (by omega)
        have hb := hb (by omega)
        have hx : (if bI (ng F b) = 0 then (1 : Int32) else 0) = bI (!ng F b) := by cases ng F b <;> rfl
        simp only [if_pos w1, x_isMinus hw hv hb31, Option.bind_some, hx, x_added hF hv (!ng F b) ha hb hm na nb, xmb2]
      · simp only [if_neg w1]
        by_cases w2 : what = 2
        · have nb := nb (by omega)
          have hb := hb (by omega)
          simp only [if_pos w2, x_multiplied hF hv ha hb hm na nb, xmb2]
        · simp only [if_neg w2]
          by_cases w3 : what = 3
          · have nb := nb (by omega)
            have hb := hb (by omega)
            simp only [if_pos w3, x_divided hF hv ha hb hm na nb, xmb2]
          · simp only [if_neg w3]
            by_cases w4 : what = 4
            · simp only [if_pos w4, x_rootOf hF hv ha hm na, xmb2]
            · simp only [if_neg w4]
              by_cases w5 : what = 5
              · simp only [if_pos w5, x_lesser hw hv (show a < 2 ^ 31 by omega) hb31, Option.bind_some]
                exact okS_ret _
              · simp only [if_neg w5, x_greater hw hv (show a < 2 ^ 31 by omega) hb31, Option.bind_some]
                exact okS_ret _
  simp only [fX0_acted, o_4, x_isNone hw hv (show a < 2 ^ 31 by omega), x_isNone hw hv hb31, x_noneCode hw hv, Option.bind_some, bI_0, nI_4' hwh31]
  unfold actS
  cases hna : isNo F a with
  | true =>
    rw [if_neg (by decide), if_pos (Or.inl rfl)]
    exact hno a hna
  | false =>
    rw [if_pos rfl]
    by_cases w4 : what = 4
    · rw [if_pos w4, if_neg (by intro q; rcases q with q | q; cases q; exact q.1 w4)]
      exact L27 hna (fun q => absurd w4 q)
    · rw [if_neg w4]
      cases hnb : isNo F b with
      | true =>
        rw [if_neg (by decide), if_pos (Or.inr ⟨w4, rfl⟩)]
        exact hno b hnb
      | false =>
        rw [if_pos rfl, if_neg (by intro q; rcases q with q | q; cases q; cases q.2)]
        exact L27 hna (fun _ => hnb)
end XA
