/-! CROSSING and fractions -/
def XO (x : XS) (m : MS) (fl : List xmE) (r : RS) : Option (Int32 × xmW) := some (rv r, WB (xinc x r.2.1 r.2.2.1 r.2.2.2) m fl)
def crS (F : FM) (c : Nat) (G : FM) (mode : Nat) : RS :=
  if isNo F c = true then (if nc G = none then invS G else (nc G, 0, 0, 0))
  else if isEn F c = true then okS (bey G (ng F c))
  else frS G (uz F c * ((2 ^ (sc G - sc F) : Nat) : Int)) (2 ^ (sc F - sc G)) mode (ng F c)
theorem sh_d : ∀ a, a < 21 → ∀ b, b < 21 → (if (0 : Int32) < nI a - nI b then nI a - nI b else 0) = nI (a - b) := by decide +kernel
theorem sh_le : ∀ a, a < 21 → ∀ b, b < 21 → ((nI a - nI b ≤ (0 : Int32)) ↔ a ≤ b) ∧ (((0 : Int32) ≤ nI a - nI b) ↔ b ≤ a) := by decide +kernel
theorem sh_s : ∀ a, a < 21 → ∀ b, b < 21 → b ≤ a → nI a - nI b = nI (a - b) := by decide +kernel
theorem sh_n : ∀ a, a < 21 → ∀ b, b < 21 → a ≤ b → -(nI a - nI b) = nI (b - a) := by decide +kernel
theorem rv_nc {F : FM} (h : nc F ≠ none) : rv (nc F, 0, 0, 0) = ncI F := by
  unfold rv ncI
  cases h2 : nc F with
  | none => exact absurd h2 h
  | some c => rfl
theorem frS_sg {F : FM} (mode : Nat) (mz : Bool) (q : Nat) {z : Int} (h : z = 0) : frS F z q mode mz = okS (sg F mz 0) := by unfold frS; rw [if_pos h]
section CR
variable {x : XS} {m : MS} {fl : List xmE} {F G : FM}
theorem XO.ok (c : Nat) : some (nI c, WB x m fl) = XO x m fl (okS c) := okS_ret c
theorem x_crossed {k k2 : Nat} (hF : XF fl k F) (hv : VF F) (hG : XF fl k2 G) (hv2 : VF G) {c mode : Nat} (hc : c < 2 ^ bits F) (hm : mode ≤ 5) :
    fX0_crossed (WB x m fl) (some 4) (some k) (nI c) (some k2) (nI mode) = XO x m fl (crS F c G mode) := by
  have kc := code_lt hv hc
  have hw := hF.w x m
  have hw2 := hG.w x m
  have rc := siz_r hv c
  have lc : LR (siz F c) := ⟨by omega, by omega⟩
  have e2 : (-2 : Int64) = lZ (-2) := rfl
  have e1 : (-1 : Int64) = lZ (-1) := rfl
  have e0 : (0 : Int64) = lZ 0 := rfl
  have c2 : (lg_cmp (lZ (siz F c)) (-2) = 0) ↔ siz F c = -2 := by rw [e2]; exact lc_eq lc ⟨by omega, by omega⟩
  have c1 : (lg_cmp (lZ (siz F c)) (-1) = 0) ↔ siz F c = -1 := by rw [e1]; exact lc_eq lc ⟨by omega, by omega⟩
  have c0 : (lg_cmp (lZ (siz F c)) 0 = 0) ↔ siz F c = 0 := by rw [e0]; exact lc_eq lc ⟨by omega, by omega⟩
  have ws : ∀ b : Bool, fX1_withSign (WB x m fl) (some k2) (bI b) 0 = some (nI (sg G b 0)) := fun b => x_withSign hw2 hv2 b (fP_pos G)
  have s1 := sc_le hv
  have s2 := sc_le hv2
  simp only [fX0_crossed, o_4, x_sizeOf hw hv (show c < 2 ^ 31 by omega), x_isMinus hw hv (show c < 2 ^ 31 by omega), x_noneCode hw2 hv2, x_beyond hw2 hv2, x_scale hw, x_scale hw2, Option.bind_some, c2, c1, c0, ws, ncI_9 hv2, x_invalid hG hv2, xmb2, sh_d _ (show sc G < 21 by omega) _ (show sc F < 21 by omega), sh_d _ (show sc F < 21 by omega) _ (show sc G < 21 by omega)]
  unfold crS
  cases hno : isNo F c with
  | true =>
    rw [if_pos ((siz_no c).mpr hno), if_pos rfl]
    by_cases hn : nc G = none
    · rw [if_pos hn, if_pos hn]; rfl
    · rw [if_neg hn, if_neg hn]
      unfold XO
      rw [rv_nc hn]
      show _ = some (_, WB (xinc x 0 0 0) m fl)
      rw [xinc_0]
  | false =>
    have n2 : ¬ siz F c = -2 := by rw [siz_no, hno]; decide
    rw [if_neg n2, if_neg (show ¬ (false = true) by decide)]
    cases hen : isEn F c with
    | true => rw [if_pos ((siz_en c).mpr hen), if_pos rfl]; exact XO.ok _
    | false =>
      have n1 : ¬ siz F c = -1 := by rw [siz_en, hen]; decide
      have hu := uz_sz hno hen
      rw [if_neg n1, if_neg (show ¬ (false = true) by decide)]
      by_cases h0 : siz F c = 0
      · rw [if_pos h0, frS_sg _ _ _ (by rw [hu, h0]; unfold sz; split <;> simp)]
        exact XO.ok _
      · rw [if_neg h0]
        have pw1 : 2 ^ (sc G - sc F) ≤ 1048576 := pw20 (by omega)
        have pw2 : 2 ^ (sc F - sc G) ≤ 1048576 := pw20 (by omega)
        have pw0 : 0 < 2 ^ (sc G - sc F) := Nat.two_pow_pos _
        rw [sl_Z _ (by omega), sl_one _ (by omega), lN_lZ]
        have hpos : 0 < siz F c * ((2 ^ (sc G - sc F) : Nat) : Int) := Int.mul_pos (by omega) (by omega)
        have hle : siz F c * ((2 ^ (sc G - sc F) : Nat) : Int) ≤ 2097152 * 1048576 := Int.mul_le_mul (by omega) (Int.ofNat_le.mpr pw1) (Int.natCast_nonneg _) (by omega)
        have huz : uz F c * ((2 ^ (sc G - sc F) : Nat) : Int) = sz (ng F c) (siz F c * ((2 ^ (sc G - sc F) : Nat) : Int)) := by
          rw [hu]; unfold sz; split
          · rw [Int.neg_mul]
          · rfl
        rw [huz]
        generalize siz F c * ((2 ^ (sc G - sc F) : Nat) : Int) = Z at hpos hle
        obtain ⟨z1, z2, z3⟩ := sz_pos (mi := ng F c) hpos
        rw [x_rz hG hv2 z1 (by unfold sz; split <;> omega) (q := 2 ^ (sc F - sc G)) (by omega) hm (ng F c) (by rw [z2]) (by rw [z3])]
        rfl
theorem m_crossed {j j2 : Nat} (hM : MA m j F) (hv : VF F) (hM2 : MA m j2 G) (hv2 : VF G) {c mode : Nat} (hc : c < 2 ^ bits F) (hm : mode ≤ 5) :
    MR (fX5_crossed (WB x m fl) (some 15) (nI j) (nI c) (nI j2) (nI mode)) x m fl (crS F c G mode) := by
  have kc := code_lt hv hc
  have hG := hM.g x fl
  have hG2 := hM2.g x fl
  have kd5 := kd_lt F c
  have hS := hv2.1
  have s1 := sc_le hv
  have s2 := sc_le hv2
  have hlt : (ncI G < 0) ↔ nc G = none := by
    rw [← Int32.not_le, ncI_ge hv2]; simp
  have hb : MR (if bI (ng F c) = 0 then (fX5_beyond (WB x m fl) (some 15) (nI j2) (bI (ng F c))).bind fun v12 => some (v12, WB x m fl) else if fS G = 0 then some ((0 : Int32), WB x m fl) else (fX5_beyond (WB x m fl) (some 15) (nI j2) (bI (ng F c))).bind fun v16 => some (v16, WB x m fl)) x m fl (okS (bey G (ng F c))) := by
    cases ng F c with
    | false =>
      rw [if_pos (show bI false = 0 from rfl), m_beyond hG2 hv2 (mi := false) rfl]; exact MR.ok _
    | true =>
      rw [if_neg (show ¬ bI true = 0 by decide)]
      by_cases hs : fS G = 0
      · rw [if_pos hs]
        have : bey G true = 0 := by unfold bey; rw [if_pos (by simp [hs])]
        rw [this]; exact MR.ok 0
      · rw [if_neg hs, m_beyond hG2 hv2 (mi := true) (by simp [hs])]; exact MR.ok _
  simp only [fX5_crossed, o_15, m_kindOf hG hv (show c < 2 ^ 31 by omega), m_isMinus hG hv hc, m_noneOf hG2 hv2, m_scale hG, m_scale hG2, m_unitsOf hG hv hc, g_15_1, a_16 hM2.1, hM2.2.1, Option.bind_some, nI_4' (show kd F c < 2 ^ 31 by omega), nI_3' (show kd F c < 2 ^ 31 by omega), kd_no, kd_end, hlt, nI_0' (show fS G < 2 ^ 31 by omega), (sh_le _ (show sc G < 21 by omega) _ (show sc F < 21 by omega)).1, xmb2_id]
  unfold crS
  cases hno : isNo F c with
  | true =>
    rw [if_pos rfl, if_pos rfl]
    by_cases hn : nc G = none
    · rw [if_pos hn, if_pos hn]; exact m_invalid hM2 hv2
    · rw [if_neg hn, if_neg hn]
      exact ⟨m, by rw [rv_nc hn], mDe.rf m⟩
  | false =>
    rw [if_neg (show ¬ (false = true) by decide), if_neg (show ¬ (false = true) by decide)]
    cases hen : isEn F c with
    | true => rw [if_pos rfl, if_pos rfl]; exact hb
    | false =>
      rw [if_neg (show ¬ (false = true) by decide), if_neg (show ¬ (false = true) by decide)]
      have hu := uz_sz hno hen
      have rc := siz_r hv c
      have pc := siz_num hno hen
      have hub : -2097152 ≤ uz F c ∧ uz F c ≤ 2097152 := by rw [hu]; unfold sz; split <;> omega
      simp only [fX5_crossed_L114, xmb2_id, (sh_le _ (show sc G < 21 by omega) _ (show sc F < 21 by omega)).2]
      by_cases h1 : sc G ≤ sc F
      · have e1 : sc G - sc F = 0 := by omega
        have pw2 : 2 ^ (sc F - sc G) ≤ 1048576 := pw20 (by omega)
        have hz : uz F c * ((2 ^ (sc G - sc F) : Nat) : Int) = uz F c := by rw [e1]; simp
        rw [hz, if_pos h1]
        by_cases h2 : sc F ≤ sc G
        · have e2 : sc F - sc G = 0 := by omega
          rw [if_pos h2, e2]
          exact m_frac hM2 hv2 ⟨by omega, by omega⟩ (q := 1) (by omega) hm (ng F c)
        · rw [if_neg h2, sh_n _ (by omega) _ (by omega) h1, sl_one _ (by omega), lN_lZ]
          exact m_frac hM2 hv2 ⟨by omega, by omega⟩ (by omega) hm (ng F c)
      · have e2 : sc F - sc G = 0 := by omega
        have pw1 : 2 ^ (sc G - sc F) ≤ 1048576 := pw20 (by omega)
        rw [if_neg h1, if_pos (show sc F ≤ sc G by omega), sh_s _ (by omega) _ (by omega) (by omega), sl_Z _ (by omega), e2]
        have hle : siz F c * ((2 ^ (sc G - sc F) : Nat) : Int) ≤ 2097152 * 1048576 := Int.mul_le_mul (by omega) (Int.ofNat_le.mpr pw1) (Int.natCast_nonneg _) (by omega)
        have hnn : 0 ≤ siz F c * ((2 ^ (sc G - sc F) : Nat) : Int) := Int.mul_nonneg pc (Int.natCast_nonneg _)
        have huz : uz F c * ((2 ^ (sc G - sc F) : Nat) : Int) = sz (ng F c) (siz F c * ((2 ^ (sc G - sc F) : Nat) : Int)) := by
          rw [hu]; unfold sz; split
          · rw [Int.neg_mul]
          · rfl
        rw [huz]
        exact m_frac hM2 hv2 (by unfold sz; split <;> omega) (q := 1) (by omega) hm (ng F c)
theorem x_fraction {k : Nat} (hF : XF fl k F) (hv : VF F) {p : Int} (hp : -1099511627776 ≤ p ∧ p ≤ 1099511627776) {q mode : Nat} (hq : q ≤ 2097152) (hm : mode ≤ 5) :
    fX0_fraction (WB x m fl) (some 4) (some k) (lZ p) (lZ (q : Int)) (nI mode) = XO x m fl (frS F (p * ((2 ^ sc F : Nat) : Int)) q mode false) := by
  have hw := hF.w x m
  have lp : LR p := ⟨by omega, by omega⟩
  have e0 : (0 : Int64) = lZ 0 := rfl
  have c0 : (lg_cmp (lZ p) 0 = 0) ↔ p = 0 := by rw [e0]; exact lc_eq lp ⟨by omega, by omega⟩
  have hpw := pw20 (sc_le hv)
  have hpw0 : 0 < 2 ^ sc F := Nat.two_pow_pos _
  have s1 := sc_le hv
  simp only [fX0_fraction, o_4, x_scale hw, Option.bind_some, c0, lZ_abs lp, lZ_neg0 lp, xmb2_id]
  by_cases h0 : p = 0
  · rw [if_pos h0, frS_sg _ _ _ (by rw [h0, Int.zero_mul]), show sg F false 0 = 0 from rfl]
    exact XO.ok 0
  · rw [if_neg h0, sl_Z _ (by omega)]
    have hle : (p.natAbs : Int) * ((2 ^ sc F : Nat) : Int) ≤ 1099511627776 * 1048576 := Int.mul_le_mul (by omega) (Int.ofNat_le.mpr hpw) (Int.natCast_nonneg _) (by omega)
    have hpos : 0 < (p.natAbs : Int) * ((2 ^ sc F : Nat) : Int) := Int.mul_pos (by omega) (by omega)
    have hz : p * ((2 ^ sc F : Nat) : Int) = sz (decide (p < 0)) ((p.natAbs : Int) * ((2 ^ sc F : Nat) : Int)) := by
      unfold sz
      by_cases h : p < 0
      · rw [decide_eq_true h, if_pos rfl, ← Int.neg_mul]; congr 1; omega
      · rw [decide_eq_false h, if_neg (by decide)]; congr 1; omega
    rw [hz]
    generalize (p.natAbs : Int) * ((2 ^ sc F : Nat) : Int) = Z at hle hpos
    obtain ⟨z1, z2, z3⟩ := sz_pos (mi := decide (p < 0)) hpos
    rw [x_rz hF hv z1 (by unfold sz; split <;> omega) hq hm false (by rw [z2]) (by rw [z3])]
    rfl
end CR
