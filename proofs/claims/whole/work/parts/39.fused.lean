/-! fused -/
def fuT (F : FM) (a b c : Nat) (q : Nat) : Int × Bool := if q = 0 then (szp F a b, ng F a != ng F b) else ((if siz F c < 0 then siz F c else siz F c * ((2 ^ sc F : Nat) : Int)), ng F c)
def fuZ (F : FM) (a b c mode : Nat) : Bool := if szp F a b = 0 ∧ (ng F a != ng F b) = ng F c then ng F c else eq3 mode
def fuS (F : FM) (a b c mode : Nat) : RS := exS F (fuT F a b c) (2 ^ sc F) mode (fuZ F a b c mode) 2 0 0 0
theorem fu_ok {F : FM} (hv : VF F) (a b c : Nat) : TOK F (fuT F a b c) := by
  intro q
  have hs := siz_r hv c
  have hp := szp_r hv a b
  have hpw := pw20 (sc_le hv)
  have hp0 : 0 < 2 ^ sc F := Nat.two_pow_pos _
  unfold fuT
  by_cases h0 : q = 0
  · rw [if_pos h0]
    exact ⟨hp.1, hp.2, fun e => szp_2 hv e, fun e => szp_1 hv e⟩
  · rw [if_neg h0]
    by_cases h1 : siz F c < 0
    · rw [if_pos h1]
      exact ⟨by show -3 ≤ siz F c; omega, by show siz F c ≤ _; omega, fun e => no_nc hv ((siz_no _).mp e), fun e => en_t0 ((siz_en _).mp e)⟩
    · rw [if_neg h1]
      have h2 : 0 ≤ siz F c * ((2 ^ sc F : Nat) : Int) := Int.mul_nonneg (by omega) (by omega)
      have h3 : siz F c * ((2 ^ sc F : Nat) : Int) ≤ 2097152 * 1048576 := Int.mul_le_mul (by omega) (Int.ofNat_le.mpr hpw) (by omega) (by omega)
      exact ⟨by show -3 ≤ siz F c * ((2 ^ sc F : Nat) : Int); omega, by show siz F c * ((2 ^ sc F : Nat) : Int) ≤ _; omega, fun e => by have e : siz F c * ((2 ^ sc F : Nat) : Int) = -2 := e; omega, fun e => by have e : siz F c * ((2 ^ sc F : Nat) : Int) = -1 := e; omega⟩
theorem fu_0 (F : FM) (a b c : Nat) : fuT F a b c 0 = (szp F a b, ng F a != ng F b) := rfl
theorem fu_1 (F : FM) (a b c : Nat) : fuT F a b c 1 = ((if siz F c < 0 then siz F c else siz F c * ((2 ^ sc F : Nat) : Int)), ng F c) := rfl
section EXS
variable {F : FM} {t : Nat → Int × Bool} {den mode : Nat} {mz : Bool} {d i e : Nat} {Z : Int}
theorem exS_no (h : (t i).1 = -2) : exS F t den mode mz (d + 1) i e Z = (nc F, 0, 0, 0) := by
  unfold exS; rw [if_pos h]
theorem exS_iv (h : (t i).1 = -3) : exS F t den mode mz (d + 1) i e Z = invS F := by
  unfold exS; rw [if_neg (by omega), if_pos h]
theorem exS_ei (h : (t i).1 = -1) (he : e = (if (t i).2 = true then 1 else 2)) : exS F t den mode mz (d + 1) i e Z = invS F := by
  unfold exS; rw [if_neg (by omega), if_neg (by omega), if_pos h, if_pos he]
theorem exS_en (h : (t i).1 = -1) (he : e ≠ (if (t i).2 = true then 1 else 2)) : exS F t den mode mz (d + 1) i e Z = exS F t den mode mz d (i + 1) (if (t i).2 = true then 2 else 1) Z := by
  show (if (t i).1 = -2 then _ else if (t i).1 = -3 then _ else if (t i).1 = -1 then _ else _) = _
  rw [if_neg (by omega), if_neg (by omega), if_pos h, if_neg he]
theorem exS_nu (h : 0 ≤ (t i).1) : exS F t den mode mz (d + 1) i e Z = exS F t den mode mz d (i + 1) e (Z + sz (t i).2 (t i).1) := by
  show (if (t i).1 = -2 then _ else if (t i).1 = -3 then _ else if (t i).1 = -1 then _ else _) = _
  rw [if_neg (by omega), if_neg (by omega), if_neg (by omega)]
theorem exS_z1 : exS F t den mode mz 0 i 1 Z = okS (bey F false) := rfl
theorem exS_z2 : exS F t den mode mz 0 i 2 Z = okS (bey F true) := rfl
theorem exS_z0 : exS F t den mode mz 0 i 0 Z = frS F Z den mode mz := rfl
theorem exS_zb (b : Bool) : exS F t den mode mz 0 i (if b = true then 2 else 1) Z = okS (bey F b) := by cases b <;> rfl
end EXS
/-- fused, by cases -/
theorem fu_ex {F : FM} (hv : VF F) (a b c mode : Nat) (mz : Bool) : exS F (fuT F a b c) (2 ^ sc F) mode mz 2 0 0 0 =
    if szp F a b = -3 then invS F else if szp F a b = -2 then (nc F, 0, 0, 0) else if siz F c = -2 then (nc F, 0, 0, 0)
    else if szp F a b = -1 ∧ siz F c = -1 ∧ (ng F a != ng F b) ≠ ng F c then invS F
    else if szp F a b = -1 ∨ siz F c = -1 then okS (bey F (if szp F a b = -1 then (ng F a != ng F b) else ng F c))
    else frS F (sz (ng F a != ng F b) (szp F a b) + sz (ng F c) (siz F c) * ((2 ^ sc F : Nat) : Int)) (2 ^ sc F) mode mz := by
  have hs := siz_r hv c
  have hp := szp_r hv a b
  have hp0 : 0 < 2 ^ sc F := Nat.two_pow_pos _
  have hn2 : 0 ≤ siz F c → 0 ≤ siz F c * ((2 ^ sc F : Nat) : Int) := fun h => Int.mul_nonneg h (by omega)
  have hsz : sz (ng F c) (siz F c) * ((2 ^ sc F : Nat) : Int) = sz (ng F c) (siz F c * ((2 ^ sc F : Nat) : Int)) := by
    unfold sz; split
    · rw [Int.neg_mul]
    · rfl
  have t0 : (fuT F a b c 0).1 = szp F a b := rfl
  have t0b : (fuT F a b c 0).2 = (ng F a != ng F b) := rfl
  have t1b : (fuT F a b c 1).2 = ng F c := rfl
  have t1n : siz F c < 0 → (fuT F a b c 1).1 = siz F c := fun h => by rw [fu_1]; exact if_pos h
  have t1p : ¬ siz F c < 0 → (fuT F a b c 1).1 = siz F c * ((2 ^ sc F : Nat) : Int) := fun h => by rw [fu_1]; exact if_neg h
  rw [hsz]
  by_cases p3 : szp F a b = -3
  · rw [exS_iv (t0.trans p3), if_pos p3]
  · rw [if_neg p3]
    by_cases p2 : szp F a b = -2
    · rw [exS_no (t0.trans p2), if_pos p2]
    · rw [if_neg p2]
      by_cases p1 : szp F a b = -1
      · have h0 : 0 ≠ (if (fuT F a b c 0).2 = true then 1 else 2) := by split <;> decide
        rw [exS_en (t0.trans p1) h0, t0b]
        by_cases c2 : siz F c = -2
        · rw [exS_no ((t1n (by omega)).trans c2), if_pos c2]
        · rw [if_neg c2]
          by_cases c1 : siz F c = -1
          · by_cases hne : (ng F a != ng F b) = ng F c
            · rw [if_neg (show ¬ (szp F a b = -1 ∧ siz F c = -1 ∧ (ng F a != ng F b) ≠ ng F c) from fun q => q.2.2 hne), if_pos (show szp F a b = -1 ∨ siz F c = -1 from Or.inl p1), if_pos p1]
              rw [exS_en ((t1n (by omega)).trans c1) (by rw [t1b, ← hne]; cases (ng F a != ng F b) <;> decide), exS_zb, t1b, hne]
            · rw [if_pos (show (szp F a b = -1 ∧ siz F c = -1 ∧ (ng F a != ng F b) ≠ ng F c) from ⟨p1, c1, hne⟩)]
              exact exS_ei ((t1n (by omega)).trans c1) (by rw [t1b]; revert hne; cases (ng F a != ng F b) <;> cases ng F c <;> decide)
          · rw [if_neg (show ¬ (szp F a b = -1 ∧ siz F c = -1 ∧ (ng F a != ng F b) ≠ ng F c) from fun q => c1 q.2.1), if_pos (show szp F a b = -1 ∨ siz F c = -1 from Or.inl p1), if_pos p1]
            rw [exS_nu (by rw [t1p (by omega)]; exact hn2 (by omega)), exS_zb]
      · rw [exS_nu (by rw [t0]; omega), t0, t0b, Int.zero_add]
        by_cases c2 : siz F c = -2
        · rw [exS_no ((t1n (by omega)).trans c2), if_pos c2]
        · rw [if_neg c2, if_neg (show ¬ (szp F a b = -1 ∧ siz F c = -1 ∧ (ng F a != ng F b) ≠ ng F c) from fun q => p1 q.1)]
          by_cases c1 : siz F c = -1
          · rw [if_pos (show szp F a b = -1 ∨ siz F c = -1 from Or.inr c1), if_neg p1]
            rw [exS_en ((t1n (by omega)).trans c1) (by split <;> decide), exS_zb, t1b]
          · rw [if_neg (show ¬ (szp F a b = -1 ∨ siz F c = -1) by omega)]
            rw [exS_nu (by rw [t1p (by omega)]; exact hn2 (by omega)), exS_z0, t1b, t1p (by omega)]
theorem fuS_eq {F : FM} (hv : VF F) (a b c mode : Nat) : fuS F a b c mode =
    if szp F a b = -3 then invS F else if szp F a b = -2 then (nc F, 0, 0, 0) else if siz F c = -2 then (nc F, 0, 0, 0)
    else if szp F a b = -1 ∧ siz F c = -1 ∧ (ng F a != ng F b) ≠ ng F c then invS F
    else if szp F a b = -1 ∨ siz F c = -1 then okS (bey F (if szp F a b = -1 then (ng F a != ng F b) else ng F c))
    else frS F (sz (ng F a != ng F b) (szp F a b) + sz (ng F c) (siz F c) * ((2 ^ sc F : Nat) : Int)) (2 ^ sc F) mode (fuZ F a b c mode) := fu_ex hv a b c mode _
section FU
variable {n : Nat} {Fs : Nat → FM} {x : XS} {m : MS} {fl : List xmE}
theorem x_fused {k : Nat} {F : FM} (hF : XF fl k F) (hv : VF F) {a b c mode : Nat} (ha : a < 2 ^ bits F) (hb : b < 2 ^ bits F) (hc : c < 2 ^ bits F) (hm : mode ≤ 5) : fX0_fusedOf (WB x m fl) (some 4) (some k) (nI a) (nI b) (nI c) (nI mode) = XO x m fl (fuS F a b c mode) := by
  have ka := code_lt hv ha
  have kb := code_lt hv hb
  have kc := code_lt hv hc
  have hw := hF.w x m
  have rp := szp_r hv a b
  have rc := siz_r hv c
  have hsc := sc_le hv
  have hpw := pw20 hsc
  have hp0 : 0 < 2 ^ sc F := Nat.two_pow_pos _
  have lp : LR (szp F a b) := ⟨by omega, by omega⟩
  have lc : LR (siz F c) := ⟨by omega, by omega⟩
  have p3 : (lg_cmp (lZ (szp F a b)) (-3) = 0) ↔ szp F a b = -3 := by rw [show (-3 : Int64) = lZ (-3) from rfl]; exact lc_eq lp ⟨by omega, by omega⟩
  have p2 : (lg_cmp (lZ (szp F a b)) (-2) = 0) ↔ szp F a b = -2 := by rw [show (-2 : Int64) = lZ (-2) from rfl]; exact lc_eq lp ⟨by omega, by omega⟩
  have p0 : (lg_cmp (lZ (szp F a b)) 0 = 0) ↔ szp F a b = 0 := by rw [show (0 : Int64) = lZ 0 from rfl]; exact lc_eq lp ⟨by omega, by omega⟩
  have c2 : (lg_cmp (lZ (siz F c)) (-2) = 0) ↔ siz F c = -2 := by rw [show (-2 : Int64) = lZ (-2) from rfl]; exact lc_eq lc ⟨by omega, by omega⟩
  have eos := x_eos (x := x) (m := m) hF hv (ng F a != ng F b) (ng F c) lp lc
  have hbl := bey_lt hv (if szp F a b = -1 then (ng F a != ng F b) else ng F c)
  have hbk := code_lt hv hbl
  rw [fuS_eq hv]
  unfold fX0_fusedOf
  rw [o_4, Option.bind_some, x_isMinus hw hv (show a < 2 ^ 31 by omega), Option.bind_some, x_isMinus hw hv (show b < 2 ^ 31 by omega), Option.bind_some, x_isMinus hw hv (show c < 2 ^ 31 by omega), Option.bind_some, x_sizeOfProduct hw hv (show a < 2 ^ 31 by omega) (show b < 2 ^ 31 by omega), Option.bind_some, x_sizeOf hw hv (show c < 2 ^ 31 by omega), Option.bind_some, bI_ne]
  by_cases q3 : szp F a b = -3
  · rw [if_pos (p3.mpr q3), if_pos q3, x_invalid hF hv, xmb2_s]; rfl
  · rw [if_neg (fun p => q3 (p3.mp p)), if_neg q3]
    have hno : nc F ≠ none → (fX1_noneCode (WB x m fl) (some k)).bind (fun v => some (v, WB x m fl)) = XO x m fl (nc F, 0, 0, 0) := by
      intro hn
      rw [x_noneCode hw hv, Option.bind_some]
      unfold XO
      rw [rv_nc hn]
      show _ = some (_, WB (xinc x 0 0 0) m fl)
      rw [xinc_0]
    by_cases q2 : szp F a b = -2
    · rw [if_pos (p2.mpr q2), if_pos q2]; exact hno (szp_2 hv q2)
    · rw [if_neg (fun p => q2 (p2.mp p)), if_neg q2]
      by_cases r2 : siz F c = -2
      · rw [if_pos (c2.mpr r2), if_pos r2]; exact hno (no_nc hv ((siz_no _).mp r2))
      · rw [if_neg (fun p => r2 (c2.mp p)), if_neg r2, eos]
        by_cases h1 : szp F a b = -1 ∧ siz F c = -1 ∧ (ng F a != ng F b) ≠ ng F c
        · rw [if_pos h1, if_pos h1]
          have hne : ¬ rv (invS F) = -9 := by
            rw [rv_inv]
            by_cases hn : nc F = none
            · rw [if_pos hn]; decide
            · rw [if_neg hn, ncI_9 hv]; exact hn
          rw [xmb2_s, if_neg hne]
          rfl
        · rw [if_neg h1, if_neg h1]
          by_cases h2 : szp F a b = -1 ∨ siz F c = -1
          · rw [if_pos h2, if_pos h2, xmb2_s, if_neg (nI_m9 (by omega))]
            exact XO.ok _
          · rw [if_neg h2, if_neg h2, xmb2_s, if_pos rfl, x_signed, Option.bind_some, x_signed, Option.bind_some, x_scale hw, Option.bind_some, sl_Z _ (by omega), lZ_add]
            have hsa : -4398046511104 ≤ sz (ng F a != ng F b) (szp F a b) ∧ sz (ng F a != ng F b) (szp F a b) ≤ 4398046511104 := by unfold sz; split <;> omega
            have hcs : siz F c * ((2 ^ sc F : Nat) : Int) ≤ 2097152 * 1048576 := Int.mul_le_mul (by omega) (Int.ofNat_le.mpr hpw) (by omega) (by omega)
            have hcs0 : 0 ≤ siz F c * ((2 ^ sc F : Nat) : Int) := Int.mul_nonneg (by omega) (by omega)
            have hsz : sz (ng F c) (siz F c) * ((2 ^ sc F : Nat) : Int) = sz (ng F c) (siz F c * ((2 ^ sc F : Nat) : Int)) := by
              unfold sz; split
              · rw [Int.neg_mul]
              · rfl
            have hsb : -2199023255552 ≤ sz (ng F c) (siz F c) * ((2 ^ sc F : Nat) : Int) ∧ sz (ng F c) (siz F c) * ((2 ^ sc F : Nat) : Int) ≤ 2199023255552 := by rw [hsz]; unfold sz; split <;> omega
            have lab : LR (sz (ng F a != ng F b) (szp F a b) + sz (ng F c) (siz F c) * ((2 ^ sc F : Nat) : Int)) := ⟨by omega, by omega⟩
            have q0 : (lg_cmp (lZ (sz (ng F a != ng F b) (szp F a b) + sz (ng F c) (siz F c) * ((2 ^ sc F : Nat) : Int))) 0 = 0) ↔ sz (ng F a != ng F b) (szp F a b) + sz (ng F c) (siz F c) * ((2 ^ sc F : Nat) : Int) = 0 := by rw [show (0 : Int64) = lZ 0 from rfl]; exact lc_eq lab ⟨by omega, by omega⟩
            by_cases h3 : sz (ng F a != ng F b) (szp F a b) + sz (ng F c) (siz F c) * ((2 ^ sc F : Nat) : Int) = 0
            · have hx3 : (if nI mode = 3 then (1 : Int32) else 0) = bI (eq3 mode) := by
                simp only [nI_3' (show mode < 2 ^ 31 by omega)]; rw [bI_if]; rfl
              have ws : ∀ b : Bool, fX1_withSign (WB x m fl) (some k) (bI b) 0 = some (nI (sg F b 0)) := fun b => x_withSign hw hv b (fP_pos F)
              rw [if_pos (q0.mpr h3), hx3, ws, Option.bind_some, ws, Option.bind_some, frS_sg _ _ _ h3]
              unfold fuZ
              by_cases h4 : szp F a b = 0
              · rw [if_pos (p0.mpr h4)]
                by_cases h5 : (ng F a != ng F b) = ng F c
                · rw [if_pos ((bI_eq _ _).mpr h5), if_pos ⟨h4, h5⟩]; exact XO.ok _
                · rw [if_neg (fun p => h5 ((bI_eq _ _).mp p)), if_neg (fun p => h5 p.2)]; exact XO.ok _
              · rw [if_neg (fun p => h4 (p0.mp p)), if_neg (fun p => h4 p.1)]; exact XO.ok _
            · rw [if_neg (fun p => h3 (q0.mp p)), Option.bind_some, sl_one _ (by omega), lN_lZ, x_rz hF hv h3 ⟨by omega, by omega⟩ (q := 2 ^ sc F) (by omega) hm (fuZ F a b c mode) (lZ_neg0 lab) (lZ_abs lab), xmb2_s]
              rfl
theorem CS.d {F : FM} {t : Int × Bool} {e : Nat} {Z : Int} {m m' : MS} (h : CS F t e Z m m') : ∃ v, mDf m m' 0 0 v := by
  unfold CS at h
  by_cases q2 : t.1 = -2
  · rw [if_pos q2] at h; exact ⟨_, h.1⟩
  · rw [if_neg q2] at h
    by_cases q3 : t.1 = -3
    · rw [if_pos q3] at h; exact ⟨_, h.1⟩
    · rw [if_neg q3] at h
      by_cases q1 : t.1 = -1
      · rw [if_pos q1] at h
        by_cases qe : e = (if t.2 = true then 1 else 2)
        · rw [if_pos qe] at h; exact ⟨_, h.1⟩
        · rw [if_neg qe] at h; exact ⟨_, h.1⟩
      · rw [if_neg q1] at h; exact ⟨_, h.1⟩
def fuM (F : FM) (a b c mode : Nat) : Bool := if szp F a b = 0 ∧ mg F c = 0 ∧ (ng F a != ng F b) = ng F c then (ng F a != ng F b) else eq3 mode
theorem m_L97 {j : Nat} {F : FM} (hM : MA m j F) (hv : VF F) {a b c mode : Nat} (ha : a < 2 ^ bits F) (hb : b < 2 ^ bits F) (hc : c < 2 ^ bits F) (hm : mode ≤ 5) (z : Bool) {m2 : MS} (hM2 : MA m2 j F) (hcm : fX5_comes (WB x m fl) (some 15) (nI j) (nI c) (lZ ((2 ^ sc F : Nat) : Int)) = some (WB x m2 fl)) : fX5_fused_L97 (WB x m fl) (some 15) (nI j) (nI a) (nI b) (nI c) (nI mode) (bI z) = FE (fX5_whatCame (WB x m2 fl) (some 15) (nI j) (lZ ((2 ^ sc F : Nat) : Int)) (nI mode) (bI (if z = true ∧ mg F c = 0 ∧ (ng F a != ng F b) = ng F c then (ng F a != ng F b) else eq3 mode))) := by
  have kc := code_lt hv hc
  have hG := hM.g x fl
  have hG2 := hM2.g x fl
  have hsc := sc_le hv
  have hml := mg_lt F c
  have hp := hv.p
  have hx3 : (if nI mode = 3 then (1 : Int32) else 0) = bI (eq3 mode) := by
    simp only [nI_3' (show mode < 2 ^ 31 by omega)]; rw [bI_if]; rfl
  have h167 : ∀ (s : Bool), fX5_fused_L167 (WB x m2 fl) (some 15) (nI j) (nI mode) (bI (ng F a != ng F b)) (bI s) = FE (fX5_whatCame (WB x m2 fl) (some 15) (nI j) (lZ ((2 ^ sc F : Nat) : Int)) (nI mode) (bI (if s = true then (ng F a != ng F b) else eq3 mode))) := by
    intro s
    unfold fX5_fused_L167
    rw [m_scale hG2, Option.bind_some, sl_one _ (by omega), lN_lZ, hx3]
    unfold FE
    cases s with
    | false =>
      rw [if_pos (show bI false = 0 from rfl), if_neg (show ¬ (false = true) by decide)]
      congr 1
      funext v w
      exact xmb2_id _
    | true =>
      rw [if_neg (show ¬ bI true = 0 by decide), if_pos rfl]
      congr 1
      funext v w
      exact xmb2_id _
  have h166 : fX5_fused_L166 (WB x m2 fl) (some 15) (nI j) (nI mode) (bI (ng F a != ng F b)) = FE (fX5_whatCame (WB x m2 fl) (some 15) (nI j) (lZ ((2 ^ sc F : Nat) : Int)) (nI mode) (bI (eq3 mode))) := h167 false
  unfold fX5_fused_L97
  rw [m_isMinus hG hv ha, Option.bind_some, m_isMinus hG hv hb, Option.bind_some, m_scale hG, Option.bind_some, sl_one _ (by omega), lN_lZ, hcm, Option.bind_some, bI_ne, h166]
  cases z with
  | false => rw [if_pos (show bI false = 0 from rfl), if_neg (fun q => by cases q.1)]
  | true =>
    rw [if_neg (show ¬ bI true = 0 by decide), m_plain hG2 hv (show c < 2 ^ 31 by omega), Option.bind_some, m_isMinus hG2 hv hc, Option.bind_some]
    have m0 := nI_0' (show mg F c < 2 ^ 31 by omega)
    by_cases q : mg F c = 0
    · rw [if_pos (m0.mpr q)]
      have : (if bI (ng F a != ng F b) = bI (ng F c) then (1 : Int32) else 0) = bI (decide ((ng F a != ng F b) = ng F c)) := by
        simp only [bI_eq]; exact bI_if _
      rw [this, h167]
      by_cases q2 : (ng F a != ng F b) = ng F c
      · rw [decide_eq_true q2, if_pos rfl, if_pos ⟨rfl, q, q2⟩]
      · rw [decide_eq_false q2, if_neg (by decide), if_neg (fun p => q2 p.2.2)]
    · rw [if_neg (fun p => q (m0.mp p)), if_neg (fun p => q p.2.1)]
theorem fu_mz {F : FM} (hv : VF F) (a b c mode : Nat) : exS F (fuT F a b c) (2 ^ sc F) mode (fuM F a b c mode) 2 0 0 0 = fuS F a b c mode := by
  rw [fu_ex hv, fuS_eq hv]
  have fr : ¬ siz F c = -2 → ¬ (szp F a b = -1 ∨ siz F c = -1) → frS F (sz (ng F a != ng F b) (szp F a b) + sz (ng F c) (siz F c) * ((2 ^ sc F : Nat) : Int)) (2 ^ sc F) mode (fuM F a b c mode) = frS F (sz (ng F a != ng F b) (szp F a b) + sz (ng F c) (siz F c) * ((2 ^ sc F : Nat) : Int)) (2 ^ sc F) mode (fuZ F a b c mode) := by
    intro c2 hne
    refine frS_mz (fun q => ?_)
    have rc := siz_r hv c
    have hp0 : 0 < 2 ^ sc F := Nat.two_pow_pos _
    unfold fuM fuZ
    by_cases h1 : szp F a b = 0
    · have hsc : siz F c = 0 := by
        by_cases h : siz F c = 0
        · exact h
        · exfalso
          have hpos : 0 < siz F c * ((2 ^ sc F : Nat) : Int) := Int.mul_pos (by omega) (by omega)
          rw [h1] at q
          unfold sz at q
          split at q <;> split at q <;> (try rw [Int.neg_mul] at q) <;> omega
      have h2 : mg F c = 0 := (mg0 hv c).mpr hsc
      by_cases h3 : (ng F a != ng F b) = ng F c
      · rw [if_pos ⟨h1, h2, h3⟩, if_pos ⟨h1, h3⟩]; exact h3
      · rw [if_neg (fun p => h3 p.2.2), if_neg (fun p => h3 p.2)]
    · rw [if_neg (fun p => h1 p.1), if_neg (fun p => h1 p.1)]
  by_cases p3 : szp F a b = -3
  · rw [if_pos p3, if_pos p3]
  · rw [if_neg p3, if_neg p3]
    by_cases p2 : szp F a b = -2
    · rw [if_pos p2, if_pos p2]
    · rw [if_neg p2, if_neg p2]
      by_cases c2 : siz F c = -2
      · rw [if_pos c2, if_pos c2]
      · rw [if_neg c2, if_neg c2]
        by_cases h1 : szp F a b = -1 ∧ siz F c = -1 ∧ (ng F a != ng F b) ≠ ng F c
        · rw [if_pos h1, if_pos h1]
        · rw [if_neg h1, if_neg h1]
          by_cases h2 : szp F a b = -1 ∨ siz F c = -1
          · rw [if_pos h2, if_pos h2]
          · rw [if_neg h2, if_neg h2]
            exact fr c2 h2
end FU
