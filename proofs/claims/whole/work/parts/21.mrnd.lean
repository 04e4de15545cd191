/-! the reference's rounding -/
def minc (m : MS) (i o v : Nat) : MS := (fun k => if k = 18 then m.1 18 + nI i else if k = 19 then m.1 19 + nI o else if k = 16 then m.1 16 + nI v else m.1 k, m.2)
theorem minc_0 (m : MS) : minc m 0 0 0 = m := by
  refine Prod.ext (funext fun k => ?_) rfl
  show (if k = 18 then m.1 18 + nI 0 else if k = 19 then m.1 19 + nI 0 else if k = 16 then m.1 16 + nI 0 else m.1 k) = m.1 k
  rw [nI_zz, Int32.add_zero, Int32.add_zero, Int32.add_zero]
  split
  · rename_i h; rw [h]
  · split
    · rename_i h; rw [h]
    · split
      · rename_i h; rw [h]
      · rfl
theorem minc_i (m : MS) : mset m 18 (m.1 18 + 1) = minc m 1 0 0 := by
  refine Prod.ext (funext fun k => ?_) rfl
  show (if k = 18 then m.1 18 + 1 else m.1 k) = (if k = 18 then m.1 18 + nI 1 else if k = 19 then m.1 19 + nI 0 else if k = 16 then m.1 16 + nI 0 else m.1 k)
  rw [nI_zz, Int32.add_zero, Int32.add_zero]
  by_cases h5 : k = 18
  · simp only [if_pos h5]; rfl
  · simp only [if_neg h5]
    split
    · rename_i h; rw [h]
    · split
      · rename_i h; rw [h]
      · rfl
theorem minc_o (m : MS) : mset m 19 (m.1 19 + 1) = minc m 0 1 0 := by
  refine Prod.ext (funext fun k => ?_) rfl
  show (if k = 19 then m.1 19 + 1 else m.1 k) = (if k = 18 then m.1 18 + nI 0 else if k = 19 then m.1 19 + nI 1 else if k = 16 then m.1 16 + nI 0 else m.1 k)
  rw [nI_zz, Int32.add_zero, Int32.add_zero]
  by_cases h5 : k = 19
  · simp only [if_pos h5, if_neg (show ¬ k = 18 by omega)]; rfl
  · simp only [if_neg h5]
    split
    · rename_i h; rw [h]
    · split
      · rename_i h; rw [h]
      · rfl
theorem minc_v (m : MS) : mset m 16 (m.1 16 + 1) = minc m 0 0 1 := by
  refine Prod.ext (funext fun k => ?_) rfl
  show (if k = 16 then m.1 16 + 1 else m.1 k) = (if k = 18 then m.1 18 + nI 0 else if k = 19 then m.1 19 + nI 0 else if k = 16 then m.1 16 + nI 1 else m.1 k)
  rw [nI_zz, Int32.add_zero, Int32.add_zero]
  by_cases h5 : k = 16
  · simp only [if_pos h5, if_neg (show ¬ k = 18 by omega), if_neg (show ¬ k = 19 by omega)]; rfl
  · simp only [if_neg h5]
    split
    · rename_i h; rw [h]
    · split
      · rename_i h; rw [h]
      · rfl
theorem minc_a (m : MS) (i o v i2 o2 v2 : Nat) : minc (minc m i o v) i2 o2 v2 = minc m (i + i2) (o + o2) (v + v2) := by
  refine Prod.ext (funext fun k => ?_) rfl
  show (if k = 18 then (m.1 18 + nI i) + nI i2 else if k = 19 then (m.1 19 + nI o) + nI o2 else if k = 16 then (m.1 16 + nI v) + nI v2 else (if k = 18 then m.1 18 + nI i else if k = 19 then m.1 19 + nI o else if k = 16 then m.1 16 + nI v else m.1 k)) = (if k = 18 then m.1 18 + nI (i + i2) else if k = 19 then m.1 19 + nI (o + o2) else if k = 16 then m.1 16 + nI (v + v2) else m.1 k)
  rw [Int32.add_assoc, Int32.add_assoc, Int32.add_assoc, nI_add, nI_add, nI_add]
  by_cases h5 : k = 18
  · simp only [if_pos h5]
  · simp only [if_neg h5]
    by_cases h6 : k = 19
    · simp only [if_pos h6]
    · simp only [if_neg h6]
      by_cases h7 : k = 16
      · simp only [if_pos h7]
      · simp only [if_neg h7]
/-- what the size at hand is against halves -/
def CM (m : MS) (cm : Int → Int) : Prop := (∀ t, IR (cm t)) ∧ ∀ (x : XS) (fl : List xmE) (m' : MS), m'.1 20 = m.1 20 → m'.2.1 = m.2.1 → ∀ t : Int, 0 ≤ t → t < 8388608 → fX5_twiceBeside (WB x m' fl) (some 15) (lZ t) = some (iZ (cm t))
theorem CM_q {m : MS} {num den : Nat} (h0 : m.1 20 = 0) (h1 : m.2.1 21 = lZ (num : Int)) (h2 : m.2.1 22 = lZ (den : Int)) (hn : num < 2 ^ 61) (hd : den ≤ 2097152) : CM m (cq num den) := by
  refine ⟨fun t => cmp3_r _ _, fun x fl m' e0 e1 t t0 t1 => ?_⟩
  have hden : (den : Int) ≤ 2097152 := by omega
  have ht3 : t * (den : Int) ≤ 8388608 * 2097152 := Int.mul_le_mul (by omega) hden (by omega) (by omega)
  have ht4 : 0 ≤ t * (den : Int) := Int.mul_nonneg t0 (by omega)
  simp only [fX5_twiceBeside, fX5_twiceBeside_L26, fX5_twiceBeside_L46, o_15, g_15_20, g_15_21, g_15_22, Option.bind_some, e0, h0, e1, h1, h2, if_true]
  rw [show (2 : Int64) = lZ 2 from rfl, lZ_mul, lZ_mul]
  have r1 : LR (2 * (num : Int)) := ⟨by omega, by omega⟩
  have r2 : LR (t * (den : Int)) := ⟨by omega, by omega⟩
  simp only [lc_ge r1 r2, lc_le r1 r2]
  unfold cq cmp3
  by_cases q1 : 2 * (num : Int) < t * (den : Int)
  · rw [if_neg (show ¬ t * (den : Int) ≤ 2 * (num : Int) by omega), if_pos q1]; rfl
  · rw [if_pos (show t * (den : Int) ≤ 2 * (num : Int) by omega), if_neg q1]
    by_cases q2 : 2 * (num : Int) = t * (den : Int)
    · rw [if_pos (show 2 * (num : Int) ≤ t * (den : Int) by omega), if_pos q2]; rfl
    · rw [if_neg (show ¬ 2 * (num : Int) ≤ t * (den : Int) by omega), if_neg q2]; rfl
/-- a root against halves -/
def crt (X : Nat) : Int → Int := fun t => cmp3 (4 * (X : Int)) (t * t)
theorem CM_r {m : MS} {X : Nat} (h0 : m.1 20 = 1) (h1 : m.2.1 21 = lZ (X : Int)) (hn : X < 2 ^ 60) : CM m (crt X) := by
  refine ⟨fun t => cmp3_r _ _, fun x fl m' e0 e1 t t0 t1 => ?_⟩
  have ht3 : t * t ≤ 8388608 * 8388608 := Int.mul_le_mul (by omega) (by omega) (by omega) (by omega)
  have ht4 : 0 ≤ t * t := Int.mul_nonneg t0 t0
  have hne : ¬ (1 : Int32) = 0 := by decide
  simp only [fX5_twiceBeside, fX5_twiceBeside_L26, fX5_twiceBeside_L46, o_15, g_15_20, g_15_21, Option.bind_some, e0, h0, e1, h1, if_neg hne]
  rw [show (4 : Int64) = lZ 4 from rfl, lZ_mul, lZ_mul]
  have r1 : LR (4 * (X : Int)) := ⟨by omega, by omega⟩
  have r2 : LR (t * t) := ⟨by omega, by omega⟩
  simp only [lc_ge r1 r2, lc_le r1 r2]
  unfold crt cmp3
  by_cases q1 : 4 * (X : Int) < t * t
  · rw [if_neg (show ¬ t * t ≤ 4 * (X : Int) by omega), if_pos q1]; rfl
  · rw [if_pos (show t * t ≤ 4 * (X : Int) by omega), if_neg q1]
    by_cases q2 : 4 * (X : Int) = t * t
    · rw [if_pos (show 4 * (X : Int) ≤ t * t by omega), if_pos q2]; rfl
    · rw [if_neg (show ¬ 4 * (X : Int) ≤ t * t by omega), if_neg q2]; rfl
theorem m_rAbove {x : XS} {m : MS} {fl : List xmE} {j : Nat} {F : FM} (hM : MA m j F) (hv : VF F) {cm : Int → Int} (hC : CM m cm) (mi : Bool) (hq : (mi && decide (fS F = 0)) = false) {mode : Nat} (hm : mode ≤ 5) :
    fX5_roundedAbove (WB x m fl) (some 15) (nI j) (bI mi) (nI mode) = some (nI (if go mode (gr F) mi true (cm (tm F (gr F))) = true then bey F mi else sg F mi (gr F)), WB x (minc m 1 1 0) fl) := by
  have hg := gr_lt hv
  have hp := hv.p
  have hm31 : mode < 2 ^ 31 := by omega
  obtain ⟨t1, t2⟩ := tm_r hv (Nat.le_refl (gr F))
  have e1 : mset m 18 (m.1 18 + 1) = minc m 1 0 0 := minc_i m
  have e2 : mset (mset m 18 (m.1 18 + 1)) 19 ((mset m 18 (m.1 18 + 1)).1 19 + 1) = minc m 1 1 0 := by rw [minc_o, minc_i, minc_a]
  have hM2 : MA (minc m 1 1 0) j F := hM
  have hG := hM2.g x fl
  have hc := hC.2 x fl (minc m 1 1 0) rfl rfl (tm F (gr F)) t1 t2
  have L130 : ∀ b : Bool, fX5_roundedAbove_L130 (WB x (minc m 1 1 0) fl) (some 15) (nI j) (bI mi) (bI b) = some (nI (if b = true then bey F mi else sg F mi (gr F)), WB x (minc m 1 1 0) fl) := by
    intro b
    simp only [fX5_roundedAbove_L130, m_great hG hv, m_signed hG hv mi (show gr F < fP F by omega), m_beyond hG hv hq, Option.bind_some, bI_0]
    cases b <;> rfl
  have htm : tm F (gr F) = 3 * (fM F (gr F) : Int) - fM F (gr F - 1) := by unfold tm; rw [if_pos rfl]
  have hir := hC.1 (tm F (gr F))
  have L44 : fX5_roundedAbove_L44 (WB x (minc m 1 1 0) fl) (some 15) (nI j) (bI mi) (lZ (fM F (gr F))) = some (nI (if decide (0 ≤ cm (tm F (gr F))) = true then bey F mi else sg F mi (gr F)), WB x (minc m 1 1 0) fl) := by
    simp only [fX5_roundedAbove_L44, m_last hG hv, m_size hG hv (show gr F - 1 < fP F by omega), Option.bind_some]
    rw [show (3 : Int64) = lZ 3 from rfl, lZ_mul, lZ_sub, ← htm, hc]
    simp only [Option.bind_some]
    rw [bI_ifn, L130]
    congr 3
    have z0 : (0 : Int32) = iZ 0 := rfl
    have c3 : (iZ (cm (tm F (gr F))) < 0) ↔ cm (tm F (gr F)) < 0 := by rw [z0, iZ_lt hir ⟨by omega, by omega⟩]
    by_cases h1 : cm (tm F (gr F)) < 0
    · rw [decide_eq_true (c3.mpr h1), decide_eq_false (show ¬ 0 ≤ cm (tm F (gr F)) by omega)]; rfl
    · rw [decide_eq_false (fun q => h1 (c3.mp q)), decide_eq_true (show 0 ≤ cm (tm F (gr F)) by omega)]; rfl
  simp only [fX5_roundedAbove, o_15, g_15_18, g_15_19, p_15_18, p_15_19, Option.bind_some, e2]
  simp only [m_great hG hv, m_size hG hv (show gr F < fP F by omega), Option.bind_some, nI_0' hm31, nI_1' hm31, nI_2' hm31, nI_3' hm31, nI_4' hm31, L44, and_1 (show gr F < 2 ^ 31 by omega), nI_0' (show gr F % 2 < 2 ^ 31 by omega), bI_0, bI_if]
  unfold go
  by_cases m0 : mode = 0
  · simp only [if_pos m0]
    congr 3
    by_cases h1 : 0 < cm (tm F (gr F))
    · simp [h1, Int.le_of_lt h1]
    · by_cases h2 : cm (tm F (gr F)) = 0
      · simp [h2]
      · rw [decide_eq_false (show ¬ 0 ≤ cm (tm F (gr F)) by omega), decide_eq_false h1, decide_eq_false h2]; rfl
  · simp only [if_neg m0]
    by_cases m1 : mode = 1
    · simp only [if_pos m1]
    · simp only [if_neg m1]
      by_cases m3 : mode = 3
      · simp only [if_pos m3, L130]
      · simp only [if_neg m3]
        by_cases m4 : mode = 4
        · simp only [if_pos m4]
          have hb : bI (decide (mi = false)) = bI (!mi) := by cases mi <;> rfl
          rw [hb, L130]
        · simp only [if_neg m4]
          by_cases m2 : mode = 2
          · simp only [if_pos m2, if_neg (show ¬ mode = 5 by omega)]
            exact L130 false
          · simp only [if_neg m2, if_pos (show mode = 5 by omega)]
            rw [L130]
theorem m_rBetween {x : XS} {m : MS} {fl : List xmE} {j : Nat} {F : FM} (hM : MA m j F) (hv : VF F) {cm : Int → Int} (hC : CM m cm) (mi : Bool) {mode T : Nat} (hm : mode ≤ 5) (hT : T ≤ gr F) (hTg : cm (2 * (fM F T : Int)) ≠ 0 → T < gr F) :
    fX5_rounded_L94 (WB x m fl) (some 15) (nI j) (bI mi) (nI mode) (nI T) = (if cm (2 * (fM F T : Int)) = 0 then some (nI (sg F mi T), WB x m fl) else some (nI (if go mode T mi (decide (T % 2 = 1)) (cm ((fM F T : Int) + (fM F (T + 1) : Int))) = true then sg F mi (T + 1) else sg F mi T), WB x (minc m 1 0 0) fl)) := by
  have hg := gr_lt hv
  have hp := hv.p
  have hm31 : mode < 2 ^ 31 := by omega
  have hG := hM.g x fl
  have ht := fM_top hv (m := T) (by omega)
  have hc := hC.2 x fl m rfl rfl (2 * (fM F T : Int)) (by omega) (by omega)
  have z0 : (0 : Int32) = iZ 0 := rfl
  have r0 : IR 0 := ⟨by omega, by omega⟩
  have hi1 := hC.1 (2 * (fM F T : Int))
  have hi2 := hC.1 ((fM F T : Int) + (fM F (T + 1) : Int))
  have c0 : (iZ (cm (2 * (fM F T : Int))) = 0) ↔ cm (2 * (fM F T : Int)) = 0 := by rw [z0, iZ_eq hi1 r0]
  simp only [fX5_rounded_L94, m_size hG hv (show T < fP F by omega), Option.bind_some]
  rw [show (2 : Int64) = lZ 2 from rfl, lZ_mul, hc]
  simp only [Option.bind_some, c0]
  by_cases he : cm (2 * (fM F T : Int)) = 0
  · simp only [if_pos he, m_signed hG hv mi (show T < fP F by omega), Option.bind_some]
  · simp only [if_neg he, g_15_18, p_15_18, Option.bind_some, minc_i]
    have hTl := hTg he
    have hM2 : MA (minc m 1 0 0) j F := hM
    have hG2 := hM2.g x fl
    have ht2 := fM_top hv (m := T + 1) (by omega)
    have hc2 := hC.2 x fl (minc m 1 0 0) rfl rfl ((fM F T : Int) + (fM F (T + 1) : Int)) (by omega) (by omega)
    generalize cm ((fM F T : Int) + (fM F (T + 1) : Int)) = half at hi2 hc2
    have c1 : (0 < iZ half) ↔ 0 < half := by rw [z0, iZ_lt r0 hi2]
    have c2 : (iZ half = 0) ↔ half = 0 := by rw [z0, iZ_eq hi2 r0]
    have c3 : (iZ half < 0) ↔ half < 0 := by rw [z0, iZ_lt hi2 r0]
    simp only [nI_1, m_size hG2 hv (show T < fP F by omega), m_size hG2 hv (show T + 1 < fP F by omega), Option.bind_some, lZ_add, hc2, fX5_rounded_L213, fX5_rounded_L218, m_signed hG2 hv mi (show T < fP F by omega), m_signed hG2 hv mi (show T + 1 < fP F by omega), nI_0' hm31, nI_1' hm31, nI_2' hm31, nI_3' hm31, nI_4' hm31, c1, c2, c3, and_1 (show T + 1 < 2 ^ 31 by omega), nI_0' (show (T + 1) % 2 < 2 ^ 31 by omega), nI_1' (show (T + 1) % 2 < 2 ^ 31 by omega), bI_0]
    unfold go
    by_cases m0 : mode = 0
    · simp only [if_pos m0]
      by_cases h1 : 0 < half
      · simp [h1]
      · by_cases h2 : half = 0
        · by_cases h3 : T % 2 = 1
          · simp [h2, h3, show (T + 1) % 2 = 0 by omega]
          · simp [h2, h3, show ¬ (T + 1) % 2 = 0 by omega]
        · simp [h1, h2]
    · simp only [if_neg m0]
      by_cases m1 : mode = 1
      · simp only [if_pos m1]
        by_cases h1 : half < 0
        · simp [h1, show ¬ 0 ≤ half by omega]
        · simp [h1, show 0 ≤ half by omega]
      · simp only [if_neg m1]
        by_cases m2 : mode = 2
        · simp [m2]
        · simp only [if_neg m2]
          by_cases m3 : mode = 3
          · simp only [if_pos m3]; cases mi <;> rfl
          · simp only [if_neg m3]
            by_cases m4 : mode = 4
            · simp only [if_pos m4]; cases mi <;> rfl
            · simp only [if_neg m4, if_pos (show mode = 5 by omega)]
              by_cases h3 : T % 2 = 0
              · simp [h3, show (T + 1) % 2 = 1 by omega]
              · simp [h3, show ¬ (T + 1) % 2 = 1 by omega]
theorem m_rounded {x : XS} {m : MS} {fl : List xmE} {j : Nat} {F : FM} (hM : MA m j F) (hv : VF F) {cm : Int → Int} (hC : CM m cm) (hmo : ∀ i, i ≤ gr F → ((0 ≤ cm (2 * (fM F i : Int))) ↔ i ≤ lowOf F cm)) (mi : Bool) {mode : Nat} (hm : mode ≤ 5) :
    fX5_rounded (WB x m fl) (some 15) (nI j) (bI mi) (nI mode) = some (nI (rnd F mi mode cm).1, WB x (minc m (rnd F mi mode cm).2.1 (rnd F mi mode cm).2.2 0) fl) := by
  have hg := gr_lt hv
  have hp := hv.p
  have hS := hv.1
  have hG := hM.g x fl
  have hT := lowOf_le F cm
  have z0 : (0 : Int32) = iZ 0 := rfl
  have r0 : IR 0 := ⟨by omega, by omega⟩
  have L25 : (mi && decide (fS F = 0)) = false → fX5_rounded_L25 (WB x m fl) (some 15) (nI j) (bI mi) (nI mode) = some (nI (rnd F mi mode cm).1, WB x (minc m (rnd F mi mode cm).2.1 (rnd F mi mode cm).2.2 0) fl) := by
    intro hq
    have ht := fM_top hv (m := gr F) (by omega)
    have hc := hC.2 x fl m rfl rfl (2 * (fM F (gr F) : Int)) (by omega) (by omega)
    have hi := hC.1 (2 * (fM F (gr F) : Int))
    have c1 : (iZ (cm (2 * (fM F (gr F) : Int))) ≤ 0) ↔ cm (2 * (fM F (gr F) : Int)) ≤ 0 := by rw [z0, iZ_le hi r0]
    simp only [fX5_rounded_L25, m_great hG hv, m_size hG hv (show gr F < fP F by omega), Option.bind_some]
    rw [show (2 : Int64) = lZ 2 from rfl, lZ_mul, hc]
    simp only [Option.bind_some, c1]
    have hmg := hmo (gr F) (Nat.le_refl _)
    unfold rnd
    simp only [hq, Bool.false_eq_true, if_false]
    by_cases hov : cm (2 * (fM F (gr F) : Int)) ≤ 0
    · rw [if_pos hov]
      have loop : ∀ (d n i : Nat), d < n → i + d = lowOf F cm → fX5_rounded_L61 n (WB x m fl) (some 15) (nI j) (bI mi) (nI mode) (nI (gr F)) (nI i) = fX5_rounded_L94 (WB x m fl) (some 15) (nI j) (bI mi) (nI mode) (nI (lowOf F cm)) := by
        intro d
        induction d with
        | zero =>
          intro n i hn hi2
          obtain ⟨n, rfl⟩ : ∃ n', n = n' + 1 := ⟨n - 1, by omega⟩
          rw [fX5_rounded_L61, show i = lowOf F cm by omega]
          simp only [nI_leI (show gr F < 2 ^ 31 by omega) (show lowOf F cm < 2 ^ 31 by omega)]
          by_cases hge : gr F ≤ lowOf F cm
          · rw [if_pos hge]
          · rw [if_neg hge]
            have ht3 := fM_top hv (m := lowOf F cm + 1) (by omega)
            have hc3 := hC.2 x fl m rfl rfl (2 * (fM F (lowOf F cm + 1) : Int)) (by omega) (by omega)
            have hi3 := hC.1 (2 * (fM F (lowOf F cm + 1) : Int))
            simp only [nI_1, m_size hG hv (show lowOf F cm + 1 < fP F by omega), Option.bind_some]
            rw [show (2 : Int64) = lZ 2 from rfl, lZ_mul, hc3]
            simp only [Option.bind_some]
            rw [if_pos]
            rw [z0, iZ_lt hi3 r0]
            have := hmo (lowOf F cm + 1) (by omega)
            omega
        | succ d ih =>
          intro n i hn hi2
          obtain ⟨n, rfl⟩ : ∃ n', n = n' + 1 := ⟨n - 1, by omega⟩
          rw [fX5_rounded_L61]
          simp only [nI_leI (show gr F < 2 ^ 31 by omega) (show i < 2 ^ 31 by omega)]
          rw [if_neg (show ¬ gr F ≤ i by omega)]
          have ht3 := fM_top hv (m := i + 1) (by omega)
          have hc3 := hC.2 x fl m rfl rfl (2 * (fM F (i + 1) : Int)) (by omega) (by omega)
          have hi3 := hC.1 (2 * (fM F (i + 1) : Int))
          simp only [nI_1, m_size hG hv (show i + 1 < fP F by omega), Option.bind_some]
          rw [show (2 : Int64) = lZ 2 from rfl, lZ_mul, hc3]
          simp only [Option.bind_some]
          rw [if_neg]
          · exact ih n (i + 1) (by omega) (by omega)
          · rw [z0, iZ_lt hi3 r0]
            have := hmo (i + 1) (by omega)
            omega
      have hl := loop (lowOf F cm) xmN 0 (by unfold xmN; omega) (by omega)
      have hTg : cm (2 * (fM F (lowOf F cm) : Int)) ≠ 0 → lowOf F cm < gr F := by
        intro hne
        by_cases he : lowOf F cm = gr F
        · rw [he] at hne
          have : 0 ≤ cm (2 * (fM F (gr F) : Int)) := hmg.mpr (by omega)
          omega
        · omega
      have hb := m_rBetween (x := x) (fl := fl) hM hv hC mi hm hT hTg
      refine (hl.trans hb).trans ?_
      by_cases he : cm (2 * (fM F (lowOf F cm) : Int)) = 0
      · simp only [if_pos he, minc_0]
      · have hlt := hTg he
        simp only [if_neg he, if_neg (show ¬ lowOf F cm = gr F by omega)]
        have htm : tm F (lowOf F cm) = (fM F (lowOf F cm) : Int) + (fM F (lowOf F cm + 1) : Int) := by unfold tm; rw [if_neg (by omega)]
        rw [htm, decide_eq_false (show ¬ lowOf F cm = gr F by omega), Bool.false_or]
    · rw [if_neg hov]
      have he : lowOf F cm = gr F := by have := hmg.mp (by omega); omega
      rw [m_rAbove hM hv hC mi hq hm, he]
      simp only [xmb2, if_neg (show ¬ cm (2 * (fM F (gr F) : Int)) = 0 by omega), if_true, decide_true, Bool.true_or]
  simp only [fX5_rounded, o_15, g_15_1, a_16 hM.1, hM.2.1, Option.bind_some, bI_0, nI_0' (show fS F < 2 ^ 31 by omega)]
  cases mi with
  | false => rw [if_pos rfl]; exact L25 rfl
  | true =>
    rw [if_neg (by decide)]
    by_cases hs : fS F = 0
    · rw [if_pos hs]
      simp only [g_15_18, p_15_18, Option.bind_some]
      unfold rnd
      rw [if_pos (by simp [hs]), minc_i]
      rfl
    · rw [if_neg hs]; exact L25 (by simp [hs])
