/-! ACTS, the reference's side -/
def mDe (m m' : MS) (i o v : Nat) : Prop := m'.2.2 = m.2.2 ∧ m'.2.1 24 = m.2.1 24 ∧ (∀ k, k ≠ 16 → k ≠ 18 → k ≠ 19 → k ≠ 20 → m'.1 k = m.1 k) ∧ m'.1 16 = m.1 16 + nI v ∧ m'.1 18 = m.1 18 + nI i ∧ m'.1 19 = m.1 19 + nI o
theorem mDe.rf (m : MS) : mDe m m 0 0 0 := ⟨rfl, rfl, fun _ _ _ _ _ => rfl, by rw [nI_zz, Int32.add_zero], by rw [nI_zz, Int32.add_zero], by rw [nI_zz, Int32.add_zero]⟩
theorem mDe.tr {m m1 m2 : MS} {i o v i2 o2 v2 : Nat} (h : mDe m m1 i o v) (h2 : mDe m1 m2 i2 o2 v2) : mDe m m2 (i + i2) (o + o2) (v + v2) := by
  obtain ⟨a1, a2, a3, a4, a5, a6⟩ := h
  obtain ⟨b1, b2, b3, b4, b5, b6⟩ := h2
  refine ⟨b1.trans a1, b2.trans a2, fun k h1 h2 h3 h4 => (b3 k h1 h2 h3 h4).trans (a3 k h1 h2 h3 h4), ?_, ?_, ?_⟩
  · rw [b4, a4, Int32.add_assoc, nI_add]
  · rw [b5, a5, Int32.add_assoc, nI_add]
  · rw [b6, a6, Int32.add_assoc, nI_add]
theorem mDe.of {m m3 : MS} {i o v : Nat} (h1 : m3.2.2 = m.2.2) (h2 : m3.2.1 24 = m.2.1 24) (h3 : ∀ k, k ≠ 20 → m3.1 k = m.1 k) : mDe m (minc m3 i o v) i o v := by
  refine ⟨h1, h2, fun k k1 k2 k3 k4 => ?_, ?_, ?_, ?_⟩
  · show (if k = 18 then _ else if k = 19 then _ else if k = 16 then _ else m3.1 k) = _
    rw [if_neg k2, if_neg k3, if_neg k1]; exact h3 k k4
  · show m3.1 16 + nI v = _
    rw [h3 16 (by omega)]
  · show m3.1 18 + nI i = _
    rw [h3 18 (by omega)]
  · show m3.1 19 + nI o = _
    rw [h3 19 (by omega)]
theorem MA.q {m m' : MS} {j : Nat} {F : FM} {i o v : Nat} (h : MA m j F) (hq : mDe m m' i o v) : MA m' j F := by
  unfold MA at *; rw [hq.1]; exact h
def MR (o : Option (Int32 × xmW)) (x : XS) (m : MS) (fl : List xmE) (r : RS) : Prop := ∃ m', o = some (rv r, WB x m' fl) ∧ mDe m m' r.2.1 r.2.2.1 r.2.2.2
theorem MR.ok {x : XS} {m : MS} {fl : List xmE} (c : Nat) : MR (some (nI c, WB x m fl)) x m fl (okS c) := ⟨m, rfl, mDe.rf m⟩
theorem xmb2_id (o : Option (Int32 × xmW)) : (xmb2 o fun v w => some (v, w)) = o := by cases o <;> rfl
theorem hmo_of {F : FM} {cm : Int → Int} (h0 : 0 ≤ cm (2 * (fM F 0 : Int))) (hd : ∀ a b, a ≤ b → b ≤ gr F → 0 ≤ cm (2 * (fM F b : Int)) → 0 ≤ cm (2 * (fM F a : Int))) : ∀ i, i ≤ gr F → ((0 ≤ cm (2 * (fM F i : Int))) ↔ i ≤ lowOf F cm) := by
  intro i hi
  constructor
  · intro h
    by_cases q : i ≤ lowOf F cm
    · exact q
    · have h2 := low_out (fun k => decide (0 ≤ cm (2 * (fM F k : Int)))) (gr F) i (Nat.not_le.mp q) hi
      exact absurd h (of_decide_eq_false h2)
  · intro h
    have h5 := lowOf_le F cm
    rcases low_in (fun k => decide (0 ≤ cm (2 * (fM F k : Int)))) (gr F) with h2 | h2
    · have h6 : lowOf F cm = 0 := h2
      have : i = 0 := by omega
      subst this; exact h0
    · exact hd i (lowOf F cm) h h5 (of_decide_eq_true h2)
theorem hmo_q {F : FM} (hv : VF F) (num den : Nat) : ∀ i, i ≤ gr F → ((0 ≤ cq num den (2 * (fM F i : Int))) ↔ i ≤ lowOf F (cq num den)) := by
  have hg := gr_lt hv
  apply hmo_of
  · unfold cq; rw [cmp3_ge, fM_0]; simp; omega
  · intro a b hab hb h
    unfold cq at *
    rw [cmp3_ge] at *
    have h1 := fM_le hv hab (show b < fP F by omega)
    have h2 : (2 * (fM F a : Int)) * (den : Int) ≤ (2 * (fM F b : Int)) * (den : Int) := Int.mul_le_mul_of_nonneg_right (by omega) (by omega)
    omega
theorem hmo_r {F : FM} (hv : VF F) (X : Nat) : ∀ i, i ≤ gr F → ((0 ≤ crt X (2 * (fM F i : Int))) ↔ i ≤ lowOf F (crt X)) := by
  have hg := gr_lt hv
  apply hmo_of
  · unfold crt; rw [cmp3_ge, fM_0]; simp; omega
  · intro a b hab hb h
    unfold crt at *
    rw [cmp3_ge] at *
    have h1 := fM_le hv hab (show b < fP F by omega)
    have h2 : (2 * (fM F a : Int)) * (2 * (fM F a : Int)) ≤ (2 * (fM F b : Int)) * (2 * (fM F b : Int)) := Int.mul_le_mul (by omega) (by omega) (by omega) (by omega)
    omega
theorem tw_pow : ∀ k, k < 63 → (lN (2 ^ k)).toBitVec = BitVec.twoPow 64 k := by decide +kernel
theorem sl_Z (z : Int) {k : Nat} (hk : k < 63) : lZ z <<< ((nI k).toInt64 &&& 63) = lZ (z * ((2 ^ k : Nat) : Int)) := by
  rw [← lZ_mul, ← lN_lZ, sl_c k (by omega)]
  apply Int64.toBitVec_inj.mp
  rw [Int64.toBitVec_shiftLeft, Int64.toBitVec_mul, tw_pow k hk, sl_tb, sl_sm k (by omega), BitVec.shiftLeft_eq', BitVec.toNat_ofNat, Nat.mod_eq_of_lt (show k < 2 ^ 64 by omega), BitVec.shiftLeft_eq_mul_twoPow]
theorem frS_mz {F : FM} {z : Int} {q mode : Nat} {b b' : Bool} (h : z = 0 → b = b') : frS F z q mode b = frS F z q mode b' := by
  unfold frS
  by_cases hz : z = 0
  · rw [if_pos hz, if_pos hz, h hz]
  · rw [if_neg hz, if_neg hz]
theorem mg0 {F : FM} (hv : VF F) (c : Nat) : (mg F c = 0) ↔ siz F c = 0 := by
  have hg := gr_lt hv
  have hm := mg_lt F c
  unfold siz isNu isEn
  constructor
  · intro h
    rw [h, decide_eq_true (Nat.zero_le _), if_pos rfl, fM_0]; rfl
  · intro h
    by_cases h1 : mg F c ≤ gr F
    · rw [decide_eq_true h1, if_pos rfl] at h
      by_cases h2 : mg F c = 0
      · exact h2
      · have := fM_pos hv (m := mg F c) (by omega) hm; omega
    · rw [decide_eq_false h1, if_neg (by decide)] at h
      split at h <;> omega
theorem siz_en {F : FM} (c : Nat) : (siz F c = -1) ↔ isEn F c = true := by
  unfold siz
  cases h1 : isNu F c with
  | true =>
    have h2 : isEn F c = false := by
      unfold isNu at h1; unfold isEn
      rw [decide_eq_true_eq] at h1
      rw [decide_eq_false (show ¬ mg F c = gr F + 1 by omega), Bool.and_false]
    rw [h2, if_pos rfl]; simp
  | false => cases isEn F c <;> simp
theorem uz_sz {F : FM} {c : Nat} (h1 : isNo F c = false) (h2 : isEn F c = false) : uz F c = sz (ng F c) (siz F c) := by
  have h3 : isNu F c = true := by
    unfold isNo at h1; rw [h2] at h1
    cases h : isNu F c with
    | true => rfl
    | false => rw [h] at h1; cases h1
  unfold uz sz siz
  rw [h3]; rfl
theorem siz_num {F : FM} {c : Nat} (h1 : isNo F c = false) (h2 : isEn F c = false) : 0 ≤ siz F c := by
  have a : ¬ siz F c = -2 := by rw [siz_no, h1]; decide
  have b : ¬ siz F c = -1 := by rw [siz_en, h2]; decide
  unfold siz at *
  split
  · omega
  · split <;> simp_all
theorem en_t0 {F : FM} {c : Nat} (h : isEn F c = true) : fT F = 0 := by
  unfold isEn at h
  simp only [Bool.and_eq_true, decide_eq_true_eq] at h
  exact h.1
section MAC
variable {x : XS} {m : MS} {fl : List xmE} {j : Nat} {F : FM}
theorem m_frac (hM : MA m j F) (hv : VF F) {p : Int} (hp : -2 ^ 60 ≤ p ∧ p ≤ 2 ^ 60) {q mode : Nat} (hq : q ≤ 2097152) (hm : mode ≤ 5) (mz : Bool) : MR (fX5_roundedFraction (WB x m fl) (some 15) (nI j) (lZ p) (lZ (q : Int)) (nI mode) (bI mz)) x m fl (frS F p q mode mz) := by
  have l0 : LR 0 := ⟨by omega, by omega⟩
  have lp : LR p := ⟨by omega, by omega⟩
  have e0 : (0 : Int64) = lZ 0 := rfl
  have c0 : (lg_cmp (lZ p) 0 = 0) ↔ p = 0 := by rw [e0]; exact lc_eq lp l0
  have c1 : (0 ≤ lg_cmp (lZ p) 0) ↔ 0 ≤ p := by rw [e0]; exact lc_ge lp l0
  have hs : fX5_signed (WB x m fl) (some 15) (nI j) 0 (bI mz) = some (nI (sg F mz 0)) := m_signed (hM.g x fl) hv mz (fP_pos F)
  simp only [fX5_roundedFraction, o_15, c0, c1, hs, Option.bind_some, p_15_20]
  unfold frS
  by_cases h0 : p = 0
  · rw [if_pos h0, if_pos h0]; exact MR.ok _
  · rw [if_neg h0, if_neg h0]
    have hM3 : MA (mlst (mlst (mset m 20 0) 21 (lZ (p.natAbs : Int))) 22 (lZ (q : Int))) j F := hM
    have hC : CM (mlst (mlst (mset m 20 0) 21 (lZ (p.natAbs : Int))) 22 (lZ (q : Int))) (cq p.natAbs q) := CM_q rfl rfl rfl (by omega) hq
    have key : fX5_roundedFraction_L33 (WB x (mset m 20 0) fl) (some 15) (nI j) (lZ p) (lZ (q : Int)) (nI mode) (lZ (p.natAbs : Int)) (some 15) = some (nI (rnd F (decide (p < 0)) mode (cq p.natAbs q)).1, WB x (minc (mlst (mlst (mset m 20 0) 21 (lZ (p.natAbs : Int))) 22 (lZ (q : Int))) (rnd F (decide (p < 0)) mode (cq p.natAbs q)).2.1 (rnd F (decide (p < 0)) mode (cq p.natAbs q)).2.2 0) fl) := by
      simp only [fX5_roundedFraction_L33, p_15_21, p_15_22, Option.bind_some, lZ_neg0 lp, m_rounded hM3 hv hC (hmo_q hv _ _) (decide (p < 0)) hm, xmb2]
    refine ⟨minc (mlst (mlst (mset m 20 0) 21 (lZ (p.natAbs : Int))) 22 (lZ (q : Int))) (rnd F (decide (p < 0)) mode (cq p.natAbs q)).2.1 (rnd F (decide (p < 0)) mode (cq p.natAbs q)).2.2 0, ?_, mDe.of rfl rfl (fun k hk => ?_)⟩
    · by_cases h1 : 0 ≤ p
      · rw [if_pos h1]
        have e : lZ p = lZ (p.natAbs : Int) := congrArg lZ (by omega)
        exact (congrArg (fun s => fX5_roundedFraction_L33 (WB x (mset m 20 0) fl) (some 15) (nI j) (lZ p) (lZ (q : Int)) (nI mode) s (some 15)) e).trans key
      · rw [if_neg h1, lZ_neg, show -p = (p.natAbs : Int) by omega]
        exact key
    · show upd m.1 20 0 k = m.1 k
      unfold upd; rw [if_neg hk]
theorem ncI_ge {F : FM} (hv : VF F) : (0 ≤ ncI F) ↔ nc F ≠ none := by
  unfold ncI
  cases h : nc F with
  | none => simp
  | some c => have := nc_lt hv h; simp [nI_pos' (show c < 2 ^ 31 by omega)]
theorem m_invalid (hM : MA m j F) (hv : VF F) : MR (fX5_invalidIn (WB x m fl) (some 15) (nI j)) x m fl (invS F) := by
  have hM2 : MA (minc m 0 0 1) j F := hM
  refine ⟨minc m 0 0 1, ?_, mDe.of rfl rfl (fun _ _ => rfl)⟩
  simp only [fX5_invalidIn, o_15, g_15_16, p_15_16, Option.bind_some, minc_v, m_noneOf (hM2.g x fl) hv, ncI_ge hv]
  rw [rv_inv]
  by_cases h : nc F = none
  · rw [if_neg (fun q => q h), if_pos h]
  · rw [if_pos h, if_neg h]
theorem m_endlessSum (hM : MA m j F) (hv : VF F) {a b : Nat} (ha : a < 2 ^ bits F) (hb : b < 2 ^ bits F) (t : Bool) (he : siz F a = -1 ∨ siz F b = -1) (q mode : Nat) (mz : Bool) :
    MR (fX5_endlessSum (WB x m fl) (some 15) (nI j) (nI a) (nI b) (bI t)) x m fl (if siz F a = -1 ∧ siz F b = -1 ∧ ng F a ≠ (ng F b != t) then invS F else okS (bey F (if siz F a = -1 then ng F a else (ng F b != t)))) := by
  have ka := code_lt hv ha
  have kb := code_lt hv hb
  have hG := hM.g x fl
  have h0 : fT F = 0 := by
    rcases he with h | h
    · exact en_t0 ((siz_en a).mp h)
    · exact en_t0 ((siz_en b).mp h)
  have ea := siz_en (F := F) a
  have eb := siz_en (F := F) b
  simp only [fX5_endlessSum, fX5_endlessSum_L53, o_15, m_isMinus hG hv ha, m_isMinus hG hv hb, m_isEndless hG hv (show a < 2 ^ 31 by omega), m_isEndless hG hv (show b < 2 ^ 31 by omega), Option.bind_some, bI_ne, bI_0, m_endlessOr hG hv (ng F a) h0, m_endlessOr hG hv (ng F b != t) h0, xmb2_id]
  simp only [bI_eq]
  cases h1 : isEn F a with
  | false =>
    have n1 : ¬ siz F a = -1 := by rw [ea, h1]; decide
    rw [if_pos rfl, if_pos rfl, if_neg (fun q => n1 q.1), if_neg n1]
    exact MR.ok _
  | true =>
    have n1 : siz F a = -1 := ea.mpr h1
    rw [if_neg (by decide)]
    cases h2 : isEn F b with
    | false =>
      have n2 : ¬ siz F b = -1 := by rw [eb, h2]; decide
      rw [if_pos rfl, if_neg (by decide), if_neg (fun q => n2 q.2.1), if_pos n1]
      exact MR.ok _
    | true =>
      have n2 : siz F b = -1 := eb.mpr h2
      rw [if_neg (by decide)]
      by_cases h3 : ng F a = (ng F b != t)
      · rw [if_pos h3, if_neg (by decide), if_neg (fun q => q.2.2 h3), if_pos n1]
        exact MR.ok _
      · rw [if_neg h3, if_pos ⟨n1, n2, h3⟩]
        exact m_invalid hM hv
theorem m_summed (hM : MA m j F) (hv : VF F) {a b mode : Nat} (ha : a < 2 ^ bits F) (hb : b < 2 ^ bits F) (hm : mode ≤ 5) (na : isNo F a = false) (nb : isNo F b = false) (t : Bool) :
    MR (fX5_summed (WB x m fl) (some 15) (nI j) (nI a) (nI b) (nI mode) (bI t)) x m fl (addS F a b (ng F b != t) mode) := by
  have ka := code_lt hv ha
  have kb := code_lt hv hb
  have hG := hM.g x fl
  have ra := siz_r hv a
  have rb := siz_r hv b
  have ea := siz_en (F := F) a
  have eb := siz_en (F := F) b
  have ma := mg_lt F a
  have mb := mg_lt F b
  have hp := hv.p
  unfold addS
  simp only [fX5_summed, o_15, m_isEndless hG hv (show a < 2 ^ 31 by omega), m_isEndless hG hv (show b < 2 ^ 31 by omega), Option.bind_some, bI_0, xmb2_id]
  by_cases he : siz F a = -1 ∨ siz F b = -1
  · have hes := m_endlessSum (x := x) (fl := fl) hM hv ha hb t he 0 0 false
    simp only [if_pos he]
    cases h1 : isEn F a with
    | true => rw [if_neg (by decide)]; exact hes
    | false =>
      rw [if_pos rfl]
      cases h2 : isEn F b with
      | true => rw [if_neg (by decide)]; exact hes
      | false =>
        exfalso
        rw [ea, eb, h1, h2] at he
        rcases he with q | q <;> cases q
  · have h1 : isEn F a = false := by
      cases h : isEn F a with
      | false => rfl
      | true => exact absurd (Or.inl (ea.mpr h)) he
    have h2 : isEn F b = false := by
      cases h : isEn F b with
      | false => rfl
      | true => exact absurd (Or.inr (eb.mpr h)) he
    have pa := siz_num na h1
    have pb := siz_num nb h2
    have ua := uz_sz na h1
    have ub := uz_sz nb h2
    rw [h1, h2]
    simp only [if_true, if_neg (show ¬ (siz F a = -1 ∧ siz F b = -1 ∧ ng F a ≠ (ng F b != t)) by omega), if_neg he, m_unitsOf hG hv ha, m_unitsOf hG hv hb, Option.bind_some]
    have hsa : -2097152 ≤ sz (ng F a) (siz F a) ∧ sz (ng F a) (siz F a) ≤ 2097152 := by unfold sz; split <;> omega
    have hsb : -2097152 ≤ sz (ng F b != t) (siz F b) ∧ sz (ng F b != t) (siz F b) ≤ 2097152 := by unfold sz; split <;> omega
    have hsz0 : sz (ng F a) (siz F a) + sz (ng F b != t) (siz F b) = 0 → siz F a = 0 → siz F b = 0 := by
      intro q1 q2
      rw [q2] at q1
      unfold sz at q1
      split at q1 <;> split at q1 <;> omega
    have g0 := mg0 hv a
    have g1 := mg0 hv b
    have hx3 : (if nI mode = 3 then (1 : Int32) else 0) = bI (eq3 mode) := by
      simp only [nI_3' (show mode < 2 ^ 31 by omega)]; rw [bI_if]; rfl
    have fr : ∀ mz : Bool, (sz (ng F a) (siz F a) + sz (ng F b != t) (siz F b) = 0 → mz = (if siz F a = 0 ∧ ng F a = (ng F b != t) then ng F a else eq3 mode)) → MR (fX5_roundedFraction (WB x m fl) (some 15) (nI j) (lZ (uz F a) + lZ (sz (ng F b != t) (siz F b))) 1 (nI mode) (bI mz)) x m fl (frS F (sz (ng F a) (siz F a) + sz (ng F b != t) (siz F b)) 1 mode (if siz F a = 0 ∧ ng F a = (ng F b != t) then ng F a else eq3 mode)) := by
      intro mz hmz
      rw [← frS_mz hmz, lZ_add, ua]
      exact m_frac hM hv ⟨by omega, by omega⟩ (q := 1) (by omega) hm mz
    have L57 : MR (fX5_summed_L57 (WB x m fl) (some 15) (nI j) (nI a) (nI b) (nI mode) (bI t) (lZ (uz F a)) (lZ (sz (ng F b != t) (siz F b)))) x m fl (frS F (sz (ng F a) (siz F a) + sz (ng F b != t) (siz F b)) 1 mode (if siz F a = 0 ∧ ng F a = (ng F b != t) then ng F a else eq3 mode)) := by
      simp only [fX5_summed_L57, fX5_summed_L110, fX5_summed_L111, m_isMinus hG hv ha, m_isMinus hG hv hb, m_plain hG hv (show a < 2 ^ 31 by omega), m_plain hG hv (show b < 2 ^ 31 by omega), Option.bind_some, bI_ne, xmb2_id, nI_0' (show mg F a < 2 ^ 31 by omega), nI_0' (show mg F b < 2 ^ 31 by omega), hx3]
      simp only [bI_eq, bI_if, bI_0, if_true]
      by_cases h3 : mg F a = 0
      · rw [if_pos h3]
        by_cases h4 : mg F b = 0
        · rw [if_pos h4]
          by_cases h5 : ng F a = (ng F b != t)
          · rw [if_neg (by rw [decide_eq_true h5]; decide)]
            exact fr _ (fun _ => by rw [if_pos ⟨g0.mp h3, h5⟩, h5])
          · rw [if_pos (decide_eq_false h5)]
            exact fr _ (fun _ => by rw [if_neg (fun q => h5 q.2)])
        · rw [if_neg h4]
          exact fr _ (fun q => absurd (g1.mpr (hsz0 q (g0.mp h3))) h4)
      · rw [if_neg h3]
        exact fr _ (fun _ => by rw [if_neg (fun q => h3 (g0.mpr q.1))])
    cases t with
    | false =>
      rw [if_pos rfl]
      have e : uz F b = sz (ng F b != false) (siz F b) := by rw [ub]; cases ng F b <;> rfl
      rw [e]; exact L57
    | true =>
      rw [if_neg (by decide), lZ_neg]
      have e : -uz F b = sz (ng F b != true) (siz F b) := by
        rw [ub]; unfold sz; cases ng F b with
        | true => simp
        | false => simp
      rw [e]; exact L57
theorem m_multiplied (hM : MA m j F) (hv : VF F) {a b mode : Nat} (ha : a < 2 ^ bits F) (hb : b < 2 ^ bits F) (hm : mode ≤ 5) (na : isNo F a = false) (nb : isNo F b = false) :
    MR (fX5_multiplied (WB x m fl) (some 15) (nI j) (nI a) (nI b) (nI mode)) x m fl (mulS F a b mode) := by
  have ka := code_lt hv ha
  have kb := code_lt hv hb
  have hG := hM.g x fl
  have ra := siz_r hv a
  have rb := siz_r hv b
  have ea := siz_en (F := F) a
  have eb := siz_en (F := F) b
  have g0 := mg0 hv a
  have g1 := mg0 hv b
  have ma := mg_lt F a
  have mb := mg_lt F b
  have hp := hv.p
  have sa : ¬ siz F a = -2 := by rw [siz_no, na]; decide
  have sb : ¬ siz F b = -2 := by rw [siz_no, nb]; decide
  have hsc := sc_le hv
  have hpw := pw20 hsc
  obtain ⟨r1, r2⟩ := szp_r hv a b
  simp only [fX5_multiplied, o_15, m_isMinus hG hv ha, m_isMinus hG hv hb, m_isEndless hG hv (show a < 2 ^ 31 by omega), m_isEndless hG hv (show b < 2 ^ 31 by omega), Option.bind_some, bI_0, bI_ne, xmb2_id, m_unitsOf hG hv ha, m_unitsOf hG hv hb, m_scale hG]
  unfold mulS
  have L40 : (siz F a = -1 ∨ siz F b = -1) → MR (fX5_multiplied_L40 (WB x m fl) (some 15) (nI j) (nI a) (nI b) (bI (ng F a != ng F b))) x m fl (if szp F a b = -3 then invS F else if szp F a b = -1 then okS (bey F (ng F a != ng F b)) else frS F (sz (ng F a != ng F b) (szp F a b)) (2 ^ sc F) mode (ng F a != ng F b)) := by
    intro he
    have h0 : fT F = 0 := by
      rcases he with h | h
      · exact en_t0 ((siz_en a).mp h)
      · exact en_t0 ((siz_en b).mp h)
    have hz : szp F a b = if siz F a = 0 ∨ siz F b = 0 then -3 else -1 := by unfold szp; rw [if_neg (by omega), if_pos he]
    rw [hz]
    simp only [fX5_multiplied_L40, m_plain hG hv (show a < 2 ^ 31 by omega), m_plain hG hv (show b < 2 ^ 31 by omega), Option.bind_some, xmb2_id, nI_0' (show mg F a < 2 ^ 31 by omega), nI_0' (show mg F b < 2 ^ 31 by omega), m_endlessOr hG hv (ng F a != ng F b) h0, g0, g1]
    by_cases z1 : siz F a = 0
    · simp only [if_pos z1, if_pos (show siz F a = 0 ∨ siz F b = 0 from Or.inl z1), if_true]
      exact m_invalid hM hv
    · simp only [if_neg z1]
      by_cases z2 : siz F b = 0
      · simp only [if_pos z2, if_pos (show siz F a = 0 ∨ siz F b = 0 from Or.inr z2), if_true]
        exact m_invalid hM hv
      · simp only [if_neg z2, if_neg (show ¬ (siz F a = 0 ∨ siz F b = 0) by omega), if_neg (show ¬ (-1 : Int) = -3 by omega), if_true]
        exact MR.ok _
  cases h1 : isEn F a with
  | true => rw [if_neg (by decide)]; exact L40 (Or.inl (ea.mpr h1))
  | false =>
    rw [if_pos rfl]
    cases h2 : isEn F b with
    | true => rw [if_neg (by decide)]; exact L40 (Or.inr (eb.mpr h2))
    | false =>
      rw [if_pos rfl]
      have n1 : ¬ siz F a = -1 := by rw [ea, h1]; decide
      have n2 : ¬ siz F b = -1 := by rw [eb, h2]; decide
      have hz : szp F a b = siz F a * siz F b := by unfold szp; rw [if_neg (by omega), if_neg (by omega)]
      have pa := siz_num na h1
      have pb := siz_num nb h2
      have hpos : 0 ≤ siz F a * siz F b := Int.mul_nonneg pa pb
      have hu : uz F a * uz F b = sz (ng F a != ng F b) (szp F a b) := by
        rw [uz_sz na h1, uz_sz nb h2, hz]
        unfold sz
        cases ng F a <;> cases ng F b <;> simp [Int.neg_mul, Int.mul_neg]
      rw [if_neg (by omega), if_neg (by omega), lZ_mul, hu, sl_one _ (by omega), lN_lZ]
      exact m_frac hM hv (by unfold sz; split <;> omega) (by omega) hm _
theorem m_divided (hM : MA m j F) (hv : VF F) {a b mode : Nat} (ha : a < 2 ^ bits F) (hb : b < 2 ^ bits F) (hm : mode ≤ 5) (na : isNo F a = false) (nb : isNo F b = false) :
    MR (fX5_divided (WB x m fl) (some 15) (nI j) (nI a) (nI b) (nI mode)) x m fl (divS F a b mode) := by
  have ka := code_lt hv ha
  have kb := code_lt hv hb
  have hG := hM.g x fl
  have ra := siz_r hv a
  have rb := siz_r hv b
  have ea := siz_en (F := F) a
  have eb := siz_en (F := F) b
  have g0 := mg0 hv a
  have g1 := mg0 hv b
  have ma := mg_lt F a
  have mb := mg_lt F b
  have hp := hv.p
  have hS := hv.1
  have sa : ¬ siz F a = -2 := by rw [siz_no, na]; decide
  have sb : ¬ siz F b = -2 := by rw [siz_no, nb]; decide
  have hsc := sc_le hv
  have hpw := pw20 hsc
  have l0 : LR 0 := ⟨by omega, by omega⟩
  have e0 : (0 : Int64) = lZ 0 := rfl
  have L88 : ¬ (siz F a = siz F b ∧ (siz F a = 0 ∨ siz F a = -1)) → MR (fX5_divided_L88 (WB x m fl) (some 15) (nI j) (nI a) (nI b) (nI mode) (bI (ng F a != ng F b)) (bI (decide (siz F b = 0)))) x m fl (if siz F a = -1 ∨ siz F b = 0 then okS (bey F (ng F a != ng F b)) else if siz F a = 0 ∨ siz F b = -1 then okS (sg F (ng F a != ng F b) 0) else frS F (sz (ng F a != ng F b) (siz F a * (2 ^ sc F : Nat))) (siz F b).natAbs mode (ng F a != ng F b)) := by
    intro hne
    have hsg : fX5_signed (WB x m fl) (some 15) (nI j) 0 (bI (ng F a != ng F b)) = some (nI (sg F (ng F a != ng F b) 0)) := m_signed hG hv _ (fP_pos F)
    simp only [fX5_divided_L88, m_isEndless hG hv (show a < 2 ^ 31 by omega), m_isEndless hG hv (show b < 2 ^ 31 by omega), Option.bind_some, bI_0, hsg, m_unitsOf hG hv ha, m_unitsOf hG hv hb, m_scale hG, g_15_1, a_16 hM.1, hM.2.1, nI_0' (show fS F < 2 ^ 31 by omega), decide_eq_false_iff_not]
    cases h2 : isEn F b with
    | true =>
      have n2 : siz F b = -1 := eb.mpr h2
      rw [if_neg (by decide), if_neg (by omega), if_pos (Or.inr n2)]
      exact MR.ok _
    | false =>
      have n2 : ¬ siz F b = -1 := by rw [eb, h2]; decide
      rw [if_pos rfl]
      cases h1 : isEn F a with
      | true =>
        have n1 : siz F a = -1 := ea.mpr h1
        rw [if_neg (by decide), if_pos (Or.inl n1), m_endlessOr hG hv (ng F a != ng F b) (en_t0 h1)]
        exact MR.ok _
      | false =>
        have n1 : ¬ siz F a = -1 := by rw [ea, h1]; decide
        rw [if_pos rfl]
        by_cases hb0 : siz F b = 0
        · rw [if_neg (fun q => q hb0), if_pos (Or.inr hb0)]
          cases hmi : (ng F a != ng F b) with
          | false =>
            rw [if_pos rfl, m_beyond hG hv (mi := false) rfl]
            exact MR.ok _
          | true =>
            rw [if_neg (by decide)]
            by_cases hs : fS F = 0
            · rw [if_pos hs]
              have : bey F true = 0 := by unfold bey; rw [if_pos (by simp [hs])]
              rw [this]; exact MR.ok 0
            · rw [if_neg hs, m_beyond hG hv (mi := true) (by simp [hs])]
              exact MR.ok _
        · rw [if_pos hb0, if_neg (show ¬ (siz F a = -1 ∨ siz F b = 0) by omega)]
          have pa := siz_num na h1
          have pb := siz_num nb h2
          have hbd : siz F a * ((2 ^ sc F : Nat) : Int) ≤ 2097152 * 1048576 := Int.mul_le_mul (by omega) (Int.ofNat_le.mpr hpw) (Int.natCast_nonneg _) (by omega)
          have hnn : 0 ≤ siz F a * ((2 ^ sc F : Nat) : Int) := Int.mul_nonneg pa (Int.natCast_nonneg _)
          have hub : -2097152 ≤ uz F b ∧ uz F b ≤ 2097152 := by rw [uz_sz nb h2]; unfold sz; split <;> omega
          have lub : LR (uz F b) := ⟨by omega, by omega⟩
          have c1 : (0 ≤ lg_cmp (lZ (uz F b)) 0) ↔ 0 ≤ uz F b := by rw [e0]; exact lc_ge lub l0
          have hub2 : (0 ≤ uz F b) ↔ ng F b = false := by
            rw [uz_sz nb h2]; unfold sz; cases ng F b with
            | true => simp; omega
            | false => simp; omega
          have hfin : MR (fX5_roundedFraction (WB x m fl) (some 15) (nI j) (lZ (sz (ng F a != ng F b) (siz F a * (2 ^ sc F : Nat)))) (lZ ((siz F b).natAbs : Int)) (nI mode) (bI (ng F a != ng F b))) x m fl (if siz F a = 0 ∨ siz F b = -1 then okS (sg F (ng F a != ng F b) 0) else frS F (sz (ng F a != ng F b) (siz F a * (2 ^ sc F : Nat))) (siz F b).natAbs mode (ng F a != ng F b)) := by
            have hfr := m_frac (x := x) (fl := fl) hM hv (p := sz (ng F a != ng F b) (siz F a * (2 ^ sc F : Nat))) (by unfold sz; split <;> omega) (q := (siz F b).natAbs) (by omega) hm (ng F a != ng F b)
            by_cases ha0 : siz F a = 0
            · rw [if_pos (Or.inl ha0)]
              have hz : sz (ng F a != ng F b) (siz F a * (2 ^ sc F : Nat)) = 0 := by rw [ha0, Int.zero_mul]; unfold sz; split <;> rfl
              have hfs : frS F (sz (ng F a != ng F b) (siz F a * (2 ^ sc F : Nat))) (siz F b).natAbs mode (ng F a != ng F b) = okS (sg F (ng F a != ng F b) 0) := by unfold frS; rw [if_pos hz]
              rw [← hfs]; exact hfr
            · rw [if_neg (by omega)]; exact hfr
          have hsh : lZ (uz F a) <<< ((nI (sc F)).toInt64 &&& 63) = lZ (uz F a * ((2 ^ sc F : Nat) : Int)) := sl_Z _ (by omega)
          rw [hsh]
          simp only [fX5_divided_L193, c1, hub2, xmb2_id, lZ_neg]
          have ua := uz_sz na h1
          have ub := uz_sz nb h2
          cases hnb : ng F b with
          | false =>
            rw [hnb] at ub hfin
            rw [if_pos rfl, if_pos rfl]
            have e1 : uz F a * ((2 ^ sc F : Nat) : Int) = sz (ng F a != false) (siz F a * (2 ^ sc F : Nat)) := by
              rw [ua]; unfold sz; cases ng F a <;> simp [Int.neg_mul]
            have e2 : uz F b = ((siz F b).natAbs : Int) := by rw [ub]; unfold sz; simp; omega
            rw [e1, e2]; exact hfin
          | true =>
            rw [hnb] at ub hfin
            rw [if_neg (by decide), if_neg (by decide)]
            have e1 : -(uz F a * ((2 ^ sc F : Nat) : Int)) = sz (ng F a != true) (siz F a * (2 ^ sc F : Nat)) := by
              rw [ua]; unfold sz; cases ng F a <;> simp [Int.neg_mul]
            have e2 : -uz F b = ((siz F b).natAbs : Int) := by rw [ub]; unfold sz; simp; omega
            rw [e1, e2]; exact hfin
  simp only [fX5_divided, fX5_divided_L72, o_15, m_isMinus hG hv ha, m_isMinus hG hv hb, m_isEndless hG hv (show a < 2 ^ 31 by omega), m_isEndless hG hv (show b < 2 ^ 31 by omega), m_plain hG hv (show a < 2 ^ 31 by omega), m_plain hG hv (show b < 2 ^ 31 by omega), Option.bind_some, bI_0, bI_ne, xmb2_id, nI_0' (show mg F a < 2 ^ 31 by omega), nI_0' (show mg F b < 2 ^ 31 by omega), g0, g1, bI_if, decide_eq_false_iff_not]
  unfold divS
  have L72 : ¬ (siz F a = -1 ∧ siz F b = -1) → MR (if ¬ siz F a = 0 then fX5_divided_L88 (WB x m fl) (some 15) (nI j) (nI a) (nI b) (nI mode) (bI (ng F a != ng F b)) (bI (decide (siz F b = 0))) else if ¬ siz F b = 0 then fX5_divided_L88 (WB x m fl) (some 15) (nI j) (nI a) (nI b) (nI mode) (bI (ng F a != ng F b)) (bI (decide (siz F b = 0))) else fX5_invalidIn (WB x m fl) (some 15) (nI j)) x m fl (if siz F a = siz F b ∧ (siz F a = 0 ∨ siz F a = -1) then invS F else if siz F a = -1 ∨ siz F b = 0 then okS (bey F (ng F a != ng F b)) else if siz F a = 0 ∨ siz F b = -1 then okS (sg F (ng F a != ng F b) 0) else frS F (sz (ng F a != ng F b) (siz F a * (2 ^ sc F : Nat))) (siz F b).natAbs mode (ng F a != ng F b)) := by
    intro hne
    by_cases z1 : siz F a = 0
    · rw [if_neg (fun q => q z1)]
      by_cases z2 : siz F b = 0
      · rw [if_neg (fun q => q z2), if_pos ⟨by omega, Or.inl z1⟩]
        exact m_invalid hM hv
      · rw [if_pos z2, if_neg (by omega)]
        exact L88 (by omega)
    · rw [if_pos z1, if_neg (by omega)]
      exact L88 (by omega)
  cases h1 : isEn F a with
  | false =>
    have n1 : ¬ siz F a = -1 := by rw [ea, h1]; decide
    rw [if_pos rfl]; exact L72 (by omega)
  | true =>
    have n1 : siz F a = -1 := ea.mpr h1
    rw [if_neg (by decide)]
    cases h2 : isEn F b with
    | false =>
      have n2 : ¬ siz F b = -1 := by rw [eb, h2]; decide
      rw [if_pos rfl]; exact L72 (by omega)
    | true =>
      have n2 : siz F b = -1 := eb.mpr h2
      rw [if_neg (by decide), if_pos ⟨by omega, Or.inr n1⟩]
      exact m_invalid hM hv
end MAC
