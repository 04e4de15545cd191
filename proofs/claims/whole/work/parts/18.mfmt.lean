/-! the reference's questions about a FORMAT -/
theorem and_nI (a b : Nat) : nI a &&& nI b = nI (a &&& b) := by
  apply Int32.toBitVec_inj.mp
  show BitVec.ofNat 32 a &&& BitVec.ofNat 32 b = BitVec.ofNat 32 (a &&& b)
  apply BitVec.eq_of_getLsbD_eq
  intro i hi
  simp [hi]
theorem and_top : ∀ n, n < 10 → ∀ c, c < 1024 → c < 2 ^ (n + 1) → ((c &&& 2 ^ n = 0) ↔ c < 2 ^ n) := by decide +kernel
theorem gr_top0 {F : FM} (hv : VF F) (h0 : fT F = 0) : gr F + 1 = (2 ^ fE F - 1) * 2 ^ fF F ∧ fP F = 2 ^ fE F * 2 ^ fF F := by
  have h5 : fP F = 2 ^ fE F * 2 ^ fF F := by unfold fP; rw [Nat.pow_add]
  refine ⟨?_, h5⟩
  unfold gr; rw [if_pos h0, h5, Nat.sub_mul, Nat.one_mul]
  have := hv.q
  rw [h5] at this
  have : 0 < 2 ^ fF F := Nat.two_pow_pos _
  omega
theorem mg_div0 {F : FM} (hv : VF F) (h0 : fT F = 0) (c : Nat) : (mg F c / 2 ^ fF F = 2 ^ fE F - 1) ↔ gr F + 1 ≤ mg F c := by
  obtain ⟨h1, h2⟩ := gr_top0 hv h0
  have hm := mg_lt F c
  have hp : 0 < 2 ^ fF F := Nat.two_pow_pos _
  have he : 0 < 2 ^ fE F := Nat.two_pow_pos _
  rw [h1]
  rw [h2] at hm
  constructor
  · intro h
    rw [← h]; exact Nat.div_mul_le_self _ _
  · intro h
    have h3 : 2 ^ fE F - 1 ≤ mg F c / 2 ^ fF F := (Nat.le_div_iff_mul_le hp).mpr h
    have h4 : mg F c / 2 ^ fF F < 2 ^ fE F := (Nat.div_lt_iff_lt_mul hp).mpr hm
    omega
theorem mg_mod {F : FM} (c : Nat) : c % 2 ^ fF F = mg F c % 2 ^ fF F := by
  unfold mg fP
  rw [Nat.mod_mod_of_dvd]
  rw [Nat.pow_add]; exact Nat.dvd_mul_left _ _
theorem mg_end {F : FM} (hv : VF F) (h0 : fT F = 0) {c : Nat} (h : gr F + 1 ≤ mg F c) : (mg F c % 2 ^ fF F = 0) ↔ mg F c = gr F + 1 := by
  obtain ⟨h1, h2⟩ := gr_top0 hv h0
  have hd := (mg_div0 hv h0 c).mpr h
  have hp : 0 < 2 ^ fF F := Nat.two_pow_pos _
  have hdm := Nat.div_add_mod (mg F c) (2 ^ fF F)
  rw [hd, Nat.mul_comm, ← h1] at hdm
  omega
def MG (w : xmW) (j : Nat) (F : FM) : Prop := (∃ fs, xmob w (some 15) 5 = some fs) ∧ xmgR w (some 15) 5 1 = some (some 16) ∧ xmgR w (some 15) 5 2 = some (some 17) ∧ xmgR w (some 15) 5 3 = some (some 18) ∧ xmgR w (some 15) 5 4 = some (some 19) ∧ xmgR w (some 15) 5 5 = some (some 20) ∧ xmgR w (some 15) 5 6 = some (some 21) ∧
  xmild w (some 16) 0 (nI j) = some (nI (fS F)) ∧ xmild w (some 17) 0 (nI j) = some (nI (fE F)) ∧ xmild w (some 18) 0 (nI j) = some (nI (fF F)) ∧ xmild w (some 19) 0 (nI j) = some (nI (fB F)) ∧ xmild w (some 20) 1 (nI j) = some (bI (fU F)) ∧ xmild w (some 21) 0 (nI j) = some (nI (fT F))
section MF
variable {w : xmW} {j : Nat} {F : FM}
theorem m_in {a b c : Int} (ha : LR a) (hb : LR b) (hc : LR c) : fX5_in w (lZ a) (lZ b) (lZ c) = some (bI (decide (b ≤ a ∧ a ≤ c))) := by
  simp only [fX5_in, lc_lt ha hb, lc_gt ha hc]
  by_cases h1 : a < b
  · simp only [if_pos h1, xmbz0]
    rw [decide_eq_false (by omega)]; rfl
  · simp only [if_neg h1]
    rw [bI_ifn, bI_z]
    by_cases h2 : c < a
    · rw [decide_eq_true h2, decide_eq_false (show ¬ (b ≤ a ∧ a ≤ c) by omega)]; rfl
    · rw [decide_eq_false h2, decide_eq_true (show b ≤ a ∧ a ≤ c by omega)]; rfl
theorem m_bits (h : MG w j F) : fX5_bits w (some 15) (nI j) = some (nI (bits F)) := by
  obtain ⟨⟨fs, h0⟩, r1, r2, r3, r4, r5, r6, s1, s2, s3, s4, s5, s6⟩ := h
  simp only [fX5_bits, h0, r1, r2, r3, s1, s2, s3, Option.bind_some, nI_add]; rfl
theorem m_scale (h : MG w j F) : fX5_scale w (some 15) (nI j) = some (nI (sc F)) := by
  obtain ⟨⟨fs, h0⟩, r1, r2, r3, r4, r5, r6, s1, s2, s3, s4, s5, s6⟩ := h
  simp only [fX5_scale, h0, r4, r3, s3, s4, Option.bind_some, nI_add]; rfl
theorem m_signBit (h : MG w j F) (hv : VF F) : fX5_signBit w (some 15) (nI j) = some (nI (fP F)) := by
  obtain ⟨⟨fs, h0⟩, r1, r2, r3, r4, r5, r6, s1, s2, s3, s4, s5, s6⟩ := h
  simp only [fX5_signBit, h0, r2, r3, s2, s3, Option.bind_some, nI_add]
  rw [sh_one _ (by have := hv.2.2.1; have := hv.2.2.2.1; omega)]; rfl
theorem m_allOnes (h : MG w j F) (hv : VF F) : fX5_allOnes w (some 15) (nI j) = some (nI (2 ^ fE F - 1)) := by
  obtain ⟨⟨fs, h0⟩, r1, r2, r3, r4, r5, r6, s1, s2, s3, s4, s5, s6⟩ := h
  simp only [fX5_allOnes, h0, r2, s2, Option.bind_some]
  rw [sh_one _ (by have := hv.2.2.1; omega), nI_s1 (Nat.two_pow_pos _)]
theorem m_plain (h : MG w j F) (hv : VF F) {c : Nat} (hc : c < 2 ^ 31) : fX5_plain w (some 15) (nI j) (nI c) = some (nI (mg F c)) := by
  have h1 := m_signBit h hv
  obtain ⟨⟨fs, h0⟩, r1, r2, r3, r4, r5, r6, s1, s2, s3, s4, s5, s6⟩ := h
  simp only [fX5_plain, h0, h1, Option.bind_some]
  unfold fP mg
  rw [sh_mask (by omega) (by have := hv.2.2.1; have := hv.2.2.2.1; omega)]; rfl
theorem m_isMinus (h : MG w j F) (hv : VF F) {c : Nat} (hc : c < 2 ^ bits F) : fX5_isMinus w (some 15) (nI j) (nI c) = some (bI (ng F c)) := by
  have h1 := m_signBit h hv
  obtain ⟨⟨fs, h0⟩, r1, r2, r3, r4, r5, r6, s1, s2, s3, s4, s5, s6⟩ := h
  have hS := hv.1
  have hk := code_lt hv hc
  have hp := hv.p
  simp only [fX5_isMinus, h0, r1, s1, h1, Option.bind_some, nI_1' (show fS F < 2 ^ 31 by omega)]
  unfold ng
  by_cases hs : fS F = 1
  · simp only [if_pos hs]
    rw [bI_ifn, bI_z, and_nI, decide_eq_true hs, Bool.true_and]
    have h2 : c < 2 ^ (fE F + fF F + 1) := by
      rw [bits_pw, hs] at hc
      unfold fP at hc
      rw [Nat.pow_succ]; omega
    have h3 : (c &&& fP F = 0) ↔ c < fP F := and_top (fE F + fF F) (by have := hv.2.2.1; have := hv.2.2.2.1; omega) c hk h2
    have h4 : c &&& fP F < 2 ^ 31 := Nat.lt_of_le_of_lt Nat.and_le_left (by omega)
    by_cases hq : fP F ≤ c
    · rw [decide_eq_true hq, decide_eq_false (show ¬ nI (c &&& fP F) = 0 by rw [nI_0' h4, h3]; omega)]; rfl
    · rw [decide_eq_false hq, decide_eq_true (show nI (c &&& fP F) = 0 by rw [nI_0' h4, h3]; omega)]; rfl
  · simp only [if_neg hs]
    rw [xmbz0, decide_eq_false hs]; rfl
theorem m_signed (h : MG w j F) (hv : VF F) {m : Nat} (mi : Bool) (hm : m < fP F) : fX5_signed w (some 15) (nI j) (nI m) (bI mi) = some (nI (sg F mi m)) := by
  have h1 := m_signBit h hv
  obtain ⟨⟨fs, h0⟩, r1, r2, r3, r4, r5, r6, s1, s2, s3, s4, s5, s6⟩ := h
  have hS := hv.1
  simp only [fX5_signed, h0, r1, s1, h1, Option.bind_some, nI_1' (show fS F < 2 ^ 31 by omega), bI_0]
  unfold sg
  by_cases hs : fS F = 1
  · simp only [if_pos hs]
    cases mi with
    | false => rfl
    | true => simp only [Bool.true_eq_false, if_false, decide_eq_true hs, Bool.and_self, if_true]; unfold fP at hm ⊢; rw [or_sum hm]
  · simp only [if_neg hs, decide_eq_false hs, Bool.and_false, Bool.false_eq_true, if_false]
theorem m_size (h : MG w j F) (hv : VF F) {m : Nat} (hm : m < fP F) : fX5_size w (some 15) (nI j) (nI m) = some (lZ (fM F m)) := by
  obtain ⟨⟨fs, h0⟩, r1, r2, r3, r4, r5, r6, s1, s2, s3, s4, s5, s6⟩ := h
  have hp := hv.p
  have hf := hv.2.2.2.1
  have he := hv.2.2.1
  have hdiv : m / 2 ^ fF F < 16 := by
    have h2 : m < 2 ^ fF F * 2 ^ fE F := by rw [← Nat.pow_add, Nat.add_comm]; exact hm
    have h3 := Nat.div_lt_of_lt_mul h2
    have h4 : 2 ^ fE F ≤ 2 ^ 4 := Nat.pow_le_pow_right (by omega) he
    omega
  have hmod : m % 2 ^ fF F < 512 := Nat.lt_of_le_of_lt (Nat.mod_le _ _) (by omega)
  simp only [fX5_size, fX5_size_L52, h0, r3, r5, s3, s5, Option.bind_some]
  have hA : (nI (m % 2 ^ fF F)).toInt64 = lN (m % 2 ^ fF F) := nI_l (by omega)
  rw [sh_one _ (by omega), sh_mask (by omega) (by omega), sh_r (by omega) (by omega), hA, sl_one _ (by omega), lN_add, sl_l _ (by omega)]
  simp only [nI_0' (show m < 2 ^ 31 by omega), nI_0' (show m / 2 ^ fF F < 2 ^ 31 by omega), bI_0]
  unfold fM Us
  by_cases hz : m = 0
  · simp only [if_pos hz]; rfl
  · simp only [if_neg hz]
    by_cases h1 : m / 2 ^ fF F = 0
    · simp only [if_pos h1]
      cases hu : fU F with
      | false => rw [if_pos rfl, if_neg (by simp), lN_lZ]
      | true => rw [if_neg (by decide), if_pos ⟨h1, rfl⟩, lN_lZ]; rw [show (2 : Int64) = lZ 2 from rfl, lZ_mul]; rfl
    · simp only [if_neg h1, h1, false_and, if_false]; rw [lN_lZ]
theorem m_unitsOf (h : MG w j F) (hv : VF F) {c : Nat} (hc : c < 2 ^ bits F) : fX5_unitsOf w (some 15) (nI j) (nI c) = some (lZ (uz F c)) := by
  have hk := code_lt hv hc
  have h1 := m_plain h hv (c := c) (by omega)
  have h2 := m_isMinus h hv hc
  have h3 := m_size h hv (mg_lt F c)
  obtain ⟨⟨fs, h0⟩, -⟩ := h
  simp only [fX5_unitsOf, h0, h1, h2, h3, Option.bind_some, bI_0]
  unfold uz
  cases ng F c with
  | false => rfl
  | true => simp only [Bool.true_eq_false, if_false, if_true]; rw [lZ_neg]
theorem m_great (h : MG w j F) (hv : VF F) : fX5_great w (some 15) (nI j) = some (nI (gr F)) := by
  have h1 := m_signBit h hv
  have h2 := m_allOnes h hv
  obtain ⟨⟨fs, h0⟩, r1, r2, r3, r4, r5, r6, s1, s2, s3, s4, s5, s6⟩ := h
  have hT := hv.2.2.2.2.2.1
  have hg := gr_lt hv
  have hp := hv.p
  have hf2 := hv.f2
  simp only [fX5_great, h0, r6, r3, s6, s3, h1, h2, Option.bind_some, nI_0' (show fT F < 2 ^ 31 by omega), nI_1' (show fT F < 2 ^ 31 by omega)]
  by_cases ht0 : fT F = 0
  · simp only [if_pos ht0]
    obtain ⟨g1, g2⟩ := gr_top0 hv ht0
    rw [sh_l (by have := hv.2.2.2.1; omega) (by rw [← g1]; omega), ← g1, nI_s1 (by omega)]; rfl
  · simp only [if_neg ht0]
    by_cases ht1 : fT F = 1
    · simp only [if_pos ht1]
      rw [show (2 : Int32) = nI 2 from rfl, pk_sub (by omega)]
      unfold gr; rw [if_neg ht0, if_pos ht1]
    · simp only [if_neg ht1]
      rw [nI_s1 (by omega)]
      unfold gr; rw [if_neg ht0, if_neg ht1]
theorem m_last (h : MG w j F) (hv : VF F) : fX5_last w (some 15) (nI j) = some (nI (gr F - 1)) := by
  have h1 := m_great h hv
  have hg := gr_lt hv
  have hp := hv.p
  obtain ⟨⟨fs, h0⟩, -⟩ := h
  simp only [fX5_last, h0, h1, Option.bind_some, nI_le0 (show gr F < 2 ^ 31 by omega)]
  rw [if_neg (by omega), nI_s1 (by omega)]
theorem m_noneOf (h : MG w j F) (hv : VF F) : fX5_noneOf w (some 15) (nI j) = some (ncI F) := by
  have h1 := m_signBit h hv
  have h2 := m_allOnes h hv
  obtain ⟨⟨fs, h0⟩, r1, r2, r3, r4, r5, r6, s1, s2, s3, s4, s5, s6⟩ := h
  have hT := hv.2.2.2.2.2.1
  have hF := hv.2.2.2.1
  have hg := gr_lt hv
  have hp := hv.p
  have hf2 := hv.f2
  simp only [fX5_noneOf, h0, r6, r3, s6, s3, h1, h2, Option.bind_some, nI_0' (show fT F < 2 ^ 31 by omega), nI_1' (show fT F < 2 ^ 31 by omega), nI_0' (show fF F < 2 ^ 31 by omega)]
  unfold ncI nc
  by_cases ht0 : fT F = 0
  · have ht1 : ¬ fT F = 1 := by omega
    simp only [if_pos ht0, if_neg ht1]
    obtain ⟨g1, g2⟩ := gr_top0 hv ht0
    by_cases hf0 : fF F = 0
    · simp only [if_pos hf0, if_neg (show ¬ (fT F = 0 ∧ 0 < fF F) by omega)]
    · simp only [if_neg hf0, if_pos (show fT F = 0 ∧ 0 < fF F by omega)]
      rw [sh_l (by omega) (by rw [← g1]; omega), nI_s1 (by omega), sh_one _ (by omega), or_nI, g1]
      have h6 : 2 ^ (fF F - 1) < 2 ^ fF F := Nat.pow_lt_pow_right (by omega) (by omega)
      rw [Nat.mul_comm, ← Nat.two_pow_add_eq_or_of_lt h6]
  · simp only [if_neg ht0]
    by_cases ht1 : fT F = 1
    · simp only [if_pos ht1]
      rw [nI_s1 (by omega)]
      congr 2
      unfold gr; rw [if_neg ht0, if_pos ht1]; omega
    · simp only [if_neg ht1, if_neg (show ¬ (fT F = 0 ∧ 0 < fF F) by omega)]
theorem m_endless (h : MG w j F) (hv : VF F) (ht : fT F = 0) : fX5_endless w (some 15) (nI j) = some (nI (gr F + 1)) := by
  have h2 := m_allOnes h hv
  obtain ⟨⟨fs, h0⟩, r1, r2, r3, r4, r5, r6, s1, s2, s3, s4, s5, s6⟩ := h
  have hg := gr_lt hv
  have hp := hv.p
  have hF := hv.2.2.2.1
  obtain ⟨g1, g2⟩ := gr_top0 hv ht
  simp only [fX5_endless, h0, r6, r3, s6, s3, h2, Option.bind_some, ht]
  rw [if_pos (show nI 0 = 0 from rfl), sh_l (by omega) (by rw [← g1]; omega), g1]
theorem m_endlessN (h : MG w j F) (hv : VF F) (ht : fT F ≠ 0) : fX5_endless w (some 15) (nI j) = some (-9) := by
  obtain ⟨⟨fs, h0⟩, r1, r2, r3, r4, r5, r6, s1, s2, s3, s4, s5, s6⟩ := h
  have hT := hv.2.2.2.2.2.1
  simp only [fX5_endless, h0, r6, s6, Option.bind_some, nI_0' (show fT F < 2 ^ 31 by omega), if_neg ht]
theorem m_kindOf (h : MG w j F) (hv : VF F) {c : Nat} (hc : c < 2 ^ 31) : fX5_kindOf w (some 15) (nI j) (nI c) = some (nI (kd F c)) := by
  have h1 := m_signBit h hv
  have h2 := m_allOnes h hv
  have h3 := m_plain h hv hc
  obtain ⟨⟨fs, h0⟩, r1, r2, r3, r4, r5, r6, s1, s2, s3, s4, s5, s6⟩ := h
  have hT := hv.2.2.2.2.2.1
  have hF := hv.2.2.2.1
  have hE := hv.2.2.1
  have hg := gr_lt hv
  have hp := hv.p
  have hm := mg_lt F c
  have hd : mg F c / 2 ^ fF F < 2 ^ 31 := Nat.lt_of_le_of_lt (Nat.div_le_self _ _) (by omega)
  have hmo : c % 2 ^ fF F < 2 ^ 31 := Nat.lt_of_le_of_lt (Nat.mod_le _ _) hc
  have hao : 2 ^ fE F - 1 < 2 ^ 31 := by
    have : 2 ^ fE F ≤ 2 ^ 4 := Nat.pow_le_pow_right (by omega) hE
    omega
  have key : ¬ (fT F = 0 ∧ gr F + 1 ≤ mg F c) → fX5_kindOf_L57 w (some 15) (nI j) (nI c) (nI (mg F c / 2 ^ fF F)) = some (nI (kd F c)) := by
    intro hq
    simp only [fX5_kindOf_L57, fX5_kindOf_L85, r6, r5, s6, s5, h3, h1, Option.bind_some, nI_1' (show fT F < 2 ^ 31 by omega), nI_s1 (show 1 ≤ fP F from fP_pos F), nI_eq (show mg F c < 2 ^ 31 by omega) (show fP F - 1 < 2 ^ 31 by omega), nI_0' (show mg F c < 2 ^ 31 by omega), nI_0' hd, bI_0]
    have hen : isEn F c = false := by
      unfold isEn
      by_cases ht : fT F = 0
      · rw [decide_eq_false (show ¬ mg F c = gr F + 1 by omega), Bool.and_false]
      · rw [decide_eq_false ht, Bool.false_and]
    have low : isNu F c = true → (if mg F c = 0 then some (0 : Int32) else if mg F c / 2 ^ fF F = 0 then some (if fU F = false then (2 : Int32) else 1) else some 2) = some (nI (kd F c)) := by
      intro hnu
      unfold kd isNo
      rw [hnu, hen]
      by_cases z0 : mg F c = 0
      · simp [z0]; rfl
      · by_cases z1 : mg F c / 2 ^ fF F = 0
        · cases fU F <;> simp [z0, z1] <;> rfl
        · simp [z0, z1]; rfl
    by_cases ht1 : fT F = 1
    · simp only [if_pos ht1]
      have hgr : gr F = fP F - 2 := by unfold gr; rw [if_neg (by omega), if_pos ht1]
      by_cases hl : mg F c = fP F - 1
      · simp only [if_pos hl]
        unfold kd isNo isNu
        rw [hen, decide_eq_false (show ¬ mg F c ≤ gr F by omega)]; rfl
      · simp only [if_neg hl]
        exact low (by unfold isNu; exact decide_eq_true (by omega))
    · simp only [if_neg ht1]
      apply low
      unfold isNu
      apply decide_eq_true
      by_cases ht0 : fT F = 0
      · omega
      · have hgr : gr F = fP F - 1 := by unfold gr; rw [if_neg ht0, if_neg ht1]
        omega
  simp only [fX5_kindOf, h0, h3, r3, r6, s3, s6, h2, Option.bind_some, nI_0' (show fT F < 2 ^ 31 by omega)]
  rw [sh_r (by omega) (by omega), sh_one _ (by omega), sh_mask (by omega) (by omega)]
  simp only [nI_eq hd hao, nI_0' hmo]
  by_cases ht0 : fT F = 0
  · simp only [if_pos ht0, mg_div0 hv ht0]
    by_cases hq : gr F + 1 ≤ mg F c
    · have hx : (c % 2 ^ fF F = 0) ↔ mg F c = gr F + 1 := by rw [mg_mod (F := F) c]; exact mg_end hv ht0 hq
      simp only [if_pos hq, hx]
      unfold kd isNo isNu isEn
      rw [decide_eq_true ht0, decide_eq_false (show ¬ mg F c ≤ gr F by omega)]
      by_cases he : mg F c = gr F + 1
      · simp [he]; rfl
      · simp [he]; rfl
    · simp only [if_neg hq]
      exact key (by omega)
  · simp only [if_neg ht0]
    exact key (by omega)
theorem kd_num {F : FM} (c : Nat) : (3 ≤ kd F c) ↔ isNu F c = false := by
  unfold kd isNo isEn isNu
  by_cases h1 : mg F c ≤ gr F
  · rw [decide_eq_true h1, decide_eq_false (show ¬ mg F c = gr F + 1 by omega), Bool.and_false]
    simp
    split
    · omega
    · split <;> omega
  · rw [decide_eq_false h1]
    by_cases h2 : mg F c = gr F + 1
    · cases hq : decide (fT F = 0) <;> simp [h2]
    · cases hq : decide (fT F = 0) <;> simp [h2]
theorem kd_end {F : FM} (c : Nat) : (kd F c = 3) ↔ isEn F c = true := by
  unfold kd isNo
  cases h1 : isNu F c with
  | true =>
    have h2 : isEn F c = false := by
      unfold isNu at h1; unfold isEn
      rw [decide_eq_true_eq] at h1
      rw [decide_eq_false (show ¬ mg F c = gr F + 1 by omega), Bool.and_false]
    rw [h2]; simp
    split
    · omega
    · split <;> omega
  | false => cases isEn F c <;> simp
theorem kd_lt (F : FM) (c : Nat) : kd F c < 5 := by
  unfold kd
  repeat' split
  all_goals omega
theorem m_isNumber (h : MG w j F) (hv : VF F) {c : Nat} (hc : c < 2 ^ 31) : fX5_isNumber w (some 15) (nI j) (nI c) = some (bI (isNu F c)) := by
  have h1 := m_kindOf h hv hc
  have h2 := kd_lt F c
  have h3 := kd_num (F := F) c
  obtain ⟨⟨fs, h0⟩, -⟩ := h
  simp only [fX5_isNumber, h0, h1, Option.bind_some]
  rw [show (3 : Int32) = nI 3 from rfl]
  simp only [nI_leI (show 3 < 2 ^ 31 by omega) (show kd F c < 2 ^ 31 by omega), h3]
  cases isNu F c <;> rfl
theorem m_isEndless (h : MG w j F) (hv : VF F) {c : Nat} (hc : c < 2 ^ 31) : fX5_isEndless w (some 15) (nI j) (nI c) = some (bI (isEn F c)) := by
  have h1 := m_kindOf h hv hc
  have h2 := kd_lt F c
  have h3 := kd_end (F := F) c
  obtain ⟨⟨fs, h0⟩, -⟩ := h
  simp only [fX5_isEndless, h0, h1, Option.bind_some, nI_3' (show kd F c < 2 ^ 31 by omega), h3]
  cases isEn F c <;> rfl
theorem m_beyond (h : MG w j F) (hv : VF F) {mi : Bool} (hm : (mi && decide (fS F = 0)) = false) : fX5_beyond w (some 15) (nI j) (bI mi) = some (nI (bey F mi)) := by
  have h1 := m_great h hv
  have h2 := m_noneOf h hv
  have hg := gr_lt hv
  have hT := hv.2.2.2.2.2.1
  have g : fX5_signed w (some 15) (nI j) (nI (gr F)) (bI mi) = some (nI (sg F mi (gr F))) := m_signed h hv mi (by omega)
  by_cases ht0 : fT F = 0
  · have h3 := m_endless h hv ht0
    have g2 : fX5_signed w (some 15) (nI j) (nI (gr F + 1)) (bI mi) = some (nI (sg F mi (gr F + 1))) := m_signed h hv mi (by omega)
    obtain ⟨⟨fs, h0⟩, r1, r2, r3, r4, r5, r6, s1, s2, s3, s4, s5, s6⟩ := h
    simp only [fX5_beyond, h0, r6, s6, h3, g2, Option.bind_some, nI_0' (show fT F < 2 ^ 31 by omega), if_pos ht0]
    unfold bey
    simp only [hm, Bool.false_eq_true, if_false, if_neg (show ¬ fT F = 1 by omega), if_pos ht0]
  · obtain ⟨⟨fs, h0⟩, r1, r2, r3, r4, r5, r6, s1, s2, s3, s4, s5, s6⟩ := h
    simp only [fX5_beyond, h0, r6, s6, h1, h2, g, Option.bind_some, nI_0' (show fT F < 2 ^ 31 by omega), nI_1' (show fT F < 2 ^ 31 by omega), if_neg ht0]
    unfold bey
    simp only [hm, Bool.false_eq_true, if_false, if_neg ht0]
    by_cases ht1 : fT F = 1
    · simp only [if_pos ht1]; unfold ncI nc; simp only [if_pos ht1]
    · simp only [if_neg ht1]
theorem m_endlessOr (h : MG w j F) (hv : VF F) (mi : Bool) (ht0 : fT F = 0) : fX5_endlessOr w (some 15) (nI j) (bI mi) = some (nI (bey F mi)) := by
  have hg := gr_lt hv
  have hS := hv.1
  have h3 := m_endless h hv ht0
  have g2 : fX5_signed w (some 15) (nI j) (nI (gr F + 1)) (bI mi) = some (nI (sg F mi (gr F + 1))) := m_signed h hv mi (by omega)
  obtain ⟨⟨fs, h0⟩, r1, r2, r3, r4, r5, r6, s1, s2, s3, s4, s5, s6⟩ := h
  simp only [fX5_endlessOr, h0, r1, s1, h3, g2, Option.bind_some, nI_0' (show fS F < 2 ^ 31 by omega), bI_0]
  unfold bey
  cases mi with
  | false => simp only [if_true, Bool.false_and, Bool.false_eq_true, if_false, if_neg (show ¬ fT F = 1 by omega), if_pos ht0]
  | true =>
    by_cases hs : fS F = 0
    · simp [hs]; rfl
    · simp only [Bool.true_eq_false, if_false, if_neg hs, decide_eq_false hs, Bool.and_false, Bool.false_eq_true, if_neg (show ¬ fT F = 1 by omega), if_pos ht0]
end MF
