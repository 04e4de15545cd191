/-! fused, the call -/
section FUC
variable {n : Nat} {Fs : Nat → FM} {x : XS} {m : MS} {fl : List xmE}
def fuC (F : FM) (j a b c : Nat) (w : xmW) (q : Nat) : Option xmW := if q = 0 then fX5_comesProduct w (some 15) (nI j) (nI a) (nI b) else fX5_comes w (some 15) (nI j) (nI c) (lZ ((2 ^ sc F : Nat) : Int))
def fuW (F : FM) (j a b c mode : Nat) (w : xmW) : Option (Int32 × xmW) := FE (fX5_whatCame w (some 15) (nI j) (lZ ((2 ^ sc F : Nat) : Int)) (nI mode) (bI (fuM F a b c mode)))
def fuL (F : FM) (j a b c mode : Nat) (_ : Nat) (w : xmW) (z : Int32) : Option (Int32 × xmW) := if z = nI 0 then (fuC F j a b c w 0).bind fun w => (fuC F j a b c w 1).bind fun w => fuW F j a b c mode w else if z = nI 1 then (fuC F j a b c w 1).bind fun w => fuW F j a b c mode w else fuW F j a b c mode w
theorem m_fuL {j : Nat} {F : FM} (hM : MA m j F) (hv : VF F) {a b c mode : Nat} (ha : a < 2 ^ bits F) (hb : b < 2 ^ bits F) (hc : c < 2 ^ bits F) (hm : mode ≤ 5) (h23 : m.1 23 = nI 0) (h24 : m.2.1 24 = lZ 0) :
    ∃ m1, fuL F j a b c mode 3 (WB x m fl) (nI 0) = fX5_ends (WB x m1 fl) (some 15) (rv (fuS F a b c mode)) ∧ mDf m m1 (fuS F a b c mode).2.1 (fuS F a b c mode).2.2.1 (fuS F a b c mode).2.2.2 := by
  have hsc := sc_le hv
  have hpw := pw20 hsc
  have e01 : ¬ nI 1 = nI 0 := by decide
  have e20 : ¬ nI 2 = nI 0 := by decide
  have e21 : ¬ nI 2 = nI 1 := by decide
  have h := m_exL (x := x) (fl := fl) (j := j) (len := 2) (den := 2 ^ sc F) (mode := mode) hv (fu_ok hv a b c) (by omega) hm (fuM F a b c mode) (fun m => MA m j F) (fuL F j a b c mode) (fuC F j a b c) (fun m h => h) (fun m m' p q r h hd => h.qf hd) (fun m N q h hq => ?_) (fun m N h => ?_) (fun m q e Z h hq he k23 k24 => ?_) (fun m q h hq k => ?_) (by omega) 2 0 3 0 0 m (by omega) (by omega) hM (by omega) (fun q => absurd rfl q) h23 h24 (by omega) (by omega)
  · rw [fu_mz hv] at h
    exact h
  · have : q = 0 ∨ q = 1 := by omega
    rcases this with rfl | rfl
    · unfold fuL
      simp only [if_true, Nat.zero_add, e01, if_false]
    · unfold fuL
      simp only [if_true, Nat.reduceAdd, e01, e20, e21, if_false]
  · unfold fuL
    rw [if_neg e20, if_neg e21]
    rfl
  · have : q = 0 ∨ q = 1 := by omega
    rcases this with rfl | rfl
    · exact m_comesP h hv ha hb he k23 k24
    · refine m_comes h hv hc he k23 k24 ((2 ^ sc F : Nat) : Int) (t := fuT F a b c 1) rfl (fun q => ?_) (fun q => ?_) (Int.natCast_nonneg _)
      · rw [fu_1]; exact if_pos q
      · rw [fu_1]; exact if_neg (by omega)
  · have : q = 0 ∨ q = 1 := by omega
    rcases this with rfl | rfl
    · exact m_cPAbs k _ _
    · exact m_cAbs k _ _
theorem m_fuF {j : Nat} {F : FM} (hM : MA m j F) (hv : VF F) {a b c mode : Nat} (ha : a < 2 ^ bits F) (hb : b < 2 ^ bits F) (hc : c < 2 ^ bits F) (hm : mode ≤ 5) (h23 : m.1 23 = nI 0) (h24 : m.2.1 24 = lZ 0) :
    ((fX5_comesProduct (WB x m fl) (some 15) (nI j) (nI a) (nI b)).bind fun w28 => (xmgI w28 (some 15) 5 23).bind fun v29 => if v29 = 0 then (xmgL w28 (some 15) 5 24).bind fun v30 => fX5_fused_L97 w28 (some 15) (nI j) (nI a) (nI b) (nI c) (nI mode) (if lg_cmp v30 0 = 0 then 1 else 0) else fX5_fused_L97 w28 (some 15) (nI j) (nI a) (nI b) (nI c) (nI mode) 0) = fuL F j a b c mode 3 (WB x m fl) (nI 0) := by
  obtain ⟨m', k1, k2⟩ := m_comesP (x := x) (fl := fl) hM hv ha hb (e := 0) (by omega) h23 h24
  obtain ⟨v, hd⟩ := k2.d
  have hM' := hM.qf hd
  have rp := szp_r hv a b
  have hflag : ∃ z : Bool, (z = true ↔ szp F a b = 0) ∧ ((if m'.1 23 = 0 then fX5_fused_L97 (WB x m' fl) (some 15) (nI j) (nI a) (nI b) (nI c) (nI mode) (if lg_cmp (m'.2.1 24) 0 = 0 then 1 else 0) else fX5_fused_L97 (WB x m' fl) (some 15) (nI j) (nI a) (nI b) (nI c) (nI mode) 0) = fX5_fused_L97 (WB x m' fl) (some 15) (nI j) (nI a) (nI b) (nI c) (nI mode) (bI z)) ∧ ((∃ e Z, e ≤ 2 ∧ m'.1 23 = nI e ∧ m'.2.1 24 = lZ Z) ∨ (m'.1 23 = 3 ∨ m'.1 23 = 4)) := by
    unfold CS at k2
    by_cases q2 : szp F a b = -2
    · rw [if_pos q2] at k2
      refine ⟨false, ⟨fun q => (by cases q), fun q => (by omega)⟩, ?_, Or.inr (Or.inl k2.2)⟩
      rw [k2.2, if_neg (by decide)]; rfl
    · rw [if_neg q2] at k2
      by_cases q3 : szp F a b = -3
      · rw [if_pos q3] at k2
        have hS : m'.1 23 = 3 ∨ m'.1 23 = 4 := by
          have h := k2.2
          by_cases q : nc F = none
          · rw [if_pos q] at h; exact Or.inr h
          · rw [if_neg q] at h; exact Or.inl h
        refine ⟨false, ⟨fun q => (by cases q), fun q => (by omega)⟩, ?_, Or.inr hS⟩
        rw [if_neg (by rcases hS with h | h <;> rw [h] <;> decide)]; rfl
      · rw [if_neg q3] at k2
        by_cases q1 : szp F a b = -1
        · rw [if_pos q1, if_neg (show ¬ (0 = if (szp F a b, ng F a != ng F b).2 = true then 1 else 2) by split <;> decide)] at k2
          refine ⟨false, ⟨fun q => (by cases q), fun q => (by omega)⟩, ?_, Or.inl ⟨_, _, (by split <;> omega), k2.2.1, k2.2.2⟩⟩
          rw [k2.2.1, if_neg (by split <;> decide)]; rfl
        · rw [if_neg q1] at k2
          refine ⟨decide (szp F a b = 0), by simp, ?_, Or.inl ⟨_, _, (by omega), k2.2.1, k2.2.2⟩⟩
          have hs : -4398046511104 ≤ sz (ng F a != ng F b) (szp F a b) ∧ sz (ng F a != ng F b) (szp F a b) ≤ 4398046511104 := by unfold sz; split <;> omega
          have hz : (sz (ng F a != ng F b) (szp F a b) = 0) ↔ szp F a b = 0 := by unfold sz; split <;> omega
          rw [k2.2.1, if_pos (by decide), k2.2.2]
          have : (lg_cmp (lZ (0 + sz (szp F a b, ng F a != ng F b).2 (szp F a b, ng F a != ng F b).1)) 0 = 0) ↔ szp F a b = 0 := by
            rw [Int.zero_add, show (0 : Int64) = lZ 0 from rfl, lc_eq ⟨by show _ ≤ sz (ng F a != ng F b) (szp F a b); omega, by show sz (ng F a != ng F b) (szp F a b) < _; omega⟩ ⟨by omega, by omega⟩]
            exact hz
          simp only [this]
          rw [bI_if]
  obtain ⟨z, z1, z2, z3⟩ := hflag
  have hcm : ∃ m2, fX5_comes (WB x m' fl) (some 15) (nI j) (nI c) (lZ ((2 ^ sc F : Nat) : Int)) = some (WB x m2 fl) ∧ MA m2 j F := by
    rcases z3 with ⟨e, Z, he, g1, g2⟩ | hS
    · obtain ⟨m2, j1, j2⟩ := m_comes (x := x) (fl := fl) hM' hv hc he g1 g2 ((2 ^ sc F : Nat) : Int) (t := fuT F a b c 1) rfl (fun q => by rw [fu_1]; exact if_pos q) (fun q => by rw [fu_1]; exact if_neg (by omega)) (Int.natCast_nonneg _)
      obtain ⟨v2, hd2⟩ := j2.d
      exact ⟨m2, j1, hM'.qf hd2⟩
    · exact ⟨m', m_cAbs hS _ _, hM'⟩
  obtain ⟨m2, j1, j2⟩ := hcm
  have hc0 : fuC F j a b c (WB x m fl) 0 = some (WB x m' fl) := k1
  have hc1 : fuC F j a b c (WB x m' fl) 1 = some (WB x m2 fl) := j1
  rw [k1, Option.bind_some, g_15_23, Option.bind_some, g_15_24, Option.bind_some, z2, m_L97 hM' hv ha hb hc hm z j2 j1]
  unfold fuL
  rw [if_pos rfl, hc0, Option.bind_some, hc1, Option.bind_some]
  unfold fuW fuM
  simp only [z1]
theorem pr_fused (h : IW n Fs x m fl) (a1 a2 a3 a4 a5 : Int32) : Pair (fX4_fused (WB x m fl) (some 0) a1 a2 a3 a4 a5) m (fun w => fX5_fused w (some 15) a1 a2 a3 a4 a5) := by
  have z1 : ¬ (1 : Int32) = 0 := by decide
  rcases f_spl h.1 a1 with ⟨i, k, hi, hi10, rfl, hk, hF, hM, hv, e1, e2⟩ | ⟨e1, e2⟩
  · have e2 := fun x' fl' => e2 x' m fl' rfl
    have hw := hF.w x m
    have hG := fun x' => hM.g x' fl
    rcases hc_spl hv a2 with ⟨a, ha, rfl, c1, c2⟩ | ⟨c1, c2⟩
    · have c1 := c1 _ _ hw
      have c2 := fun x' => c2 _ _ (hG x')
      rcases hc_spl hv a3 with ⟨b, hb, rfl, g1, g2⟩ | ⟨g1, g2⟩
      · have g1 := g1 _ _ hw
        have g2 := fun x' => g2 _ _ (hG x')
        rcases hc_spl hv a4 with ⟨c, hc, rfl, l1, l2⟩ | ⟨l1, l2⟩
        · have l1 := l1 _ _ hw
          have l2 := fun x' => l2 _ _ (hG x')
          rcases mo_spl a5 with ⟨d, hd, rfl, d1, d2⟩ | ⟨d1, d2⟩
          · refine Pair.set h (RK.q hv (exS_rk hv (fu_ok hv a b c) (2 ^ sc (Fs i)) d (fuZ (Fs i) a b c d) 2 0 0 0)) ?_ ?_
            · have hop := x_fused (x := xcl x) (m := m) hF hv ha hb hc hd
              simp only [fX4_fused, o_0, e1, c1, g1, l1, d1, Option.bind_some, reduceCtorEq, if_false, one_z, g_0_4, g_4_0, x_clear, hop, XO, xmb2_s, xmb2_id]
              rfl
            · intro x'
              have hM0 : MA (mz0 m) i (Fs i) := hM
              obtain ⟨m1, k1, k2⟩ := m_fuL (x := x') (m := mz0 m) (fl := fl) hM0 hv ha hb hc hd (mz0_23 m) (mz0_24 m)
              have kF := m_fuF (x := x') (m := mz0 m) (fl := fl) hM0 hv ha hb hc hd (mz0_23 m) (mz0_24 m)
              refine ⟨m1, ?_, ?_⟩
              · show fX5_fused _ _ _ _ _ _ _ = _
                unfold fX5_fused
                rw [o_15, Option.bind_some, e2, Option.bind_some, if_neg z1, c2, Option.bind_some, if_neg z1, g2, Option.bind_some, if_neg z1, l2, Option.bind_some, if_neg z1, d2, Option.bind_some, if_neg z1, m_begins, Option.bind_some, p_15_23, Option.bind_some, p_15_24, Option.bind_some]
                exact kF.trans k1
              · have := (mz0_d m).tr k2
                rw [Nat.zero_add, Nat.zero_add, Nat.zero_add] at this
                exact this
          · exact Pair.ref h (-1) (by simp only [fX4_fused, o_0, e1, c1, g1, l1, d1, Option.bind_some, reduceCtorEq, if_false, if_true, one_z, x_ref, xmb2_id]) (by simp only [fX5_fused, o_15, e2, c2, g2, l2, d2, Option.bind_some, if_false, if_true, one_z, m_ref, xmb2_id])
        · have l1 := l1 _ _ hw
          have l2 := fun x' => l2 _ _ (hG x')
          exact Pair.ref h (-1) (by simp only [fX4_fused, o_0, e1, c1, g1, l1, Option.bind_some, reduceCtorEq, if_false, if_true, one_z, x_ref, xmb2_id]) (by simp only [fX5_fused, o_15, e2, c2, g2, l2, Option.bind_some, if_false, if_true, one_z, m_ref, xmb2_id])
      · have g1 := g1 _ _ hw
        have g2 := fun x' => g2 _ _ (hG x')
        exact Pair.ref h (-1) (by simp only [fX4_fused, o_0, e1, c1, g1, Option.bind_some, reduceCtorEq, if_false, if_true, one_z, x_ref, xmb2_id]) (by simp only [fX5_fused, o_15, e2, c2, g2, Option.bind_some, if_false, if_true, one_z, m_ref, xmb2_id])
    · have c1 := c1 _ _ hw
      have c2 := fun x' => c2 _ _ (hG x')
      exact Pair.ref h (-1) (by simp only [fX4_fused, o_0, e1, c1, Option.bind_some, reduceCtorEq, if_false, if_true, one_z, x_ref, xmb2_id]) (by simp only [fX5_fused, o_15, e2, c2, Option.bind_some, if_false, if_true, one_z, m_ref, xmb2_id])
  · have e2 := fun x' fl' => e2 x' m fl' rfl
    exact Pair.ref h (-1) (by simp only [fX4_fused, o_0, e1, Option.bind_some, if_true, x_ref, xmb2_id]) (by simp only [fX5_fused, o_15, e2, Option.bind_some, if_true, m_ref, xmb2_id])
end FUC
