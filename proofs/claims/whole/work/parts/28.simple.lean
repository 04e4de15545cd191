/-! THE CALLS, one by one: those that only answer, and those that round one result -/
theorem xmb2_s {α β : Type} (a : α) (w : xmW) (f : α → xmW → Option β) : xmb2 (some (a, w)) f = f a w := rfl
theorem wi_1 (a : Int32) : (∃ c, c ≤ 1 ∧ a = nI c ∧ (∀ w, fX4_within w a 0 1 = some 1) ∧ (∀ w, fX5_in w a.toInt64 0 1 = some 1)) ∨ ((∀ w, fX4_within w a 0 1 = some 0) ∧ (∀ w, fX5_in w a.toInt64 0 1 = some 0)) := wi_spl a 1 (by omega)
theorem wi_2 (a : Int32) : (∃ c, c ≤ 2 ∧ a = nI c ∧ (∀ w, fX4_within w a 0 2 = some 1) ∧ (∀ w, fX5_in w a.toInt64 0 2 = some 1)) ∨ ((∀ w, fX4_within w a 0 2 = some 0) ∧ (∀ w, fX5_in w a.toInt64 0 2 = some 0)) := wi_spl a 2 (by omega)
theorem wi_3 (a : Int32) : (∃ c, c ≤ 3 ∧ a = nI c ∧ (∀ w, fX4_within w a 0 3 = some 1) ∧ (∀ w, fX5_in w a.toInt64 0 3 = some 1)) ∨ ((∀ w, fX4_within w a 0 3 = some 0) ∧ (∀ w, fX5_in w a.toInt64 0 3 = some 0)) := wi_spl a 3 (by omega)
theorem wi_5 (a : Int32) : (∃ c, c ≤ 5 ∧ a = nI c ∧ (∀ w, fX4_within w a 0 5 = some 1) ∧ (∀ w, fX5_in w a.toInt64 0 5 = some 1)) ∨ ((∀ w, fX4_within w a 0 5 = some 0) ∧ (∀ w, fX5_in w a.toInt64 0 5 = some 0)) := wi_spl a 5 (by omega)
theorem wi_6 (a : Int32) : (∃ c, c ≤ 6 ∧ a = nI c ∧ (∀ w, fX4_within w a 0 6 = some 1) ∧ (∀ w, fX5_in w a.toInt64 0 6 = some 1)) ∨ ((∀ w, fX4_within w a 0 6 = some 0) ∧ (∀ w, fX5_in w a.toInt64 0 6 = some 0)) := wi_spl a 6 (by omega)
theorem wi_15 (a : Int32) : (∃ c, c ≤ 15 ∧ a = nI c ∧ (∀ w, fX4_within w a 0 15 = some 1) ∧ (∀ w, fX5_in w a.toInt64 0 15 = some 1)) ∨ ((∀ w, fX4_within w a 0 15 = some 0) ∧ (∀ w, fX5_in w a.toInt64 0 15 = some 0)) := wi_spl a 15 (by omega)
theorem wi_16 (a : Int32) : (∃ c, c ≤ 16 ∧ a = nI c ∧ (∀ w, fX4_within w a 0 16 = some 1) ∧ (∀ w, fX5_in w a.toInt64 0 16 = some 1)) ∨ ((∀ w, fX4_within w a 0 16 = some 0) ∧ (∀ w, fX5_in w a.toInt64 0 16 = some 0)) := wi_spl a 16 (by omega)
theorem bI_02 (p : Bool) : (if bI p = 0 then (0 : Int32) else 1) = bI p := by cases p <;> rfl
theorem n40 : (nI 4 = 0) = False := eq_false (by decide)
theorem n41 : (nI 4 = 1) = False := eq_false (by decide)
theorem n42 : (nI 4 = 2) = False := eq_false (by decide)
theorem n43 : (nI 4 = 3) = False := eq_false (by decide)
theorem n44 : (nI 4 = 4) = True := eq_true (by decide)
theorem act_root_x (w : xmW) (th k : Option Nat) (a b mode : Int32) : fX0_acted w th k (nI 4) a b mode = fX0_acted w th k (nI 4) a (nI 0) mode := by
  simp only [fX0_acted, fX0_acted_L27, n40, n41, n42, n43, n44, if_true, if_false]
theorem act_root_m (w : xmW) (th : Option Nat) (j a b mode : Int32) : fX5_acted w th j (nI 4) a b mode = fX5_acted w th j (nI 4) a (nI 0) mode := by
  simp only [fX5_acted, fX5_acted_L32, n40, n41, n42, n43, n44, if_true, if_false]
section SIMPLE
variable {n : Nat} {Fs : Nat → FM} {x : XS} {m : MS} {fl : List xmE}
theorem Pair.tell (h : IW n Fs x m fl) (u : Int32) {α : Type} (v : α) {C : Option (α × xmW)} {M : xmW → Option (α × xmW)} (hC : C = some (v, WB (xset x 1 u) m fl)) (hM : M (WB (xset x 1 u) m fl) = some (v, WB (xset x 1 u) (mset m 17 u) fl)) : Pair C m M :=
  ⟨v, _, _, _, hC, hM, n, Fs, h.tell u⟩
theorem pr_kind (h : IW n Fs x m fl) (a1 a2 a3 : Int32) : Pair (fX4_kind (WB x m fl) (some 0) a1 a2 a3) m (fun w => fX5_kind w (some 15) a1 a2 a3) := by
  rcases f_spl h.1 a1 with ⟨i, k, hi, hi10, rfl, hk, hF, hM, hv, e1, e2⟩ | ⟨e1, e2⟩
  · have e2 := fun x' fl' => e2 x' m fl' rfl
    have hw := hF.w x m
    have hG := fun x' => hM.g x' fl
    rcases hc_spl hv a2 with ⟨c, hc, rfl, c1, c2⟩ | ⟨c1, c2⟩
    · have c1 := c1 _ _ hw
      have c2 := fun x' => c2 _ _ (hG x')
      have kc := code_lt hv hc
      rcases wi_1 a3 with ⟨d, hd, rfl, d1, d2⟩ | ⟨d1, d2⟩
      · have hd0 := nI_0' (show d < 2 ^ 31 by omega)
        have hd1 := nI_1' (show d < 2 ^ 31 by omega)
        by_cases q : d = 0
        · refine Pair.ans h (nI (kd (Fs i) c)) ?_ ?_
          · simp only [fX4_kind, o_0, e1, c1, d1, Option.bind_some, reduceCtorEq, if_false, if_true, one_z, xmb2_id, hd1, if_neg (show ¬ d = 1 by omega), x_kindOf hw hv (show c < 2 ^ 31 by omega), x_ans]
          · simp only [fX5_kind, o_15, e2, c2, d2, Option.bind_some, if_false, one_z, xmb2_id, hd0, if_pos q, m_kindOf (hG _) hv (show c < 2 ^ 31 by omega), m_fin]
        · refine Pair.ans h (bI (ng (Fs i) c)) ?_ ?_
          · simp only [fX4_kind, o_0, e1, c1, d1, Option.bind_some, reduceCtorEq, if_false, if_true, one_z, xmb2_id, hd1, if_pos (show d = 1 by omega), x_isMinus hw hv (show c < 2 ^ 31 by omega), bI_02, x_ans]
          · simp only [fX5_kind, o_15, e2, c2, d2, Option.bind_some, if_false, one_z, xmb2_id, hd0, if_neg q, m_isMinus (hG _) hv hc, bI_02, m_fin]
      · exact Pair.ref h (-1) (by simp only [fX4_kind, o_0, e1, c1, d1, Option.bind_some, reduceCtorEq, if_false, if_true, one_z, x_ref, xmb2_id]) (by simp only [fX5_kind, o_15, e2, c2, d2, Option.bind_some, if_false, if_true, one_z, m_ref, xmb2_id])
    · have c1 := c1 _ _ hw
      have c2 := fun x' => c2 _ _ (hG x')
      exact Pair.ref h (-1) (by simp only [fX4_kind, o_0, e1, c1, Option.bind_some, reduceCtorEq, if_false, if_true, one_z, x_ref, xmb2_id]) (by simp only [fX5_kind, o_15, e2, c2, Option.bind_some, if_false, if_true, one_z, m_ref, xmb2_id])
  · have e2 := fun x' fl' => e2 x' m fl' rfl
    exact Pair.ref h (-1) (by simp only [fX4_kind, o_0, e1, Option.bind_some, if_true, x_ref, xmb2_id]) (by simp only [fX5_kind, o_15, e2, Option.bind_some, if_true, m_ref, xmb2_id])
theorem pr_units (h : IW n Fs x m fl) (a1 a2 : Int32) : Pair (fX4_units (WB x m fl) (some 0) a1 a2) m (fun w => fX5_units w (some 15) a1 a2) := by
  rcases f_spl h.1 a1 with ⟨i, k, hi, hi10, rfl, hk, hF, hM, hv, e1, e2⟩ | ⟨e1, e2⟩
  · have e2 := fun x' fl' => e2 x' m fl' rfl
    have hw := hF.w x m
    have hw2 := hF.w (xset x 1 0) m
    have hG := fun x' => hM.g x' fl
    have hG2 := fun x' => (show MA (mset m 17 0) i (Fs i) from hM).g x' fl
    rcases hc_spl hv a2 with ⟨c, hc, rfl, c1, c2⟩ | ⟨c1, c2⟩
    · have c1 := c1 _ _ hw
      have c2 := fun x' => c2 _ _ (hG x')
      have kc := code_lt hv hc
      refine Pair.tell h 0 (if isNu (Fs i) c = true then lZ (uz (Fs i) c) else -9223372036854775808) ?_ ?_
      · simp only [fX4_units, o_0, e1, c1, Option.bind_some, reduceCtorEq, if_false, one_z, x_ans, xmb2_s, x_isNumber hw2 hv (show c < 2 ^ 31 by omega), x_unitsOf hw2 hv (show c < 2 ^ 31 by omega), bI_0]
        cases isNu (Fs i) c <;> simp
      · simp only [fX5_units, o_15, e2, c2, Option.bind_some, if_false, one_z, p_15_17, m_isNumber (hG2 _) hv (show c < 2 ^ 31 by omega), m_unitsOf (hG2 _) hv hc, bI_0]
        cases isNu (Fs i) c <;> simp
    · have c1 := c1 _ _ hw
      have c2 := fun x' => c2 _ _ (hG x')
      exact Pair.tell h (-1) (-9223372036854775808 : Int64) (by simp only [fX4_units, o_0, e1, c1, Option.bind_some, reduceCtorEq, if_false, if_true, one_z, x_ref, xmb2_s]) (by simp only [fX5_units, o_15, e2, c2, Option.bind_some, if_false, if_true, one_z, m_ref, xmb2_s])
  · have e2 := fun x' fl' => e2 x' m fl' rfl
    exact Pair.tell h (-1) (-9223372036854775808 : Int64) (by simp only [fX4_units, o_0, e1, Option.bind_some, if_true, x_ref, xmb2_s]) (by simp only [fX5_units, o_15, e2, Option.bind_some, if_true, m_ref, xmb2_s])
theorem pr_code (h : IW n Fs x m fl) (a1 : Int32) (a2 a3 : Int64) (a4 : Int32) : Pair (fX4_code (WB x m fl) (some 0) a1 a2 a3 a4) m (fun w => fX5_code w (some 15) a1 a2 a3 a4) := by
  rcases f_spl h.1 a1 with ⟨i, k, hi, hi10, rfl, hk, hF, hM, hv, e1, e2⟩ | ⟨e1, e2⟩
  · have e2 := fun x' fl' => e2 x' m fl' rfl
    obtain ⟨p, hp, rfl⟩ := lZ_of a2
    obtain ⟨q, hq, rfl⟩ := lZ_of a3
    have t1 : (-1099511627776 : Int64) = lZ (-1099511627776) := by decide
    have t2 : (1099511627776 : Int64) = lZ 1099511627776 := by decide
    have t3 : (1 : Int64) = lZ 1 := rfl
    have t4 : (1048576 : Int64) = lZ 1048576 := by decide
    have r1 : LR (-1099511627776) := ⟨by omega, by omega⟩
    have r2 : LR 1099511627776 := ⟨by omega, by omega⟩
    have r3 : LR 1 := ⟨by omega, by omega⟩
    have r4 : LR 1048576 := ⟨by omega, by omega⟩
    have u1 : (lg_cmp (lZ p) (-1099511627776) < 0) ↔ p < -1099511627776 := by rw [t1]; exact lc_lt hp r1
    have u2 : (0 < lg_cmp (lZ p) 1099511627776) ↔ 1099511627776 < p := by rw [t2]; exact lc_gt hp r2
    have u3 : (lg_cmp (lZ q) 1 < 0) ↔ q < 1 := by rw [t3]; exact lc_lt hq r3
    have u4 : (0 < lg_cmp (lZ q) 1048576) ↔ 1048576 < q := by rw [t4]; exact lc_gt hq r4
    have v1 : ∀ w, fX5_in w (lZ p) (-1099511627776) 1099511627776 = some (bI (decide (-1099511627776 ≤ p ∧ p ≤ 1099511627776))) := fun w => by rw [t1, t2]; exact m_in hp r1 r2
    have v2 : ∀ w, fX5_in w (lZ q) 1 1048576 = some (bI (decide (1 ≤ q ∧ q ≤ 1048576))) := fun w => by rw [t3, t4]; exact m_in hq r3 r4
    by_cases hpp : -1099511627776 ≤ p ∧ p ≤ 1099511627776
    · rw [decide_eq_true hpp] at v1
      have n1 : ¬ p < -1099511627776 := by omega
      have n2 : ¬ 1099511627776 < p := by omega
      by_cases hqq : 1 ≤ q ∧ q ≤ 1048576
      · rw [decide_eq_true hqq] at v2
        have n3 : ¬ q < 1 := by omega
        have n4 : ¬ 1048576 < q := by omega
        obtain ⟨Q, rfl⟩ : ∃ Q : Nat, q = (Q : Int) := ⟨q.toNat, by omega⟩
        rcases mo_spl a4 with ⟨d, hd, rfl, d1, d2⟩ | ⟨d1, d2⟩
        · refine Pair.set h (RK.q hv (RK.fr hv (p * ((2 ^ sc (Fs i) : Nat) : Int)) Q d false)) ?_ ?_
          · have hop := x_fraction (x := xcl x) (m := m) hF hv hpp (q := Q) (by omega) hd
            simp only [fX4_code, o_0, e1, Option.bind_some, reduceCtorEq, if_false, u1, u2, u3, u4, n1, n2, n3, n4, d1, one_z, g_0_4, g_4_0, x_clear, hop, XO, xmb2_s, xmb2_id]
          · intro x'
            have hpw := pw20 (sc_le hv)
            have hs1 := sc_le hv
            have hpos : (0 : Int) ≤ ((2 ^ sc (Fs i) : Nat) : Int) := Int.natCast_nonneg _
            have hb1 : p * ((2 ^ sc (Fs i) : Nat) : Int) ≤ 1099511627776 * ((2 ^ sc (Fs i) : Nat) : Int) := Int.mul_le_mul_of_nonneg_right hpp.2 hpos
            have hb2 : -1099511627776 * ((2 ^ sc (Fs i) : Nat) : Int) ≤ p * ((2 ^ sc (Fs i) : Nat) : Int) := Int.mul_le_mul_of_nonneg_right hpp.1 hpos
            have hM2 : MA (mbg m) i (Fs i) := hM
            obtain ⟨m', k1, k2⟩ := m_frac (x := x') (fl := fl) hM2 hv (p := p * ((2 ^ sc (Fs i) : Nat) : Int)) ⟨by omega, by omega⟩ (q := Q) (by omega) hd false
            have k1 : fX5_roundedFraction (WB x' (mbg m) fl) (some 15) (nI i) (lZ (p * ((2 ^ sc (Fs i) : Nat) : Int))) (lZ (Q : Int)) (nI d) 0 = _ := k1
            refine ⟨m', ?_, k2.f⟩
            simp only [fX5_code, o_15, e2, v1, v2, d2, bI_t, Option.bind_some, if_false, one_z, m_begins, m_scale (hM2.g x' fl), sl_Z p (show sc (Fs i) < 63 by omega), k1, xmb2_s, xmb2_id]
        · exact Pair.ref h (-1) (by simp only [fX4_code, o_0, e1, Option.bind_some, reduceCtorEq, if_false, if_true, u1, u2, u3, u4, n1, n2, n3, n4, d1, x_ref, xmb2_id]) (by simp only [fX5_code, o_15, e2, v1, v2, d2, bI_t, Option.bind_some, if_false, if_true, one_z, m_ref, xmb2_id])
      · rw [decide_eq_false hqq] at v2
        refine Pair.ref h (-1) ?_ (by simp only [fX5_code, o_15, e2, v1, v2, bI_t, bI_f, Option.bind_some, if_false, if_true, one_z, m_ref, xmb2_id])
        simp only [fX4_code, o_0, e1, Option.bind_some, reduceCtorEq, if_false, u1, u2, u3, u4, n1, n2, x_ref, xmb2_id]
        by_cases n3 : q < 1
        · rw [if_pos n3]
        · rw [if_neg n3, if_pos (show 1048576 < q by omega)]
    · rw [decide_eq_false hpp] at v1
      refine Pair.ref h (-1) ?_ (by simp only [fX5_code, o_15, e2, v1, bI_f, Option.bind_some, if_false, if_true, one_z, m_ref, xmb2_id])
      simp only [fX4_code, o_0, e1, Option.bind_some, reduceCtorEq, if_false, u1, u2, x_ref, xmb2_id]
      by_cases n1 : p < -1099511627776
      · rw [if_pos n1]
      · rw [if_neg n1, if_pos (show 1099511627776 < p by omega)]
  · have e2 := fun x' fl' => e2 x' m fl' rfl
    exact Pair.ref h (-1) (by simp only [fX4_code, o_0, e1, Option.bind_some, if_true, x_ref, xmb2_id]) (by simp only [fX5_code, o_15, e2, Option.bind_some, if_true, m_ref, xmb2_id])
theorem pr_cross (h : IW n Fs x m fl) (a1 a2 a3 a4 : Int32) : Pair (fX4_cross (WB x m fl) (some 0) a1 a2 a3 a4) m (fun w => fX5_cross w (some 15) a1 a2 a3 a4) := by
  rcases f_spl h.1 a1 with ⟨i, k, hi, hi10, rfl, hk, hF, hM, hv, e1, e2⟩ | ⟨e1, e2⟩
  · have e2 := fun x' fl' => e2 x' m fl' rfl
    have hw := hF.w x m
    have hG := fun x' => hM.g x' fl
    rcases hc_spl hv a2 with ⟨c, hc, rfl, c1, c2⟩ | ⟨c1, c2⟩
    · have c1 := c1 _ _ hw
      have c2 := fun x' => c2 _ _ (hG x')
      rcases f_spl h.1 a3 with ⟨j, k2, hj, hj10, rfl, hk2, hF2, hM2, hv2, g1, g2⟩ | ⟨g1, g2⟩
      · have g2 := fun x' fl' => g2 x' m fl' rfl
        rcases mo_spl a4 with ⟨d, hd, rfl, d1, d2⟩ | ⟨d1, d2⟩
        · refine Pair.set h (RK.q hv2 (RK.cr (F := Fs i) hv2 c d)) ?_ ?_
          · have hop := x_crossed (x := xcl x) (m := m) hF hv hF2 hv2 hc hd
            simp only [fX4_cross, o_0, e1, g1, c1, d1, Option.bind_some, reduceCtorEq, if_false, one_z, g_0_4, g_4_0, x_clear, hop, XO, xmb2_s, xmb2_id]
          · intro x'
            obtain ⟨m', k1, k2⟩ := m_crossed (x := x') (m := mbg m) (fl := fl) hM hv hM2 hv2 hc hd
            refine ⟨m', ?_, k2.f⟩
            simp only [fX5_cross, o_15, e2, g2, c2, d2, Option.bind_some, if_false, one_z, m_begins, k1, xmb2_s, xmb2_id]
        · exact Pair.ref h (-1) (by simp only [fX4_cross, o_0, e1, g1, c1, d1, Option.bind_some, reduceCtorEq, if_false, if_true, one_z, x_ref, xmb2_id]) (by simp only [fX5_cross, o_15, e2, g2, c2, d2, Option.bind_some, if_false, if_true, one_z, m_ref, xmb2_id])
      · have g2 := fun x' fl' => g2 x' m fl' rfl
        exact Pair.ref h (-1) (by simp only [fX4_cross, o_0, e1, g1, Option.bind_some, reduceCtorEq, if_false, if_true, x_ref, xmb2_id]) (by simp only [fX5_cross, o_15, e2, g2, c2, Option.bind_some, if_false, if_true, one_z, m_ref, xmb2_id])
    · have c1 := c1 _ _ hw
      have c2 := fun x' => c2 _ _ (hG x')
      refine Pair.ref h (-1) ?_ (by simp only [fX5_cross, o_15, e2, c2, Option.bind_some, if_false, if_true, one_z, m_ref, xmb2_id])
      rcases f_spl h.1 a3 with ⟨j, k2, hj, hj10, rfl, hk2, hF2, hM2, hv2, g1, g2⟩ | ⟨g1, g2⟩
      · simp only [fX4_cross, o_0, e1, g1, c1, Option.bind_some, reduceCtorEq, if_false, if_true, x_ref, xmb2_id]
      · simp only [fX4_cross, o_0, e1, g1, Option.bind_some, reduceCtorEq, if_false, if_true, x_ref, xmb2_id]
  · have e2 := fun x' fl' => e2 x' m fl' rfl
    refine Pair.ref h (-1) ?_ (by simp only [fX5_cross, o_15, e2, Option.bind_some, if_true, m_ref, xmb2_id])
    rcases f_spl h.1 a3 with ⟨j, k2, hj, hj10, rfl, hk2, hF2, hM2, hv2, g1, g2⟩ | ⟨g1, g2⟩
    · simp only [fX4_cross, o_0, e1, g1, Option.bind_some, if_true, x_ref, xmb2_id]
    · simp only [fX4_cross, o_0, e1, g1, Option.bind_some, if_true, x_ref, xmb2_id]
theorem pr_act (h : IW n Fs x m fl) (a1 a2 a3 a4 a5 : Int32) : Pair (fX4_act (WB x m fl) (some 0) a1 a2 a3 a4 a5) m (fun w => fX5_act w (some 15) a1 a2 a3 a4 a5) := by
  rcases f_spl h.1 a1 with ⟨i, k, hi, hi10, rfl, hk, hF, hM, hv, e1, e2⟩ | ⟨e1, e2⟩
  · have e2 := fun x' fl' => e2 x' m fl' rfl
    have hw := hF.w x m
    have hG := fun x' => hM.g x' fl
    rcases wi_6 a2 with ⟨wh, hwh, rfl, w1, w2⟩ | ⟨w1, w2⟩
    · rcases hc_spl hv a3 with ⟨a, ha, rfl, c1, c2⟩ | ⟨c1, c2⟩
      · have c1 := c1 _ _ hw
        have c2 := fun x' => c2 _ _ (hG x')
        have h4 := nI_4' (show wh < 2 ^ 31 by omega)
        by_cases q4 : wh = 4
        · subst q4
          rcases mo_spl a5 with ⟨d, hd, rfl, d1, d2⟩ | ⟨d1, d2⟩
          · refine Pair.set h (RK.q hv (RK.act (what := 4) (a := a) (b := 0) (mode := d) hv ha (fun q => absurd rfl q))) ?_ ?_
            · have hop := x_acted (x := xcl x) (m := m) (what := 4) (b := 0) hF hv (by omega) ha (fun q => absurd rfl q) (by omega) hd
              rw [← act_root_x _ _ _ _ a4] at hop
              simp only [fX4_act, fX4_act_L66, o_0, e1, w1, c1, d1, Option.bind_some, reduceCtorEq, if_false, one_z, n44, if_true, g_0_4, g_4_0, x_clear, hop, xmb2_s, xmb2_id]
            · intro x'
              obtain ⟨m', k1, k2⟩ := m_acted (x := x') (m := mbg m) (fl := fl) (what := 4) (b := 0) hM hv (by omega) ha (fun q => absurd rfl q) (by omega) hd
              rw [← act_root_m _ _ _ _ a4] at k1
              refine ⟨m', ?_, k2.f⟩
              simp only [fX5_act, fX5_act_L44, o_15, e2, w2, c2, d2, Option.bind_some, if_false, one_z, n44, if_true, m_begins, k1, xmb2_s, xmb2_id]
          · exact Pair.ref h (-1) (by simp only [fX4_act, o_0, e1, w1, c1, d1, Option.bind_some, reduceCtorEq, if_false, if_true, one_z, x_ref, xmb2_id]) (by simp only [fX5_act, fX5_act_L44, o_15, e2, w2, c2, d2, n44, Option.bind_some, if_false, if_true, one_z, m_ref, xmb2_id])
        · rcases hc_spl hv a4 with ⟨b, hb, rfl, g1, g2⟩ | ⟨g1, g2⟩
          · have g1 := g1 _ _ hw
            have g2 := fun x' => g2 _ _ (hG x')
            have kb := code_lt hv hb
            rcases mo_spl a5 with ⟨d, hd, rfl, d1, d2⟩ | ⟨d1, d2⟩
            · refine Pair.set h (RK.q hv (RK.act (what := wh) (a := a) (b := b) (mode := d) hv ha (fun _ => hb))) ?_ ?_
              · have hop := x_acted (x := xcl x) (m := m) hF hv hwh ha (fun _ => hb) (show b < 2 ^ 31 by omega) hd
                simp only [fX4_act, fX4_act_L66, o_0, e1, w1, c1, g1, d1, Option.bind_some, reduceCtorEq, if_false, one_z, h4, if_neg q4, g_0_4, g_4_0, x_clear, hop, xmb2_s, xmb2_id]
              · intro x'
                obtain ⟨m', k1, k2⟩ := m_acted (x := x') (m := mbg m) (fl := fl) hM hv hwh ha (fun _ => hb) (show b < 2 ^ 31 by omega) hd
                refine ⟨m', ?_, k2.f⟩
                simp only [fX5_act, fX5_act_L44, o_15, e2, w2, c2, g2, d2, Option.bind_some, if_false, one_z, h4, if_neg q4, m_begins, k1, xmb2_s, xmb2_id]
            · exact Pair.ref h (-1) (by simp only [fX4_act, o_0, e1, w1, c1, d1, Option.bind_some, reduceCtorEq, if_false, if_true, one_z, x_ref, xmb2_id]) (by simp only [fX5_act, fX5_act_L44, o_15, e2, w2, c2, g2, d2, h4, if_neg q4, Option.bind_some, if_false, if_true, one_z, m_ref, xmb2_id])
          · have g1 := g1 _ _ hw
            have g2 := fun x' => g2 _ _ (hG x')
            refine Pair.ref h (-1) ?_ (by simp only [fX5_act, fX5_act_L44, o_15, e2, w2, c2, g2, h4, if_neg q4, Option.bind_some, if_false, if_true, one_z, m_ref, xmb2_id])
            rcases mo_spl a5 with ⟨d, hd, rfl, d1, d2⟩ | ⟨d1, d2⟩
            · simp only [fX4_act, o_0, e1, w1, c1, d1, g1, h4, if_neg q4, Option.bind_some, reduceCtorEq, if_false, if_true, one_z, x_ref, xmb2_id]
            · simp only [fX4_act, o_0, e1, w1, c1, d1, Option.bind_some, reduceCtorEq, if_false, if_true, one_z, x_ref, xmb2_id]
      · have c1 := c1 _ _ hw
        have c2 := fun x' => c2 _ _ (hG x')
        exact Pair.ref h (-1) (by simp only [fX4_act, o_0, e1, w1, c1, Option.bind_some, reduceCtorEq, if_false, if_true, one_z, x_ref, xmb2_id]) (by simp only [fX5_act, o_15, e2, w2, c2, Option.bind_some, if_false, if_true, one_z, m_ref, xmb2_id])
    · exact Pair.ref h (-1) (by simp only [fX4_act, o_0, e1, w1, Option.bind_some, reduceCtorEq, if_false, if_true, one_z, x_ref, xmb2_id]) (by simp only [fX5_act, o_15, e2, w2, Option.bind_some, if_false, if_true, one_z, m_ref, xmb2_id])
  · have e2 := fun x' fl' => e2 x' m fl' rfl
    exact Pair.ref h (-1) (by simp only [fX4_act, o_0, e1, Option.bind_some, if_true, x_ref, xmb2_id]) (by simp only [fX5_act, o_15, e2, Option.bind_some, if_true, m_ref, xmb2_id])
theorem x_cmpI {w : xmW} {a b : Int} (ha : IR a) (hb : IR b) : fJ6_compare_7cf53 w (iZ a) (iZ b) = some (iZ (cmp3 a b)) := by
  simp only [fJ6_compare_7cf53, iZ_le hb ha, iZ_eq ha hb]
  unfold cmp3
  by_cases h1 : a < b
  · rw [if_neg (show ¬ b ≤ a by omega), if_pos h1]; rfl
  · rw [if_pos (show b ≤ a by omega), if_neg h1]
    by_cases h2 : a = b
    · rw [if_pos h2, if_pos h2]; rfl
    · rw [if_neg h2, if_neg h2]; rfl
theorem pr_order (h : IW n Fs x m fl) (a1 a2 a3 : Int32) : Pair (fX4_order (WB x m fl) (some 0) a1 a2 a3) m (fun w => fX5_order w (some 15) a1 a2 a3) := by
  rcases f_spl h.1 a1 with ⟨i, k, hi, hi10, rfl, hk, hF, hM, hv, e1, e2⟩ | ⟨e1, e2⟩
  · have e2 := fun x' fl' => e2 x' m fl' rfl
    have hw := hF.w x m
    have hG := fun x' => hM.g x' fl
    rcases hc_spl hv a2 with ⟨a, ha, rfl, c1, c2⟩ | ⟨c1, c2⟩
    · have c1 := c1 _ _ hw
      have c2 := fun x' => c2 _ _ (hG x')
      have ka := code_lt hv ha
      rcases hc_spl hv a3 with ⟨b, hb, rfl, g1, g2⟩ | ⟨g1, g2⟩
      · have g1 := g1 _ _ hw
        have g2 := fun x' => g2 _ _ (hG x')
        have kb := code_lt hv hb
        have k1 := kd_lt (Fs i) a
        have k2 := kd_lt (Fs i) b
        have q1 := nI_4' (show kd (Fs i) a < 2 ^ 31 by omega)
        have q2 := nI_4' (show kd (Fs i) b < 2 ^ 31 by omega)
        have p1 := kd_no (F := Fs i) a
        have p2 := kd_no (F := Fs i) b
        cases na : isNo (Fs i) a with
        | true =>
          rw [na] at p1
          refine Pair.ans h 2 ?_ ?_
          · simp only [fX4_order, o_0, e1, c1, g1, Option.bind_some, reduceCtorEq, if_false, one_z, x_isNone hw hv (show a < 2 ^ 31 by omega), na, bI_t, x_ans, xmb2_id]
          · simp only [fX5_order, o_15, e2, c2, g2, Option.bind_some, if_false, one_z, m_kindOf (hG _) hv (show a < 2 ^ 31 by omega), q1, p1, if_true, m_fin, xmb2_id]
        | false =>
          rw [na] at p1
          have p1 : ¬ kd (Fs i) a = 4 := fun q => by have := p1.mp q; cases this
          cases nb : isNo (Fs i) b with
          | true =>
            rw [nb] at p2
            refine Pair.ans h 2 ?_ ?_
            · simp only [fX4_order, o_0, e1, c1, g1, Option.bind_some, reduceCtorEq, if_false, one_z, x_isNone hw hv (show a < 2 ^ 31 by omega), x_isNone hw hv (show b < 2 ^ 31 by omega), na, nb, bI_t, bI_f, if_true, x_ans, xmb2_id]
            · simp only [fX5_order, o_15, e2, c2, g2, Option.bind_some, if_false, one_z, m_kindOf (hG _) hv (show a < 2 ^ 31 by omega), m_kindOf (hG _) hv (show b < 2 ^ 31 by omega), q1, q2, p1, p2, if_true, m_fin, xmb2_id]
          | false =>
            rw [nb] at p2
            have p2 : ¬ kd (Fs i) b = 4 := fun q => by have := p2.mp q; cases this
            refine Pair.ans h (iZ (cmp3 (rk (Fs i) a) (rk (Fs i) b))) ?_ ?_
            · simp only [fX4_order, o_0, e1, c1, g1, Option.bind_some, reduceCtorEq, if_false, one_z, x_isNone hw hv (show a < 2 ^ 31 by omega), x_isNone hw hv (show b < 2 ^ 31 by omega), na, nb, bI_f, if_true, x_rank hw hv (show a < 2 ^ 31 by omega), x_rank hw hv (show b < 2 ^ 31 by omega), x_cmpI (rk_r hv a).1 (rk_r hv b).1, x_ans, xmb2_id]
            · simp only [fX5_order, o_15, e2, c2, g2, Option.bind_some, if_false, one_z, m_kindOf (hG _) hv (show a < 2 ^ 31 by omega), m_kindOf (hG _) hv (show b < 2 ^ 31 by omega), q1, q2, p1, p2, m_beside hM hv ha hb na nb, m_fin, xmb2_id]
      · have g1 := g1 _ _ hw
        have g2 := fun x' => g2 _ _ (hG x')
        exact Pair.ref h (-1) (by simp only [fX4_order, o_0, e1, c1, g1, Option.bind_some, reduceCtorEq, if_false, if_true, one_z, x_ref, xmb2_id]) (by simp only [fX5_order, o_15, e2, c2, g2, Option.bind_some, if_false, if_true, one_z, m_ref, xmb2_id])
    · have c1 := c1 _ _ hw
      have c2 := fun x' => c2 _ _ (hG x')
      exact Pair.ref h (-1) (by simp only [fX4_order, o_0, e1, c1, Option.bind_some, reduceCtorEq, if_false, if_true, one_z, x_ref, xmb2_id]) (by simp only [fX5_order, o_15, e2, c2, Option.bind_some, if_false, if_true, one_z, m_ref, xmb2_id])
  · have e2 := fun x' fl' => e2 x' m fl' rfl
    exact Pair.ref h (-1) (by simp only [fX4_order, o_0, e1, Option.bind_some, if_true, x_ref, xmb2_id]) (by simp only [fX5_order, o_15, e2, Option.bind_some, if_true, m_ref, xmb2_id])
theorem pr_told (h : IW n Fs x m fl) : ∃ v, fX4_told (WB x m fl) (some 0) = some v ∧ fX5_told (WB x m fl) (some 15) = some v := by
  obtain ⟨_, _, _, _, b1, _⟩ := h
  refine ⟨x.1 1, ?_, ?_⟩
  · simp only [fX4_told, o_0, g_0_6, Option.bind_some]
  · simp only [fX5_told, o_15, g_15_17, Option.bind_some, b1]
theorem pr_count (h : IW n Fs x m fl) (a : Int32) : ∃ v, fX4_count (WB x m fl) (some 0) a = some v ∧ fX5_count (WB x m fl) (some 15) a = some v := by
  obtain ⟨⟨_, f0, f1, _⟩, _, _, _, b1, b2, b3, b4⟩ := h
  refine ⟨if a = 0 then x.1 8 else if a = 1 then x.1 9 else if a = 2 then x.1 10 else if a = 3 then x.1 0 else -1, ?_, ?_⟩
  · simp only [fX4_count, o_0, g_0_5, g_6_0, g_6_1, g_6_2, g_0_1, Option.bind_some]
    split
    · rfl
    · split
      · rfl
      · split
        · rfl
        · split <;> rfl
  · simp only [fX5_count, o_15, g_15_14, g_15_15, g_15_16, g_15_0, Option.bind_some, b2, b3, b4, f0, f1]
    split
    · rfl
    · split
      · rfl
      · split
        · rfl
        · split <;> rfl
end SIMPLE
