/-! ROWS: their cells by number, and the calls row, put, at -/
theorem nI_mul' (a b : Nat) : nI a * nI b = nI (a * b) := (Int32.ofNat_mul a b).symm
theorem nI_16 (i q : Nat) : (16 : Int32) * nI i + nI q = nI (16 * i + q) := by
  rw [show (16 : Int32) = nI 16 from rfl, nI_mul', nI_add]
theorem rowsA_i {i : Nat} (h : i < 4) : rowsA i = some (7 + 2 * i) := by
  match i, h with
  | 0, _ => rfl
  | 1, _ => rfl
  | 2, _ => rfl
  | 3, _ => rfl
  | i + 4, h => exact absurd h (by omega)
section ROWS
variable {n : Nat} {Fs : Nat → FM} {x : XS} {m : MS} {fl : List xmE}
theorem g_rf {i : Nat} (h : i < 4) : xmgR (WB x m fl) (some (7 + 2 * i)) 2 0 = some (x.2.2.2.2.1 i) := by
  match i, h with
  | 0, _ => exact g_7_0
  | 1, _ => exact g_9_0
  | 2, _ => exact g_11_0
  | 3, _ => exact g_13_0
  | i + 4, h => exact absurd h (by omega)
theorem g_rl {i : Nat} (h : i < 4) : xmgI (WB x m fl) (some (7 + 2 * i)) 2 1 = some (x.1 (11 + i)) := by
  match i, h with
  | 0, _ => exact g_7_1
  | 1, _ => exact g_9_1
  | 2, _ => exact g_11_1
  | 3, _ => exact g_13_1
  | i + 4, h => exact absurd h (by omega)
theorem g_rc {i : Nat} (h : i < 4) : xmgR (WB x m fl) (some (7 + 2 * i)) 2 2 = some (some (8 + 2 * i)) := by
  match i, h with
  | 0, _ => exact g_7_2
  | 1, _ => exact g_9_2
  | 2, _ => exact g_11_2
  | 3, _ => exact g_13_2
  | i + 4, h => exact absurd h (by omega)
theorem o_r {i : Nat} (h : i < 4) : xmob (WB x m fl) (some (7 + 2 * i)) 2 = some [xR (x.2.2.2.2.1 i), xI (x.1 (11 + i)), xR (some (8 + 2 * i))] := by
  match i, h with
  | 0, _ => exact o_7
  | 1, _ => exact o_9
  | 2, _ => exact o_11
  | 3, _ => exact o_13
  | i + 4, h => exact absurd h (by omega)
theorem p_rf {i : Nat} (h : i < 4) (v : Option Nat) : xmput (WB x m fl) (some (7 + 2 * i)) 2 0 (xR v) = some (WB (xrf x i v) m fl) := by
  match i, h with
  | 0, _ => exact p_7_0 v
  | 1, _ => exact p_9_0 v
  | 2, _ => exact p_11_0 v
  | 3, _ => exact p_13_0 v
  | i + 4, h => exact absurd h (by omega)
theorem p_rl {i : Nat} (h : i < 4) (v : Int32) : xmput (WB x m fl) (some (7 + 2 * i)) 2 1 (xI v) = some (WB (xset x (11 + i) v) m fl) := by
  match i, h with
  | 0, _ => exact p_7_1 v
  | 1, _ => exact p_9_1 v
  | 2, _ => exact p_11_1 v
  | 3, _ => exact p_13_1 v
  | i + 4, h => exact absurd h (by omega)
theorem a_rc {i q : Nat} (h : i < 4) (hq : q < 16) : xmild (WB x m fl) (some (8 + 2 * i)) 0 (nI q) = some (x.2.2.2.2.2 i q) := by
  match i, h with
  | 0, _ => exact a_8 hq
  | 1, _ => exact a_10 hq
  | 2, _ => exact a_12 hq
  | 3, _ => exact a_14 hq
  | i + 4, h => exact absurd h (by omega)
theorem l_rc {i : Nat} (h : i < 4) : xmlen (WB x m fl) (some (8 + 2 * i)) 0 = some 16 := by
  match i, h with
  | 0, _ => exact l_8
  | 1, _ => exact l_10
  | 2, _ => exact l_12
  | 3, _ => exact l_14
  | i + 4, h => exact absurd h (by omega)
theorem s_rc {i q : Nat} (h : i < 4) (hq : q < 16) (v : Int32) : xmist (WB x m fl) (some (8 + 2 * i)) 0 (nI q) v = some (WB (xrc x i q v) m fl) := by
  match i, h with
  | 0, _ => exact s_8 hq v
  | 1, _ => exact s_10 hq v
  | 2, _ => exact s_12 hq v
  | 3, _ => exact s_14 hq v
  | i + 4, h => exact absurd h (by omega)
theorem x_codeAt {i q : Nat} (h : i < 4) (hq : q < 16) : fX2_codeAt (WB x m fl) (some (7 + 2 * i)) (nI q) = some (x.2.2.2.2.2 i q) := by
  have h1 : ¬ nI q < 0 := nI_pos (by omega)
  have h2 : ¬ (16 : Int32) ≤ nI q := by rw [show (16 : Int32) = nI 16 from rfl, nI_leI (by omega) (by omega)]; omega
  simp only [fX2_codeAt, o_r h, g_rc h, l_rc h, a_rc h hq, Option.bind_some, if_neg h1, if_neg h2]
theorem x_setCode {i q : Nat} (h : i < 4) (hq : q < 16) (v : Int32) : fX2_setCode (WB x m fl) (some (7 + 2 * i)) (nI q) v = some (WB (xrc x i q v) m fl) := by
  have h1 : ¬ nI q < 0 := nI_pos (by omega)
  have h2 : ¬ (16 : Int32) ≤ nI q := by rw [show (16 : Int32) = nI 16 from rfl, nI_leI (by omega) (by omega)]; omega
  simp only [fX2_setCode, o_r h, g_rc h, l_rc h, s_rc h hq, Option.bind_some, if_neg h1, if_neg h2]
/-- a row that is there -/
def RR (Fs : Nat → FM) (x : XS) (m : MS) (fl : List xmE) (i f k len : Nat) (cs : Nat → Nat) : Prop :=
  i < 4 ∧ f < 10 ∧ x.2.2.2.2.1 i = some k ∧ XF fl k (Fs f) ∧ MA m f (Fs f) ∧ VF (Fs f) ∧ m.2.2 7 i = nI f ∧ len ≤ 16 ∧ x.1 (11 + i) = nI len ∧ m.2.2 8 i = nI len ∧ (∀ q, q < 16 → cs q < 2 ^ bits (Fs f) ∧ x.2.2.2.2.2 i q = nI (cs q)) ∧ (∀ q, q < len → m.2.2 9 (16 * i + q) = nI (cs q))
theorem r_spl (h : IW n Fs x m fl) (a : Int32) : (∃ i f k len cs, RR Fs x m fl i f k len cs ∧ f < n ∧ x.2.1 f = some k ∧ a = nI i ∧ fX4_rowAt (WB x m fl) (some 0) a = some (some (7 + 2 * i)) ∧ (∀ (x' : XS) (m' : MS) (fl' : List xmE), m'.2.2 7 = m.2.2 7 → fX5_isRow (WB x' m' fl') (some 15) a = some 1)) ∨ (fX4_rowAt (WB x m fl) (some 0) a = some none ∧ (∀ (x' : XS) (m' : MS) (fl' : List xmE), m'.2.2 7 = m.2.2 7 → fX5_isRow (WB x' m' fl') (some 15) a = some 0)) := by
  obtain ⟨hf, hr, -⟩ := h
  rcases wi_3 a with ⟨i, hi, rfl, w1, w2⟩ | ⟨w1, w2⟩
  · have hi4 : i < 4 := by omega
    rcases hr i hi4 with ⟨q1, q2⟩ | ⟨f, len, hfn, q1, q2, q3, q4, q5, q6⟩
    · refine Or.inr ⟨?_, fun x' m' fl' e => ?_⟩
      · simp only [fX4_rowAt, o_0, w1, Option.bind_some, one_z, if_false, g_0_2, a_2 hi4, rowsA_i hi4, g_rf hi4, q1, if_true]
      · have : (-1 : Int32) < 0 := by decide
        simp only [fX5_isRow, o_15, w2, Option.bind_some, one_z, if_false, g_15_7, a_22 hi4, e, q2, if_pos this, xmbz0]
    · obtain ⟨a1, a2, a3, a4, a5, a6⟩ := hf
      obtain ⟨k, k1, k2, k3, k4⟩ := a4 f hfn
      refine Or.inl ⟨i, f, k, len, fun q => if hq : q < 16 then Classical.choose (q6 q hq) else 0, ⟨hi4, by omega, q1.trans k1, k2, k3, k4, q2, q3, q4, q5, fun q hq => ?_, fun q hq => ?_⟩, hfn, k1, rfl, ?_, fun x' m' fl' e => ?_⟩
      · have := Classical.choose_spec (q6 q hq)
        simp only [dif_pos hq]
        exact ⟨this.1, this.2.1⟩
      · have hq16 : q < 16 := by omega
        have := Classical.choose_spec (q6 q hq16)
        simp only [dif_pos hq16]
        exact this.2.2 hq
      · simp only [fX4_rowAt, o_0, w1, Option.bind_some, one_z, if_false, g_0_2, a_2 hi4, rowsA_i hi4, g_rf hi4, q1.trans k1, reduceCtorEq]
      · have : ¬ nI f < 0 := nI_pos (by omega)
        simp only [fX5_isRow, o_15, w2, Option.bind_some, one_z, if_false, g_15_7, a_22 hi4, e, q2, if_neg this, xmbz1]
  · refine Or.inr ⟨?_, fun x' m' fl' e => ?_⟩
    · simp only [fX4_rowAt, o_0, w1, Option.bind_some, if_true]
    · simp only [fX5_isRow, o_15, w2, Option.bind_some, if_true, xmbz0]
/-- a place of a row -/
theorem pl_spl {i f k len : Nat} {cs : Nat → Nat} (h : RR Fs x m fl i f k len cs) (a : Int32) : (∃ q, q < len ∧ q < 16 ∧ a = nI q ∧ fX2_hasPlace (WB x m fl) (some (7 + 2 * i)) a = some 1 ∧ (∀ w, fX5_in w a.toInt64 0 (nI len - 1).toInt64 = some 1)) ∨ (fX2_hasPlace (WB x m fl) (some (7 + 2 * i)) a = some 0 ∧ (∀ w, fX5_in w a.toInt64 0 (nI len - 1).toInt64 = some 0)) := by
  obtain ⟨hi, hf, h1, h2, h3, h4, h5, h6, h7, h8, h9, h10⟩ := h
  obtain ⟨z, hz, rfl⟩ := iZ_of a
  have z1 := hz.1
  have z2 := hz.2
  have lz : LR z := ⟨by omega, by omega⟩
  have hm : ∀ w, fX5_in w (iZ z).toInt64 0 (nI len - 1).toInt64 = some (bI (decide (0 ≤ z ∧ z < (len : Int)))) := by
    intro w
    have e1 : nI len - 1 = iZ ((len : Int) - 1) := by rw [nI_iZ, show (1 : Int32) = iZ 1 from rfl, iZ_sub]
    rw [e1, iZ_l hz, iZ_l ⟨by omega, by omega⟩, show (0 : Int64) = lZ 0 from rfl, m_in lz ⟨by omega, by omega⟩ ⟨by omega, by omega⟩]
    congr 2
    by_cases q : 0 ≤ z ∧ z < (len : Int)
    · rw [decide_eq_true q, decide_eq_true (by omega)]
    · rw [decide_eq_false q, decide_eq_false (by omega)]
  have hx : fX2_hasPlace (WB x m fl) (some (7 + 2 * i)) (iZ z) = some (bI (decide (0 ≤ z ∧ z < (len : Int)))) := by
    have c0 : (iZ z < 0) ↔ z < 0 := by rw [show (0 : Int32) = iZ 0 from rfl, iZ_lt hz ⟨by omega, by omega⟩]
    have c1 : (nI len ≤ iZ z) ↔ (len : Int) ≤ z := by rw [nI_iZ, iZ_le ⟨by omega, by omega⟩ hz]
    simp only [fX2_hasPlace, o_r hi, g_rl hi, h7, Option.bind_some, c0, c1]
    by_cases q : z < 0
    · rw [if_pos q, decide_eq_false (by omega)]; rfl
    · rw [if_neg q, bI_ifn, bI_z]
      congr 2
      by_cases q2 : (len : Int) ≤ z
      · rw [decide_eq_true q2, decide_eq_false (by omega)]; rfl
      · rw [decide_eq_false q2, decide_eq_true (by omega)]; rfl
  by_cases q : 0 ≤ z ∧ z < (len : Int)
  · rw [decide_eq_true q] at hm hx
    refine Or.inl ⟨z.toNat, by omega, by omega, ?_, hx, hm⟩
    rw [nI_iZ]; congr 1; omega
  · rw [decide_eq_false q] at hm hx
    exact Or.inr ⟨hx, hm⟩
/-- one row becomes another one -/
theorem IW.row (h : IW n Fs x m fl) {x' : XS} {m' : MS} {i : Nat}
    (k1 : x'.2.1 = x.2.1) (k2 : x'.2.2.1 = x.2.2.1) (k3 : ∀ k, k < 11 → k ≠ 5 → k ≠ 6 → k ≠ 7 → x'.1 k = x.1 k)
    (g1 : ∀ a, a < 7 → m'.2.2 a = m.2.2 a) (g2 : ∀ k, k < 18 → m'.1 k = m.1 k)
    (ho : ∀ j, j < 4 → j ≠ i → x'.2.2.2.2.1 j = x.2.2.2.2.1 j ∧ x'.1 (11 + j) = x.1 (11 + j) ∧ (∀ q, q < 16 → x'.2.2.2.2.2 j q = x.2.2.2.2.2 j q) ∧ m'.2.2 7 j = m.2.2 7 j ∧ m'.2.2 8 j = m.2.2 8 j ∧ ∀ q, q < 16 → m'.2.2 9 (16 * j + q) = m.2.2 9 (16 * j + q))
    (hi : RWs n Fs x' m' i) : IW n Fs x' m' fl := by
  obtain ⟨⟨a1, a2, a3, a4, a5, a6⟩, hr, ht, ⟨t, t1, t2, t3⟩, b1, b2, b3, b4⟩ := h
  refine ⟨⟨a1, ?_, ?_, ?_, ?_, a6⟩, ?_, ?_, ⟨t, t1, ?_, ?_⟩, ?_, ?_, ?_, ?_⟩
  · rw [k3 0 (by omega) (by omega) (by omega) (by omega)]; exact a2
  · rw [g2 0 (by omega)]; exact a3
  · intro j hj
    obtain ⟨k, q1, q2, q3, q4⟩ := a4 j hj
    refine ⟨k, by rw [k1]; exact q1, q2, ?_, q4⟩
    unfold MA at *
    rw [g1 1 (by omega), g1 2 (by omega), g1 3 (by omega), g1 4 (by omega), g1 5 (by omega), g1 6 (by omega)]; exact q3
  · rw [k1]; exact a5
  · intro j hj
    by_cases hji : j = i
    · subst hji; exact hi
    · obtain ⟨o1, o2, o3, o4, o5, o6⟩ := ho j hj hji
      have := hr j hj
      unfold RWs at *
      rw [o1, o2, o4, o5, k1]
      rcases this with h | ⟨f, len, c1, c2, c3, c4, c5, c6, c7⟩
      · exact Or.inl h
      · refine Or.inr ⟨f, len, c1, c2, c3, c4, c5, c6, fun q hq => ?_⟩
        obtain ⟨c, d1, d2, d3⟩ := c7 q hq
        exact ⟨c, d1, by rw [o3 q hq]; exact d2, fun hl => by rw [o6 q hq]; exact d3 hl⟩
  · unfold TBs at *
    rw [k2, k1, g2 11 (by omega), g2 12 (by omega), g2 13 (by omega), k3 2 (by omega) (by omega) (by omega) (by omega), k3 3 (by omega) (by omega) (by omega) (by omega)]
    exact ht
  · rw [k3 4 (by omega) (by omega) (by omega) (by omega)]; exact t2
  · rw [g2 10 (by omega)]; exact t3
  · rw [k3 1 (by omega) (by omega) (by omega) (by omega), g2 17 (by omega)]; exact b1
  · rw [k3 8 (by omega) (by omega) (by omega) (by omega), g2 14 (by omega)]; exact b2
  · rw [k3 9 (by omega) (by omega) (by omega) (by omega), g2 15 (by omega)]; exact b3
  · rw [k3 10 (by omega) (by omega) (by omega) (by omega), g2 16 (by omega)]; exact b4
theorem pr_at (h : IW n Fs x m fl) (a1 a2 : Int32) : Pair (fX4_at (WB x m fl) (some 0) a1 a2) m (fun w => fX5_at w (some 15) a1 a2) := by
  rcases r_spl h a1 with ⟨i, f, k, len, cs, hR, hfn, hk, rfl, e1, e2⟩ | ⟨e1, e2⟩
  · have e2 := fun x' fl' => e2 x' m fl' rfl
    have hR' := hR
    obtain ⟨hi, hf, h1, h2, h3, h4, h5, h6, h7, h8, h9, h10⟩ := hR
    rcases pl_spl hR' a2 with ⟨q, hq, hq16, rfl, p1, p2⟩ | ⟨p1, p2⟩
    · refine Pair.ans h (nI (cs q)) ?_ ?_
      · simp only [fX4_at, o_0, e1, p1, Option.bind_some, reduceCtorEq, if_false, one_z, x_codeAt hi hq16, (h9 q hq16).2, x_ans, xmb2_id]
      · simp only [fX5_at, o_15, e2, Option.bind_some, if_false, one_z, g_15_8, a_23 hi, h8, p2, g_15_9, nI_16, a_24 (show 16 * i + q < 64 by omega), h10 q hq, m_fin, xmb2_id]
    · exact Pair.ref h (-1) (by simp only [fX4_at, o_0, e1, p1, Option.bind_some, reduceCtorEq, if_false, if_true, x_ref, xmb2_id]) (by simp only [fX5_at, o_15, e2, Option.bind_some, if_false, if_true, one_z, g_15_8, a_23 hi, h8, p2, m_ref, xmb2_id])
  · have e2 := fun x' fl' => e2 x' m fl' rfl
    exact Pair.ref h (-1) (by simp only [fX4_at, o_0, e1, Option.bind_some, if_true, x_ref, xmb2_id]) (by simp only [fX5_at, o_15, e2, Option.bind_some, if_true, m_ref, xmb2_id])
theorem pr_put (h : IW n Fs x m fl) (a1 a2 a3 : Int32) : Pair (fX4_put (WB x m fl) (some 0) a1 a2 a3) m (fun w => fX5_put w (some 15) a1 a2 a3) := by
  rcases r_spl h a1 with ⟨i, f, k, len, cs, hR, hfn, hk, rfl, e1, e2⟩ | ⟨e1, e2⟩
  · have e2 := fun x' fl' => e2 x' m fl' rfl
    have hR' := hR
    obtain ⟨hi, hf, h1, h2, h3, h4, h5, h6, h7, h8, h9, h10⟩ := hR
    rcases pl_spl hR' a2 with ⟨q, hq, hq16, rfl, p1, p2⟩ | ⟨p1, p2⟩
    · rcases hc_spl h4 a3 with ⟨c, hc, rfl, c1, c2⟩ | ⟨c1, c2⟩
      · have c1 := c1 _ _ (h2.w x m)
        have c2 := fun x' => c2 _ _ (h3.g x' fl)
        have hW : IW n Fs (xrc x i q (nI c)) (mast m 9 (16 * i + q) (nI c)) fl := by
          refine h.row (i := i) rfl rfl (fun _ _ _ _ _ => rfl) (fun a ha => ?_) (fun _ _ => rfl) (fun j hj hji => ⟨rfl, rfl, fun q' hq' => ?_, ?_, ?_, fun q' hq' => ?_⟩) ?_
          · show (if a = 9 then _ else m.2.2 a) = m.2.2 a
            rw [if_neg (by omega)]
          · show (if j = i then _ else x.2.2.2.2.2 j) q' = x.2.2.2.2.2 j q'
            rw [if_neg hji]
          · rfl
          · rfl
          · show upd (m.2.2 9) (16 * i + q) (nI c) (16 * j + q') = m.2.2 9 (16 * j + q')
            exact upd_ne _ _ (by omega)
          · refine Or.inr ⟨f, len, hfn, h1.trans hk.symm, h5, h6, h7, h8, fun q' hq' => ?_⟩
            by_cases hqq : q' = q
            · subst hqq
              refine ⟨c, hc, ?_, fun _ => ?_⟩
              · show (if i = i then upd (x.2.2.2.2.2 i) q' (nI c) else x.2.2.2.2.2 i) q' = nI c
                rw [if_pos rfl, upd_eq]
              · show upd (m.2.2 9) (16 * i + q') (nI c) (16 * i + q') = nI c
                rw [upd_eq]
            · refine ⟨cs q', (h9 q' hq').1, ?_, fun hl => ?_⟩
              · show (if i = i then upd (x.2.2.2.2.2 i) q (nI c) else x.2.2.2.2.2 i) q' = nI (cs q')
                rw [if_pos rfl, upd_ne _ _ hqq]; exact (h9 q' hq').2
              · show upd (m.2.2 9) (16 * i + q) (nI c) (16 * i + q') = nI (cs q')
                rw [upd_ne _ _ (by omega)]; exact h10 q' hl
        refine ⟨nI (cs q), _, fl, _, ?_, ?_, n, Fs, hW.tell 0⟩
        · simp only [fX4_put, o_0, e1, p1, Option.bind_some, reduceCtorEq, if_false, one_z, g_rf hi, h1, c1, x_codeAt hi hq16, (h9 q hq16).2, x_setCode hi hq16, x_ans, xmb2_id]
        · simp only [fX5_put, o_15, e2, Option.bind_some, if_false, one_z, g_15_8, a_23 hi, h8, p2, g_15_7, a_22 hi, h5, c2, g_15_9, nI_16, a_24 (show 16 * i + q < 64 by omega), h10 q hq, s_24 (show 16 * i + q < 64 by omega), m_fin, xmb2_id]
      · have c1 := c1 _ _ (h2.w x m)
        have c2 := fun x' => c2 _ _ (h3.g x' fl)
        exact Pair.ref h (-1) (by simp only [fX4_put, o_0, e1, p1, Option.bind_some, reduceCtorEq, if_false, if_true, one_z, g_rf hi, h1, c1, x_ref, xmb2_id]) (by simp only [fX5_put, o_15, e2, Option.bind_some, if_false, if_true, one_z, g_15_8, a_23 hi, h8, p2, g_15_7, a_22 hi, h5, c2, m_ref, xmb2_id])
    · exact Pair.ref h (-1) (by simp only [fX4_put, o_0, e1, p1, Option.bind_some, reduceCtorEq, if_false, if_true, x_ref, xmb2_id]) (by simp only [fX5_put, o_15, e2, Option.bind_some, if_false, if_true, one_z, g_15_8, a_23 hi, h8, p2, m_ref, xmb2_id])
  · have e2 := fun x' fl' => e2 x' m fl' rfl
    exact Pair.ref h (-1) (by simp only [fX4_put, o_0, e1, Option.bind_some, if_true, x_ref, xmb2_id]) (by simp only [fX5_put, o_15, e2, Option.bind_some, if_true, m_ref, xmb2_id])
/-- a row is laid anew: the class's side -/
theorem x_becL {i : Nat} (hi : i < 4) : ∀ (d j N : Nat) (x : XS), j + d = 16 → d < N → ∃ x' : XS, fX2_become_L24 N (WB x m fl) (some (7 + 2 * i)) (nI j) = some (WB x' m fl) ∧ x'.1 = x.1 ∧ x'.2.1 = x.2.1 ∧ x'.2.2.1 = x.2.2.1 ∧ x'.2.2.2.1 = x.2.2.2.1 ∧ x'.2.2.2.2.1 = x.2.2.2.2.1 ∧ (∀ j', j' ≠ i → x'.2.2.2.2.2 j' = x.2.2.2.2.2 j') ∧ (∀ q, q < 16 → x'.2.2.2.2.2 i q = if j ≤ q then 0 else x.2.2.2.2.2 i q) := by
  intro d
  induction d with
  | zero =>
    intro j N x hj hN
    obtain ⟨N, rfl⟩ : ∃ N', N = N' + 1 := ⟨N - 1, by omega⟩
    refine ⟨x, ?_, rfl, rfl, rfl, rfl, rfl, fun _ _ => rfl, fun q hq => ?_⟩
    · rw [fX2_become_L24]
      simp only [g_rc hi, l_rc hi, Option.bind_some]
      rw [if_pos (by rw [show j = 16 by omega]; decide)]
    · rw [if_neg (by omega)]
  | succ d ih =>
    intro j N x hj hN
    obtain ⟨N, rfl⟩ : ∃ N', N = N' + 1 := ⟨N - 1, by omega⟩
    obtain ⟨x', b1, b2, b3, b4, b5, b6, b7, b8⟩ := ih (j + 1) N (xrc x i j 0) (by omega) (by omega)
    refine ⟨x', ?_, b2, b3, b4, b5, b6, fun j' hj' => ?_, fun q hq => ?_⟩
    · rw [fX2_become_L24]
      simp only [g_rc hi, l_rc hi, s_rc hi (show j < 16 by omega), Option.bind_some, nI_1, b1]
      rw [if_neg (by rw [show (16 : Int32) = nI 16 from rfl, nI_leI (by omega) (by omega)]; omega)]
    · rw [b7 j' hj']
      show (if j' = i then _ else x.2.2.2.2.2 j') = _
      rw [if_neg hj']
    · rw [b8 q hq]
      show (if j + 1 ≤ q then 0 else (if i = i then upd (x.2.2.2.2.2 i) j 0 else x.2.2.2.2.2 i) q) = _
      rw [if_pos rfl]
      by_cases hqj : q = j
      · subst hqj; rw [if_neg (by omega), if_pos (Nat.le_refl _), upd_eq]
      · rw [upd_ne _ _ hqj]
        by_cases hle : j ≤ q
        · rw [if_pos (by omega), if_pos hle]
        · rw [if_neg (by omega), if_neg hle]
theorem x_become {i : Nat} (hi : i < 4) (v : Option Nat) {len : Nat} (hl : len ≤ 16) : ∃ x' : XS, fX2_become (WB x m fl) (some (7 + 2 * i)) v (nI len) = some (WB x' m fl) ∧ x'.1 = upd x.1 (11 + i) (nI len) ∧ x'.2.1 = x.2.1 ∧ x'.2.2.1 = x.2.2.1 ∧ x'.2.2.2.1 = x.2.2.2.1 ∧ x'.2.2.2.2.1 = va_up x.2.2.2.2.1 i v ∧ (∀ j', j' ≠ i → x'.2.2.2.2.2 j' = x.2.2.2.2.2 j') ∧ (∀ q, q < 16 → x'.2.2.2.2.2 i q = 0) := by
  obtain ⟨x', b1, b2, b3, b4, b5, b6, b7, b8⟩ := x_becL (m := m) (fl := fl) hi 16 0 xmN (xset (xrf x i v) (11 + i) (nI len)) rfl (by decide)
  refine ⟨x', ?_, b2, b3, b4, b5, b6, b7, fun q hq => by rw [b8 q hq, if_pos (Nat.zero_le _)]⟩
  have e1 : (if (16 : Int32) < nI len then (16 : Int32) else nI len) = nI len := by
    rw [if_neg (by rw [show (16 : Int32) = nI 16 from rfl, nI_ltI (by omega) (by omega)]; omega)]
  have e2 : (if (0 : Int32) < nI len then nI len else 0) = nI len := by
    by_cases h0 : len = 0
    · subst h0; rfl
    · rw [if_pos (by rw [show (0 : Int32) = nI 0 from rfl, nI_ltI (by omega) (by omega)]; omega)]
  simp only [fX2_become, o_r hi, p_rf hi, g_rc hi, l_rc hi, e1, e2, p_rl hi, Option.bind_some]
  exact b1
/-- .. the reference's side -/
theorem m_rowL {i : Nat} (hi : i < 4) : ∀ (d j N : Nat) (m : MS), j + d = 16 → d < N → ∃ m' : MS, fX5_row_L55 N (WB x m fl) (some 15) (nI i) (nI j) = some (1, WB x (mset m' 17 0) fl) ∧ m'.1 = m.1 ∧ (∀ a, a ≠ 9 → m'.2.2 a = m.2.2 a) ∧ (∀ q, q < 64 → m'.2.2 9 q = if 16 * i + j ≤ q ∧ q < 16 * i + 16 then 0 else m.2.2 9 q) := by
  intro d
  induction d with
  | zero =>
    intro j N m hj hN
    obtain ⟨N, rfl⟩ : ∃ N', N = N' + 1 := ⟨N - 1, by omega⟩
    refine ⟨m, ?_, rfl, fun _ _ => rfl, fun q hq => by rw [if_neg (by omega)]⟩
    rw [fX5_row_L55, if_pos (by rw [show j = 16 by omega]; decide), m_fin, xmb2_s]
  | succ d ih =>
    intro j N m hj hN
    obtain ⟨N, rfl⟩ : ∃ N', N = N' + 1 := ⟨N - 1, by omega⟩
    obtain ⟨m', b1, b2, b3, b4⟩ := ih (j + 1) N (mast m 9 (16 * i + j) 0) (by omega) (by omega)
    refine ⟨m', ?_, b2, fun a ha => ?_, fun q hq => ?_⟩
    · rw [fX5_row_L55, if_neg (by rw [show (16 : Int32) = nI 16 from rfl, nI_leI (by omega) (by omega)]; omega)]
      simp only [g_15_9, nI_16, s_24 (show 16 * i + j < 64 by omega), Option.bind_some, nI_1, b1]
    · rw [b3 a ha]
      show (if a = 9 then _ else m.2.2 a) = _
      rw [if_neg ha]
    · rw [b4 q hq]
      show (if 16 * i + (j + 1) ≤ q ∧ q < 16 * i + 16 then 0 else upd (m.2.2 9) (16 * i + j) 0 q) = _
      by_cases hqj : q = 16 * i + j
      · subst hqj; rw [if_neg (by omega), if_pos (by omega), upd_eq]
      · rw [upd_ne _ _ hqj]
        by_cases hle : 16 * i + j ≤ q ∧ q < 16 * i + 16
        · rw [if_pos (by omega), if_pos hle]
        · rw [if_neg (by omega), if_neg hle]
theorem m_row0 {i : Nat} (hi : i < 4) (N : Nat) (m : MS) (hN : 16 < N) : ∃ m' : MS, fX5_row_L55 N (WB x m fl) (some 15) (nI i) 0 = some (1, WB x (mset m' 17 0) fl) ∧ m'.1 = m.1 ∧ (∀ a, a ≠ 9 → m'.2.2 a = m.2.2 a) ∧ (∀ q, q < 64 → m'.2.2 9 q = if 16 * i + 0 ≤ q ∧ q < 16 * i + 16 then 0 else m.2.2 9 q) := m_rowL hi 16 0 N m rfl hN
theorem m_rowE {i f len : Nat} (hi : i < 4) (w2 : ∀ w, fX5_in w (nI i).toInt64 0 3 = some 1) (e2 : ∀ x' fl', fX5_isFormat (WB x' m fl') (some 15) (nI f) = some 1) (l2 : ∀ w, fX5_in w (nI len).toInt64 0 16 = some 1) : fX5_row (WB x m fl) (some 15) (nI i) (nI f) (nI len) = fX5_row_L55 xmN (WB x (mast (mast m 7 i (nI f)) 8 i (nI len)) fl) (some 15) (nI i) 0 := by
  unfold fX5_row
  rw [o_15, Option.bind_some, w2, Option.bind_some, if_neg (show ¬ (1 : Int32) = 0 by decide), e2, Option.bind_some, if_neg (show ¬ (1 : Int32) = 0 by decide), l2, Option.bind_some, if_neg (show ¬ (1 : Int32) = 0 by decide), g_15_7, Option.bind_some, s_22 hi, Option.bind_some, g_15_8, Option.bind_some, s_23 hi, Option.bind_some]
theorem pr_row (h : IW n Fs x m fl) (a1 a2 a3 : Int32) : Pair (fX4_row (WB x m fl) (some 0) a1 a2 a3) m (fun w => fX5_row w (some 15) a1 a2 a3) := by
  rcases f_spl h.1 a2 with ⟨f, k, hfn, hf10, rfl, hk, hF, hM, hv, e1, e2⟩ | ⟨e1, e2⟩
  · have e2 := fun x' fl' => e2 x' m fl' rfl
    rcases wi_3 a1 with ⟨i, hi, rfl, w1, w2⟩ | ⟨w1, w2⟩
    · have hi4 : i < 4 := by omega
      rcases wi_16 a3 with ⟨len, hl, rfl, l1, l2⟩ | ⟨l1, l2⟩
      · obtain ⟨x', b1, b2, b3, b4, b5, b6, b7, b8⟩ := x_become (x := x) (m := m) (fl := fl) hi4 (some k) hl
        obtain ⟨m', c1, c2, c3, c4⟩ := m_row0 (x := xset x' 1 0) (fl := fl) hi4 xmN (mast (mast m 7 i (nI f)) 8 i (nI len)) (by decide)
        have hW : IW n Fs x' m' fl := by
          refine h.row (i := i) b3 b4 (fun q hq _ _ _ => ?_) (fun a ha => ?_) (fun q hq => by rw [c2]; rfl) (fun j hj hji => ⟨?_, ?_, fun q hq => ?_, ?_, ?_, fun q hq => ?_⟩) ?_
          · rw [b2, upd_ne _ _ (by omega)]
          · rw [c3 a (by omega)]
            show (if a = 8 then _ else if a = 7 then _ else m.2.2 a) = m.2.2 a
            rw [if_neg (by omega), if_neg (by omega)]
          · rw [b6]; unfold va_up; rw [if_neg hji]
          · rw [b2, upd_ne _ _ (by omega)]
          · rw [b7 j hji]
          · rw [c3 7 (by omega)]
            show upd (m.2.2 7) i (nI f) j = m.2.2 7 j
            exact upd_ne _ _ hji
          · rw [c3 8 (by omega)]
            show upd (m.2.2 8) i (nI len) j = m.2.2 8 j
            exact upd_ne _ _ hji
          · rw [c4 _ (by omega), if_neg (by omega)]; rfl
          · refine Or.inr ⟨f, len, hfn, ?_, ?_, hl, ?_, ?_, fun q hq => ⟨0, Nat.two_pow_pos _, b8 q hq, fun _ => ?_⟩⟩
            · rw [b6, b3, hk]; unfold va_up; rw [if_pos rfl]
            · rw [c3 7 (by omega)]
              show upd (m.2.2 7) i (nI f) i = nI f
              rw [upd_eq]
            · rw [b2, upd_eq]
            · rw [c3 8 (by omega)]
              show upd (m.2.2 8) i (nI len) i = nI len
              rw [upd_eq]
            · rw [c4 _ (by omega), if_pos (by omega)]; rfl
        refine ⟨1, xset x' 1 0, fl, mset m' 17 0, ?_, ?_, n, Fs, hW.tell 0⟩
        · simp only [fX4_row, o_0, e1, w1, l1, Option.bind_some, reduceCtorEq, if_false, one_z, g_0_2, a_2 hi4, rowsA_i hi4, b1, x_ans, xmb2_id]
        · show fX5_row (WB (xset x' 1 0) m fl) (some 15) (nI i) (nI f) (nI len) = _
          rw [m_rowE hi4 w2 e2 l2, c1]
      · exact Pair.ref h (-1) (by simp only [fX4_row, o_0, e1, w1, l1, Option.bind_some, reduceCtorEq, if_false, if_true, one_z, x_ref, xmb2_id]) (by simp only [fX5_row, o_15, e2, w2, l2, Option.bind_some, if_false, if_true, one_z, m_ref, xmb2_id])
    · exact Pair.ref h (-1) (by simp only [fX4_row, o_0, e1, w1, Option.bind_some, if_true, x_ref, xmb2_id]) (by simp only [fX5_row, o_15, w2, Option.bind_some, if_true, m_ref, xmb2_id])
  · have e2 := fun x' fl' => e2 x' m fl' rfl
    refine Pair.ref h (-1) ?_ ?_
    · rcases wi_3 a1 with ⟨i, hi, rfl, w1, w2⟩ | ⟨w1, w2⟩
      · simp only [fX4_row, o_0, e1, w1, Option.bind_some, if_true, one_z, if_false, x_ref, xmb2_id]
      · simp only [fX4_row, o_0, e1, w1, Option.bind_some, if_true, x_ref, xmb2_id]
    · rcases wi_3 a1 with ⟨i, hi, rfl, w1, w2⟩ | ⟨w1, w2⟩
      · simp only [fX5_row, o_15, e2, w2, Option.bind_some, if_true, if_false, one_z, m_ref, xmb2_id]
      · simp only [fX5_row, o_15, w2, Option.bind_some, if_true, m_ref, xmb2_id]
end ROWS
