/-! next, table, lookup -/
def nxS (F : FM) (c : Nat) (up : Bool) : Int32 :=
  if mg F c = 0 ∨ (ng F c && decide (0 < mg F c)) ≠ up then (if mg F c < gr F ∧ (up = true ∨ fS F = 1) then nI (sg F (!up) (mg F c + 1)) else -9)
  else nI (sg F (ng F c && decide (0 < mg F c)) (mg F c - 1))
theorem x_next {w : xmW} {k : Nat} {F : FM} (h : w[k]? = some (fmtE F)) (hv : VF F) {c : Nat} (hc : c < 2 ^ bits F) (hn : isNu F c = true) (up : Bool) : fX1_neighbour w (some k) (nI c) (bI up) = some (nxS F c up) := by
  have kc := code_lt hv hc
  have hg := gr_lt hv
  have hp := hv.p
  have hS := hv.1
  have hm : mg F c ≤ gr F := by unfold isNu at hn; exact of_decide_eq_true hn
  have hup : ∀ z : Int, iZ z + (if bI up = 0 then (-1 : Int32) else 1) = iZ (z + (if up = true then 1 else -1)) := by
    intro z
    cases up with
    | false => rw [if_pos (show bI false = 0 from rfl), if_neg (by decide), show (-1 : Int32) = iZ (-1) by decide, iZ_add]
    | true => rw [if_neg (show ¬ bI true = 0 by decide), if_pos rfl, show (1 : Int32) = iZ 1 from rfl, iZ_add]
  have key : ∀ (r lo : Int), -1000 < r → r < 1000 → -(gr F : Int) ≤ lo → lo ≤ 0 → fX1_neighbour_L33 w (some k) (bI up) (iZ r) (iZ lo) = some (if r < lo ∨ (gr F : Int) < r then -9 else nI (sg F (decide (r < 0) || (decide (r = 0) && up)) r.natAbs)) := by
    intro r lo q1 q2 q3 q4
    have ir : IR r := ⟨by omega, by omega⟩
    have i0 : IR 0 := ⟨by omega, by omega⟩
    have z0 : (0 : Int32) = iZ 0 := rfl
    have c1 : (iZ r < iZ lo) ↔ r < lo := iZ_lt ir ⟨by omega, by omega⟩
    have c2 : (iZ r ≤ nI (gr F)) ↔ r ≤ (gr F : Int) := by rw [nI_iZ, iZ_le ir ⟨by omega, by omega⟩]
    have c3 : (iZ r < 0) ↔ r < 0 := by rw [z0, iZ_lt ir i0]
    have c4 : (iZ r = 0) ↔ r = 0 := by rw [z0, iZ_eq ir i0]
    have c5 : ((0 : Int32) ≤ iZ r) ↔ 0 ≤ r := by rw [z0, iZ_le i0 ir]
    have ab : (if (0 : Int32) ≤ iZ r then iZ r else 0 - iZ r) = nI r.natAbs := by
      rw [nI_iZ]
      by_cases q : 0 ≤ r
      · rw [if_pos (c5.mpr q)]; congr 1; omega
      · rw [if_neg (fun t => q (c5.mp t)), z0, iZ_sub]; congr 1; omega
    simp only [fX1_neighbour_L33, x_g6 h, Option.bind_some, c1, c2, c3, c4, ab]
    by_cases t1 : r < lo
    · rw [if_pos t1, if_pos (Or.inl t1)]
    · rw [if_neg t1]
      by_cases t2 : r ≤ (gr F : Int)
      · have hab : r.natAbs < fP F := by omega
        rw [if_pos t2, if_neg (show ¬ (r < lo ∨ (gr F : Int) < r) by omega)]
        by_cases t3 : r < 0
        · rw [if_pos t3, show (1 : Int32) = bI true from rfl, x_withSign h hv true hab, decide_eq_true t3]; rfl
        · rw [if_neg t3]
          by_cases t4 : r = 0
          · have hu : (if bI up = 0 then (0 : Int32) else 1) = bI up := by cases up <;> rfl
            rw [if_pos t4, hu, x_withSign h hv up hab, decide_eq_false t3, decide_eq_true t4]; rfl
          · rw [if_neg t4, show (0 : Int32) = bI false from rfl, x_withSign h hv false hab, decide_eq_false t3, decide_eq_false t4]; rfl
      · rw [if_neg t2, if_pos (show r < lo ∨ (gr F : Int) < r by omega)]
  have hgZ : -nI (gr F) = iZ (-(gr F : Int)) := by rw [nI_iZ, iZ_neg]
  simp only [fX1_neighbour, x_ob h, x_g0 h, x_g6 h, x_rank h hv (show c < 2 ^ 31 by omega), Option.bind_some, hup, nI_1' (show fS F < 2 ^ 31 by omega), hgZ]
  obtain ⟨r0, r1, r2⟩ := rk_r hv c
  have both : (if fS F = 1 then fX1_neighbour_L33 w (some k) (bI up) (iZ (rk F c + if up = true then 1 else -1)) (iZ (-(gr F : Int))) else fX1_neighbour_L33 w (some k) (bI up) (iZ (rk F c + if up = true then 1 else -1)) 0) = some (if (rk F c + if up = true then 1 else -1) < (if fS F = 1 then -(gr F : Int) else 0) ∨ (gr F : Int) < (rk F c + if up = true then 1 else -1) then -9 else nI (sg F (decide ((rk F c + if up = true then 1 else -1) < 0) || (decide ((rk F c + if up = true then 1 else -1) = 0) && up)) (rk F c + if up = true then 1 else -1).natAbs)) := by
    have hb : -1000 < (rk F c + if up = true then 1 else -1) ∧ (rk F c + if up = true then 1 else -1) < 1000 := by split <;> omega
    by_cases hs : fS F = 1
    · rw [if_pos hs, if_pos hs]; exact key _ _ hb.1 hb.2 (Int.le_refl _) (by omega)
    · rw [if_neg hs, if_neg hs]; exact key _ 0 hb.1 hb.2 (by omega) (Int.le_refl _)
  rw [both]
  congr 1
  have fin : ∀ (r lo : Int) (b : Bool) (M' : Nat), ¬ (r < lo ∨ (gr F : Int) < r) → (decide (r < 0) || (decide (r = 0) && up)) = b → r.natAbs = M' → (if r < lo ∨ (gr F : Int) < r then (-9 : Int32) else nI (sg F (decide (r < 0) || (decide (r = 0) && up)) r.natAbs)) = nI (sg F b M') := by
    intro r lo b M' h1 h2 h3
    rw [if_neg h1, h2, h3]
  have hng : ng F c = true → fS F = 1 := by
    intro q
    unfold ng at q
    simp only [Bool.and_eq_true, decide_eq_true_eq] at q
    exact q.1
  unfold nxS rk
  cases hn1 : ng F c with
  | true =>
    have hs := hng hn1
    rw [if_pos rfl, if_pos hs]
    by_cases h0 : mg F c = 0
    · rw [if_pos (Or.inl h0), h0, if_pos (show 0 < gr F ∧ (up = true ∨ fS F = 1) from ⟨by omega, Or.inr hs⟩)]
      cases up with
      | true => exact fin _ _ _ _ (by simp; omega) (by simp) (by simp)
      | false => exact fin _ _ _ _ (by simp; omega) (by simp) (by simp)
    · have hp0 : decide (0 < mg F c) = true := decide_eq_true (by omega)
      rw [hp0, Bool.and_self]
      cases up with
      | true =>
        rw [if_neg (show ¬ (mg F c = 0 ∨ true ≠ true) by simp [h0]), if_pos rfl]
        refine fin _ _ _ _ (by omega) ?_ (by omega)
        by_cases q : mg F c = 1
        · rw [decide_eq_true (show -(mg F c : Int) + 1 = 0 by omega)]; simp
        · rw [decide_eq_true (show -(mg F c : Int) + 1 < 0 by omega)]; rfl
      | false =>
        rw [if_pos (show mg F c = 0 ∨ true ≠ false from Or.inr (by decide)), if_neg (show ¬ (false = true) by decide)]
        by_cases q : mg F c < gr F
        · rw [if_pos (show mg F c < gr F ∧ (false = true ∨ fS F = 1) from ⟨q, Or.inr hs⟩)]
          refine fin _ _ _ _ (by omega) ?_ (by omega)
          rw [decide_eq_true (show -(mg F c : Int) + -1 < 0 by omega)]; rfl
        · rw [if_pos (by omega), if_neg (fun t => q t.1)]
  | false =>
    rw [if_neg (show ¬ (false = true) by decide), Bool.false_and]
    by_cases h0 : mg F c = 0
    · rw [if_pos (Or.inl h0), h0]
      cases up with
      | true =>
        rw [if_pos (show 0 < gr F ∧ (true = true ∨ fS F = 1) from ⟨by omega, Or.inl rfl⟩)]
        refine fin _ _ _ _ ?_ (by simp) (by simp)
        rw [if_pos (show true = true from rfl)]; split <;> omega
      | false =>
        by_cases hs : fS F = 1
        · rw [if_pos (show 0 < gr F ∧ (false = true ∨ fS F = 1) from ⟨by omega, Or.inr hs⟩), if_pos hs]
          exact fin _ _ _ _ (by simp; omega) (by simp) (by simp)
        · rw [if_neg (show ¬ (0 < gr F ∧ (false = true ∨ fS F = 1)) by simp [hs]), if_neg hs]
          rfl
    · cases up with
      | true =>
        rw [if_pos (show mg F c = 0 ∨ false ≠ true from Or.inr (by decide)), if_pos rfl]
        by_cases q : mg F c < gr F
        · rw [if_pos (show mg F c < gr F ∧ (true = true ∨ fS F = 1) from ⟨q, Or.inl rfl⟩)]
          refine fin _ _ _ _ ?_ ?_ (by omega)
          · split <;> omega
          · rw [decide_eq_false (show ¬ (mg F c : Int) + 1 < 0 by omega), decide_eq_false (show ¬ (mg F c : Int) + 1 = 0 by omega)]; rfl
        · rw [if_pos (by omega), if_neg (fun t => q t.1)]
      | false =>
        rw [if_neg (show ¬ (mg F c = 0 ∨ false ≠ false) by simp [h0]), if_neg (show ¬ (false = true) by decide)]
        refine fin _ _ _ _ ?_ ?_ (by omega)
        · split <;> omega
        · rw [decide_eq_false (show ¬ (mg F c : Int) + -1 < 0 by omega), Bool.and_false]; rfl
section NX
variable {n : Nat} {Fs : Nat → FM} {x : XS} {m : MS} {fl : List xmE}
theorem m_nextL {j : Nat} {F : FM} (hM : MA m j F) (hv : VF F) {c : Nat} (hc : c < 2 ^ bits F) (hn : isNu F c = true) (up : Bool) : fX5_next_L59 (WB x m fl) (some 15) (nI j) (bI up) (nI (mg F c)) (bI (ng F c && decide (0 < mg F c))) = some (nxS F c up, WB x (mset m 17 0) fl) := by
  have hg := gr_lt hv
  have hp := hv.p
  have hS := hv.1
  have hG := hM.g x fl
  have hm : mg F c ≤ gr F := by unfold isNu at hn; exact of_decide_eq_true hn
  have hup : (if bI up = 0 then (1 : Int32) else 0) = bI (!up) := by cases up <;> rfl
  have h72 : fX5_next_L72 (WB x m fl) (some 15) (nI j) (bI up) (nI (mg F c)) = some ((if mg F c < gr F ∧ (up = true ∨ fS F = 1) then nI (sg F (!up) (mg F c + 1)) else -9), WB x (mset m 17 0) fl) := by
    simp only [fX5_next_L72, fX5_next_L101, m_great hG hv, Option.bind_some, nI_leI (show gr F < 2 ^ 31 by omega) (show mg F c < 2 ^ 31 by omega), if_true, m_fin, xmb2_s, g_15_1, a_16 hM.1, hM.2.1, nI_1' (show fS F < 2 ^ 31 by omega), hup, nI_1, one_z, if_false]
    by_cases q : gr F ≤ mg F c
    · rw [if_pos q, if_neg (show ¬ (mg F c < gr F ∧ (up = true ∨ fS F = 1)) by omega)]
    · rw [if_neg q, m_signed hG hv (!up) (show mg F c + 1 < fP F by omega)]
      simp only [Option.bind_some, m_fin, xmb2_s]
      cases up with
      | true =>
        rw [if_neg (show ¬ bI true = 0 by decide), if_pos (show mg F c < gr F ∧ (true = true ∨ fS F = 1) from ⟨by omega, Or.inl rfl⟩)]
      | false =>
        rw [if_pos (show bI false = 0 from rfl)]
        by_cases hs : fS F = 1
        · rw [if_pos hs, if_neg (by decide), if_pos (show mg F c < gr F ∧ (false = true ∨ fS F = 1) from ⟨by omega, Or.inr hs⟩)]
        · rw [if_neg hs, if_pos rfl, if_neg (show ¬ (mg F c < gr F ∧ (false = true ∨ fS F = 1)) by simp [hs])]
  have hm0 := nI_0' (show mg F c < 2 ^ 31 by omega)
  simp only [fX5_next_L59, h72, hm0, bI_eq]
  unfold nxS
  by_cases h0 : mg F c = 0
  · rw [if_pos h0, if_pos (Or.inl h0)]
  · rw [if_neg h0]
    by_cases h1 : (ng F c && decide (0 < mg F c)) = up
    · rw [if_pos h1, if_neg (show ¬ (mg F c = 0 ∨ (ng F c && decide (0 < mg F c)) ≠ up) from fun t => t.elim h0 (fun t => t h1)), nI_s1 (by omega), m_signed hG hv _ (show mg F c - 1 < fP F by omega)]
      simp only [Option.bind_some, m_fin, xmb2_s]
    · rw [if_neg h1, if_pos (Or.inr h1)]
theorem pr_next (h : IW n Fs x m fl) (a1 a2 : Int32) (up : Bool) : Pair (fX4_next (WB x m fl) (some 0) a1 a2 (bI up)) m (fun w => fX5_next w (some 15) a1 a2 (bI up)) := by
  rcases f_spl h.1 a1 with ⟨i, k, hi, hi10, rfl, hk, hF, hM, hv, e1, e2⟩ | ⟨e1, e2⟩
  · have e2 := fun x' fl' => e2 x' m fl' rfl
    have hw := hF.w x m
    have hG := fun x' => hM.g x' fl
    rcases hc_spl hv a2 with ⟨c, hc, rfl, c1, c2⟩ | ⟨c1, c2⟩
    · have c1 := c1 _ _ hw
      have c2 := fun x' => c2 _ _ (hG x')
      have kc := code_lt hv hc
      cases hn : isNu (Fs i) c with
      | true =>
        refine Pair.ans h (nxS (Fs i) c up) ?_ ?_
        · simp only [fX4_next, o_0, e1, c1, Option.bind_some, reduceCtorEq, if_false, one_z, x_isNumber hw hv (show c < 2 ^ 31 by omega), hn, bI_t, x_next hw hv hc hn, x_ans, xmb2_id]
        · have hL := m_nextL (x := xset x 1 0) (fl := fl) hM hv hc hn up
          have hp := hv.p
          have hml := mg_lt (Fs i) c
          simp only [fX5_next, o_15, e2, c2, Option.bind_some, if_false, one_z, m_isNumber (hG _) hv (show c < 2 ^ 31 by omega), hn, bI_t, m_plain (hG _) hv (show c < 2 ^ 31 by omega), m_isMinus (hG _) hv hc, bI_0]
          cases hng : ng (Fs i) c with
          | false =>
            rw [hng, Bool.false_and] at hL
            rw [if_pos rfl]; exact hL
          | true =>
            rw [hng, Bool.true_and] at hL
            rw [if_neg (by decide)]
            have : (if nI (mg (Fs i) c) ≤ 0 then (0 : Int32) else 1) = bI (decide (0 < mg (Fs i) c)) := by
              by_cases q : mg (Fs i) c = 0
              · rw [if_pos ((nI_le0 (by omega)).mpr q), decide_eq_false (by omega)]; rfl
              · rw [if_neg (fun t => q ((nI_le0 (by omega)).mp t)), decide_eq_true (by omega)]; rfl
            rw [this]; exact hL
      | false =>
        exact Pair.ref h (-1) (by simp only [fX4_next, o_0, e1, c1, Option.bind_some, reduceCtorEq, if_false, if_true, one_z, x_isNumber hw hv (show c < 2 ^ 31 by omega), hn, bI_f, x_ref, xmb2_id]) (by simp only [fX5_next, o_15, e2, c2, Option.bind_some, if_false, if_true, one_z, m_isNumber (hG _) hv (show c < 2 ^ 31 by omega), hn, bI_f, m_ref, xmb2_id])
    · have c1 := c1 _ _ hw
      have c2 := fun x' => c2 _ _ (hG x')
      exact Pair.ref h (-1) (by simp only [fX4_next, o_0, e1, c1, Option.bind_some, reduceCtorEq, if_false, if_true, x_ref, xmb2_id]) (by simp only [fX5_next, o_15, e2, c2, Option.bind_some, if_false, if_true, one_z, m_ref, xmb2_id])
  · have e2 := fun x' fl' => e2 x' m fl' rfl
    exact Pair.ref h (-1) (by simp only [fX4_next, o_0, e1, Option.bind_some, if_true, x_ref, xmb2_id]) (by simp only [fX5_next, o_15, e2, Option.bind_some, if_true, m_ref, xmb2_id])
theorem pr_table (h : IW n Fs x m fl) (a1 a2 a3 : Int32) : Pair (fX4_table (WB x m fl) (some 0) a1 a2 a3) m (fun w => fX5_table w (some 15) a1 a2 a3) := by
  rcases f_spl h.1 a1 with ⟨i, k, hi, hi10, rfl, hk, hF, hM, hv, e1, e2⟩ | ⟨e1, e2⟩
  · have e2 := fun x' fl' => e2 x' m fl' rfl
    have hw := hF.w x m
    have hG := fun x' => hM.g x' fl
    rcases wi_6 a2 with ⟨wh, hwh, rfl, w1, w2⟩ | ⟨w1, w2⟩
    · rcases mo_spl a3 with ⟨d, hd, rfl, d1, d2⟩ | ⟨d1, d2⟩
      · obtain ⟨⟨a1, a2, a3, a4, a5, a6⟩, hr, ht, ⟨t, t1, t2, t3⟩, b1, b2, b3, b4⟩ := id h
        have hbb : bits (Fs i) < 2 ^ 31 := by obtain ⟨h1, h2, h3, h4, h5, h6, h7⟩ := hv; unfold bits; omega
        have hb6 : (nI (bits (Fs i)) ≤ 6) ↔ bits (Fs i) ≤ 6 := by rw [show (6 : Int32) = nI 6 from rfl, nI_leI hbb (by omega)]
        have ht1 : (nI t < 100) ↔ t < 100 := by rw [show (100 : Int32) = nI 100 from rfl, nI_ltI (by omega) (by omega)]
        have ht2 : (nI t = 100) ↔ t = 100 := by rw [show (100 : Int32) = nI 100 from rfl, nI_eq (by omega) (by omega)]
        by_cases q6 : bits (Fs i) ≤ 6
        · by_cases q100 : t < 100
          · have hW : IW n Fs (xset (xset (xtf (xset x 4 (nI (t + 1))) (some k)) 2 (nI wh)) 3 (nI d)) (mset (mset (mset (mset m 10 (nI (t + 1))) 11 (nI i)) 12 (nI wh)) 13 (nI d)) fl := by
              refine ⟨⟨a1, a2, a3, a4, a5, a6⟩, fun j hj => ?_, Or.inr ⟨i, wh, d, hi, hk.symm, rfl, hwh, rfl, rfl, hd, rfl, rfl⟩, ⟨t + 1, by omega, rfl, rfl⟩, b1, b2, b3, b4⟩
              have := hr j hj
              unfold RWs at *
              have e : (xset (xset (xtf (xset x 4 (nI (t + 1))) (some k)) 2 (nI wh)) 3 (nI d)).1 (11 + j) = x.1 (11 + j) := by
                show upd (upd (upd x.1 4 _) 2 _) 3 _ (11 + j) = x.1 (11 + j)
                rw [upd_ne _ _ (by omega), upd_ne _ _ (by omega), upd_ne _ _ (by omega)]
              rw [e]
              exact this
            refine ⟨(1 : Int32) <<< (((2 : Int32) * nI (bits (Fs i))) &&& 31), _, fl, _, ?_, ?_, n, Fs, hW.tell 0⟩
            · simp only [fX4_table, o_0, e1, w1, d1, Option.bind_some, reduceCtorEq, if_false, one_z, x_bits hw, hb6, if_pos q6, g_0_10, t2, ht1, if_pos q100, p_0_10, nI_1, p_0_7, p_0_8, p_0_9, x_bits (hF.w (xset (xset (xtf (xset x 4 (nI (t + 1))) (some k)) 2 (nI wh)) 3 (nI d)) m), x_ans, xmb2_id]
            · have hG' := fun x' => (show MA (mset (mset (mset (mset m 10 (nI (t + 1))) 11 (nI i)) 12 (nI wh)) 13 (nI d)) i (Fs i) from hM).g x' fl
              simp only [fX5_table, o_15, e2, w2, d2, Option.bind_some, if_false, one_z, m_bits (hG _), hb6, if_pos q6, g_15_10, t3, ht2, if_neg (show ¬ t = 100 by omega), p_15_10, nI_1, p_15_11, p_15_12, p_15_13, m_bits (hG' _), m_fin, xmb2_id]
          · exact Pair.ref h (-3) (by simp only [fX4_table, o_0, e1, w1, d1, Option.bind_some, reduceCtorEq, if_false, one_z, x_bits hw, hb6, if_pos q6, g_0_10, t2, ht1, if_neg q100, x_ref, xmb2_id]) (by simp only [fX5_table, o_15, e2, w2, d2, Option.bind_some, if_false, one_z, m_bits (hG _), hb6, if_pos q6, g_15_10, t3, ht2, if_pos (show t = 100 by omega), m_ref, xmb2_id])
        · exact Pair.ref h (-2) (by simp only [fX4_table, o_0, e1, w1, d1, Option.bind_some, reduceCtorEq, if_false, one_z, x_bits hw, hb6, if_neg q6, x_ref, xmb2_id]) (by simp only [fX5_table, o_15, e2, w2, d2, Option.bind_some, if_false, one_z, m_bits (hG _), hb6, if_neg q6, m_ref, xmb2_id])
      · exact Pair.ref h (-1) (by simp only [fX4_table, o_0, e1, w1, d1, Option.bind_some, reduceCtorEq, if_false, if_true, one_z, x_ref, xmb2_id]) (by simp only [fX5_table, o_15, e2, w2, d2, Option.bind_some, if_false, if_true, one_z, m_ref, xmb2_id])
    · exact Pair.ref h (-1) (by simp only [fX4_table, o_0, e1, w1, Option.bind_some, reduceCtorEq, if_false, if_true, x_ref, xmb2_id]) (by simp only [fX5_table, o_15, e2, w2, Option.bind_some, if_false, if_true, one_z, m_ref, xmb2_id])
  · have e2 := fun x' fl' => e2 x' m fl' rfl
    exact Pair.ref h (-1) (by simp only [fX4_table, o_0, e1, Option.bind_some, if_true, x_ref, xmb2_id]) (by simp only [fX5_table, o_15, e2, Option.bind_some, if_true, m_ref, xmb2_id])
theorem pr_lookup (h : IW n Fs x m fl) (a1 a2 : Int32) : Pair (fX4_lookup (WB x m fl) (some 0) a1 a2) m (fun w => fX5_lookup w (some 15) a1 a2) := by
  obtain ⟨hFS, hr, ht, _, b1, b2, b3, b4⟩ := id h
  rcases ht with ⟨q1, q2⟩ | ⟨f, wh, d, hf, q1, q2, hwh, q3, q4, hd, q5, q6⟩
  · have n1 : ¬ (0 : Int32) ≤ -1 := by decide
    exact Pair.ref h (-2) (by simp only [fX4_lookup, o_0, g_0_7, q1, Option.bind_some, if_true, x_ref, xmb2_id]) (by simp only [fX5_lookup, o_15, g_15_11, q2, Option.bind_some, if_neg n1, m_ref, xmb2_id])
  · obtain ⟨a1', a2', a3', a4', a5', a6'⟩ := hFS
    obtain ⟨k, hk, hF, hM, hv⟩ := a4' f hf
    have hw := hF.w x m
    have hG := fun x' => hM.g x' fl
    have n1 : (0 : Int32) ≤ nI f := nI_pos' (by omega)
    have q1 := q1.trans hk
    rcases hc_spl hv a1 with ⟨a, ha, rfl, c1, c2⟩ | ⟨c1, c2⟩
    · have c1 := c1 _ _ hw
      have c2 := fun x' => c2 _ _ (hG x')
      rcases hc_spl hv a2 with ⟨b, hb, rfl, g1, g2⟩ | ⟨g1, g2⟩
      · have g1 := g1 _ _ hw
        have g2 := fun x' => g2 _ _ (hG x')
        have kb := code_lt hv hb
        have hrk := RK.act (what := wh) (mode := d) hv ha (fun _ => hb)
        have hop := x_acted (x := x) (m := m) hF hv hwh ha (fun _ => hb) (show b < 2 ^ 31 by omega) hd
        have hmp := fun x' : XS => m_acted (x := x') (m := mbg m) (fl := fl) hM hv hwh ha (fun _ => hb) (show b < 2 ^ 31 by omega) hd
        generalize actS (Fs f) wh a b d = r at hrk hop hmp
        have hans : ∃ v, (if rv r = -4 then (-1 : Int32) else rv r) = v ∧ (if 0 ≤ rv r then rv r else (-1 : Int32)) = v := by
          rcases hrk.q hv with ⟨c, h1, h2⟩ | ⟨h1, h2⟩
          · have e : rv r = nI c := by unfold rv; rw [h1]
            refine ⟨nI c, ?_, ?_⟩
            · rw [e, if_neg (nI_m4 h2)]
            · rw [e, if_pos (nI_pos' h2)]
          · have e : rv r = -4 := by unfold rv; rw [h1]
            refine ⟨-1, ?_, ?_⟩
            · rw [e, if_pos rfl]
            · rw [e, if_neg (by decide)]
        obtain ⟨v, v1, v2⟩ := hans
        obtain ⟨m1, k1, k2⟩ := hmp (xset (xinc x r.2.1 r.2.2.1 r.2.2.2) 1 0)
        have hW : IW n Fs (xset (xinc x r.2.1 r.2.2.1 r.2.2.2) 1 0) (mset (mset m1 16 (m.1 16)) 17 0) fl := by
          obtain ⟨d1, d2, d3, -⟩ := k2
          refine h.mv rfl rfl rfl (fun k p1 p5 p6 p7 p8 p9 p10 => ?_) (fun a _ => by show m1.2.2 a = _; rw [d1]; rfl) (fun k hk => ?_) rfl ?_ ?_ ?_
          · show upd (xinc x r.2.1 r.2.2.1 r.2.2.2).1 1 0 k = x.1 k
            rw [upd_ne _ _ p1]
            show (if k = 5 then _ else if k = 6 then _ else if k = 7 then _ else x.1 k) = x.1 k
            rw [if_neg p5, if_neg p6, if_neg p7]
          · show upd (upd m1.1 16 _) 17 0 k = m.1 k
            rw [upd_ne _ _ (by omega), upd_ne _ _ (by omega), d3 k (by omega) (by omega) (by omega) (by omega)]
            show upd (upd m.1 18 0) 19 0 k = m.1 k
            rw [upd_ne _ _ (by omega), upd_ne _ _ (by omega)]
          · show x.1 8 = m1.1 14
            rw [d3 14 (by omega) (by omega) (by omega) (by omega)]; exact b2
          · show x.1 9 = m1.1 15
            rw [d3 15 (by omega) (by omega) (by omega) (by omega)]; exact b3
          · exact b4
        refine ⟨v, _, fl, _, ?_, ?_, n, Fs, hW⟩
        · simp only [fX4_lookup, o_0, g_0_7, q1, Option.bind_some, reduceCtorEq, if_false, one_z, c1, g1, g_0_4, g_0_8, g_0_9, q3, q5, hop, xmb2_s, x_ans]
          rw [← v1]
          split <;> rfl
        · have r11 : (mbg m).1 11 = nI f := q2
          have r12 : (mbg m).1 12 = nI wh := q4
          have r13 : (mbg m).1 13 = nI d := q6
          simp only [fX5_lookup, o_15, g_15_11, q2, Option.bind_some, if_pos n1, c2, g2, if_false, one_z, g_15_16, m_begins, g_15_12, g_15_13, r11, r12, r13, k1, xmb2_s, p_15_16, m_fin]
          rw [← v2]
          split <;> rfl
      · have g1 := g1 _ _ hw
        have g2 := fun x' => g2 _ _ (hG x')
        exact Pair.ref h (-1) (by simp only [fX4_lookup, o_0, g_0_7, q1, Option.bind_some, reduceCtorEq, if_false, if_true, one_z, c1, g1, x_ref, xmb2_id]) (by simp only [fX5_lookup, o_15, g_15_11, q2, Option.bind_some, if_pos n1, c2, g2, if_false, if_true, one_z, m_ref, xmb2_id])
    · have c1 := c1 _ _ hw
      have c2 := fun x' => c2 _ _ (hG x')
      exact Pair.ref h (-1) (by simp only [fX4_lookup, o_0, g_0_7, q1, Option.bind_some, reduceCtorEq, if_false, if_true, one_z, c1, x_ref, xmb2_id]) (by simp only [fX5_lookup, o_15, g_15_11, q2, Option.bind_some, if_pos n1, c2, if_true, m_ref, xmb2_id])
end NX
