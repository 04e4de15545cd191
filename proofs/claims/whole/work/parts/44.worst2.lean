/-! worst, the call -/
section WOC
variable {n : Nat} {Fs : Nat → FM} {x : XS} {m : MS} {fl : List xmE}
theorem x_wp0 {i f k len : Nat} {cs : Nat → Nat} (hR : RR Fs x m fl i f k len cs) {i2 f2 k2 len2 : Nat} {ds : Nat → Nat} (hR2 : RR Fs x m fl i2 f2 k2 len2 ds) (N : Nat) (hN : 16 < N) : fX2_worstPlace_L8 N (WB x m fl) (some (7 + 2 * i)) (some (7 + 2 * i2)) (-9) 0 0 = some (wpS (nuS (Fs f) (Fs f2) cs ds) (diS (Fs f) (Fs f2) cs ds) len 0 (-9) 0) := by
  have hl := hR.2.2.2.2.2.2.2.1
  exact x_wpL hR hR2 len 0 N (-9) 0 (Nat.zero_add _) (by omega) (by omega)
theorem x_df0 {i f k len : Nat} {cs : Nat → Nat} (hR : RR Fs x m fl i f k len cs) {i2 f2 k2 len2 : Nat} {ds : Nat → Nat} (hR2 : RR Fs x m fl i2 f2 k2 len2 ds) (N : Nat) (hN : 16 < N) : fX2_differences_L4 N (WB x m fl) (some (7 + 2 * i)) (some (7 + 2 * i2)) 0 0 = some (nI (dfS (nuS (Fs f) (Fs f2) cs ds) (diS (Fs f) (Fs f2) cs ds) len 0 0)) := by
  have hl := hR.2.2.2.2.2.2.2.1
  exact x_dfL hR hR2 len 0 N 0 (Nat.zero_add _) (by omega)
theorem x_nn0 {i f k len : Nat} {cs : Nat → Nat} (hR : RR Fs x m fl i f k len cs) {i2 f2 k2 len2 : Nat} {ds : Nat → Nat} (hR2 : RR Fs x m fl i2 f2 k2 len2 ds) (N : Nat) (hN : 16 < N) : fX2_noNumbers_L4 N (WB x m fl) (some (7 + 2 * i)) (some (7 + 2 * i2)) 0 0 = some (nI (nnS (nuS (Fs f) (Fs f2) cs ds) len 0 0)) := by
  have hl := hR.2.2.2.2.2.2.2.1
  exact x_nnL hR hR2 len 0 N 0 (Nat.zero_add _) (by omega)
theorem x_wp {i f k len : Nat} {cs : Nat → Nat} (hR : RR Fs x m fl i f k len cs) {i2 f2 k2 len2 : Nat} {ds : Nat → Nat} (hR2 : RR Fs x m fl i2 f2 k2 len2 ds) : fX2_worstPlace (WB x m fl) (some (7 + 2 * i)) (some (7 + 2 * i2)) = some (wpS (nuS (Fs f) (Fs f2) cs ds) (diS (Fs f) (Fs f2) cs ds) len 0 (-9) 0) := by
  unfold fX2_worstPlace
  rw [o_r hR.1, Option.bind_some, x_wp0 hR hR2 xmN (by decide)]
theorem x_df {i f k len : Nat} {cs : Nat → Nat} (hR : RR Fs x m fl i f k len cs) {i2 f2 k2 len2 : Nat} {ds : Nat → Nat} (hR2 : RR Fs x m fl i2 f2 k2 len2 ds) : fX2_differences (WB x m fl) (some (7 + 2 * i)) (some (7 + 2 * i2)) = some (nI (dfS (nuS (Fs f) (Fs f2) cs ds) (diS (Fs f) (Fs f2) cs ds) len 0 0)) := by
  unfold fX2_differences
  rw [o_r hR.1, Option.bind_some, x_df0 hR hR2 xmN (by decide)]
theorem x_nn {i f k len : Nat} {cs : Nat → Nat} (hR : RR Fs x m fl i f k len cs) {i2 f2 k2 len2 : Nat} {ds : Nat → Nat} (hR2 : RR Fs x m fl i2 f2 k2 len2 ds) : fX2_noNumbers (WB x m fl) (some (7 + 2 * i)) (some (7 + 2 * i2)) = some (nI (nnS (nuS (Fs f) (Fs f2) cs ds) len 0 0)) := by
  unfold fX2_noNumbers
  rw [o_r hR.1, Option.bind_some, x_nn0 hR hR2 xmN (by decide)]
theorem m_wo0 {F G : FM} (hv : VF F) (hv2 : VF G) {i i2 f f2 len len2 what : Nat} {cs ds : Nat → Nat} (hi : i < 4) (hi2 : i2 < 4) (hlen : len ≤ 16) (hl2 : len ≤ len2) (hw : what ≤ 2) (hc : ∀ q, q < len → cs q < 2 ^ bits F) (hc2 : ∀ q, q < len → ds q < 2 ^ bits G) (hp : RP F f i len cs m) (hp2 : RP G f2 i2 len2 ds m) (h7 : m.2.2 7 i = nI f) (h7' : m.2.2 7 i2 = nI f2) (x : XS) (N : Nat) (hN : 16 < N) : fX5_worst_L72 N (WB x m fl) (some 15) (nI i) (nI i2) (nI what) (-9) 0 0 0 0 = some ((if what = 0 then wpS (nuS F G cs ds) (diS F G cs ds) len 0 (-9) 0 else if what = 1 then nI (dfS (nuS F G cs ds) (diS F G cs ds) len 0 0) else nI (nnS (nuS F G cs ds) len 0 0)), WB x (mset m 17 0) fl) := by
  have h := m_woL (fl := fl) hv hv2 hi hi2 hlen hl2 hw hc hc2 hp hp2 h7 h7' x len 0 N (-9) 0 0 0 (Nat.zero_add _) (by omega) (by omega) (by rw [Nat.zero_mul]; omega) (by omega) (by omega)
  rw [Nat.zero_mul] at h
  exact h
theorem pr_worst (h : IW n Fs x m fl) (a1 a2 a3 : Int32) : Pair (fX4_worst (WB x m fl) (some 0) a1 a2 a3) m (fun w => fX5_worst w (some 15) a1 a2 a3) := by
  have z1 : ¬ (1 : Int32) = 0 := by decide
  rcases r_spl h a1 with ⟨i, f, k, len, cs, hR, hfn, hk, rfl, e1, e2⟩ | ⟨e1, e2⟩
  · have e2 := fun x' fl' => e2 x' m fl' rfl
    rcases r_spl h a2 with ⟨i2, f2, k2, len2, ds, hR2, hfn2, hk2, rfl, g1, g2⟩ | ⟨g1, g2⟩
    · have g2 := fun x' fl' => g2 x' m fl' rfl
      have hR' := hR
      have hR2' := hR2
      obtain ⟨hi, hf, h1, h2, h3, h4, h5, h6, h7, h8, h9, h10⟩ := hR
      obtain ⟨hi2, hf2, j1, j2, j3, j4, j5, j6, j7, j8, j9, j10⟩ := hR2
      rcases wi_2 a3 with ⟨d, hd, rfl, d1, d2⟩ | ⟨d1, d2⟩
      · have hll : (nI len = nI len2) ↔ len = len2 := nI_eq (by omega) (by omega)
        by_cases ql : len = len2
        · subst ql
          have q0 := nI_0' (show d < 2 ^ 31 by omega)
          have q1 := nI_1' (show d < 2 ^ 31 by omega)
          refine Pair.ans h (if d = 0 then wpS (nuS (Fs f) (Fs f2) cs ds) (diS (Fs f) (Fs f2) cs ds) len 0 (-9) 0 else if d = 1 then nI (dfS (nuS (Fs f) (Fs f2) cs ds) (diS (Fs f) (Fs f2) cs ds) len 0 0) else nI (nnS (nuS (Fs f) (Fs f2) cs ds) len 0 0)) ?_ ?_
          · simp only [fX4_worst, o_0, e1, g1, d1, Option.bind_some, reduceCtorEq, if_false, one_z, g_rl hi, g_rl hi2, h7, j7, if_true, q0, q1, x_wp hR' hR2', x_df hR' hR2', x_nn hR' hR2', x_ans, xmb2_s]
            by_cases p0 : d = 0
            · rw [if_pos p0, if_pos p0]
            · rw [if_neg p0, if_neg p0]
              by_cases p1 : d = 1
              · rw [if_pos p1, if_pos p1]
              · rw [if_neg p1, if_neg p1]
          · show fX5_worst _ _ _ _ _ = _
            unfold fX5_worst
            rw [o_15, Option.bind_some, e2, Option.bind_some, if_neg z1, g2, Option.bind_some, if_neg z1, d2, Option.bind_some, if_neg z1, g_15_8, Option.bind_some, a_23 hi, Option.bind_some, h8, Option.bind_some, a_23 hi2, Option.bind_some, j8, if_pos rfl, m_wo0 h4 j4 hi hi2 h6 (Nat.le_refl _) hd (fun q hq => (h9 q (by omega)).1) (fun q hq => (j9 q (by omega)).1) hR'.p hR2'.p h5 j5 _ xmN (by decide)]
        · refine Pair.ref h (-2) (by simp only [fX4_worst, o_0, e1, g1, d1, Option.bind_some, reduceCtorEq, if_false, one_z, g_rl hi, g_rl hi2, h7, j7, if_neg (fun p => ql (hll.mp p)), x_ref, xmb2_s]) ?_
          show fX5_worst _ _ _ _ _ = _
          unfold fX5_worst
          rw [o_15, Option.bind_some, e2, Option.bind_some, if_neg z1, g2, Option.bind_some, if_neg z1, d2, Option.bind_some, if_neg z1, g_15_8, Option.bind_some, a_23 hi, Option.bind_some, h8, Option.bind_some, a_23 hi2, Option.bind_some, j8, if_neg (fun p => ql (hll.mp p)), m_ref, xmb2_s]
      · refine Pair.ref h (-1) (by simp only [fX4_worst, o_0, e1, g1, d1, Option.bind_some, reduceCtorEq, if_false, if_true, x_ref, xmb2_id]) ?_
        show fX5_worst _ _ _ _ _ = _
        unfold fX5_worst
        rw [o_15, Option.bind_some, e2, Option.bind_some, if_neg z1, g2, Option.bind_some, if_neg z1, d2, Option.bind_some, if_pos rfl, m_ref, xmb2_s]
    · have g2 := fun x' fl' => g2 x' m fl' rfl
      refine Pair.ref h (-1) (by simp only [fX4_worst, o_0, e1, g1, Option.bind_some, reduceCtorEq, if_false, if_true, x_ref, xmb2_id]) ?_
      show fX5_worst _ _ _ _ _ = _
      unfold fX5_worst
      rw [o_15, Option.bind_some, e2, Option.bind_some, if_neg z1, g2, Option.bind_some, if_pos rfl, m_ref, xmb2_s]
  · have e2 := fun x' fl' => e2 x' m fl' rfl
    refine Pair.ref h (-1) ?_ ?_
    · rcases r_spl h a2 with ⟨i2, f2, k2, len2, ds, hR2, hfn2, hk2, rfl, g1, g2⟩ | ⟨g1, g2⟩
      · simp only [fX4_worst, o_0, e1, g1, Option.bind_some, if_true, x_ref, xmb2_id]
      · simp only [fX4_worst, o_0, e1, g1, Option.bind_some, if_true, x_ref, xmb2_id]
    · show fX5_worst _ _ _ _ _ = _
      unfold fX5_worst
      rw [o_15, Option.bind_some, e2, Option.bind_some, if_pos rfl, m_ref, xmb2_s]
end WOC
