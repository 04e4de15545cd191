/-! the calls sum, dot -/
theorem RR.cl {Fs : Nat → FM} {x : XS} {m : MS} {fl : List xmE} {i f k len : Nat} {cs : Nat → Nat} (h : RR Fs x m fl i f k len cs) : RR Fs (xcl x) m fl i f k len cs := by
  obtain ⟨hi, hf, h1, h2, h3, h4, h5, h6, h7, h8, h9, h10⟩ := h
  refine ⟨hi, hf, h1, h2, h3, h4, h5, h6, ?_, h8, h9, h10⟩
  show upd (upd (upd x.1 5 0) 6 0) 7 0 (11 + i) = nI len
  rw [upd_ne _ _ (by omega), upd_ne _ _ (by omega), upd_ne _ _ (by omega)]; exact h7
def mz0 (m : MS) : MS := mlst (mset (mbg m) 23 0) 24 0
theorem mz0_d (m : MS) : mDf (mbg m) (mz0 m) 0 0 0 := ((mDf.rf (mbg m)).s (by omega) 0).l 0
theorem mz0_23 (m : MS) : (mz0 m).1 23 = nI 0 := by
  show (mset (mbg m) 23 0).1 23 = nI 0
  rw [mset_eq]; rfl
theorem mz0_24 (m : MS) : (mz0 m).2.1 24 = lZ 0 := by
  show (mlst (mset (mbg m) 23 0) 24 0).2.1 24 = lZ 0
  rw [mlst_eq]; rfl
theorem mz_eq {mode len : Nat} (hm : mode ≤ 5) (hl : len ≤ 16) : (if nI mode = 3 then (if nI len ≤ 0 then (0 : Int32) else 1) else 0) = bI (decide (0 < len) && eq3 mode) := by
  simp only [nI_3' (show mode < 2 ^ 31 by omega), nI_le0 (show len < 2 ^ 31 by omega)]
  unfold eq3
  by_cases q : mode = 3
  · rw [if_pos q, decide_eq_true q, Bool.and_true]
    by_cases q2 : len = 0
    · rw [if_pos q2, decide_eq_false (by omega)]; rfl
    · rw [if_neg q2, decide_eq_true (by omega)]; rfl
  · rw [if_neg q, decide_eq_false q, Bool.and_false]; rfl
section SC
variable {n : Nat} {Fs : Nat → FM} {x : XS} {m : MS} {fl : List xmE}
theorem m_sumEx {F : FM} (hv : VF F) {i f len : Nat} {cs : Nat → Nat} (hi : i < 4) (hlen : len ≤ 16) (hc : ∀ q, q < len → cs q < 2 ^ bits F) {mode : Nat} (hm : mode ≤ 5) (hp : RP F f i len cs m) (h23 : m.1 23 = nI 0) (h24 : m.2.1 24 = lZ 0) (N : Nat) (hN : 16 < N) :
    ∃ m1, fX5_sum_L114 N (WB x m fl) (some 15) (nI i) (nI mode) (nI f) 0 = fX5_ends (WB x m1 fl) (some 15) (rv (exS F (fun q => (siz F (cs q), ng F (cs q))) 1 mode (decide (0 < len) && eq3 mode) len 0 0 0)) ∧ mDf m m1 (exS F (fun q => (siz F (cs q), ng F (cs q))) 1 mode (decide (0 < len) && eq3 mode) len 0 0 0).2.1 (exS F (fun q => (siz F (cs q), ng F (cs q))) 1 mode (decide (0 < len) && eq3 mode) len 0 0 0).2.2.1 (exS F (fun q => (siz F (cs q), ng F (cs q))) 1 mode (decide (0 < len) && eq3 mode) len 0 0 0).2.2.2 := by
  refine m_exL (x := x) (fl := fl) (j := f) (len := len) (den := 1) hv (TOK.sum hv cs) (by decide) hm (decide (0 < len) && eq3 mode) (RP F f i len cs) (fun N w z => fX5_sum_L114 N w (some 15) (nI i) (nI mode) (nI f) z) (fun w q => fX5_comes w (some 15) (nI f) (nI (cs q)) 1) (fun m h => h.1) (fun m m' a b c h hd => h.q hd) (fun m N q h hq => ?_) (fun m N h => ?_) (fun m q e Z h hq he k23 k24 => ?_) (fun m q h hq k => m_cAbs k _ _) hlen len 0 N 0 0 m (Nat.zero_add _) (by omega) hp (by omega) (fun q => absurd rfl q) h23 h24 (by omega) (by omega)
  · show fX5_sum_L114 (N + 1) _ _ _ _ _ _ = _
    rw [fX5_sum_L114, g_15_8, Option.bind_some, a_23 hi, Option.bind_some, h.2.1, if_neg (nI_ge (by omega) (by omega)), g_15_9, Option.bind_some, nI_16, a_24 (show 16 * i + q < 64 by omega), Option.bind_some, h.2.2 q hq, nI_1]
  · show fX5_sum_L114 (N + 1) _ _ _ _ _ _ = _
    rw [fX5_sum_L114, g_15_8, Option.bind_some, a_23 hi, Option.bind_some, h.2.1, if_pos (nI_le (Nat.le_refl _) (by omega)), Option.bind_some, ← mz_eq hm hlen]
    unfold FE
    by_cases q : nI mode = 3
    · rw [if_pos q, if_pos q, a_23 hi, Option.bind_some, h.2.1]
      congr 1
      funext v w
      exact xmb2_id _
    · rw [if_neg q, if_neg q]
      congr 1
      funext v w
      exact xmb2_id _
  · exact m_comes h.1 hv (hc q hq) he k23 k24 1 rfl (fun _ => rfl) (fun _ => (Int.mul_one _).symm) (by omega)
theorem m_dotEx {F : FM} (hv : VF F) {i i2 f len len2 L : Nat} {cs ds : Nat → Nat} (hi : i < 4) (hi2 : i2 < 4) (hL1 : L ≤ len) (hL2 : L ≤ len2) (hlen : L ≤ 16) (hc : ∀ q, q < len → cs q < 2 ^ bits F) (hc2 : ∀ q, q < len2 → ds q < 2 ^ bits F) {mode : Nat} (hm : mode ≤ 5) (hp : RP F f i len cs m) (hp2 : RP F f i2 len2 ds m) (h23 : m.1 23 = nI 0) (h24 : m.2.1 24 = lZ 0) (N : Nat) (hN : 16 < N) :
    ∃ m1, fX5_dot_L203 N (WB x m fl) (some 15) (nI i) (nI i2) (nI mode) (nI f) (nI L) 0 = fX5_ends (WB x m1 fl) (some 15) (rv (exS F (fun q => (szp F (cs q) (ds q), ng F (cs q) != ng F (ds q))) (2 ^ sc F) mode (decide (0 < L) && eq3 mode) L 0 0 0)) ∧ mDf m m1 (exS F (fun q => (szp F (cs q) (ds q), ng F (cs q) != ng F (ds q))) (2 ^ sc F) mode (decide (0 < L) && eq3 mode) L 0 0 0).2.1 (exS F (fun q => (szp F (cs q) (ds q), ng F (cs q) != ng F (ds q))) (2 ^ sc F) mode (decide (0 < L) && eq3 mode) L 0 0 0).2.2.1 (exS F (fun q => (szp F (cs q) (ds q), ng F (cs q) != ng F (ds q))) (2 ^ sc F) mode (decide (0 < L) && eq3 mode) L 0 0 0).2.2.2 := by
  have hsc := sc_le hv
  have hpw := pw20 hsc
  refine m_exL (x := x) (fl := fl) (j := f) (len := L) (den := 2 ^ sc F) hv (TOK.dot hv cs ds) (by omega) hm (decide (0 < L) && eq3 mode) (fun m => RP F f i len cs m ∧ RP F f i2 len2 ds m) (fun N w z => fX5_dot_L203 N w (some 15) (nI i) (nI i2) (nI mode) (nI f) (nI L) z) (fun w q => fX5_comesProduct w (some 15) (nI f) (nI (cs q)) (nI (ds q))) (fun m h => h.1.1) (fun m m' a b c h hd => ⟨h.1.q hd, h.2.q hd⟩) (fun m N q h hq => ?_) (fun m N h => ?_) (fun m q e Z h hq he k23 k24 => ?_) (fun m q h hq k => m_cPAbs k _ _) hlen L 0 N 0 0 m (Nat.zero_add _) (by omega) ⟨hp, hp2⟩ (by omega) (fun q => absurd rfl q) h23 h24 (by omega) (by omega)
  · show fX5_dot_L203 (N + 1) _ _ _ _ _ _ _ _ = _
    rw [fX5_dot_L203, if_neg (nI_ge (by omega) (by omega)), g_15_9, Option.bind_some, nI_16, a_24 (show 16 * i + q < 64 by omega), Option.bind_some, h.1.2.2 q (by omega), Option.bind_some, nI_16, a_24 (show 16 * i2 + q < 64 by omega), Option.bind_some, h.2.2.2 q (by omega), nI_1]
  · show fX5_dot_L203 (N + 1) _ _ _ _ _ _ _ _ = _
    rw [fX5_dot_L203, if_pos (nI_le (Nat.le_refl _) (by omega)), m_scale (h.1.1.g x fl), Option.bind_some, sl_one _ (by omega), lN_lZ, ← mz_eq hm hlen]
    unfold FE
    by_cases q : nI mode = 3
    · rw [if_pos q, if_pos q]
      congr 1
      funext v w
      exact xmb2_id _
    · rw [if_neg q, if_neg q]
      congr 1
      funext v w
      exact xmb2_id _
  · exact m_comesP h.1.1 hv (hc q (by omega)) (hc2 q (by omega)) he k23 k24
theorem m_sumSt {F : FM} (hv : VF F) {i f len : Nat} {cs : Nat → Nat} (hi : i < 4) (hlen : len ≤ 16) (hc : ∀ q, q < len → cs q < 2 ^ bits F) {mode : Nat} (hm : mode ≤ 5) (hp : RP F f i len cs m) (N : Nat) (hN : 18 < N) : ∃ m1, fX5_sum_L48 N (WB x m fl) (some 15) (nI i) (nI mode) (nI f) 0 0 = fX5_ends (WB x m1 fl) (some 15) (rv (stS F (fun q => okS (cs q)) mode len 0 0 (0, 0, 0))) ∧ mDf m m1 (stS F (fun q => okS (cs q)) mode len 0 0 (0, 0, 0)).2.1 (stS F (fun q => okS (cs q)) mode len 0 0 (0, 0, 0)).2.2.1 (stS F (fun q => okS (cs q)) mode len 0 0 (0, 0, 0)).2.2.2 :=
  m_stSum hv hi hlen hc hm x len 0 N 0 (0, 0, 0) m m (Nat.zero_add _) (by omega) (Nat.two_pow_pos _) hp (mDf.rf m)
theorem m_dotSt {F : FM} (hv : VF F) {i i2 f len len2 L : Nat} {cs ds : Nat → Nat} (hi : i < 4) (hi2 : i2 < 4) (hL1 : L ≤ len) (hL2 : L ≤ len2) (hlen : L ≤ 16) (hc : ∀ q, q < len → cs q < 2 ^ bits F) (hc2 : ∀ q, q < len2 → ds q < 2 ^ bits F) {mode : Nat} (hm : mode ≤ 5) (hp : RP F f i len cs m) (hp2 : RP F f i2 len2 ds m) (N : Nat) (hN : 18 < N) : ∃ m1, fX5_dot_L107 N (WB x m fl) (some 15) (nI i) (nI i2) (nI mode) (nI f) (nI L) 0 0 = fX5_ends (WB x m1 fl) (some 15) (rv (stS F (fun q => actS F 2 (cs q) (ds q) mode) mode L 0 0 (0, 0, 0))) ∧ mDf m m1 (stS F (fun q => actS F 2 (cs q) (ds q) mode) mode L 0 0 (0, 0, 0)).2.1 (stS F (fun q => actS F 2 (cs q) (ds q) mode) mode L 0 0 (0, 0, 0)).2.2.1 (stS F (fun q => actS F 2 (cs q) (ds q) mode) mode L 0 0 (0, 0, 0)).2.2.2 :=
  m_stDot hv hi hi2 hL1 hL2 hlen hc hc2 hm x L 0 N 0 (0, 0, 0) m m (Nat.zero_add _) (by omega) (Nat.two_pow_pos _) hp hp2 (mDf.rf m)
theorem pr_sum (h : IW n Fs x m fl) (a1 a2 : Int32) (b : Bool) : Pair (fX4_sum (WB x m fl) (some 0) a1 a2 (bI b)) m (fun w => fX5_sum w (some 15) a1 a2 (bI b)) := by
  have z1 : ¬ (1 : Int32) = 0 := by decide
  rcases r_spl h a1 with ⟨i, f, k, len, cs, hR, hfn, hk, rfl, e1, e2⟩ | ⟨e1, e2⟩
  · have e2 := fun x' fl' => e2 x' m fl' rfl
    have hR' := hR
    obtain ⟨hi, hf, h1, h2, h3, h4, h5, h6, h7, h8, h9, h10⟩ := hR
    have hc : ∀ q, q < len → cs q < 2 ^ bits (Fs f) := fun q hq => (h9 q (by omega)).1
    rcases mo_spl a2 with ⟨d, hd, rfl, d1, d2⟩ | ⟨d1, d2⟩
    · have md : ∀ x', fX5_sum (WB x' m fl) (some 15) (nI i) (nI d) (bI b) = if bI b = 0 then fX5_sum_L114 xmN (WB x' (mz0 m) fl) (some 15) (nI i) (nI d) (nI f) 0 else fX5_sum_L48 xmN (WB x' (mbg m) fl) (some 15) (nI i) (nI d) (nI f) 0 0 := by
        intro x'
        unfold fX5_sum
        rw [o_15, Option.bind_some, e2, Option.bind_some, if_neg z1, d2, Option.bind_some, if_neg z1, g_15_7, Option.bind_some, a_22 hi, Option.bind_some, h5, m_begins, Option.bind_some, p_15_23, Option.bind_some, p_15_24, Option.bind_some]
        rfl
      cases b with
      | false =>
        refine Pair.set h (RK.q h4 (exS_rk h4 (TOK.sum h4 cs) 1 d (decide (0 < len) && eq3 d) len 0 0 0)) ?_ ?_
        · have hop := x_exSum hR'.cl hd
          simp only [fX4_sum, o_0, e1, d1, Option.bind_some, reduceCtorEq, if_false, one_z, g_0_4, g_4_0, x_clear, bI_f, if_true, hop, XO, xmb2_s, xmb2_id]
        · intro x'
          obtain ⟨m1, k1, k2⟩ := m_sumEx (x := x') (m := mz0 m) (fl := fl) h4 hi h6 hc hd hR'.p (mz0_23 m) (mz0_24 m) xmN (by decide)
          refine ⟨m1, ?_, ?_⟩
          · show fX5_sum _ _ _ _ _ = _
            rw [md, if_pos (show bI false = 0 from rfl), k1]
          · have := (mz0_d m).tr k2
            rw [Nat.zero_add, Nat.zero_add, Nat.zero_add] at this
            exact this
      | true =>
        refine Pair.set h (RK.q h4 (stS_rk h4 (T := fun q => okS (cs q)) (len := len) (fun q hq => RK.ok (hc q hq)) d len 0 0 (0, 0, 0) (Nat.zero_add _) (Nat.two_pow_pos _) (fun _ => rfl))) ?_ ?_
        · have hop := x_stepSum hR'.cl hd
          simp only [fX4_sum, o_0, e1, d1, Option.bind_some, reduceCtorEq, if_false, one_z, g_0_4, g_4_0, x_clear, bI_t, hop, XO, xmb2_s, xmb2_id]
        · intro x'
          obtain ⟨m1, k1, k2⟩ := m_sumSt (x := x') (m := mbg m) (fl := fl) h4 hi h6 hc hd hR'.p xmN (by decide)
          refine ⟨m1, ?_, k2⟩
          show fX5_sum _ _ _ _ _ = _
          rw [md, if_neg (show ¬ bI true = 0 by decide), k1]
    · refine Pair.ref h (-1) (by simp only [fX4_sum, o_0, e1, d1, Option.bind_some, reduceCtorEq, if_false, if_true, x_ref, xmb2_id]) ?_
      show fX5_sum _ _ _ _ _ = _
      unfold fX5_sum
      rw [o_15, Option.bind_some, e2, Option.bind_some, if_neg z1, d2, Option.bind_some, if_pos rfl, m_ref, xmb2_s]
  · have e2 := fun x' fl' => e2 x' m fl' rfl
    refine Pair.ref h (-1) (by simp only [fX4_sum, o_0, e1, Option.bind_some, if_true, x_ref, xmb2_id]) ?_
    show fX5_sum _ _ _ _ _ = _
    unfold fX5_sum
    rw [o_15, Option.bind_some, e2, Option.bind_some, if_pos rfl, m_ref, xmb2_s]
theorem pr_dot (h : IW n Fs x m fl) (a1 a2 a3 : Int32) (b : Bool) : Pair (fX4_dot (WB x m fl) (some 0) a1 a2 a3 (bI b)) m (fun w => fX5_dot w (some 15) a1 a2 a3 (bI b)) := by
  have z1 : ¬ (1 : Int32) = 0 := by decide
  rcases r_spl h a1 with ⟨i, f, k, len, cs, hR, hfn, hk, rfl, e1, e2⟩ | ⟨e1, e2⟩
  · have e2 := fun x' fl' => e2 x' m fl' rfl
    rcases r_spl h a2 with ⟨i2, f2, k2, len2, ds, hR2, hfn2, hk2, rfl, g1, g2⟩ | ⟨g1, g2⟩
    · have g2 := fun x' fl' => g2 x' m fl' rfl
      have hR' := hR
      have hR2' := hR2
      obtain ⟨hi, hf, h1, h2, h3, h4, h5, h6, h7, h8, h9, h10⟩ := hR
      obtain ⟨hi2, hf2, j1, j2, j3, j4, j5, j6, j7, j8, j9, j10⟩ := hR2
      rcases mo_spl a3 with ⟨d, hd, rfl, d1, d2⟩ | ⟨d1, d2⟩
      · have hal := x_alike (h2.w x m) h4 (j2.w x m) j4
        have hff : (nI f = nI f2) ↔ f = f2 := nI_eq (by omega) (by omega)
        by_cases qf : f = f2
        · subst qf
          have hkk : k = k2 := Option.some.inj (hk.symm.trans hk2)
          subst hkk
          rw [if_pos rfl] at hal
          have hc : ∀ q, q < len → cs q < 2 ^ bits (Fs f) := fun q hq => (h9 q (by omega)).1
          have hc2 : ∀ q, q < len2 → ds q < 2 ^ bits (Fs f) := fun q hq => (j9 q (by omega)).1
          have hLe : (if len2 ≤ len then len2 else len) = (if len2 < len then len2 else len) := by split <;> split <;> omega
          have md : ∀ x', fX5_dot (WB x' m fl) (some 15) (nI i) (nI i2) (nI d) (bI b) = if bI b = 0 then fX5_dot_L203 xmN (WB x' (mz0 m) fl) (some 15) (nI i) (nI i2) (nI d) (nI f) (nI (if len2 < len then len2 else len)) 0 else fX5_dot_L107 xmN (WB x' (mbg m) fl) (some 15) (nI i) (nI i2) (nI d) (nI f) (nI (if len2 < len then len2 else len)) 0 0 := by
            intro x'
            have h90 : ∀ L : Nat, fX5_dot_L90 (WB x' m fl) (some 15) (nI i) (nI i2) (nI d) (bI b) (nI f) (nI L) = if bI b = 0 then fX5_dot_L203 xmN (WB x' (mz0 m) fl) (some 15) (nI i) (nI i2) (nI d) (nI f) (nI L) 0 else fX5_dot_L107 xmN (WB x' (mbg m) fl) (some 15) (nI i) (nI i2) (nI d) (nI f) (nI L) 0 0 := by
              intro L
              unfold fX5_dot_L90
              rw [m_begins, Option.bind_some, p_15_23, Option.bind_some, p_15_24, Option.bind_some]
              rfl
            unfold fX5_dot
            rw [o_15, Option.bind_some, e2, Option.bind_some, if_neg z1, g2, Option.bind_some, if_neg z1, d2, Option.bind_some, if_neg z1, g_15_7, Option.bind_some, a_22 hi, Option.bind_some, h5, Option.bind_some, a_22 hi2, Option.bind_some, j5, if_pos rfl, g_15_8, Option.bind_some, a_23 hi, Option.bind_some, h8, Option.bind_some, a_23 hi2, Option.bind_some, j8, ← hLe]
            by_cases q : len2 ≤ len
            · rw [if_pos (nI_le q (by omega)), Option.bind_some, a_23 hi2, Option.bind_some, j8, h90, if_pos q]
            · rw [if_neg (nI_ge (by omega) (by omega)), Option.bind_some, a_23 hi, Option.bind_some, h8, h90, if_neg q]
          have hL1 : (if len2 < len then len2 else len) ≤ len := by split <;> omega
          have hL2 : (if len2 < len then len2 else len) ≤ len2 := by split <;> omega
          cases b with
          | false =>
            refine Pair.set h (RK.q h4 (exS_rk h4 (TOK.dot h4 cs ds) (2 ^ sc (Fs f)) d (decide (0 < (if len2 < len then len2 else len)) && eq3 d) (if len2 < len then len2 else len) 0 0 0)) ?_ ?_
            · have hop := x_exDot hR'.cl hR2'.cl hd
              simp only [fX4_dot, o_0, e1, g1, d1, Option.bind_some, reduceCtorEq, if_false, one_z, g_rf hi, g_rf hi2, h1, j1, hal, g_0_4, g_4_0, x_clear, bI_f, if_true, hop, XO, xmb2_s, xmb2_id]
            · intro x'
              obtain ⟨m1, k1, k2⟩ := m_dotEx (x := x') (m := mz0 m) (fl := fl) h4 hi hi2 hL1 hL2 (by omega) hc hc2 hd hR'.p hR2'.p (mz0_23 m) (mz0_24 m) xmN (by decide)
              refine ⟨m1, ?_, ?_⟩
              · show fX5_dot _ _ _ _ _ _ = _
                rw [md, if_pos (show bI false = 0 from rfl), k1]
              · have := (mz0_d m).tr k2
                rw [Nat.zero_add, Nat.zero_add, Nat.zero_add] at this
                exact this
          | true =>
            refine Pair.set h (RK.q h4 (stS_rk h4 (T := fun q => actS (Fs f) 2 (cs q) (ds q) d) (len := if len2 < len then len2 else len) (fun q hq => RK.act h4 (hc q (by omega)) (fun _ => hc2 q (by omega))) d (if len2 < len then len2 else len) 0 0 (0, 0, 0) (Nat.zero_add _) (Nat.two_pow_pos _) (fun _ => rfl))) ?_ ?_
            · have hop := x_stepDot hR'.cl hR2'.cl hd
              simp only [fX4_dot, o_0, e1, g1, d1, Option.bind_some, reduceCtorEq, if_false, one_z, g_rf hi, g_rf hi2, h1, j1, hal, g_0_4, g_4_0, x_clear, bI_t, hop, XO, xmb2_s, xmb2_id]
            · intro x'
              obtain ⟨m1, k1, k2⟩ := m_dotSt (x := x') (m := mbg m) (fl := fl) h4 hi hi2 hL1 hL2 (by omega) hc hc2 hd hR'.p hR2'.p xmN (by decide)
              refine ⟨m1, ?_, k2⟩
              show fX5_dot _ _ _ _ _ _ = _
              rw [md, if_neg (show ¬ bI true = 0 by decide), k1]
        · have hne : ¬ Fs f = Fs f2 := fun q => qf (h.1.2.2.2.2.2 f f2 hfn hfn2 q)
          rw [if_neg hne] at hal
          refine Pair.ref h (-2) (by simp only [fX4_dot, o_0, e1, g1, d1, Option.bind_some, reduceCtorEq, if_false, one_z, g_rf hi, g_rf hi2, h1, j1, hal, if_true, x_ref, xmb2_id]) ?_
          show fX5_dot _ _ _ _ _ _ = _
          unfold fX5_dot
          rw [o_15, Option.bind_some, e2, Option.bind_some, if_neg z1, g2, Option.bind_some, if_neg z1, d2, Option.bind_some, if_neg z1, g_15_7, Option.bind_some, a_22 hi, Option.bind_some, h5, Option.bind_some, a_22 hi2, Option.bind_some, j5, if_neg (fun p => qf (hff.mp p)), m_ref, xmb2_s]
      · refine Pair.ref h (-1) (by simp only [fX4_dot, o_0, e1, g1, d1, Option.bind_some, reduceCtorEq, if_false, if_true, x_ref, xmb2_id]) ?_
        show fX5_dot _ _ _ _ _ _ = _
        unfold fX5_dot
        rw [o_15, Option.bind_some, e2, Option.bind_some, if_neg z1, g2, Option.bind_some, if_neg z1, d2, Option.bind_some, if_pos rfl, m_ref, xmb2_s]
    · have g2 := fun x' fl' => g2 x' m fl' rfl
      refine Pair.ref h (-1) (by simp only [fX4_dot, o_0, e1, g1, Option.bind_some, reduceCtorEq, if_false, if_true, x_ref, xmb2_id]) ?_
      show fX5_dot _ _ _ _ _ _ = _
      unfold fX5_dot
      rw [o_15, Option.bind_some, e2, Option.bind_some, if_neg z1, g2, Option.bind_some, if_pos rfl, m_ref, xmb2_s]
  · have e2 := fun x' fl' => e2 x' m fl' rfl
    refine Pair.ref h (-1) ?_ ?_
    · rcases r_spl h a2 with ⟨i2, f2, k2, len2, ds, hR2, hfn2, hk2, rfl, g1, g2⟩ | ⟨g1, g2⟩
      · simp only [fX4_dot, o_0, e1, g1, Option.bind_some, if_true, x_ref, xmb2_id]
      · simp only [fX4_dot, o_0, e1, g1, Option.bind_some, if_true, x_ref, xmb2_id]
    · show fX5_dot _ _ _ _ _ _ = _
      unfold fX5_dot
      rw [o_15, Option.bind_some, e2, Option.bind_some, if_pos rfl, m_ref, xmb2_s]
end SC
