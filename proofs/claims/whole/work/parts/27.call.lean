/-! CALLS: what a call ends in -/
def mDf (m m' : MS) (i o v : Nat) : Prop := (∀ a, a ≠ 25 → m'.2.2 a = m.2.2 a) ∧ (∀ k, k < 16 → m'.1 k = m.1 k) ∧ m'.1 16 = m.1 16 + nI v ∧ m'.1 18 = m.1 18 + nI i ∧ m'.1 19 = m.1 19 + nI o
theorem mDe.f {m m' : MS} {i o v : Nat} (h : mDe m m' i o v) : mDf m m' i o v := ⟨fun a _ => by rw [h.1], fun k hk => h.2.2.1 k (by omega) (by omega) (by omega) (by omega), h.2.2.2⟩
theorem mDf.rf (m : MS) : mDf m m 0 0 0 := (mDe.rf m).f
theorem mDf.tr {m m1 m2 : MS} {i o v i2 o2 v2 : Nat} (h : mDf m m1 i o v) (h2 : mDf m1 m2 i2 o2 v2) : mDf m m2 (i + i2) (o + o2) (v + v2) := by
  obtain ⟨a1, a2, a4, a5, a6⟩ := h
  obtain ⟨b1, b2, b4, b5, b6⟩ := h2
  refine ⟨fun a ha => (b1 a ha).trans (a1 a ha), fun k hk => (b2 k hk).trans (a2 k hk), ?_, ?_, ?_⟩
  · rw [b4, a4, Int32.add_assoc, nI_add]
  · rw [b5, a5, Int32.add_assoc, nI_add]
  · rw [b6, a6, Int32.add_assoc, nI_add]
theorem MA.qf {m m' : MS} {j : Nat} {F : FM} {i o v : Nat} (h : MA m j F) (hq : mDf m m' i o v) : MA m' j F := by
  unfold MA at *
  rw [hq.1 1 (by omega), hq.1 2 (by omega), hq.1 3 (by omega), hq.1 4 (by omega), hq.1 5 (by omega), hq.1 6 (by omega)]; exact h
/-- what a result is: a code of the format, or refused, where there is no NONE -/
def RK (F : FM) (r : RS) : Prop := (∃ c, r.1 = some c ∧ c < 2 ^ bits F ∧ (nc F = none → r.2.2.2 = 0)) ∨ (r.1 = none ∧ nc F = none ∧ r.2.2.2 = 1)
def RQ (r : RS) : Prop := (∃ c, r.1 = some c ∧ c < 2 ^ 31) ∨ (r.1 = none ∧ r.2.2.2 = 1)
theorem RK.q {F : FM} (hv : VF F) {r : RS} (h : RK F r) : RQ r := by
  rcases h with ⟨c, h1, h2, _⟩ | ⟨h1, _, h2⟩
  · have := code_lt hv h2; exact Or.inl ⟨c, h1, by omega⟩
  · exact Or.inr ⟨h1, h2⟩
theorem nc_bits {F : FM} (hv : VF F) {c : Nat} (h : nc F = some c) : c < 2 ^ bits F := by
  have hg := gr_lt hv
  have hq := hv.q
  have h0 : ∀ m, m < fP F → m < 2 ^ bits F := fun m h => Nat.lt_of_lt_of_le h (by rw [bits_pw]; exact Nat.le_mul_of_pos_left _ (Nat.two_pow_pos _))
  apply h0
  unfold nc at h
  split at h
  · have := Option.some.inj h; omega
  · split at h
    · rename_i h2
      have := Option.some.inj h
      have h6 : 2 ^ (fF F - 1) < 2 ^ fF F := Nat.pow_lt_pow_right (by omega) (by omega)
      have h7 : gr F = fP F - 2 ^ fF F - 1 := by unfold gr; rw [if_pos h2.1]
      omega
    · cases h
theorem RK.ok {F : FM} {c : Nat} (h : c < 2 ^ bits F) : RK F (okS c) := Or.inl ⟨c, rfl, h, fun _ => rfl⟩
theorem RK.nn {F : FM} (hv : VF F) (h : nc F ≠ none) : RK F (nc F, 0, 0, 0) := by
  cases hc : nc F with
  | none => exact absurd hc h
  | some c => exact Or.inl ⟨c, rfl, nc_bits hv hc, fun _ => rfl⟩
theorem RK.inv {F : FM} (hv : VF F) : RK F (invS F) := by
  cases h : nc F with
  | none => exact Or.inr ⟨h, h, rfl⟩
  | some c => exact Or.inl ⟨c, h, nc_bits hv h, fun q => by rw [h] at q; cases q⟩
theorem RK.rn {F : FM} {r : Nat × Nat × Nat} (h : r.1 < 2 ^ bits F) : RK F (rnS r) := Or.inl ⟨r.1, rfl, h, fun _ => rfl⟩
theorem RK.fr {F : FM} (hv : VF F) (z : Int) (q mode : Nat) (mz : Bool) : RK F (frS F z q mode mz) := by
  unfold frS
  split
  · exact RK.ok (sg_lt (fP_pos F))
  · exact RK.rn (rnd_lt hv _ _ _)
theorem RK.act {F : FM} (hv : VF F) {what a b mode : Nat} (ha : a < 2 ^ bits F) (hb : what ≠ 4 → b < 2 ^ bits F) : RK F (actS F what a b mode) := by
  unfold actS
  by_cases h0 : isNo F a = true ∨ (what ≠ 4 ∧ isNo F b = true)
  · rw [if_pos h0]
    rcases h0 with h | h
    · exact RK.nn hv (no_nc hv h)
    · exact RK.nn hv (no_nc hv h.2)
  · rw [if_neg h0]
    have hadd : ∀ mb, RK F (addS F a b mb mode) := by
      intro mb
      unfold addS
      split
      · exact RK.inv hv
      · split
        · exact RK.ok (bey_lt hv _)
        · exact RK.fr hv _ _ _ _
    by_cases w0 : what = 0
    · rw [if_pos w0]; exact hadd _
    · rw [if_neg w0]
      by_cases w1 : what = 1
      · rw [if_pos w1]; exact hadd _
      · rw [if_neg w1]
        by_cases w2 : what = 2
        · rw [if_pos w2]
          unfold mulS
          split
          · exact RK.inv hv
          · split
            · exact RK.ok (bey_lt hv _)
            · exact RK.fr hv _ _ _ _
        · rw [if_neg w2]
          by_cases w3 : what = 3
          · rw [if_pos w3]
            unfold divS
            split
            · exact RK.inv hv
            · split
              · exact RK.ok (bey_lt hv _)
              · split
                · exact RK.ok (sg_lt (fP_pos F))
                · exact RK.fr hv _ _ _ _
          · rw [if_neg w3]
            by_cases w4 : what = 4
            · rw [if_pos w4]
              unfold rooS
              split
              · exact RK.ok ha
              · split
                · exact RK.inv hv
                · split
                  · exact RK.ok ha
                  · exact RK.rn (rnd_lt hv _ _ _)
            · rw [if_neg w4]
              have hb := hb w4
              by_cases w5 : what = 5
              · rw [if_pos w5]
                apply RK.ok
                unfold lesC
                split
                · split <;> assumption
                · split <;> assumption
              · rw [if_neg w5]
                apply RK.ok
                unfold grtC
                split
                · split <;> assumption
                · split <;> assumption
theorem RK.cr {F G : FM} (hv2 : VF G) (c mode : Nat) : RK G (crS F c G mode) := by
  unfold crS
  split
  · split
    · exact RK.inv hv2
    · rename_i h; exact RK.nn hv2 h
  · split
    · exact RK.ok (bey_lt hv2 _)
    · exact RK.fr hv2 _ _ _ _
def xcl (x : XS) : XS := xset (xset (xset x 5 0) 6 0) 7 0
def mbg (m : MS) : MS := mset (mset m 18 0) 19 0
def xsd (x : XS) (r : RS) : XS := match r.1 with
  | none => xset (xset x 10 (x.1 10 + 1)) 1 (-4)
  | some _ => xset (xset (xset (xset x 8 (x.1 8 + x.1 5)) 9 (x.1 9 + x.1 6)) 10 (x.1 10 + x.1 7)) 1 0
def msd (m : MS) (r : RS) : MS := match r.1 with
  | none => mset m 17 (-4)
  | some _ => mset (mset (mset m 14 (m.1 14 + m.1 18)) 15 (m.1 15 + m.1 19)) 17 0
theorem one_z : ((1 : Int32) = 0) = False := eq_false (by decide)
section CALL
variable {n : Nat} {Fs : Nat → FM} {x : XS} {m : MS} {fl : List xmE}
theorem x_clear : fX3_clear (WB x m fl) (some 5) = some (WB (xcl x) m fl) := by simp only [fX3_clear, o_5, p_5_0, p_5_1, p_5_2, Option.bind_some]; rfl
theorem m_begins : fX5_begins (WB x m fl) (some 15) = some (WB x (mbg m) fl) := by simp only [fX5_begins, o_15, p_15_18, p_15_19, Option.bind_some]; rfl
theorem x_settled {r : RS} (hr : RQ r) : fX4_settled (WB x m fl) (some 0) (rv r) = some (rv r, WB (xsd x r) m fl) := by
  obtain ⟨rc, ri, ro, rvv⟩ := r
  rcases hr with ⟨c, h1, h2⟩ | ⟨h1, h2⟩
  · have h1 : rc = some c := h1
    subst h1
    have h3 := nI_m4 h2
    simp only [fX4_settled, rv, o_0, Option.bind_some, if_neg h3, g_0_5, g_0_4, g_4_0, fX3_add, o_6, g_6_0, g_5_0, p_6_0, g_6_1, g_5_1, p_6_1, g_6_2, g_5_2, p_6_2, x_ans, xmb2_id]
    rfl
  · have h1 : rc = none := h1
    subst h1
    simp only [fX4_settled, rv, o_0, Option.bind_some, if_true, g_0_5, g_6_2, p_6_2, x_ref, xmb2_id]
    rfl
theorem m_ends {r : RS} (hr : RQ r) : fX5_ends (WB x m fl) (some 15) (rv r) = some (rv r, WB x (msd m r) fl) := by
  obtain ⟨rc, ri, ro, rvv⟩ := r
  rcases hr with ⟨c, h1, h2⟩ | ⟨h1, h2⟩
  · have h1 : rc = some c := h1
    subst h1
    have h3 := nI_pos' h2
    simp only [fX5_ends, rv, o_15, Option.bind_some, if_pos h3, g_15_14, g_15_18, p_15_14, g_15_15, g_15_19, p_15_15, m_fin, xmb2_id]
    rfl
  · have h1 : rc = none := h1
    subst h1
    have h3 : ¬ (0 : Int32) ≤ -4 := by decide
    simp only [fX5_ends, rv, o_15, Option.bind_some, if_neg h3, m_ref, xmb2_id]
    rfl
theorem IW.set (h : IW n Fs x m fl) {r : RS} (hq : RQ r) {x1 : XS} {m1 : MS}
    (k1 : x1.2.1 = x.2.1) (k2 : x1.2.2.1 = x.2.2.1) (k3 : x1.2.2.2.2 = x.2.2.2.2) (k4 : ∀ k, k ≠ 1 → k ≠ 5 → k ≠ 6 → k ≠ 7 → x1.1 k = x.1 k)
    (k5 : x1.1 5 = nI r.2.1) (k6 : x1.1 6 = nI r.2.2.1) (k7 : x1.1 7 = nI r.2.2.2)
    (hm : mDf (mbg m) m1 r.2.1 r.2.2.1 r.2.2.2) : IW n Fs (xsd x1 r) (msd m1 r) fl := by
  have h2 := h
  obtain ⟨_, _, _, _, b1, b2, b3, b4⟩ := h2
  obtain ⟨g1, g2, g3, g4, g5⟩ := hm
  obtain ⟨rc, ri, ro, rvv⟩ := r
  have e18 : m1.1 18 = nI ri := by rw [g4]; show (0 : Int32) + nI ri = nI ri; rw [Int32.zero_add]
  have e19 : m1.1 19 = nI ro := by rw [g5]; show (0 : Int32) + nI ro = nI ro; rw [Int32.zero_add]
  have e14 : m1.1 14 = m.1 14 := g2 14 (by omega)
  have e15 : m1.1 15 = m.1 15 := g2 15 (by omega)
  have e16 : m1.1 16 = m.1 16 + nI rvv := g3
  have a8 := k4 8 (by omega) (by omega) (by omega) (by omega)
  have a9 := k4 9 (by omega) (by omega) (by omega) (by omega)
  have a10 := k4 10 (by omega) (by omega) (by omega) (by omega)
  have lo : ∀ k, k < 14 → m1.1 k = m.1 k := fun k hk => by
    rw [g2 k (by omega)]
    show upd (upd m.1 18 0) 19 0 k = m.1 k
    rw [upd_ne _ _ (by omega), upd_ne _ _ (by omega)]
  rcases hq with ⟨c, h1, h2⟩ | ⟨h1, h2⟩
  · have h1 : rc = some c := h1
    subst h1
    refine h.mv k1 k2 k3 (fun k q1 q5 q6 q7 q8 q9 q10 => ?_) g1 (fun k hk => ?_) rfl ?_ ?_ ?_
    · show upd (upd (upd (upd x1.1 8 _) 9 _) 10 _) 1 0 k = x.1 k
      rw [upd_ne _ _ q1, upd_ne _ _ q10, upd_ne _ _ q9, upd_ne _ _ q8]
      exact k4 k q1 q5 q6 q7
    · show upd (upd (upd m1.1 14 _) 15 _) 17 0 k = m.1 k
      rw [upd_ne _ _ (by omega), upd_ne _ _ (by omega), upd_ne _ _ (by omega)]
      exact lo k hk
    · show x1.1 8 + x1.1 5 = m1.1 14 + m1.1 18
      rw [a8, k5, e14, e18, b2]
    · show x1.1 9 + x1.1 6 = m1.1 15 + m1.1 19
      rw [a9, k6, e15, e19, b3]
    · show x1.1 10 + x1.1 7 = m1.1 16
      rw [a10, k7, e16, b4]
  · have h1 : rc = none := h1
    subst h1
    have h2 : rvv = 1 := h2
    subst h2
    refine h.mv k1 k2 k3 (fun k q1 q5 q6 q7 q8 q9 q10 => ?_) g1 (fun k hk => ?_) rfl ?_ ?_ ?_
    · show upd (upd x1.1 10 _) 1 (-4) k = x.1 k
      rw [upd_ne _ _ q1, upd_ne _ _ q10]
      exact k4 k q1 q5 q6 q7
    · show upd m1.1 17 (-4) k = m.1 k
      rw [upd_ne _ _ (by omega)]
      exact lo k hk
    · show x1.1 8 = m1.1 14
      rw [a8, e14, b2]
    · show x1.1 9 = m1.1 15
      rw [a9, e15, b3]
    · show x1.1 10 + 1 = m1.1 16
      rw [a10, e16, b4]; rfl
/-- a call that rounds -/
theorem Pair.set (h : IW n Fs x m fl) {r : RS} (hq : RQ r) {C : Option (Int32 × xmW)} {M : xmW → Option (Int32 × xmW)}
    (hC : C = fX4_settled (WB (xinc (xcl x) r.2.1 r.2.2.1 r.2.2.2) m fl) (some 0) (rv r))
    (hM : ∀ x', ∃ m1, M (WB x' m fl) = fX5_ends (WB x' m1 fl) (some 15) (rv r) ∧ mDf (mbg m) m1 r.2.1 r.2.2.1 r.2.2.2) : Pair C m M := by
  obtain ⟨m1, q1, q2⟩ := hM (xsd (xinc (xcl x) r.2.1 r.2.2.1 r.2.2.2) r)
  refine ⟨rv r, xsd (xinc (xcl x) r.2.1 r.2.2.1 r.2.2.2) r, fl, msd m1 r, hC.trans (x_settled hq), q1.trans (m_ends hq), n, Fs, h.set hq rfl rfl rfl (fun k q1 q5 q6 q7 => ?_) ?_ ?_ ?_ q2⟩
  · show (if k = 5 then _ else if k = 6 then _ else if k = 7 then _ else upd (upd (upd x.1 5 0) 6 0) 7 0 k) = x.1 k
    rw [if_neg q5, if_neg q6, if_neg q7, upd_ne _ _ q7, upd_ne _ _ q6, upd_ne _ _ q5]
  · show (0 : Int32) + nI r.2.1 = nI r.2.1
    rw [Int32.zero_add]
  · show (0 : Int32) + nI r.2.2.1 = nI r.2.2.1
    rw [Int32.zero_add]
  · show (0 : Int32) + nI r.2.2.2 = nI r.2.2.2
    rw [Int32.zero_add]
theorem MA.bg {j : Nat} {F : FM} (h : MA m j F) : MA (mbg m) j F := h
/-- a mode; a number 0 .. 1, 2, 3, 6, 16 -/
theorem wi_spl (a : Int32) (hi : Nat) (hh : hi < 2 ^ 31) : (∃ c, c ≤ hi ∧ a = nI c ∧ (∀ w, fX4_within w a 0 (nI hi) = some 1) ∧ (∀ w, fX5_in w a.toInt64 0 (lN hi) = some 1)) ∨ ((∀ w, fX4_within w a 0 (nI hi) = some 0) ∧ (∀ w, fX5_in w a.toInt64 0 (lN hi) = some 0)) := by
  rcases spl a 0 hi (Nat.zero_le _) hh with ⟨c, _, h2, h3, h4, h5⟩ | h
  · exact Or.inl ⟨c, h2, h3, h4, h5⟩
  · exact Or.inr h
theorem mo_spl (a : Int32) : (∃ c, c ≤ 5 ∧ a = nI c ∧ (∀ w, fX4_isMode w a = some 1) ∧ (∀ w, fX5_in w a.toInt64 0 5 = some 1)) ∨ ((∀ w, fX4_isMode w a = some 0) ∧ (∀ w, fX5_in w a.toInt64 0 5 = some 0)) := by
  rcases wi_spl a 5 (by omega) with ⟨c, h1, h2, h3, h4⟩ | ⟨h3, h4⟩
  · refine Or.inl ⟨c, h1, h2, fun w => ?_, h4⟩
    have := h3 w
    simp only [fX4_isMode]
    rw [show (5 : Int32) = nI 5 from rfl, this]; rfl
  · refine Or.inr ⟨fun w => ?_, h4⟩
    have := h3 w
    simp only [fX4_isMode]
    rw [show (5 : Int32) = nI 5 from rfl, this]; rfl
end CALL
