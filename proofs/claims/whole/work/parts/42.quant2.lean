/-! quantise, the call -/
section QUC
variable {n : Nat} {Fs : Nat → FM} {x : XS} {m : MS} {fl : List xmE}
theorem QX.k {x xf : XS} {i o v : Nat} (h : QX (xcl x) xf i o v) : (∀ k, k ≠ 5 → k ≠ 6 → k ≠ 7 → xf.1 k = x.1 k) ∧ xf.1 5 = nI i ∧ xf.1 6 = nI o ∧ xf.1 7 = nI v := by
  rw [h.1]
  refine ⟨fun k q5 q6 q7 => ?_, ?_, ?_, ?_⟩
  · show (if k = 5 then _ else if k = 6 then _ else if k = 7 then _ else upd (upd (upd x.1 5 0) 6 0) 7 0 k) = x.1 k
    rw [if_neg q5, if_neg q6, if_neg q7, upd_ne _ _ q7, upd_ne _ _ q6, upd_ne _ _ q5]
  · show (0 : Int32) + nI i = nI i
    rw [Int32.zero_add]
  · show (0 : Int32) + nI o = nI o
    rw [Int32.zero_add]
  · show (0 : Int32) + nI v = nI v
    rw [Int32.zero_add]
theorem x_qu0 {i2 f k len : Nat} {cs : Nat → Nat} (hR : RR Fs x m fl i2 f k len cs) {k2 : Nat} {G : FM} (hF2 : XF fl k2 G) (hv2 : VF G) {i mode : Nat} (hm : mode ≤ 5) (N : Nat) (hN : 16 < N) :
    ∃ xf, QX x xf (quS (quT (Fs f) cs G mode) len 0 (0, 0, 0)).2.1 (quS (quT (Fs f) cs G mode) len 0 (0, 0, 0)).2.2.1 (quS (quT (Fs f) cs G mode) len 0 (0, 0, 0)).2.2.2 ∧
      (((quS (quT (Fs f) cs G mode) len 0 (0, 0, 0)).1 = some 1 ∧ (∀ p, p < len → ∃ c, (crS (Fs f) (cs p) G mode).1 = some c ∧ xf.2.2.2.1 p = nI c) ∧ fX4_quantise_L65 N (WB x m fl) (some 0) (nI i) (nI mode) (some (7 + 2 * i2)) (some k2) 0 = fX4_quantise_L140 (WB xf m fl) (some 0) (nI i) (some (7 + 2 * i2)) (some k2))
      ∨ ((quS (quT (Fs f) cs G mode) len 0 (0, 0, 0)).1 = none ∧ fX4_quantise_L65 N (WB x m fl) (some 0) (nI i) (nI mode) (some (7 + 2 * i2)) (some k2) 0 = fX4_settled (WB xf m fl) (some 0) (-4))) := by
  have hl := hR.2.2.2.2.2.2.2.1
  refine x_quL hR hF2 hv2 hm len 0 N (0, 0, 0) x (Nat.zero_add _) (by omega) ⟨?_, rfl, rfl, rfl⟩ (fun p hp => absurd hp (by omega))
  rw [xinc_0]
theorem m_qu0 {F : FM} (hv : VF F) {G : FM} (hv2 : VF G) {i i2 f g len : Nat} {cs : Nat → Nat} (hi : i < 4) (hi2 : i2 < 4) (hii : i ≠ i2) (hlen : len ≤ 16) (hc : ∀ q, q < len → cs q < 2 ^ bits F) (hf10 : f < 10) {mode : Nat} (hm : mode ≤ 5) (x : XS) (N : Nat) (hN : 16 < N) (hp : RP F f i2 len cs m) (hG : MA m g G) (h7 : m.2.2 7 i2 = nI f) :
    ∃ mf, mDf m mf (quS (quT F cs G mode) len 0 (0, 0, 0)).2.1 (quS (quT F cs G mode) len 0 (0, 0, 0)).2.2.1 (quS (quT F cs G mode) len 0 (0, 0, 0)).2.2.2 ∧
      (((quS (quT F cs G mode) len 0 (0, 0, 0)).1 = some 1 ∧ (∀ p, p < len → ∃ c, (crS F (cs p) G mode).1 = some c ∧ mf.2.2 25 p = nI c) ∧ fX5_quantise_L59 N (WB x m fl) (some 15) (nI i) (nI i2) (nI g) (nI mode) 0 = fX5_quantise_L147 xmN (WB x (mast (mast mf 7 i (nI g)) 8 i (nI len)) fl) (some 15) (nI i) (nI i2) 0)
      ∨ ((quS (quT F cs G mode) len 0 (0, 0, 0)).1 = none ∧ fX5_quantise_L59 N (WB x m fl) (some 15) (nI i) (nI i2) (nI g) (nI mode) 0 = fX5_ends (WB x mf fl) (some 15) (-4))) :=
  m_quL hv hv2 hi hi2 hii hlen hc hf10 hm x len 0 N (0, 0, 0) m m (Nat.zero_add _) (by omega) hp hG h7 (mDf.rf m) (fun p hp => absurd hp (by omega))
theorem x_140 {i i2 len : Nat} (hi : i < 4) (hi2 : i2 < 4) (hl : len ≤ 16) (h11 : x.1 (11 + i2) = nI len) (k2 : Nat) : ∃ xf : XS, fX4_quantise_L140 (WB x m fl) (some 0) (nI i) (some (7 + 2 * i2)) (some k2) = fX4_settled (WB xf m fl) (some 0) 1 ∧ xf.1 = upd x.1 (11 + i) (nI len) ∧ xf.2.1 = x.2.1 ∧ xf.2.2.1 = x.2.2.1 ∧ xf.2.2.2.2.1 = va_up x.2.2.2.2.1 i (some k2) ∧ (∀ j, j ≠ i → xf.2.2.2.2.2 j = x.2.2.2.2.2 j) ∧ (∀ p, p < 16 → xf.2.2.2.2.2 i p = if p < len then x.2.2.2.1 p else 0) := by
  obtain ⟨x', b1, b2, b3, b4, b5, b6, b7, b8⟩ := x_become (x := x) (m := m) (fl := fl) hi (some k2) hl
  obtain ⟨xf, c1, c2, c3, c4, c5, c6, c7⟩ := x_qc0 (m := m) (fl := fl) hi hl xmN (by decide) x' (by rw [b2, upd_eq])
  refine ⟨xf, ?_, c2.trans b2, c3.trans b3, c4.trans b4, c5.trans b6, fun j hj => (c6 j hj).trans (b7 j hj), fun p hp => ?_⟩
  · unfold fX4_quantise_L140
    rw [g_0_2, Option.bind_some, a_2 hi, Option.bind_some, rowsA_i hi, g_rl hi2, Option.bind_some, h11, b1, Option.bind_some, c1]
  · rw [c7 p hp, b8 p hp, b5]
    by_cases q : p < len
    · rw [if_pos ⟨Nat.zero_le _, q⟩, if_pos q]
    · rw [if_neg (fun t => q t.2), if_neg q]
theorem pr_quantise (h : IW n Fs x m fl) (a1 a2 a3 a4 : Int32) : Pair (fX4_quantise (WB x m fl) (some 0) a1 a2 a3 a4) m (fun w => fX5_quantise w (some 15) a1 a2 a3 a4) := by
  have z1 : ¬ (1 : Int32) = 0 := by decide
  have clRef : ∀ v2 v4 ww, fX4_rowAt (WB x m fl) (some 0) a2 = some v2 → fX4_formatAt (WB x m fl) (some 0) a3 = some v4 → fX4_within (WB x m fl) a1 0 3 = some ww → (ww = 0 ∨ a1 = a2 ∨ v2 = none ∨ v4 = none ∨ fX4_isMode (WB x m fl) a4 = some 0) → fX4_quantise (WB x m fl) (some 0) a1 a2 a3 a4 = some (-1, WB (xset x 1 (-1)) m fl) := by
    intro v2 v4 ww e1 g1 w1 hor
    unfold fX4_quantise
    rw [o_0, Option.bind_some, e1, Option.bind_some, g1, Option.bind_some, w1, Option.bind_some]
    by_cases q1 : ww = 0
    · rw [if_pos q1, x_ref, xmb2_s]
    · rw [if_neg q1]
      by_cases q2 : a1 = a2
      · rw [if_pos q2, x_ref, xmb2_s]
      · rw [if_neg q2]
        by_cases q3 : v2 = none
        · rw [if_pos q3, x_ref, xmb2_s]
        · rw [if_neg q3]
          by_cases q4 : v4 = none
          · rw [if_pos q4, x_ref, xmb2_s]
          · rw [if_neg q4]
            have q5 : fX4_isMode (WB x m fl) a4 = some 0 := by
              rcases hor with q | q | q | q | q
              · exact absurd q q1
              · exact absurd q q2
              · exact absurd q q3
              · exact absurd q q4
              · exact q
            rw [q5, Option.bind_some, if_pos rfl, x_ref, xmb2_s]
  have fa : ∃ v4, fX4_formatAt (WB x m fl) (some 0) a3 = some v4 := by
    rcases f_spl h.1 a3 with ⟨j, k2, hj, hj10, rfl, hk2, hF2, hM2, hv2, g1, g2⟩ | ⟨g1, g2⟩
    · exact ⟨_, g1⟩
    · exact ⟨_, g1⟩
  have ra : ∃ v2, fX4_rowAt (WB x m fl) (some 0) a2 = some v2 := by
    rcases r_spl h a2 with ⟨i, f, k, len, cs, hR, hfn, hk, rfl, e1, e2⟩ | ⟨e1, e2⟩
    · exact ⟨_, e1⟩
    · exact ⟨_, e1⟩
  obtain ⟨v4, hv4⟩ := fa
  obtain ⟨v2', hv2'⟩ := ra
  rcases wi_3 a1 with ⟨i, hi3, rfl, w1, w2⟩ | ⟨w1, w2⟩
  · have hi : i < 4 := by omega
    rcases r_spl h a2 with ⟨i2, f, k, len, cs, hR, hfn, hk, rfl, e1, e2⟩ | ⟨e1, e2⟩
    · have e2 := fun x' fl' => e2 x' m fl' rfl
      have hR' := hR
      obtain ⟨hi2, hf, h1, h2, h3, h4, h5, h6, h7, h8, h9, h10⟩ := hR
      have hii : (nI i = nI i2) ↔ i = i2 := nI_eq (by omega) (by omega)
      by_cases qi : i = i2
      · refine Pair.ref h (-1) (clRef _ _ _ e1 hv4 (w1 _) (Or.inr (Or.inl (hii.mpr qi)))) ?_
        show fX5_quantise _ _ _ _ _ _ = _
        unfold fX5_quantise
        rw [o_15, Option.bind_some, w2, Option.bind_some, if_neg z1, e2, Option.bind_some, if_neg z1, if_pos (hii.mpr qi), m_ref, xmb2_s]
      · have nii : ¬ nI i = nI i2 := fun p => qi (hii.mp p)
        rcases f_spl h.1 a3 with ⟨g, k2, hg, hg10, rfl, hk2, hF2, hM2, hv2, g1, g2⟩ | ⟨g1, g2⟩
        · have g2 := fun x' fl' => g2 x' m fl' rfl
          rcases mo_spl a4 with ⟨d, hd, rfl, d1, d2⟩ | ⟨d1, d2⟩
          · have hc : ∀ q, q < len → cs q < 2 ^ bits (Fs f) := fun q hq => (h9 q (by omega)).1
            have hT : ∀ q, RK (Fs g) (quT (Fs f) cs (Fs g) d q) := fun q => RK.cr hv2 (cs q) d
            have hq := quS_q hT len 0 (0, 0, 0) (fun _ => rfl)
            have cl : fX4_quantise (WB x m fl) (some 0) (nI i) (nI i2) (nI g) (nI d) = fX4_quantise_L65 xmN (WB (xcl x) m fl) (some 0) (nI i) (nI d) (some (7 + 2 * i2)) (some k2) 0 := by
              unfold fX4_quantise
              rw [o_0, Option.bind_some, e1, Option.bind_some, g1, Option.bind_some, w1, Option.bind_some, if_neg z1, if_neg nii, if_neg (by simp), if_neg (by simp), d1, Option.bind_some, if_neg z1, g_0_4, Option.bind_some, g_4_0, Option.bind_some, x_clear, Option.bind_some]
            have md : ∀ x', fX5_quantise (WB x' m fl) (some 15) (nI i) (nI i2) (nI g) (nI d) = fX5_quantise_L59 xmN (WB x' (mbg m) fl) (some 15) (nI i) (nI i2) (nI g) (nI d) 0 := by
              intro x'
              unfold fX5_quantise
              rw [o_15, Option.bind_some, w2, Option.bind_some, if_neg z1, e2, Option.bind_some, if_neg z1, if_neg nii, g2, Option.bind_some, if_neg z1, d2, Option.bind_some, if_neg z1, m_begins, Option.bind_some]
            obtain ⟨xf, hQ, hx⟩ := x_qu0 (m := m) hR'.cl hF2 hv2 (i := i) hd xmN (by decide)
            have hm0 := fun x' : XS => m_qu0 (m := mbg m) (fl := fl) h4 hv2 hi hi2 qi h6 hc hf hd x' xmN (by decide) hR'.p (show MA (mbg m) g (Fs g) from hM2) h5
            rw [← cl] at hx
            obtain ⟨kk, kk5, kk6, kk7⟩ := hQ.k
            generalize hr : quS (quT (Fs f) cs (Fs g) d) len 0 (0, 0, 0) = r at hq hQ hx hm0 kk5 kk6 kk7
            rcases hx with ⟨r1, hsx, hx⟩ | ⟨r1, hx⟩
            · have hrv : rv r = 1 := rv_s r1
              have h11 : xf.1 (11 + i2) = nI len := (kk _ (by omega) (by omega) (by omega)).trans h7
              obtain ⟨x2, b1, b2, b3, b4, b5, b6, b7⟩ := x_140 (x := xf) (m := m) (fl := fl) hi hi2 h6 h11 k2
              obtain ⟨mf, hmd, hmx⟩ := hm0 (xsd x2 r)
              rcases hmx with ⟨_, hsm, hmx⟩ | ⟨r1', _⟩
              · have h8' : (mast (mast mf 7 i (nI g)) 8 i (nI len)).2.2 8 i2 = nI len := by
                  rw [mast_ne _ _ _ (by omega)]
                  show mf.2.2 8 i2 = nI len
                  rw [hmd.1 8 (by omega)]; exact h8
                obtain ⟨m2, c1, c2, c3, c4⟩ := m_qc0 (fl := fl) hi hi2 h6 (xsd x2 r) xmN (by decide) _ h8'
                have hmA : ∀ a, a ≠ 25 → a ≠ 9 → a ≠ 7 → a ≠ 8 → m2.2.2 a = m.2.2 a := by
                  intro a ha ha9 ha7 ha8
                  rw [c3 a ha9]
                  show (if a = 8 then _ else if a = 7 then _ else mf.2.2 a) = m.2.2 a
                  rw [if_neg ha8, if_neg ha7]; exact hmd.1 a ha
                have h27 : m2.2.2 7 = upd (mf.2.2 7) i (nI g) := by rw [c3 7 (by omega)]; rfl
                have h28 : m2.2.2 8 = upd (mf.2.2 8) i (nI len) := by rw [c3 8 (by omega)]; rfl
                have f7 : mf.2.2 7 = m.2.2 7 := hmd.1 7 (by omega)
                have f8 : mf.2.2 8 = m.2.2 8 := hmd.1 8 (by omega)
                have f9 : mf.2.2 9 = m.2.2 9 := hmd.1 9 (by omega)
                have hW : IW n Fs ((upd x.1 (11 + i) (nI len), x2.2) : XS) ((m.1, m2.2) : MS) fl := by
                  refine h.row (i := i) (b3.trans hQ.2.1) (b4.trans hQ.2.2.1) (fun q hq _ _ _ => upd_ne _ _ (by omega)) (fun a ha => hmA a (by omega) (by omega) (by omega) (by omega)) (fun _ _ => rfl) (fun j hj hji => ⟨?_, ?_, fun q hq => ?_, ?_, ?_, fun q hq => ?_⟩) ?_
                  · show x2.2.2.2.2.1 j = x.2.2.2.2.1 j
                    rw [b5]; unfold va_up; rw [if_neg hji, hQ.2.2.2]; rfl
                  · exact upd_ne _ _ (by omega)
                  · show x2.2.2.2.2.2 j q = x.2.2.2.2.2 j q
                    rw [b6 j hji, hQ.2.2.2]; rfl
                  · show m2.2.2 7 j = m.2.2 7 j
                    rw [h27, upd_ne _ _ hji, f7]
                  · show m2.2.2 8 j = m.2.2 8 j
                    rw [h28, upd_ne _ _ hji, f8]
                  · show m2.2.2 9 (16 * j + q) = m.2.2 9 (16 * j + q)
                    rw [c4 _ (by omega), if_neg (by omega)]
                    show mf.2.2 9 _ = _
                    rw [f9]
                  · refine Or.inr ⟨g, len, hg, ?_, ?_, h6, ?_, ?_, fun q hq => ?_⟩
                    · show x2.2.2.2.2.1 i = x2.2.1 g
                      rw [b5, b3, hQ.2.1]; unfold va_up; rw [if_pos rfl]; exact hk2.symm
                    · show m2.2.2 7 i = nI g
                      rw [h27, upd_eq]
                    · show upd x.1 (11 + i) (nI len) (11 + i) = nI len
                      exact upd_eq _ _ _
                    · show m2.2.2 8 i = nI len
                      rw [h28, upd_eq]
                    · by_cases hql : q < len
                      · obtain ⟨c, p1, p2⟩ := hsx q hql
                        obtain ⟨c', p1', p2'⟩ := hsm q hql
                        have hcc : c' = c := Option.some.inj (p1'.symm.trans p1)
                        subst hcc
                        have hb : c' < 2 ^ bits (Fs g) := by
                          rcases hT q with ⟨c3', q1, q2, _⟩ | ⟨q1, _⟩
                          · have : c3' = c' := Option.some.inj (q1.symm.trans p1)
                            rw [← this]; exact q2
                          · have := q1.symm.trans p1; cases this
                        refine ⟨c', hb, ?_, fun _ => ?_⟩
                        · show x2.2.2.2.2.2 i q = nI c'
                          rw [b7 q hq, if_pos hql]; exact p2
                        · show m2.2.2 9 (16 * i + q) = nI c'
                          rw [c4 _ (by omega), if_pos (by omega), show 16 * i + q - 16 * i = q by omega, if_pos hql]
                          exact p2'
                      · refine ⟨0, Nat.two_pow_pos _, ?_, fun t => absurd t hql⟩
                        show x2.2.2.2.2.2 i q = nI 0
                        rw [b7 q hq, if_neg hql]; rfl
                have hx1 : x2.1 = upd xf.1 (11 + i) (nI len) := b2
                have hS := hW.set hq (x1 := x2) (m1 := m2) rfl rfl rfl (fun q q1 q5 q6 q7 => ?_) ?_ ?_ ?_ ⟨fun _ _ => rfl, fun q hq => ?_, ?_, ?_, ?_⟩
                · refine ⟨rv r, xsd x2 r, fl, msd m2 r, ?_, ?_, n, Fs, hS⟩
                  · rw [hx, b1, ← hrv]; exact x_settled hq
                  · show fX5_quantise _ _ _ _ _ _ = _
                    rw [md, hmx, c1, ← hrv]; exact m_ends hq
                · show x2.1 q = upd x.1 (11 + i) (nI len) q
                  rw [hx1]
                  by_cases hqi : q = 11 + i
                  · rw [hqi, upd_eq, upd_eq]
                  · rw [upd_ne _ _ hqi, upd_ne _ _ hqi]; exact kk q q5 q6 q7
                · rw [hx1, upd_ne _ _ (by omega)]; exact kk5
                · rw [hx1, upd_ne _ _ (by omega)]; exact kk6
                · rw [hx1, upd_ne _ _ (by omega)]; exact kk7
                · rw [c2]; exact hmd.2.1 q hq
                · rw [c2]; exact hmd.2.2.1
                · rw [c2]; exact hmd.2.2.2.1
                · rw [c2]; exact hmd.2.2.2.2
              · rw [r1] at r1'; cases r1'
            · have hrv : rv r = -4 := rv_n r1
              obtain ⟨mf, hmd, hmx⟩ := hm0 (xsd xf r)
              rcases hmx with ⟨r1', _⟩ | ⟨_, hmx⟩
              · rw [r1] at r1'; cases r1'
              · refine ⟨rv r, xsd xf r, fl, msd mf r, ?_, ?_, n, Fs, h.set hq (x1 := xf) (m1 := mf) (hQ.2.1) (hQ.2.2.1) (hQ.2.2.2) (fun q q1 q5 q6 q7 => kk q q5 q6 q7) kk5 kk6 kk7 hmd⟩
                · rw [hx, ← hrv]; exact x_settled hq
                · show fX5_quantise _ _ _ _ _ _ = _
                  rw [md, hmx, ← hrv]; exact m_ends hq
          · refine Pair.ref h (-1) (clRef _ _ _ e1 g1 (w1 _) (Or.inr (Or.inr (Or.inr (Or.inr (d1 _)))))) ?_
            show fX5_quantise _ _ _ _ _ _ = _
            unfold fX5_quantise
            rw [o_15, Option.bind_some, w2, Option.bind_some, if_neg z1, e2, Option.bind_some, if_neg z1, if_neg nii, g2, Option.bind_some, if_neg z1, d2, Option.bind_some, if_pos rfl, m_ref, xmb2_s]
        · have g2 := fun x' fl' => g2 x' m fl' rfl
          refine Pair.ref h (-1) (clRef _ _ _ e1 g1 (w1 _) (Or.inr (Or.inr (Or.inr (Or.inl rfl))))) ?_
          show fX5_quantise _ _ _ _ _ _ = _
          unfold fX5_quantise
          rw [o_15, Option.bind_some, w2, Option.bind_some, if_neg z1, e2, Option.bind_some, if_neg z1, if_neg nii, g2, Option.bind_some, if_pos rfl, m_ref, xmb2_s]
    · have e2 := fun x' fl' => e2 x' m fl' rfl
      refine Pair.ref h (-1) (clRef _ _ _ e1 hv4 (w1 _) (Or.inr (Or.inr (Or.inl rfl)))) ?_
      show fX5_quantise _ _ _ _ _ _ = _
      unfold fX5_quantise
      rw [o_15, Option.bind_some, w2, Option.bind_some, if_neg z1, e2, Option.bind_some, if_pos rfl, m_ref, xmb2_s]
  · refine Pair.ref h (-1) (clRef _ _ _ hv2' hv4 (w1 _) (Or.inl rfl)) ?_
    show fX5_quantise _ _ _ _ _ _ = _
    unfold fX5_quantise
    rw [o_15, Option.bind_some, w2, Option.bind_some, if_pos rfl, m_ref, xmb2_s]
end QUC
