/-! quantise: the loops -/
def quS (T : Nat → RS) : Nat → Nat → Nat × Nat × Nat → RS
  | 0, _, a => (some 1, a.1, a.2.1, a.2.2)
  | d + 1, q, a => match (T q).1 with
    | none => (none, a.1 + (T q).2.1, a.2.1 + (T q).2.2.1, a.2.2 + (T q).2.2.2)
    | some _ => quS T d (q + 1) (a.1 + (T q).2.1, a.2.1 + (T q).2.2.1, a.2.2 + (T q).2.2.2)
theorem quS_q {G : FM} {T : Nat → RS} (hT : ∀ q, RK G (T q)) : ∀ (d q : Nat) (a : Nat × Nat × Nat), (nc G = none → a.2.2 = 0) → RQ (quS T d q a) := by
  intro d
  induction d with
  | zero => intro q a _; exact Or.inl ⟨1, rfl, by omega⟩
  | succ d ih =>
    intro q a ha
    unfold quS
    rcases hT q with ⟨c, c1, c2, c3⟩ | ⟨c1, c2, c3⟩
    · rw [c1]
      exact ih (q + 1) _ (fun h => by show a.2.2 + (T q).2.2.2 = 0; rw [ha h, c3 h])
    · rw [c1]
      exact Or.inr ⟨rfl, by show a.2.2 + (T q).2.2.2 = 1; rw [ha c2, c3]⟩
theorem quS_s {T : Nat → RS} {d q c : Nat} {a : Nat × Nat × Nat} (h : (T q).1 = some c) : quS T (d + 1) q a = quS T d (q + 1) (a.1 + (T q).2.1, a.2.1 + (T q).2.2.1, a.2.2 + (T q).2.2.2) := by
  show (match (T q).1 with | none => _ | some _ => _) = _
  rw [h]
theorem quS_n {T : Nat → RS} {d q : Nat} {a : Nat × Nat × Nat} (h : (T q).1 = none) : quS T (d + 1) q a = (none, a.1 + (T q).2.1, a.2.1 + (T q).2.2.1, a.2.2 + (T q).2.2.2) := by
  show (match (T q).1 with | none => _ | some _ => _) = _
  rw [h]
theorem mast_eq (m : MS) (a k : Nat) (v : Int32) : (mast m a k v).2.2 a k = v := by
  show (if a = a then upd (m.2.2 a) k v else m.2.2 a) k = v
  rw [if_pos rfl, upd_eq]
theorem mast_ne (m : MS) (a : Nat) {k j : Nat} (v : Int32) (h : j ≠ k) : (mast m a k v).2.2 a j = m.2.2 a j := by
  show (if a = a then upd (m.2.2 a) k v else m.2.2 a) j = m.2.2 a j
  rw [if_pos rfl, upd_ne _ _ h]
theorem mDf.a {m m' : MS} {i o v : Nat} (h : mDf m m' i o v) (k : Nat) (u : Int32) : mDf m (mast m' 25 k u) i o v := by
  obtain ⟨d1, d2⟩ := h
  refine ⟨fun b hb => ?_, d2⟩
  show (if b = 25 then _ else m'.2.2 b) = _
  rw [if_neg hb]; exact d1 b hb
def quT (F : FM) (cs : Nat → Nat) (G : FM) (mode : Nat) : Nat → RS := fun q => crS F (cs q) G mode
section QU
variable {n : Nat} {Fs : Nat → FM} {x : XS} {m : MS} {fl : List xmE}
/-- the class's state within the loop: counted, and scratch -/
def QX (x xq : XS) (i o v : Nat) : Prop := xq.1 = (xinc x i o v).1 ∧ xq.2.1 = x.2.1 ∧ xq.2.2.1 = x.2.2.1 ∧ xq.2.2.2.2 = x.2.2.2.2
theorem x_quL {i2 f k len : Nat} {cs : Nat → Nat} (hR : RR Fs x m fl i2 f k len cs) {k2 : Nat} {G : FM} (hF2 : XF fl k2 G) (hv2 : VF G) {i mode : Nat} (hm : mode ≤ 5) : ∀ (d q N : Nat) (a : Nat × Nat × Nat) (xq : XS), q + d = len → d < N → QX x xq a.1 a.2.1 a.2.2 → (∀ p, p < q → ∃ c, (crS (Fs f) (cs p) G mode).1 = some c ∧ xq.2.2.2.1 p = nI c) →
    ∃ xf, QX x xf (quS (quT (Fs f) cs G mode) d q a).2.1 (quS (quT (Fs f) cs G mode) d q a).2.2.1 (quS (quT (Fs f) cs G mode) d q a).2.2.2 ∧
      (((quS (quT (Fs f) cs G mode) d q a).1 = some 1 ∧ (∀ p, p < len → ∃ c, (crS (Fs f) (cs p) G mode).1 = some c ∧ xf.2.2.2.1 p = nI c) ∧ fX4_quantise_L65 N (WB xq m fl) (some 0) (nI i) (nI mode) (some (7 + 2 * i2)) (some k2) (nI q) = fX4_quantise_L140 (WB xf m fl) (some 0) (nI i) (some (7 + 2 * i2)) (some k2))
      ∨ ((quS (quT (Fs f) cs G mode) d q a).1 = none ∧ fX4_quantise_L65 N (WB xq m fl) (some 0) (nI i) (nI mode) (some (7 + 2 * i2)) (some k2) (nI q) = fX4_settled (WB xf m fl) (some 0) (-4))) := by
  obtain ⟨hi, hf, h1, h2, h3, h4, h5, h6, h7, h8, h9, h10⟩ := hR
  have lenX : ∀ xq : XS, ∀ a b c : Nat, QX x xq a b c → xq.1 (11 + i2) = nI len := by
    intro xq a b c h
    rw [h.1]
    show (if 11 + i2 = 5 then _ else if 11 + i2 = 6 then _ else if 11 + i2 = 7 then _ else x.1 (11 + i2)) = nI len
    rw [if_neg (by omega), if_neg (by omega), if_neg (by omega)]; exact h7
  intro d
  induction d with
  | zero =>
    intro q N a xq hq hN hQ hsc
    obtain ⟨N, rfl⟩ : ∃ N', N = N' + 1 := ⟨N - 1, by omega⟩
    refine ⟨xq, hQ, Or.inl ⟨rfl, fun p hp => hsc p (by omega), ?_⟩⟩
    rw [fX4_quantise_L65, g_rl hi, Option.bind_some, lenX xq _ _ _ hQ, if_pos (nI_le (by omega) (by omega))]
  | succ d ih =>
    intro q N a xq hq hN hQ hsc
    obtain ⟨N, rfl⟩ : ∃ N', N = N' + 1 := ⟨N - 1, by omega⟩
    have hcq := (h9 q (by omega)).1
    have hcode : xq.2.2.2.2.2 i2 q = nI (cs q) := by rw [hQ.2.2.2]; exact (h9 q (by omega)).2
    have hkey : xq.2.2.2.2.1 i2 = some k := by rw [hQ.2.2.2]; exact h1
    have hop := x_crossed (x := xq) (m := m) h2 h4 hF2 hv2 hcq hm
    have e16 : ¬ (16 : Int32) ≤ nI q := by rw [show (16 : Int32) = nI 16 from rfl, nI_leI (by omega) (by omega)]; omega
    have hrk := RK.cr (F := Fs f) hv2 (cs q) mode
    have ev : fX4_quantise_L65 (N + 1) (WB xq m fl) (some 0) (nI i) (nI mode) (some (7 + 2 * i2)) (some k2) (nI q) = if rv (crS (Fs f) (cs q) G mode) = -4 then fX4_settled (WB (xsc (xinc xq (crS (Fs f) (cs q) G mode).2.1 (crS (Fs f) (cs q) G mode).2.2.1 (crS (Fs f) (cs q) G mode).2.2.2) q (rv (crS (Fs f) (cs q) G mode))) m fl) (some 0) (-4) else fX4_quantise_L65 N (WB (xsc (xinc xq (crS (Fs f) (cs q) G mode).2.1 (crS (Fs f) (cs q) G mode).2.2.1 (crS (Fs f) (cs q) G mode).2.2.2) q (rv (crS (Fs f) (cs q) G mode))) m fl) (some 0) (nI i) (nI mode) (some (7 + 2 * i2)) (some k2) (nI (q + 1)) := by
      rw [fX4_quantise_L65, g_rl hi, Option.bind_some, lenX xq _ _ _ hQ, if_neg (nI_ge (by omega) (by omega)), g_0_3, Option.bind_some, l_3, Option.bind_some, if_neg e16, Option.bind_some, g_0_4, Option.bind_some, g_rf hi, Option.bind_some, hkey, x_codeAt hi (by omega), Option.bind_some, hcode, hop]
      unfold XO
      rw [xmb2_s, s_3 (by omega), Option.bind_some, g_0_3, Option.bind_some, a_3 (by omega), Option.bind_some, nI_1, xmb2_id]
      have hu : (xsc (xinc xq (crS (Fs f) (cs q) G mode).2.1 (crS (Fs f) (cs q) G mode).2.2.1 (crS (Fs f) (cs q) G mode).2.2.2) q (rv (crS (Fs f) (cs q) G mode))).2.2.2.1 q = rv (crS (Fs f) (cs q) G mode) := upd_eq _ _ _
      rw [hu]
    rw [ev]
    have hQ2 : QX x (xsc (xinc xq (crS (Fs f) (cs q) G mode).2.1 (crS (Fs f) (cs q) G mode).2.2.1 (crS (Fs f) (cs q) G mode).2.2.2) q (rv (crS (Fs f) (cs q) G mode))) (a.1 + (quT (Fs f) cs G mode q).2.1) (a.2.1 + (quT (Fs f) cs G mode q).2.2.1) (a.2.2 + (quT (Fs f) cs G mode q).2.2.2) := by
      refine ⟨?_, hQ.2.1, hQ.2.2.1, hQ.2.2.2⟩
      show (xinc xq _ _ _).1 = _
      rw [← xinc_a]
      have h0 := hQ.1
      funext kk
      show (if kk = 5 then xq.1 5 + _ else if kk = 6 then xq.1 6 + _ else if kk = 7 then xq.1 7 + _ else xq.1 kk) = (if kk = 5 then (xinc x a.1 a.2.1 a.2.2).1 5 + _ else if kk = 6 then (xinc x a.1 a.2.1 a.2.2).1 6 + _ else if kk = 7 then (xinc x a.1 a.2.1 a.2.2).1 7 + _ else (xinc x a.1 a.2.1 a.2.2).1 kk)
      rw [h0]
      rfl
    rcases hrk with ⟨c, c1, c2, c3⟩ | ⟨c1, c2, c3⟩
    · have kc := code_lt hv2 c2
      rw [quS_s (T := quT (Fs f) cs G mode) c1, if_neg (by rw [rv_s c1]; exact nI_m4 (by omega))]
      refine ih (q + 1) N _ _ (by omega) (by omega) hQ2 (fun p hp => ?_)
      by_cases hpq : p = q
      · subst hpq
        refine ⟨c, c1, ?_⟩
        show upd _ p (rv _) p = nI c
        rw [upd_eq, rv_s c1]
      · obtain ⟨c', d1, d2⟩ := hsc p (by omega)
        refine ⟨c', d1, ?_⟩
        show upd xq.2.2.2.1 q _ p = nI c'
        rw [upd_ne _ _ hpq]; exact d2
    · rw [quS_n (T := quT (Fs f) cs G mode) c1, if_pos (rv_n c1)]
      exact ⟨_, hQ2, Or.inr ⟨rfl, rfl⟩⟩
/-- copying out of scratch -/
theorem x_qcL {i : Nat} (hi : i < 4) {len : Nat} (hl : len ≤ 16) : ∀ (d q N : Nat) (xq : XS), q + d = len → d < N → xq.1 (11 + i) = nI len → ∃ xf : XS, fX4_quantise_L163 N (WB xq m fl) (some 0) (some (7 + 2 * i)) (nI q) = fX4_settled (WB xf m fl) (some 0) 1 ∧ xf.1 = xq.1 ∧ xf.2.1 = xq.2.1 ∧ xf.2.2.1 = xq.2.2.1 ∧ xf.2.2.2.2.1 = xq.2.2.2.2.1 ∧ (∀ j, j ≠ i → xf.2.2.2.2.2 j = xq.2.2.2.2.2 j) ∧ (∀ p, p < 16 → xf.2.2.2.2.2 i p = if q ≤ p ∧ p < len then xq.2.2.2.1 p else xq.2.2.2.2.2 i p) := by
  intro d
  induction d with
  | zero =>
    intro q N xq hq hN h11
    obtain ⟨N, rfl⟩ : ∃ N', N = N' + 1 := ⟨N - 1, by omega⟩
    refine ⟨xq, ?_, rfl, rfl, rfl, rfl, fun _ _ => rfl, fun p hp => by rw [if_neg (by omega)]⟩
    rw [fX4_quantise_L163, g_rl hi, Option.bind_some, h11, if_pos (nI_le (by omega) (by omega)), xmb2_id]
  | succ d ih =>
    intro q N xq hq hN h11
    obtain ⟨N, rfl⟩ : ∃ N', N = N' + 1 := ⟨N - 1, by omega⟩
    have e16 : ¬ (16 : Int32) ≤ nI q := by rw [show (16 : Int32) = nI 16 from rfl, nI_leI (by omega) (by omega)]; omega
    obtain ⟨xf, b1, b2, b3, b4, b5, b6, b7⟩ := ih (q + 1) N (xrc xq i q (xq.2.2.2.1 q)) (by omega) (by omega) h11
    refine ⟨xf, ?_, b2, b3, b4, b5, fun j hj => ?_, fun p hp => ?_⟩
    · rw [fX4_quantise_L163, g_rl hi, Option.bind_some, h11, if_neg (nI_ge (by omega) (by omega)), g_0_3, Option.bind_some, l_3, Option.bind_some, if_neg e16, Option.bind_some, a_3 (by omega), Option.bind_some, x_setCode hi (by omega), Option.bind_some, nI_1]
      exact b1
    · rw [b6 j hj]
      show (if j = i then _ else xq.2.2.2.2.2 j) = _
      rw [if_neg hj]
    · rw [b7 p hp]
      show (if q + 1 ≤ p ∧ p < len then xq.2.2.2.1 p else (if i = i then upd (xq.2.2.2.2.2 i) q (xq.2.2.2.1 q) else _) p) = _
      rw [if_pos rfl]
      by_cases hpq : p = q
      · subst hpq; rw [if_neg (by omega), if_pos (by omega), upd_eq]
      · rw [upd_ne _ _ hpq]
        by_cases hle : q ≤ p ∧ p < len
        · rw [if_pos (by omega), if_pos hle]
        · rw [if_neg (by omega), if_neg hle]
theorem x_qc0 {i : Nat} (hi : i < 4) {len : Nat} (hl : len ≤ 16) (N : Nat) (hN : 16 < N) (xq : XS) (h11 : xq.1 (11 + i) = nI len) : ∃ xf : XS, fX4_quantise_L163 N (WB xq m fl) (some 0) (some (7 + 2 * i)) 0 = fX4_settled (WB xf m fl) (some 0) 1 ∧ xf.1 = xq.1 ∧ xf.2.1 = xq.2.1 ∧ xf.2.2.1 = xq.2.2.1 ∧ xf.2.2.2.2.1 = xq.2.2.2.2.1 ∧ (∀ j, j ≠ i → xf.2.2.2.2.2 j = xq.2.2.2.2.2 j) ∧ (∀ p, p < 16 → xf.2.2.2.2.2 i p = if 0 ≤ p ∧ p < len then xq.2.2.2.1 p else xq.2.2.2.2.2 i p) := x_qcL hi hl len 0 N xq (Nat.zero_add _) (by omega) h11
/-- the reference's loop -/
theorem m_quL {F : FM} (hv : VF F) {G : FM} (hv2 : VF G) {i i2 f g len : Nat} {cs : Nat → Nat} (hi : i < 4) (hi2 : i2 < 4) (hii : i ≠ i2) (hlen : len ≤ 16) (hc : ∀ q, q < len → cs q < 2 ^ bits F) (hf10 : f < 10) {mode : Nat} (hm : mode ≤ 5) (x : XS) : ∀ (d q N : Nat) (a : Nat × Nat × Nat) (m0 m : MS), q + d = len → d < N → RP F f i2 len cs m → MA m g G → m.2.2 7 i2 = nI f → mDf m0 m a.1 a.2.1 a.2.2 → (∀ p, p < q → ∃ c, (crS F (cs p) G mode).1 = some c ∧ m.2.2 25 p = nI c) →
    ∃ mf, mDf m0 mf (quS (quT F cs G mode) d q a).2.1 (quS (quT F cs G mode) d q a).2.2.1 (quS (quT F cs G mode) d q a).2.2.2 ∧
      (((quS (quT F cs G mode) d q a).1 = some 1 ∧ (∀ p, p < len → ∃ c, (crS F (cs p) G mode).1 = some c ∧ mf.2.2 25 p = nI c) ∧ fX5_quantise_L59 N (WB x m fl) (some 15) (nI i) (nI i2) (nI g) (nI mode) (nI q) = fX5_quantise_L147 xmN (WB x (mast (mast mf 7 i (nI g)) 8 i (nI len)) fl) (some 15) (nI i) (nI i2) 0)
      ∨ ((quS (quT F cs G mode) d q a).1 = none ∧ fX5_quantise_L59 N (WB x m fl) (some 15) (nI i) (nI i2) (nI g) (nI mode) (nI q) = fX5_ends (WB x mf fl) (some 15) (-4))) := by
  intro d
  induction d with
  | zero =>
    intro q N a m0 m hq hN hp hG h7 hd hs
    obtain ⟨N, rfl⟩ : ∃ N', N = N' + 1 := ⟨N - 1, by omega⟩
    refine ⟨m, hd, Or.inl ⟨rfl, fun p hp => hs p (by omega), ?_⟩⟩
    have h8 : (mast m 7 i (nI g)).2.2 8 i2 = nI len := hp.2.1
    rw [fX5_quantise_L59, g_15_8, Option.bind_some, a_23 hi2, Option.bind_some, hp.2.1, if_pos (nI_le (by omega) (by omega)), g_15_7, Option.bind_some, s_22 hi, Option.bind_some, g_15_8, Option.bind_some, Option.bind_some, a_23 hi2, Option.bind_some, h8, s_23 hi, Option.bind_some]
  | succ d ih =>
    intro q N a m0 m hq hN hp hG h7 hd hs
    obtain ⟨N, rfl⟩ : ∃ N', N = N' + 1 := ⟨N - 1, by omega⟩
    have hcq := hc q (by omega)
    obtain ⟨m', k1, k2⟩ := m_crossed (x := x) (m := m) (fl := fl) hp.1 hv hG hv2 hcq hm
    have hrk := RK.cr (F := F) hv2 (cs q) mode
    have hd2 := hd.tr k2.f
    have hd3 : mDf m0 (mast m' 25 q (rv (crS F (cs q) G mode))) (a.1 + (quT F cs G mode q).2.1) (a.2.1 + (quT F cs G mode q).2.2.1) (a.2.2 + (quT F cs G mode q).2.2.2) := by
      exact hd2.a q _
    have h25 : (mast m' 25 q (rv (crS F (cs q) G mode))).2.2 25 q = rv (crS F (cs q) G mode) := by
      exact mast_eq _ _ _ _
    have ev : fX5_quantise_L59 (N + 1) (WB x m fl) (some 15) (nI i) (nI i2) (nI g) (nI mode) (nI q) = if 0 ≤ rv (crS F (cs q) G mode) then fX5_quantise_L59 N (WB x (mast m' 25 q (rv (crS F (cs q) G mode))) fl) (some 15) (nI i) (nI i2) (nI g) (nI mode) (nI (q + 1)) else fX5_ends (WB x (mast m' 25 q (rv (crS F (cs q) G mode))) fl) (some 15) (-4) := by
      rw [fX5_quantise_L59, g_15_8, Option.bind_some, a_23 hi2, Option.bind_some, hp.2.1, if_neg (nI_ge (by omega) (by omega)), g_15_25, Option.bind_some, g_15_7, Option.bind_some, a_22 hi2, Option.bind_some, h7, g_15_9, Option.bind_some, nI_16, a_24 (show 16 * i2 + q < 64 by omega), Option.bind_some, hp.2.2 q (by omega), k1, xmb2_s, s_25 (by omega), Option.bind_some, g_15_25, Option.bind_some, a_25 (by omega), Option.bind_some, h25, nI_1, xmb2_id]
    have hp' : RP F f i2 len cs (mast m' 25 q (rv (crS F (cs q) G mode))) := hp.q (k2.f.a q _)
    have hG' : MA (mast m' 25 q (rv (crS F (cs q) G mode))) g G := hG.qf (k2.f.a q _)
    have h7' : (mast m' 25 q (rv (crS F (cs q) G mode))).2.2 7 i2 = nI f := by
      show m'.2.2 7 i2 = nI f
      rw [k2.1]; exact h7
    rw [ev]
    rcases hrk with ⟨c, c1, c2, c3⟩ | ⟨c1, c2, c3⟩
    · have kc := code_lt hv2 c2
      rw [quS_s (T := quT F cs G mode) c1, if_pos (by rw [rv_s c1]; exact nI_pos' (by omega))]
      refine ih (q + 1) N _ m0 _ (by omega) (by omega) hp' hG' h7' hd3 (fun p hpp => ?_)
      by_cases hpq : p = q
      · subst hpq
        exact ⟨c, c1, h25.trans (rv_s c1)⟩
      · obtain ⟨c', d1, d2⟩ := hs p (by omega)
        refine ⟨c', d1, ?_⟩
        rw [mast_ne _ _ _ hpq, k2.1]; exact d2
    · rw [quS_n (T := quT F cs G mode) c1, if_neg (by rw [rv_n c1]; decide)]
      exact ⟨_, hd3, Or.inr ⟨rfl, rfl⟩⟩
theorem m_qcL {i i2 len : Nat} (hi : i < 4) (hi2 : i2 < 4) (hl : len ≤ 16) (x : XS) : ∀ (d q N : Nat) (m : MS), q + d = 16 → d < N → m.2.2 8 i2 = nI len → ∃ mf : MS, fX5_quantise_L147 N (WB x m fl) (some 15) (nI i) (nI i2) (nI q) = fX5_ends (WB x mf fl) (some 15) 1 ∧ mf.1 = m.1 ∧ (∀ a, a ≠ 9 → mf.2.2 a = m.2.2 a) ∧ (∀ p, p < 64 → mf.2.2 9 p = if 16 * i + q ≤ p ∧ p < 16 * i + 16 then (if p - 16 * i < len then m.2.2 25 (p - 16 * i) else 0) else m.2.2 9 p) := by
  intro d
  induction d with
  | zero =>
    intro q N m hq hN h8
    obtain ⟨N, rfl⟩ : ∃ N', N = N' + 1 := ⟨N - 1, by omega⟩
    refine ⟨m, ?_, rfl, fun _ _ => rfl, fun p hp => by rw [if_neg (by omega)]⟩
    rw [fX5_quantise_L147, if_pos (by rw [show q = 16 by omega]; decide), xmb2_id]
  | succ d ih =>
    intro q N m hq hN h8
    obtain ⟨N, rfl⟩ : ∃ N', N = N' + 1 := ⟨N - 1, by omega⟩
    have e16 : ¬ (16 : Int32) ≤ nI q := by rw [show (16 : Int32) = nI 16 from rfl, nI_leI (by omega) (by omega)]; omega
    obtain ⟨mf, b1, b2, b3, b4⟩ := ih (q + 1) N (mast m 9 (16 * i + q) (if q < len then m.2.2 25 q else 0)) (by omega) (by omega) h8
    refine ⟨mf, ?_, b2, fun a ha => ?_, fun p hp => ?_⟩
    · rw [fX5_quantise_L147, if_neg e16, g_15_9, Option.bind_some, g_15_8, Option.bind_some, a_23 hi2, Option.bind_some, h8, nI_16]
      by_cases hql : q < len
      · rw [if_pos hql] at b1
        rw [if_neg (nI_ge hql (by omega)), g_15_25, Option.bind_some, a_25 (by omega), Option.bind_some, s_24 (show 16 * i + q < 64 by omega), Option.bind_some, nI_1]
        exact b1
      · rw [if_neg hql] at b1
        rw [if_pos (nI_le (by omega) (by omega)), s_24 (show 16 * i + q < 64 by omega), Option.bind_some, nI_1]
        exact b1
    · rw [b3 a ha]
      show (if a = 9 then _ else m.2.2 a) = _
      rw [if_neg ha]
    · rw [b4 p hp]
      show (if 16 * i + (q + 1) ≤ p ∧ p < 16 * i + 16 then (if p - 16 * i < len then m.2.2 25 (p - 16 * i) else 0) else upd (m.2.2 9) (16 * i + q) _ p) = _
      by_cases hpq : p = 16 * i + q
      · subst hpq
        rw [if_neg (show ¬ (16 * i + (q + 1) ≤ 16 * i + q ∧ 16 * i + q < 16 * i + 16) by omega), if_pos (show 16 * i + q ≤ 16 * i + q ∧ 16 * i + q < 16 * i + 16 by omega), upd_eq, show 16 * i + q - 16 * i = q by omega]
      · rw [upd_ne _ _ hpq]
        by_cases hle : 16 * i + q ≤ p ∧ p < 16 * i + 16
        · rw [if_pos (by omega), if_pos hle]
        · rw [if_neg (by omega), if_neg hle]
theorem m_qc0 {i i2 len : Nat} (hi : i < 4) (hi2 : i2 < 4) (hl : len ≤ 16) (x : XS) (N : Nat) (hN : 16 < N) (m : MS) (h8 : m.2.2 8 i2 = nI len) : ∃ mf : MS, fX5_quantise_L147 N (WB x m fl) (some 15) (nI i) (nI i2) 0 = fX5_ends (WB x mf fl) (some 15) 1 ∧ mf.1 = m.1 ∧ (∀ a, a ≠ 9 → mf.2.2 a = m.2.2 a) ∧ (∀ p, p < 64 → mf.2.2 9 p = if 16 * i + 0 ≤ p ∧ p < 16 * i + 16 then (if p - 16 * i < len then m.2.2 25 (p - 16 * i) else 0) else m.2.2 9 p) := m_qcL hi hi2 hl x 16 0 N m rfl hN h8
end QU
