/-! STEPWISE TOTALS, and the calls sum, dot -/
def stS (F : FM) (T : Nat → RS) (mode : Nat) : Nat → Nat → Nat → Nat × Nat × Nat → RS
  | 0, _, c, a => (some c, a.1, a.2.1, a.2.2)
  | d + 1, i, c, a => match (T i).1 with
    | none => (none, a.1 + (T i).2.1, a.2.1 + (T i).2.2.1, a.2.2 + (T i).2.2.2)
    | some t => match (actS F 0 c t mode).1 with
      | none => (none, a.1 + (T i).2.1 + (actS F 0 c t mode).2.1, a.2.1 + (T i).2.2.1 + (actS F 0 c t mode).2.2.1, a.2.2 + (T i).2.2.2 + (actS F 0 c t mode).2.2.2)
      | some c' => stS F T mode d (i + 1) c' (a.1 + (T i).2.1 + (actS F 0 c t mode).2.1, a.2.1 + (T i).2.2.1 + (actS F 0 c t mode).2.2.1, a.2.2 + (T i).2.2.2 + (actS F 0 c t mode).2.2.2)
theorem stS_rk {F : FM} (hv : VF F) {T : Nat → RS} {len : Nat} (hT : ∀ q, q < len → RK F (T q)) (mode : Nat) : ∀ (d i c : Nat) (a : Nat × Nat × Nat), i + d = len → c < 2 ^ bits F → (nc F = none → a.2.2 = 0) → RK F (stS F T mode d i c a) := by
  intro d
  induction d with
  | zero => intro i c a _ hc ha; exact Or.inl ⟨c, rfl, hc, ha⟩
  | succ d ih =>
    intro i c a hi hc ha
    unfold stS
    rcases hT i (by omega) with ⟨t, t1, t2, t3⟩ | ⟨t1, t2, t3⟩
    · rw [t1]
      show RK F (match (actS F 0 c t mode).1 with | none => _ | some c' => _)
      rcases RK.act (what := 0) (a := c) (b := t) (mode := mode) hv hc (fun _ => t2) with ⟨u, u1, u2, u3⟩ | ⟨u1, u2, u3⟩
      · rw [u1]
        exact ih (i + 1) u _ (by omega) u2 (fun q => by show a.2.2 + (T i).2.2.2 + (actS F 0 c t mode).2.2.2 = 0; rw [ha q, t3 q, u3 q])
      · rw [u1]
        exact Or.inr ⟨rfl, u2, by show a.2.2 + (T i).2.2.2 + (actS F 0 c t mode).2.2.2 = 1; rw [ha u2, t3 u2, u3]⟩
    · rw [t1]
      exact Or.inr ⟨rfl, t2, by show a.2.2 + (T i).2.2.2 = 1; rw [ha t2, t3]⟩
theorem rv_s {r : RS} {c : Nat} (h : r.1 = some c) : rv r = nI c := by unfold rv; rw [h]
theorem rv_n {r : RS} (h : r.1 = none) : rv r = -4 := by unfold rv; rw [h]
section SUMS
variable {n : Nat} {Fs : Nat → FM} {x : XS} {m : MS} {fl : List xmE}
theorem x_stSum {i f k len : Nat} {cs : Nat → Nat} (hR : RR Fs x m fl i f k len cs) {mode : Nat} (hm : mode ≤ 5) : ∀ (d q N c : Nat) (a : Nat × Nat × Nat), q + d = len → d < N → c < 2 ^ bits (Fs f) → fX0_stepwiseTotal_L19 N (WB (xinc x a.1 a.2.1 a.2.2) m fl) (some 4) (some (7 + 2 * i)) none (nI mode) (some k) (nI len) (nI c) (nI q) = XO x m fl (stS (Fs f) (fun q => okS (cs q)) mode d q c a) := by
  obtain ⟨hi, hf, h1, h2, h3, h4, h5, h6, h7, h8, h9, h10⟩ := hR
  intro d
  induction d with
  | zero =>
    intro q N c a hq hN hc
    obtain ⟨N, rfl⟩ : ∃ N', N = N' + 1 := ⟨N - 1, by omega⟩
    rw [fX0_stepwiseTotal_L19, if_pos (nI_le (by omega) (by omega))]
    rfl
  | succ d ih =>
    intro q N c a hq hN hc
    obtain ⟨N, rfl⟩ : ∃ N', N = N' + 1 := ⟨N - 1, by omega⟩
    have hcq := (h9 q (by omega)).1
    have kc := code_lt h4 hcq
    have hcode : (xinc x a.1 a.2.1 a.2.2).2.2.2.2.2 i q = nI (cs q) := (h9 q (by omega)).2
    have hop : fX0_acted (WB (xinc x a.1 a.2.1 a.2.2) m fl) (some 4) (some k) 0 (nI c) (nI (cs q)) (nI mode) = _ := x_acted (x := xinc x a.1 a.2.1 a.2.2) (m := m) (what := 0) h2 h4 (by omega) hc (fun _ => hcq) (show cs q < 2 ^ 31 by omega) hm
    rw [fX0_stepwiseTotal_L19, if_neg (nI_ge (by omega) (by omega)), x_codeAt hi (by omega), Option.bind_some, hcode, if_pos rfl, if_neg (nI_m4 (by omega)), hop, xmb2_s, xinc_a]
    unfold stS
    show _ = XO x m fl (match (actS (Fs f) 0 c (cs q) mode).1 with | none => _ | some c' => _)
    rcases RK.act (what := 0) (a := c) (b := cs q) (mode := mode) h4 hc (fun _ => hcq) with ⟨u, u1, u2, u3⟩ | ⟨u1, u2, u3⟩
    · have ku := code_lt h4 u2
      rw [rv_s u1, if_neg (nI_m4 (by omega)), nI_1, u1]
      exact ih (q + 1) N u (a.1 + (actS (Fs f) 0 c (cs q) mode).2.1, a.2.1 + (actS (Fs f) 0 c (cs q) mode).2.2.1, a.2.2 + (actS (Fs f) 0 c (cs q) mode).2.2.2) (by omega) (by omega) u2
    · rw [rv_n u1, if_pos rfl, u1]
      rfl
theorem x_stDot {i f k len : Nat} {cs : Nat → Nat} (hR : RR Fs x m fl i f k len cs) {i2 len2 : Nat} {ds : Nat → Nat} (hR2 : RR Fs x m fl i2 f k len2 ds) {mode : Nat} (hm : mode ≤ 5) {L : Nat} (hL1 : L ≤ len) (hL2 : L ≤ len2) : ∀ (d q N c : Nat) (a : Nat × Nat × Nat), q + d = L → d < N → c < 2 ^ bits (Fs f) → fX0_stepwiseTotal_L19 N (WB (xinc x a.1 a.2.1 a.2.2) m fl) (some 4) (some (7 + 2 * i)) (some (7 + 2 * i2)) (nI mode) (some k) (nI L) (nI c) (nI q) = XO x m fl (stS (Fs f) (fun q => actS (Fs f) 2 (cs q) (ds q) mode) mode d q c a) := by
  obtain ⟨hi, hf, h1, h2, h3, h4, h5, h6, h7, h8, h9, h10⟩ := hR
  obtain ⟨hi', _, _, _, _, _, _, h6', _, _, h9', _⟩ := hR2
  intro d
  induction d with
  | zero =>
    intro q N c a hq hN hc
    obtain ⟨N, rfl⟩ : ∃ N', N = N' + 1 := ⟨N - 1, by omega⟩
    rw [fX0_stepwiseTotal_L19, if_pos (nI_le (by omega) (by omega))]
    rfl
  | succ d ih =>
    intro q N c a hq hN hc
    obtain ⟨N, rfl⟩ : ∃ N', N = N' + 1 := ⟨N - 1, by omega⟩
    have hcq := (h9 q (by omega)).1
    have kc := code_lt h4 hcq
    have hdq := (h9' q (by omega)).1
    have kd := code_lt h4 hdq
    have hcode : (xinc x a.1 a.2.1 a.2.2).2.2.2.2.2 i q = nI (cs q) := (h9 q (by omega)).2
    have hcode2 : (xinc x a.1 a.2.1 a.2.2).2.2.2.2.2 i2 q = nI (ds q) := (h9' q (by omega)).2
    have hop : fX0_acted (WB (xinc x a.1 a.2.1 a.2.2) m fl) (some 4) (some k) 2 (nI (cs q)) (nI (ds q)) (nI mode) = _ := x_acted (x := xinc x a.1 a.2.1 a.2.2) (m := m) (what := 2) h2 h4 (by omega) hcq (fun _ => hdq) (show ds q < 2 ^ 31 by omega) hm
    rw [fX0_stepwiseTotal_L19, if_neg (nI_ge (by omega) (by omega)), x_codeAt hi (by omega), Option.bind_some, hcode, if_neg (by simp), x_codeAt hi' (by omega), Option.bind_some, hcode2, hop, xmb2_s, xinc_a]
    unfold stS
    have hrk := RK.act (what := 2) (a := cs q) (b := ds q) (mode := mode) h4 hcq (fun _ => hdq)
    generalize actS (Fs f) 2 (cs q) (ds q) mode = p at hrk
    rcases hrk with ⟨t, t1, t2, t3⟩ | ⟨t1, t2, t3⟩
    · have kt := code_lt h4 t2
      have hop2 : fX0_acted (WB (xinc x (a.1 + p.2.1) (a.2.1 + p.2.2.1) (a.2.2 + p.2.2.2)) m fl) (some 4) (some k) 0 (nI c) (nI t) (nI mode) = _ := x_acted (x := xinc x (a.1 + p.2.1) (a.2.1 + p.2.2.1) (a.2.2 + p.2.2.2)) (m := m) (what := 0) h2 h4 (by omega) hc (fun _ => t2) (show t < 2 ^ 31 by omega) hm
      rw [rv_s t1, if_neg (nI_m4 (by omega)), hop2, xmb2_s, xinc_a, t1]
      show _ = XO x m fl (match (actS (Fs f) 0 c t mode).1 with | none => _ | some c' => _)
      rcases RK.act (what := 0) (a := c) (b := t) (mode := mode) h4 hc (fun _ => t2) with ⟨u, u1, u2, u3⟩ | ⟨u1, u2, u3⟩
      · have ku := code_lt h4 u2
        rw [rv_s u1, if_neg (nI_m4 (by omega)), nI_1, u1]
        exact ih (q + 1) N u (a.1 + p.2.1 + (actS (Fs f) 0 c t mode).2.1, a.2.1 + p.2.2.1 + (actS (Fs f) 0 c t mode).2.2.1, a.2.2 + p.2.2.2 + (actS (Fs f) 0 c t mode).2.2.2) (by omega) (by omega) u2
      · rw [rv_n u1, if_pos rfl, u1]
        rfl
    · rw [rv_n t1, if_pos rfl, t1]
      rfl
theorem x_stSumE {i f k len : Nat} {cs : Nat → Nat} (hR : RR Fs x m fl i f k len cs) {mode : Nat} (hm : mode ≤ 5) (N : Nat) (hN : 16 < N) : fX0_stepwiseTotal_L19 N (WB x m fl) (some 4) (some (7 + 2 * i)) none (nI mode) (some k) (nI len) 0 0 = XO x m fl (stS (Fs f) (fun q => okS (cs q)) mode len 0 0 (0, 0, 0)) := by
  have hl := hR.2.2.2.2.2.2.2.1
  have h := x_stSum hR hm len 0 N 0 (0, 0, 0) (Nat.zero_add _) (by omega) (Nat.two_pow_pos _)
  rw [xinc_0] at h
  exact h
theorem x_stDotE {i f k len : Nat} {cs : Nat → Nat} (hR : RR Fs x m fl i f k len cs) {i2 len2 : Nat} {ds : Nat → Nat} (hR2 : RR Fs x m fl i2 f k len2 ds) {mode : Nat} (hm : mode ≤ 5) {L : Nat} (hL1 : L ≤ len) (hL2 : L ≤ len2) (N : Nat) (hN : 16 < N) : fX0_stepwiseTotal_L19 N (WB x m fl) (some 4) (some (7 + 2 * i)) (some (7 + 2 * i2)) (nI mode) (some k) (nI L) 0 0 = XO x m fl (stS (Fs f) (fun q => actS (Fs f) 2 (cs q) (ds q) mode) mode L 0 0 (0, 0, 0)) := by
  have hl := hR.2.2.2.2.2.2.2.1
  have h := x_stDot hR hR2 hm hL1 hL2 L 0 N 0 (0, 0, 0) (Nat.zero_add _) (by omega) (Nat.two_pow_pos _)
  rw [xinc_0] at h
  exact h
theorem x_stepSum {i f k len : Nat} {cs : Nat → Nat} (hR : RR Fs x m fl i f k len cs) {mode : Nat} (hm : mode ≤ 5) : fX0_stepwiseTotal (WB x m fl) (some 4) (some (7 + 2 * i)) none (nI mode) = XO x m fl (stS (Fs f) (fun q => okS (cs q)) mode len 0 0 (0, 0, 0)) := by
  have h := x_stSumE hR hm xmN (by decide)
  obtain ⟨hi, hf, h1, h2, h3, h4, h5, h6, h7, h8, h9, h10⟩ := hR
  unfold fX0_stepwiseTotal fX0_termCount
  rw [o_4, Option.bind_some, g_rf hi, Option.bind_some, if_pos rfl, g_rl hi, Option.bind_some, Option.bind_some, h1, h7, h]
theorem x_stepDot {i f k len : Nat} {cs : Nat → Nat} (hR : RR Fs x m fl i f k len cs) {i2 len2 : Nat} {ds : Nat → Nat} (hR2 : RR Fs x m fl i2 f k len2 ds) {mode : Nat} (hm : mode ≤ 5) : fX0_stepwiseTotal (WB x m fl) (some 4) (some (7 + 2 * i)) (some (7 + 2 * i2)) (nI mode) = XO x m fl (stS (Fs f) (fun q => actS (Fs f) 2 (cs q) (ds q) mode) mode (if len2 < len then len2 else len) 0 0 (0, 0, 0)) := by
  have h := x_stDotE hR hR2 hm (L := if len2 < len then len2 else len) (by split <;> omega) (by split <;> omega) xmN (by decide)
  obtain ⟨hi, hf, h1, h2, h3, h4, h5, h6, h7, h8, h9, h10⟩ := hR
  obtain ⟨hi', _, _, _, _, _, _, h6', h7', _, h9', _⟩ := hR2
  have e : (if nI len2 < nI len then nI len2 else nI len) = nI (if len2 < len then len2 else len) := by
    simp only [nI_ltI (show len2 < 2 ^ 31 by omega) (show len < 2 ^ 31 by omega)]
    split <;> rfl
  unfold fX0_stepwiseTotal fX0_termCount
  rw [o_4, Option.bind_some, g_rf hi, Option.bind_some, if_neg (by simp), g_rl hi, Option.bind_some, g_rl hi', Option.bind_some, Option.bind_some, h1, h7, h7', e, h]
/-- what the reference's loops over rows look at -/
def RP (F : FM) (f i len : Nat) (cs : Nat → Nat) (m : MS) : Prop := MA m f F ∧ m.2.2 8 i = nI len ∧ ∀ q, q < len → m.2.2 9 (16 * i + q) = nI (cs q)
theorem RP.q {F : FM} {f i len : Nat} {cs : Nat → Nat} {m m' : MS} {a b c : Nat} (h : RP F f i len cs m) (hd : mDf m m' a b c) : RP F f i len cs m' := ⟨h.1.qf hd, by rw [hd.1 8 (by omega)]; exact h.2.1, fun q hq => by rw [hd.1 9 (by omega)]; exact h.2.2 q hq⟩
theorem RR.p {i f k len : Nat} {cs : Nat → Nat} (hR : RR Fs x m fl i f k len cs) : RP (Fs f) f i len cs m := by
  obtain ⟨hi, hf, h1, h2, h3, h4, h5, h6, h7, h8, h9, h10⟩ := hR
  exact ⟨h3, h8, h10⟩
theorem ends_neg {m' : MS} {x' : XS} (N : Nat) (i f len q mode : Nat) (h8 : m'.2.2 8 i = nI len) (hi : i < 4) : fX5_sum_L48 (N + 1) (WB x' m' fl) (some 15) (nI i) (nI mode) (nI f) (-4) (nI q) = fX5_ends (WB x' m' fl) (some 15) (-4) := by
  rw [fX5_sum_L48, g_15_8, Option.bind_some, a_23 hi, Option.bind_some, h8, xmb2_id]
  split
  · rfl
  · rw [if_pos (by decide)]
theorem m_stSum {F : FM} (hv : VF F) {i f len : Nat} {cs : Nat → Nat} (hi : i < 4) (hlen : len ≤ 16) (hc : ∀ q, q < len → cs q < 2 ^ bits F) {mode : Nat} (hm : mode ≤ 5) (x : XS) : ∀ (d q N c : Nat) (a : Nat × Nat × Nat) (m0 m : MS), q + d = len → d + 1 < N → c < 2 ^ bits F → RP F f i len cs m → mDf m0 m a.1 a.2.1 a.2.2 → ∃ m1, fX5_sum_L48 N (WB x m fl) (some 15) (nI i) (nI mode) (nI f) (nI c) (nI q) = fX5_ends (WB x m1 fl) (some 15) (rv (stS F (fun q => okS (cs q)) mode d q c a)) ∧ mDf m0 m1 (stS F (fun q => okS (cs q)) mode d q c a).2.1 (stS F (fun q => okS (cs q)) mode d q c a).2.2.1 (stS F (fun q => okS (cs q)) mode d q c a).2.2.2 := by
  intro d
  induction d with
  | zero =>
    intro q N c a m0 m hq hN hcc hp hd
    obtain ⟨N, rfl⟩ : ∃ N', N = N' + 1 := ⟨N - 1, by omega⟩
    refine ⟨m, ?_, hd⟩
    rw [fX5_sum_L48, g_15_8, Option.bind_some, a_23 hi, Option.bind_some, hp.2.1, if_pos (nI_le (by omega) (by omega)), xmb2_id]
    rfl
  | succ d ih =>
    intro q N c a m0 m hq hN hcc hp hd
    obtain ⟨N, rfl⟩ : ∃ N', N = N' + 2 := ⟨N - 2, by omega⟩
    have hcq := hc q (by omega)
    have kc := code_lt hv hcq
    have kcc := code_lt hv hcc
    obtain ⟨m', k1, k2⟩ := m_acted (x := x) (m := m) (fl := fl) (what := 0) hp.1 hv (by omega) hcc (fun _ => hcq) (show cs q < 2 ^ 31 by omega) hm
    have k1 : fX5_acted (WB x m fl) (some 15) (nI f) 0 (nI c) (nI (cs q)) (nI mode) = _ := k1
    have hd2 := hd.tr k2.f
    rw [fX5_sum_L48, g_15_8, Option.bind_some, a_23 hi, Option.bind_some, hp.2.1, if_neg (nI_ge (by omega) (by omega)), if_neg (nI_pos (by omega)), g_15_9, Option.bind_some, nI_16, a_24 (show 16 * i + q < 64 by omega), Option.bind_some, hp.2.2 q (by omega), k1, xmb2_s, nI_1]
    unfold stS
    show ∃ m1, _ = fX5_ends _ _ (rv (match (actS F 0 c (cs q) mode).1 with | none => _ | some c' => _)) ∧ mDf m0 m1 (match (actS F 0 c (cs q) mode).1 with | none => _ | some c' => _ : RS).2.1 (match (actS F 0 c (cs q) mode).1 with | none => _ | some c' => _ : RS).2.2.1 (match (actS F 0 c (cs q) mode).1 with | none => _ | some c' => _ : RS).2.2.2
    rcases RK.act (what := 0) (a := c) (b := cs q) (mode := mode) hv hcc (fun _ => hcq) with ⟨u, u1, u2, u3⟩ | ⟨u1, u2, u3⟩
    · rw [rv_s u1, u1]
      exact ih (q + 1) (N + 1) u (a.1 + (actS F 0 c (cs q) mode).2.1, a.2.1 + (actS F 0 c (cs q) mode).2.2.1, a.2.2 + (actS F 0 c (cs q) mode).2.2.2) m0 m' (by omega) (by omega) u2 (hp.q k2.f) hd2
    · rw [rv_n u1, u1]
      exact ⟨m', ends_neg N i f len (q + 1) mode (hp.q k2.f).2.1 hi, hd2⟩
theorem ends_negD {m' : MS} {x' : XS} (N : Nat) (i i2 f L q mode : Nat) : fX5_dot_L107 (N + 1) (WB x' m' fl) (some 15) (nI i) (nI i2) (nI mode) (nI f) (nI L) (-4) (nI q) = fX5_ends (WB x' m' fl) (some 15) (-4) := by
  rw [fX5_dot_L107, xmb2_id]
  split
  · rfl
  · rw [if_pos (by decide)]
theorem m_stDot {F : FM} (hv : VF F) {i i2 f len len2 L : Nat} {cs ds : Nat → Nat} (hi : i < 4) (hi2 : i2 < 4) (hL1 : L ≤ len) (hL2 : L ≤ len2) (hlen : L ≤ 16) (hc : ∀ q, q < len → cs q < 2 ^ bits F) (hc2 : ∀ q, q < len2 → ds q < 2 ^ bits F) {mode : Nat} (hm : mode ≤ 5) (x : XS) : ∀ (d q N c : Nat) (a : Nat × Nat × Nat) (m0 m : MS), q + d = L → d + 1 < N → c < 2 ^ bits F → RP F f i len cs m → RP F f i2 len2 ds m → mDf m0 m a.1 a.2.1 a.2.2 → ∃ m1, fX5_dot_L107 N (WB x m fl) (some 15) (nI i) (nI i2) (nI mode) (nI f) (nI L) (nI c) (nI q) = fX5_ends (WB x m1 fl) (some 15) (rv (stS F (fun q => actS F 2 (cs q) (ds q) mode) mode d q c a)) ∧ mDf m0 m1 (stS F (fun q => actS F 2 (cs q) (ds q) mode) mode d q c a).2.1 (stS F (fun q => actS F 2 (cs q) (ds q) mode) mode d q c a).2.2.1 (stS F (fun q => actS F 2 (cs q) (ds q) mode) mode d q c a).2.2.2 := by
  intro d
  induction d with
  | zero =>
    intro q N c a m0 m hq hN hcc hp hp2 hd
    obtain ⟨N, rfl⟩ : ∃ N', N = N' + 1 := ⟨N - 1, by omega⟩
    refine ⟨m, ?_, hd⟩
    rw [fX5_dot_L107, if_pos (nI_le (by omega) (by omega)), xmb2_id]
    rfl
  | succ d ih =>
    intro q N c a m0 m hq hN hcc hp hp2 hd
    obtain ⟨N, rfl⟩ : ∃ N', N = N' + 2 := ⟨N - 2, by omega⟩
    have hcq := hc q (by omega)
    have kc := code_lt hv hcq
    have hdq := hc2 q (by omega)
    have kd := code_lt hv hdq
    have kcc := code_lt hv hcc
    obtain ⟨m', k1, k2⟩ := m_acted (x := x) (m := m) (fl := fl) (what := 2) hp.1 hv (by omega) hcq (fun _ => hdq) (show ds q < 2 ^ 31 by omega) hm
    have k1 : fX5_acted (WB x m fl) (some 15) (nI f) 2 (nI (cs q)) (nI (ds q)) (nI mode) = _ := k1
    have hd2 := hd.tr k2.f
    have hp' := hp.q k2.f
    have hp2' := hp2.q k2.f
    rw [fX5_dot_L107, if_neg (nI_ge (by omega) (by omega)), if_neg (nI_pos (by omega)), g_15_9, Option.bind_some, nI_16, a_24 (show 16 * i + q < 64 by omega), Option.bind_some, hp.2.2 q (by omega), Option.bind_some, nI_16, a_24 (show 16 * i2 + q < 64 by omega), Option.bind_some, hp2.2.2 q (by omega), k1, xmb2_s, nI_1]
    unfold stS
    have hrk := RK.act (what := 2) (a := cs q) (b := ds q) (mode := mode) hv hcq (fun _ => hdq)
    clear k1 k2
    generalize actS F 2 (cs q) (ds q) mode = p at hrk hd2
    rcases hrk with ⟨t, t1, t2, t3⟩ | ⟨t1, t2, t3⟩
    · have kt := code_lt hv t2
      obtain ⟨m2, j1, j2⟩ := m_acted (x := x) (m := m') (fl := fl) (what := 0) hp'.1 hv (by omega) hcc (fun _ => t2) (show t < 2 ^ 31 by omega) hm
      have j1 : fX5_acted (WB x m' fl) (some 15) (nI f) 0 (nI c) (nI t) (nI mode) = _ := j1
      have hd3 := hd2.tr j2.f
      rw [rv_s t1, if_pos (nI_pos' (by omega)), j1, xmb2_s, t1]
      show ∃ m1, _ = fX5_ends _ _ (rv (match (actS F 0 c t mode).1 with | none => _ | some c' => _)) ∧ mDf m0 m1 (match (actS F 0 c t mode).1 with | none => _ | some c' => _ : RS).2.1 (match (actS F 0 c t mode).1 with | none => _ | some c' => _ : RS).2.2.1 (match (actS F 0 c t mode).1 with | none => _ | some c' => _ : RS).2.2.2
      rcases RK.act (what := 0) (a := c) (b := t) (mode := mode) hv hcc (fun _ => t2) with ⟨u, u1, u2, u3⟩ | ⟨u1, u2, u3⟩
      · rw [rv_s u1, u1]
        exact ih (q + 1) (N + 1) u (a.1 + p.2.1 + (actS F 0 c t mode).2.1, a.2.1 + p.2.2.1 + (actS F 0 c t mode).2.2.1, a.2.2 + p.2.2.2 + (actS F 0 c t mode).2.2.2) m0 m2 (by omega) (by omega) u2 (hp'.q j2.f) (hp2'.q j2.f) hd3
      · rw [rv_n u1, u1]
        exact ⟨m2, ends_negD N i i2 f L (q + 1) mode, hd3⟩
    · rw [rv_n t1, if_neg (by decide), t1]
      exact ⟨m', ends_negD N i i2 f L (q + 1) mode, hd2⟩
end SUMS
