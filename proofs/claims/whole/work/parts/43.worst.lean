/-! worst -/
def mxS (F G : FM) : Nat := if sc F < sc G then sc G else sc F
def dsC (F G : FM) (c d : Nat) : Int := uz F c * ((2 ^ (mxS F G - sc F) : Nat) : Int) - uz G d * ((2 ^ (mxS F G - sc G) : Nat) : Int)
def dsR (F G : FM) (c d : Nat) : Int := uz F c * ((2 ^ (20 - sc F) : Nat) : Int) - uz G d * ((2 ^ (20 - sc G) : Nat) : Int)
theorem uz_r {F : FM} (hv : VF F) (c : Nat) : -2097152 ≤ uz F c ∧ uz F c ≤ 2097152 := by
  have ht := fM_top hv (mg_lt F c)
  unfold uz
  split <;> omega
theorem mul_r {u : Int} (h : -2097152 ≤ u ∧ u ≤ 2097152) {k : Nat} (hk : k ≤ 20) : -2199023255552 ≤ u * ((2 ^ k : Nat) : Int) ∧ u * ((2 ^ k : Nat) : Int) ≤ 2199023255552 := by
  have hp := pw20 hk
  have h0 : (0 : Int) ≤ ((2 ^ k : Nat) : Int) := Int.natCast_nonneg _
  have h1 : u * ((2 ^ k : Nat) : Int) ≤ 2097152 * ((2 ^ k : Nat) : Int) := Int.mul_le_mul_of_nonneg_right h.2 h0
  have h2 : -2097152 * ((2 ^ k : Nat) : Int) ≤ u * ((2 ^ k : Nat) : Int) := Int.mul_le_mul_of_nonneg_right h.1 h0
  omega
theorem ds_eq {F G : FM} (hv : VF F) (hv2 : VF G) (c d : Nat) : dsR F G c d = dsC F G c d * ((2 ^ (20 - mxS F G) : Nat) : Int) := by
  have h1 := sc_le hv
  have h2 := sc_le hv2
  have hm : sc F ≤ mxS F G ∧ sc G ≤ mxS F G ∧ mxS F G ≤ 20 := by unfold mxS; split <;> omega
  have e1 : 2 ^ (20 - sc F) = 2 ^ (mxS F G - sc F) * 2 ^ (20 - mxS F G) := by rw [← Nat.pow_add]; congr 1; omega
  have e2 : 2 ^ (20 - sc G) = 2 ^ (mxS F G - sc G) * 2 ^ (20 - mxS F G) := by rw [← Nat.pow_add]; congr 1; omega
  unfold dsR dsC
  rw [e1, e2, Int.natCast_mul, Int.natCast_mul, ← Int.mul_assoc, ← Int.mul_assoc, Int.sub_mul]
theorem ds_r {F G : FM} (hv : VF F) (hv2 : VF G) (c d : Nat) : LR (dsC F G c d) ∧ -4398046511104 ≤ dsR F G c d ∧ dsR F G c d ≤ 4398046511104 := by
  have h1 := sc_le hv
  have h2 := sc_le hv2
  have hm : sc F ≤ mxS F G ∧ sc G ≤ mxS F G ∧ mxS F G ≤ 20 := by unfold mxS; split <;> omega
  have a1 := mul_r (uz_r hv c) (k := mxS F G - sc F) (by omega)
  have a2 := mul_r (uz_r hv2 d) (k := mxS F G - sc G) (by omega)
  have a3 := mul_r (uz_r hv c) (k := 20 - sc F) (by omega)
  have a4 := mul_r (uz_r hv2 d) (k := 20 - sc G) (by omega)
  unfold dsC dsR LR
  omega
/-- a pair of NUMBERS; how far they are from one another -/
def nuS (F G : FM) (cs ds : Nat → Nat) (q : Nat) : Bool := isNu F (cs q) && isNu G (ds q)
def diS (F G : FM) (cs ds : Nat → Nat) (q : Nat) : Nat := (dsC F G (cs q) (ds q)).natAbs
def wpS (nu : Nat → Bool) (D : Nat → Nat) : Nat → Nat → Int32 → Nat → Int32
  | 0, _, best, _ => best
  | d + 1, q, best, most => if nu q = true ∧ most < D q then wpS nu D d (q + 1) (nI q) (D q) else wpS nu D d (q + 1) best most
def dfS (nu : Nat → Bool) (D : Nat → Nat) : Nat → Nat → Nat → Nat
  | 0, _, a => a
  | d + 1, q, a => dfS nu D d (q + 1) (a + (if nu q = true ∧ 0 < D q then 1 else 0))
def nnS (nu : Nat → Bool) : Nat → Nat → Nat → Nat
  | 0, _, a => a
  | d + 1, q, a => nnS nu d (q + 1) (a + (if nu q = true then 0 else 1))
theorem wpS_n {nu : Nat → Bool} {D : Nat → Nat} {d q : Nat} {best : Int32} {most : Nat} (h : nu q = false ∨ D q ≤ most) : wpS nu D (d + 1) q best most = wpS nu D d (q + 1) best most := by
  show (if nu q = true ∧ most < D q then _ else _) = _
  rw [if_neg (fun t => by rcases h with h | h <;> first | (rw [h] at t; cases t.1; done) | omega)]
theorem wpS_y {nu : Nat → Bool} {D : Nat → Nat} {d q : Nat} {best : Int32} {most : Nat} (h : nu q = true) (h2 : most < D q) : wpS nu D (d + 1) q best most = wpS nu D d (q + 1) (nI q) (D q) := by
  show (if nu q = true ∧ most < D q then _ else _) = _
  rw [if_pos ⟨h, h2⟩]
theorem dfS_n {nu : Nat → Bool} {D : Nat → Nat} {d q a : Nat} (h : nu q = false ∨ D q = 0) : dfS nu D (d + 1) q a = dfS nu D d (q + 1) a := by
  show dfS nu D d (q + 1) (a + (if nu q = true ∧ 0 < D q then 1 else 0)) = _
  rw [if_neg (fun t => by rcases h with h | h <;> first | (rw [h] at t; cases t.1; done) | omega)]
  rfl
theorem dfS_y {nu : Nat → Bool} {D : Nat → Nat} {d q a : Nat} (h : nu q = true) (h2 : 0 < D q) : dfS nu D (d + 1) q a = dfS nu D d (q + 1) (a + 1) := by
  show dfS nu D d (q + 1) (a + (if nu q = true ∧ 0 < D q then 1 else 0)) = _
  rw [if_pos ⟨h, h2⟩]
theorem nnS_y {nu : Nat → Bool} {d q a : Nat} (h : nu q = true) : nnS nu (d + 1) q a = nnS nu d (q + 1) a := by
  show nnS nu d (q + 1) (a + (if nu q = true then 0 else 1)) = _
  rw [if_pos h]; rfl
theorem nnS_n {nu : Nat → Bool} {d q a : Nat} (h : nu q = false) : nnS nu (d + 1) q a = nnS nu d (q + 1) (a + 1) := by
  show nnS nu d (q + 1) (a + (if nu q = true then 0 else 1)) = _
  rw [if_neg (by rw [h]; decide)]
section WO
variable {n : Nat} {Fs : Nat → FM} {x : XS} {m : MS} {fl : List xmE}
theorem x_areN {i f k len : Nat} {cs : Nat → Nat} (hR : RR Fs x m fl i f k len cs) {i2 f2 k2 len2 : Nat} {ds : Nat → Nat} (hR2 : RR Fs x m fl i2 f2 k2 len2 ds) {q : Nat} (hq : q < 16) : fX2_areNumbers (WB x m fl) (some (7 + 2 * i)) (some (7 + 2 * i2)) (nI q) = some (bI (nuS (Fs f) (Fs f2) cs ds q)) := by
  obtain ⟨hi, hf, h1, h2, h3, h4, h5, h6, h7, h8, h9, h10⟩ := hR
  obtain ⟨hi2, hf2, j1, j2, j3, j4, j5, j6, j7, j8, j9, j10⟩ := hR2
  have kc := code_lt h4 (h9 q hq).1
  have kd := code_lt j4 (j9 q hq).1
  simp only [fX2_areNumbers, o_r hi, g_rf hi, g_rf hi2, h1, j1, x_codeAt hi hq, x_codeAt hi2 hq, (h9 q hq).2, (j9 q hq).2, x_isNumber (h2.w x m) h4 (show cs q < 2 ^ 31 by omega), x_isNumber (j2.w x m) j4 (show ds q < 2 ^ 31 by omega), Option.bind_some, bI_0]
  unfold nuS
  cases isNu (Fs f) (cs q) with
  | false => rfl
  | true => rw [if_neg (by decide)]; cases isNu (Fs f2) (ds q) <;> rfl
theorem x_dist {i f k len : Nat} {cs : Nat → Nat} (hR : RR Fs x m fl i f k len cs) {i2 f2 k2 len2 : Nat} {ds : Nat → Nat} (hR2 : RR Fs x m fl i2 f2 k2 len2 ds) {q : Nat} (hq : q < 16) : fX2_distance (WB x m fl) (some (7 + 2 * i)) (some (7 + 2 * i2)) (nI q) = some (lZ ((diS (Fs f) (Fs f2) cs ds q : Nat) : Int)) := by
  obtain ⟨hi, hf, h1, h2, h3, h4, h5, h6, h7, h8, h9, h10⟩ := hR
  obtain ⟨hi2, hf2, j1, j2, j3, j4, j5, j6, j7, j8, j9, j10⟩ := hR2
  have kc := code_lt h4 (h9 q hq).1
  have kd := code_lt j4 (j9 q hq).1
  have s1 := sc_le h4
  have s2 := sc_le j4
  have hm : sc (Fs f) ≤ mxS (Fs f) (Fs f2) ∧ sc (Fs f2) ≤ mxS (Fs f) (Fs f2) ∧ mxS (Fs f) (Fs f2) ≤ 20 := by unfold mxS; split <;> omega
  have hmx : (if nI (sc (Fs f)) < nI (sc (Fs f2)) then nI (sc (Fs f2)) else nI (sc (Fs f))) = nI (mxS (Fs f) (Fs f2)) := by
    simp only [nI_ltI (show sc (Fs f) < 2 ^ 31 by omega) (show sc (Fs f2) < 2 ^ 31 by omega)]
    unfold mxS; split <;> rfl
  simp only [fX2_distance, o_r hi, g_rf hi, g_rf hi2, h1, j1, x_codeAt hi hq, x_codeAt hi2 hq, (h9 q hq).2, (j9 q hq).2, x_scale (h2.w x m), x_scale (j2.w x m), x_unitsOf (h2.w x m) h4 (show cs q < 2 ^ 31 by omega), x_unitsOf (j2.w x m) j4 (show ds q < 2 ^ 31 by omega), Option.bind_some, hmx]
  rw [pk_sub hm.1, pk_sub hm.2.1, sl_Z _ (by omega), sl_Z _ (by omega), lZ_sub]
  exact congrArg some (lZ_abs (ds_r h4 j4 (cs q) (ds q)).1)
theorem di_r {F G : FM} (hv : VF F) (hv2 : VF G) (cs ds : Nat → Nat) (q : Nat) : diS F G cs ds q ≤ 4398046511104 := by
  have h1 := sc_le hv
  have h2 := sc_le hv2
  have hm : sc F ≤ mxS F G ∧ sc G ≤ mxS F G ∧ mxS F G ≤ 20 := by unfold mxS; split <;> omega
  have a1 := mul_r (uz_r hv (cs q)) (k := mxS F G - sc F) (by omega)
  have a2 := mul_r (uz_r hv2 (ds q)) (k := mxS F G - sc G) (by omega)
  unfold diS dsC
  omega
theorem x_wpL {i f k len : Nat} {cs : Nat → Nat} (hR : RR Fs x m fl i f k len cs) {i2 f2 k2 len2 : Nat} {ds : Nat → Nat} (hR2 : RR Fs x m fl i2 f2 k2 len2 ds) : ∀ (d q N : Nat) (best : Int32) (most : Nat), q + d = len → d < N → most ≤ 4398046511104 → fX2_worstPlace_L8 N (WB x m fl) (some (7 + 2 * i)) (some (7 + 2 * i2)) best (lZ (most : Int)) (nI q) = some (wpS (nuS (Fs f) (Fs f2) cs ds) (diS (Fs f) (Fs f2) cs ds) d q best most) := by
  have hR' := hR
  have hR2' := hR2
  obtain ⟨hi, hf, h1, h2, h3, h4, h5, h6, h7, h8, h9, h10⟩ := hR
  obtain ⟨hi2, hf2, j1, j2, j3, j4, j5, j6, j7, j8, j9, j10⟩ := hR2
  intro d
  induction d with
  | zero =>
    intro q N best most hq hN hmo
    obtain ⟨N, rfl⟩ : ∃ N', N = N' + 1 := ⟨N - 1, by omega⟩
    rw [fX2_worstPlace_L8, g_rl hi, Option.bind_some, h7, if_pos (nI_le (by omega) (by omega))]
    rfl
  | succ d ih =>
    intro q N best most hq hN hmo
    obtain ⟨N, rfl⟩ : ∃ N', N = N' + 1 := ⟨N - 1, by omega⟩
    have hd := di_r h4 j4 cs ds q
    have hle : (lg_cmp (lZ ((diS (Fs f) (Fs f2) cs ds q : Nat) : Int)) (lZ (most : Int)) ≤ 0) ↔ diS (Fs f) (Fs f2) cs ds q ≤ most := by
      rw [lc_le ⟨by omega, by omega⟩ ⟨by omega, by omega⟩]; omega
    rw [fX2_worstPlace_L8, g_rl hi, Option.bind_some, h7, if_neg (nI_ge (by omega) (by omega)), x_areN hR' hR2' (by omega), Option.bind_some, x_dist hR' hR2' (by omega), Option.bind_some, Option.bind_some, nI_1]
    unfold wpS
    cases hn : nuS (Fs f) (Fs f2) cs ds q with
    | false =>
      rw [if_pos (show bI false = 0 from rfl), if_neg (fun t => by cases t.1)]
      exact ih (q + 1) N best most (by omega) (by omega) hmo
    | true =>
      rw [if_neg (show ¬ bI true = 0 by decide)]
      by_cases hl : diS (Fs f) (Fs f2) cs ds q ≤ most
      · rw [if_pos (hle.mpr hl), if_neg (fun t => by omega)]
        exact ih (q + 1) N best most (by omega) (by omega) hmo
      · rw [if_neg (fun t => hl (hle.mp t)), if_pos ⟨rfl, by omega⟩]
        exact ih (q + 1) N (nI q) _ (by omega) (by omega) hd
theorem x_dfL {i f k len : Nat} {cs : Nat → Nat} (hR : RR Fs x m fl i f k len cs) {i2 f2 k2 len2 : Nat} {ds : Nat → Nat} (hR2 : RR Fs x m fl i2 f2 k2 len2 ds) : ∀ (d q N a : Nat), q + d = len → d < N → fX2_differences_L4 N (WB x m fl) (some (7 + 2 * i)) (some (7 + 2 * i2)) (nI a) (nI q) = some (nI (dfS (nuS (Fs f) (Fs f2) cs ds) (diS (Fs f) (Fs f2) cs ds) d q a)) := by
  have hR' := hR
  have hR2' := hR2
  obtain ⟨hi, hf, h1, h2, h3, h4, h5, h6, h7, h8, h9, h10⟩ := hR
  obtain ⟨hi2, hf2, j1, j2, j3, j4, j5, j6, j7, j8, j9, j10⟩ := hR2
  intro d
  induction d with
  | zero =>
    intro q N a hq hN
    obtain ⟨N, rfl⟩ : ∃ N', N = N' + 1 := ⟨N - 1, by omega⟩
    rw [fX2_differences_L4, g_rl hi, Option.bind_some, h7, if_pos (nI_le (by omega) (by omega))]
    rfl
  | succ d ih =>
    intro q N a hq hN
    obtain ⟨N, rfl⟩ : ∃ N', N = N' + 1 := ⟨N - 1, by omega⟩
    have hd := di_r h4 j4 cs ds q
    have hle : (lg_cmp (lZ ((diS (Fs f) (Fs f2) cs ds q : Nat) : Int)) 0 ≤ 0) ↔ diS (Fs f) (Fs f2) cs ds q = 0 := by
      rw [show (0 : Int64) = lZ 0 from rfl, lc_le ⟨by omega, by omega⟩ ⟨by omega, by omega⟩]; omega
    rw [fX2_differences_L4, g_rl hi, Option.bind_some, h7, if_neg (nI_ge (by omega) (by omega)), x_areN hR' hR2' (by omega), Option.bind_some, x_dist hR' hR2' (by omega), Option.bind_some, nI_1, nI_1]
    unfold dfS
    cases hn : nuS (Fs f) (Fs f2) cs ds q with
    | false =>
      rw [if_pos (show bI false = 0 from rfl), if_neg (fun t => by cases t.1)]
      exact ih (q + 1) N a (by omega) (by omega)
    | true =>
      rw [if_neg (show ¬ bI true = 0 by decide)]
      by_cases hl : diS (Fs f) (Fs f2) cs ds q = 0
      · rw [if_pos (hle.mpr hl), if_neg (fun t => by omega)]
        exact ih (q + 1) N a (by omega) (by omega)
      · rw [if_neg (fun t => hl (hle.mp t)), if_pos ⟨rfl, by omega⟩]
        exact ih (q + 1) N (a + 1) (by omega) (by omega)
theorem x_nnL {i f k len : Nat} {cs : Nat → Nat} (hR : RR Fs x m fl i f k len cs) {i2 f2 k2 len2 : Nat} {ds : Nat → Nat} (hR2 : RR Fs x m fl i2 f2 k2 len2 ds) : ∀ (d q N a : Nat), q + d = len → d < N → fX2_noNumbers_L4 N (WB x m fl) (some (7 + 2 * i)) (some (7 + 2 * i2)) (nI a) (nI q) = some (nI (nnS (nuS (Fs f) (Fs f2) cs ds) d q a)) := by
  have hR' := hR
  have hR2' := hR2
  obtain ⟨hi, hf, h1, h2, h3, h4, h5, h6, h7, h8, h9, h10⟩ := hR
  intro d
  induction d with
  | zero =>
    intro q N a hq hN
    obtain ⟨N, rfl⟩ : ∃ N', N = N' + 1 := ⟨N - 1, by omega⟩
    rw [fX2_noNumbers_L4, g_rl hi, Option.bind_some, h7, if_pos (nI_le (by omega) (by omega))]
    rfl
  | succ d ih =>
    intro q N a hq hN
    obtain ⟨N, rfl⟩ : ∃ N', N = N' + 1 := ⟨N - 1, by omega⟩
    rw [fX2_noNumbers_L4, g_rl hi, Option.bind_some, h7, if_neg (nI_ge (by omega) (by omega)), x_areN hR' hR2' (by omega), Option.bind_some, nI_1, nI_1]
    unfold nnS
    cases hn : nuS (Fs f) (Fs f2) cs ds q with
    | false =>
      rw [if_pos (show bI false = 0 from rfl), if_neg (by decide)]
      exact ih (q + 1) N (a + 1) (by omega) (by omega)
    | true =>
      rw [if_neg (show ¬ bI true = 0 by decide), if_pos rfl]
      exact ih (q + 1) N a (by omega) (by omega)
theorem m_woL {F G : FM} (hv : VF F) (hv2 : VF G) {i i2 f f2 len len2 what : Nat} {cs ds : Nat → Nat} (hi : i < 4) (hi2 : i2 < 4) (hlen : len ≤ 16) (hl2 : len ≤ len2) (hw : what ≤ 2) (hc : ∀ q, q < len → cs q < 2 ^ bits F) (hc2 : ∀ q, q < len → ds q < 2 ^ bits G) (hp : RP F f i len cs m) (hp2 : RP G f2 i2 len2 ds m) (h7 : m.2.2 7 i = nI f) (h7' : m.2.2 7 i2 = nI f2) (x : XS) : ∀ (d q N : Nat) (best : Int32) (most df nn : Nat), q + d = len → d < N → most ≤ 4398046511104 → most * 2 ^ (20 - mxS F G) ≤ 4398046511104 → df ≤ q → nn ≤ q → fX5_worst_L72 N (WB x m fl) (some 15) (nI i) (nI i2) (nI what) best (lZ ((most * 2 ^ (20 - mxS F G) : Nat) : Int)) (nI df) (nI nn) (nI q) = some ((if what = 0 then wpS (nuS F G cs ds) (diS F G cs ds) d q best most else if what = 1 then nI (dfS (nuS F G cs ds) (diS F G cs ds) d q df) else nI (nnS (nuS F G cs ds) d q nn)), WB x (mset m 17 0) fl) := by
  have s1 := sc_le hv
  have s2 := sc_le hv2
  have hG1 := hp.1.g x fl
  have hG2 := hp2.1.g x fl
  have w0 := nI_0' (show what < 2 ^ 31 by omega)
  have w1 := nI_1' (show what < 2 ^ 31 by omega)
  intro d
  induction d with
  | zero =>
    intro q N best most df nn hq hN hmo hmo2 hdf hnn
    obtain ⟨N, rfl⟩ : ∃ N', N = N' + 1 := ⟨N - 1, by omega⟩
    rw [fX5_worst_L72, g_15_8, Option.bind_some, a_23 hi, Option.bind_some, hp.2.1, if_pos (nI_le (by omega) (by omega)), m_fin, xmb2_s, m_fin, xmb2_s, m_fin, xmb2_s]
    simp only [w0, w1]
    unfold wpS dfS nnS
    split
    · rfl
    · split <;> rfl
  | succ d ih =>
    intro q N best most df nn hq hN hmo hmo2 hdf hnn
    obtain ⟨N, rfl⟩ : ∃ N', N = N' + 1 := ⟨N - 1, by omega⟩
    have hcq := hc q (by omega)
    have hdq := hc2 q (by omega)
    have kc := code_lt hv hcq
    have kd := code_lt hv2 hdq
    obtain ⟨_, r1, r2⟩ := ds_r hv hv2 (cs q) (ds q)
    have he := ds_eq hv hv2 (cs q) (ds q)
    have hK0 : 0 < 2 ^ (20 - mxS F G) := Nat.two_pow_pos _
    have hab : (dsR F G (cs q) (ds q)).natAbs = diS F G cs ds q * 2 ^ (20 - mxS F G) := by
      rw [he, Int.natAbs_mul, Int.natAbs_natCast]; rfl
    have e20 : ∀ s, s ≤ 20 → (20 : Int32) - nI s = nI (20 - s) := fun s hs => by rw [show (20 : Int32) = nI 20 from rfl, pk_sub hs]
    have hD : lZ (uz F (cs q)) <<< ((nI (20 - sc F)).toInt64 &&& 63) - lZ (uz G (ds q)) <<< ((nI (20 - sc G)).toInt64 &&& 63) = lZ (dsR F G (cs q) (ds q)) := by
      rw [sl_Z _ (by omega), sl_Z _ (by omega), lZ_sub]; rfl
    rw [fX5_worst_L72, g_15_8, Option.bind_some, a_23 hi, Option.bind_some, hp.2.1, if_neg (nI_ge (by omega) (by omega)), g_15_9, Option.bind_some, nI_16, a_24 (show 16 * i + q < 64 by omega), Option.bind_some, hp.2.2 q (by omega), Option.bind_some, nI_16, a_24 (show 16 * i2 + q < 64 by omega), Option.bind_some, hp2.2.2 q (by omega), g_15_7, Option.bind_some, a_22 hi, Option.bind_some, h7, m_isNumber hG1 hv (show cs q < 2 ^ 31 by omega), Option.bind_some, nI_1, nI_1]
    cases n1 : isNu F (cs q) with
    | false =>
      have hnu : nuS F G cs ds q = false := by unfold nuS; rw [n1]; rfl
      rw [if_pos (show bI false = 0 from rfl), wpS_n (Or.inl hnu), dfS_n (Or.inl hnu), nnS_n hnu]
      exact ih (q + 1) N best most df (nn + 1) (by omega) (by omega) hmo hmo2 (by omega) (by omega)
    | true =>
      rw [if_neg (show ¬ bI true = 0 by decide), Option.bind_some, a_22 hi2, Option.bind_some, h7', m_isNumber hG2 hv2 (show ds q < 2 ^ 31 by omega), Option.bind_some]
      cases n2 : isNu G (ds q) with
      | false =>
        have hnu : nuS F G cs ds q = false := by unfold nuS; rw [n1, n2]; rfl
        rw [if_pos (show bI false = 0 from rfl), wpS_n (Or.inl hnu), dfS_n (Or.inl hnu), nnS_n hnu]
        exact ih (q + 1) N best most df (nn + 1) (by omega) (by omega) hmo hmo2 (by omega) (by omega)
      | true =>
        have hnu : nuS F G cs ds q = true := by unfold nuS; rw [n1, n2]; rfl
        rw [if_neg (show ¬ bI true = 0 by decide), nnS_y hnu]
        have lm : LR ((most * 2 ^ (20 - mxS F G) : Nat) : Int) := ⟨by omega, by omega⟩
        have l0 : LR 0 := ⟨by omega, by omega⟩
        have lz : LR (dsR F G (cs q) (ds q)) := ⟨by omega, by omega⟩
        have lz2 : LR (-(dsR F G (cs q) (ds q))) := ⟨by omega, by omega⟩
        have z0 : (0 : Int64) = lZ 0 := rfl
        have hd0 : diS F G cs ds q ≤ 4398046511104 := di_r hv hv2 cs ds q
        have hmul : (diS F G cs ds q * 2 ^ (20 - mxS F G) ≤ most * 2 ^ (20 - mxS F G)) ↔ diS F G cs ds q ≤ most := Nat.mul_le_mul_right_iff hK0
        have hmul0 : (diS F G cs ds q * 2 ^ (20 - mxS F G) = 0) ↔ diS F G cs ds q = 0 := by
          rw [Nat.mul_eq_zero]; omega
        simp only [Option.bind_some, a_22 hi, a_22 hi2, h7, h7', m_unitsOf hG1 hv hcq, m_scale hG1, m_unitsOf hG2 hv2 hdq, m_scale hG2, e20 _ s1, e20 _ s2, hD]
        rw [z0]
        simp only [lc_ge lz l0, lc_le lz lm, lc_le lz l0, lZ_neg, lc_le lz2 lm, lc_le lz2 l0]
        have hA : ∀ A : Int, A = ((diS F G cs ds q * 2 ^ (20 - mxS F G) : Nat) : Int) → ((if A ≤ ((most * 2 ^ (20 - mxS F G) : Nat) : Int) then (if A ≤ ((most * 2 ^ (20 - mxS F G) : Nat) : Int) then fX5_worst_L72 N (WB x m fl) (some 15) (nI i) (nI i2) (nI what) best (lZ ((most * 2 ^ (20 - mxS F G) : Nat) : Int)) (nI df + (if A ≤ 0 then 0 else 1)) (nI nn) (nI (q + 1)) else fX5_worst_L72 N (WB x m fl) (some 15) (nI i) (nI i2) (nI what) best (lZ A) (nI df + (if A ≤ 0 then 0 else 1)) (nI nn) (nI (q + 1))) else (if A ≤ ((most * 2 ^ (20 - mxS F G) : Nat) : Int) then fX5_worst_L72 N (WB x m fl) (some 15) (nI i) (nI i2) (nI what) (nI q) (lZ ((most * 2 ^ (20 - mxS F G) : Nat) : Int)) (nI df + (if A ≤ 0 then 0 else 1)) (nI nn) (nI (q + 1)) else fX5_worst_L72 N (WB x m fl) (some 15) (nI i) (nI i2) (nI what) (nI q) (lZ A) (nI df + (if A ≤ 0 then 0 else 1)) (nI nn) (nI (q + 1)))) = some ((if what = 0 then wpS (nuS F G cs ds) (diS F G cs ds) (d + 1) q best most else if what = 1 then nI (dfS (nuS F G cs ds) (diS F G cs ds) (d + 1) q df) else nI (nnS (nuS F G cs ds) d (q + 1) nn)), WB x (mset m 17 0) fl)) := by
          intro A hAe
          have c1 : (A ≤ ((most * 2 ^ (20 - mxS F G) : Nat) : Int)) ↔ diS F G cs ds q ≤ most := by rw [hAe, ← hmul]; omega
          have c2 : (A ≤ 0) ↔ diS F G cs ds q = 0 := by rw [hAe, ← hmul0]; omega
          have edf : ∀ b, (b = if diS F G cs ds q = 0 then df else df + 1) → nI df + (if A ≤ 0 then (0 : Int32) else 1) = nI b ∧ dfS (nuS F G cs ds) (diS F G cs ds) (d + 1) q df = dfS (nuS F G cs ds) (diS F G cs ds) d (q + 1) b := by
            intro b hb
            by_cases q0 : diS F G cs ds q = 0
            · rw [if_pos q0] at hb
              subst hb
              exact ⟨by rw [if_pos (c2.mpr q0)]; exact Int32.add_zero _, dfS_n (Or.inr q0)⟩
            · rw [if_neg q0] at hb
              subst hb
              exact ⟨by rw [if_neg (fun t => q0 (c2.mp t))]; exact nI_add df 1, dfS_y hnu (by omega)⟩
          obtain ⟨g1, g2⟩ := edf _ rfl
          rw [g1, g2]
          have hb : (if diS F G cs ds q = 0 then df else df + 1) ≤ q + 1 := by split <;> omega
          by_cases q1 : diS F G cs ds q ≤ most
          · rw [if_pos (c1.mpr q1), if_pos (c1.mpr q1), wpS_n (Or.inr q1)]
            exact ih (q + 1) N best most _ nn (by omega) (by omega) hmo hmo2 hb (by omega)
          · rw [if_neg (fun t => q1 (c1.mp t)), if_neg (fun t => q1 (c1.mp t)), wpS_y hnu (by omega), hAe]
            exact ih (q + 1) N (nI q) _ _ nn (by omega) (by omega) hd0 (by omega) hb (by omega)
        by_cases hz : 0 ≤ dsR F G (cs q) (ds q)
        · rw [if_pos hz]
          exact hA _ (by omega)
        · rw [if_neg hz]
          exact hA _ (by omega)
end WO
