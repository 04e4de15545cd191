/-! EXACT TOTALS: one value, and the class's side -/
def exS (F : FM) (t : Nat → Int × Bool) (den mode : Nat) (mz : Bool) : Nat → Nat → Nat → Int → RS
  | 0, _, e, Z => if e = 1 then okS (bey F false) else if e = 2 then okS (bey F true) else frS F Z den mode mz
  | d + 1, i, e, Z =>
    if (t i).1 = -2 then (nc F, 0, 0, 0)
    else if (t i).1 = -3 then invS F
    else if (t i).1 = -1 then (if e = (if (t i).2 = true then 1 else 2) then invS F else exS F t den mode mz d (i + 1) (if (t i).2 = true then 2 else 1) Z)
    else exS F t den mode mz d (i + 1) e (Z + sz (t i).2 (t i).1)
def eI (e : Nat) : Int32 := if e = 0 then 0 else if e = 1 then 1 else -1
def sI (g : Bool) : Int32 := if g = true then -1 else 1
theorem eI_neg {e : Nat} (he : e ≤ 2) (g : Bool) : (eI e = -(sI g)) ↔ e = (if g = true then 1 else 2) := by
  have : e = 0 ∨ e = 1 ∨ e = 2 := by omega
  rcases this with rfl | rfl | rfl <;> cases g <;> decide
theorem eI_0 {e : Nat} (he : e ≤ 2) : (eI e = 0) ↔ e = 0 := by
  have : e = 0 ∨ e = 1 ∨ e = 2 := by omega
  rcases this with rfl | rfl | rfl <;> decide
theorem sI_e (g : Bool) : sI g = eI (if g = true then 2 else 1) := by cases g <;> rfl
theorem sI_mul (g : Bool) (s : Int) : (sI g).toInt64 * lZ s = lZ (sz g s) := by
  cases g with
  | false =>
    have : (sI false).toInt64 = lZ 1 := by decide
    rw [this, lZ_mul, Int.one_mul]; rfl
  | true =>
    have : (sI true).toInt64 = lZ (-1) := by decide
    rw [this, lZ_mul]
    show lZ (-1 * s) = lZ (-s)
    congr 1; omega
theorem sI_b (g : Bool) : (if bI g = (0 : Int32) then (1 : Int32) else -1) = sI g := by cases g <;> rfl
theorem sI_b2 (a b : Bool) : (if bI a = bI b then (1 : Int32) else -1) = sI (a != b) := by cases a <;> cases b <;> rfl
/-- the terms of a total -/
def TOK (F : FM) (t : Nat → Int × Bool) : Prop := ∀ q, -3 ≤ (t q).1 ∧ (t q).1 ≤ 4398046511104 ∧ ((t q).1 = -2 → nc F ≠ none) ∧ ((t q).1 = -1 → fT F = 0)
theorem TOK.sum {F : FM} (hv : VF F) (cs : Nat → Nat) : TOK F (fun q => (siz F (cs q), ng F (cs q))) := by
  intro q
  have h := siz_r hv (cs q)
  exact ⟨by show -3 ≤ siz F (cs q); omega, by show siz F (cs q) ≤ _; omega, fun e => no_nc hv ((siz_no _).mp e), fun e => en_t0 ((siz_en _).mp e)⟩
theorem szp_2 {F : FM} (hv : VF F) {a b : Nat} (h : szp F a b = -2) : nc F ≠ none := by
  have ra := siz_r hv a
  have rb := siz_r hv b
  unfold szp at h
  split at h
  · rename_i h2
    rcases h2 with h2 | h2
    · exact no_nc hv ((siz_no _).mp h2)
    · exact no_nc hv ((siz_no _).mp h2)
  · split at h
    · split at h <;> omega
    · have h4 : 0 ≤ siz F a * siz F b := Int.mul_nonneg (by omega) (by omega)
      omega
theorem szp_1 {F : FM} (hv : VF F) {a b : Nat} (h : szp F a b = -1) : fT F = 0 := by
  have ra := siz_r hv a
  have rb := siz_r hv b
  unfold szp at h
  split at h
  · omega
  · split at h
    · rename_i h2
      rcases h2 with h2 | h2
      · exact en_t0 ((siz_en _).mp h2)
      · exact en_t0 ((siz_en _).mp h2)
    · have h4 : 0 ≤ siz F a * siz F b := Int.mul_nonneg (by omega) (by omega)
      omega
theorem TOK.dot {F : FM} (hv : VF F) (cs ds : Nat → Nat) : TOK F (fun q => (szp F (cs q) (ds q), ng F (cs q) != ng F (ds q))) := by
  intro q
  have h := szp_r hv (cs q) (ds q)
  exact ⟨h.1, h.2, fun e => szp_2 hv e, fun e => szp_1 hv e⟩
theorem exS_rk {F : FM} (hv : VF F) {t : Nat → Int × Bool} (ht : TOK F t) (den mode : Nat) (mz : Bool) : ∀ (d i e : Nat) (Z : Int), RK F (exS F t den mode mz d i e Z) := by
  intro d
  induction d with
  | zero =>
    intro i e Z
    unfold exS
    split
    · exact RK.ok (bey_lt hv _)
    · split
      · exact RK.ok (bey_lt hv _)
      · exact RK.fr hv _ _ _ _
  | succ d ih =>
    intro i e Z
    unfold exS
    by_cases q2 : (t i).1 = -2
    · rw [if_pos q2]; exact RK.nn hv ((ht i).2.2.1 q2)
    · rw [if_neg q2]
      by_cases q3 : (t i).1 = -3
      · rw [if_pos q3]; exact RK.inv hv
      · rw [if_neg q3]
        by_cases q1 : (t i).1 = -1
        · rw [if_pos q1]
          by_cases qe : e = (if (t i).2 = true then 1 else 2)
          · rw [if_pos qe]; exact RK.inv hv
          · rw [if_neg qe]; exact ih _ _ _
        · rw [if_neg q1]; exact ih _ _ _
/-- one step of the class's loop -/
def xstep (N : Nat) (w : xmW) (p0 p1 p2 : Option Nat) (p3 : Int32) (p4 : Option Nat) (p5 p6 : Int32) (p7 : Int64) (p9 : Int32) (s : Int64) (g : Int32) : Option (Int32 × xmW) :=
  if (lg_cmp s (-2 : Int64)) = 0 then ((fX1_noneCode w p4).bind fun v => some (v, w))
  else if (lg_cmp s (-3 : Int64)) = 0 then (xmb2 (fX0_invalid w p0 p4) fun v w' => some (v, w'))
  else if (lg_cmp s (-1 : Int64)) = 0 then (if p6 = -g then (xmb2 (fX0_invalid w p0 p4) fun v w' => some (v, w')) else if (lg_cmp s (-1 : Int64)) = 0 then fX0_exactTotal_L22 N w p0 p1 p2 p3 p4 p5 g p7 (p9 + 1) else fX0_exactTotal_L22 N w p0 p1 p2 p3 p4 p5 p6 (p7 + g.toInt64 * s) (p9 + 1))
  else (if (lg_cmp s (-1 : Int64)) = 0 then fX0_exactTotal_L22 N w p0 p1 p2 p3 p4 p5 g p7 (p9 + 1) else fX0_exactTotal_L22 N w p0 p1 p2 p3 p4 p5 p6 (p7 + g.toInt64 * s) (p9 + 1))
section TOT
variable {x : XS} {m : MS} {fl : List xmE} {k : Nat} {F : FM}
theorem x_exL (hF : XF fl k F) (hv : VF F) {mode : Nat} {p1 p2 : Option Nat} {t : Nat → Int × Bool} (ht : TOK F t) {len den : Nat} {mz : Bool} (hlen : len ≤ 16)
    (hstep : ∀ q N E Z, q < len → fX0_exactTotal_L22 (N + 1) (WB x m fl) (some 4) p1 p2 (nI mode) (some k) (nI len) E Z (nI q) = xstep N (WB x m fl) (some 4) p1 p2 (nI mode) (some k) (nI len) E Z (nI q) (lZ (t q).1) (sI (t q).2))
    (hfin : ∀ N e Z, e ≤ 2 → -70368744177664 ≤ Z → Z ≤ 70368744177664 → fX0_exactTotal_L22 (N + 1) (WB x m fl) (some 4) p1 p2 (nI mode) (some k) (nI len) (eI e) (lZ Z) (nI len) = XO x m fl (exS F t den mode mz 0 len e Z)) :
    ∀ (d q N e : Nat) (Z : Int), q + d = len → d < N → e ≤ 2 → -((q : Int) * 4398046511104) ≤ Z → Z ≤ (q : Int) * 4398046511104 → fX0_exactTotal_L22 N (WB x m fl) (some 4) p1 p2 (nI mode) (some k) (nI len) (eI e) (lZ Z) (nI q) = XO x m fl (exS F t den mode mz d q e Z) := by
  intro d
  induction d with
  | zero =>
    intro q N e Z hq hN he h1 h2
    obtain ⟨N, rfl⟩ : ∃ N', N = N' + 1 := ⟨N - 1, by omega⟩
    have : q = len := by omega
    subst this
    exact hfin N e Z he (by omega) (by omega)
  | succ d ih =>
    intro q N e Z hq hN he h1 h2
    obtain ⟨N, rfl⟩ : ∃ N', N = N' + 1 := ⟨N - 1, by omega⟩
    obtain ⟨t1, t2, t3, t4⟩ := ht q
    have hw := hF.w x m
    have lt : LR (t q).1 := ⟨by omega, by omega⟩
    have c2 : (lg_cmp (lZ (t q).1) (-2) = 0) ↔ (t q).1 = -2 := by rw [show (-2 : Int64) = lZ (-2) from rfl]; exact lc_eq lt ⟨by omega, by omega⟩
    have c3 : (lg_cmp (lZ (t q).1) (-3) = 0) ↔ (t q).1 = -3 := by rw [show (-3 : Int64) = lZ (-3) from rfl]; exact lc_eq lt ⟨by omega, by omega⟩
    have c1 : (lg_cmp (lZ (t q).1) (-1) = 0) ↔ (t q).1 = -1 := by rw [show (-1 : Int64) = lZ (-1) from rfl]; exact lc_eq lt ⟨by omega, by omega⟩
    rw [hstep q N _ _ (by omega)]
    unfold xstep exS
    by_cases q2 : (t q).1 = -2
    · rw [if_pos (c2.mpr q2), if_pos q2, x_noneCode hw hv, Option.bind_some]
      unfold XO
      rw [rv_nc (t3 q2)]
      show _ = some (_, WB (xinc x 0 0 0) m fl)
      rw [xinc_0]
    · rw [if_neg (fun p => q2 (c2.mp p)), if_neg q2]
      by_cases q3 : (t q).1 = -3
      · rw [if_pos (c3.mpr q3), if_pos q3, x_invalid hF hv, xmb2_s]; rfl
      · rw [if_neg (fun p => q3 (c3.mp p)), if_neg q3]
        by_cases q1 : (t q).1 = -1
        · rw [if_pos (c1.mpr q1), if_pos q1]
          by_cases qe : e = (if (t q).2 = true then 1 else 2)
          · rw [if_pos ((eI_neg he _).mpr qe), if_pos qe, x_invalid hF hv, xmb2_s]; rfl
          · rw [if_neg (fun p => qe ((eI_neg he _).mp p)), if_neg qe, if_pos (c1.mpr q1), sI_e, nI_1]
            exact ih (q + 1) N _ Z (by omega) (by omega) (by split <;> omega) (by omega) (by omega)
        · rw [if_neg (fun p => q1 (c1.mp p)), if_neg (fun p => q1 (c1.mp p)), if_neg q1, sI_mul, lZ_add, nI_1]
          have hs : -4398046511104 ≤ sz (t q).2 (t q).1 ∧ sz (t q).2 (t q).1 ≤ 4398046511104 := by unfold sz; split <;> omega
          exact ih (q + 1) N e _ (by omega) (by omega) he (by omega) (by omega)
theorem x_L256 (hF : XF fl k F) (hv : VF F) {mode den : Nat} (hm : mode ≤ 5) (hden : den ≤ 2097152) {Z : Int} (hZ : Z ≠ 0) (h1 : -70368744177664 ≤ Z) (h2 : Z ≤ 70368744177664) (mz : Bool) : fX0_exactTotal_L256 (WB x m fl) (some 4) (nI mode) (some k) (lZ Z) (lZ (den : Int)) = XO x m fl (frS F Z den mode mz) := by
  have lz : LR Z := ⟨by omega, by omega⟩
  unfold fX0_exactTotal_L256
  rw [x_rz hF hv hZ ⟨by omega, by omega⟩ hden hm mz (lZ_neg0 lz) (lZ_abs lz), xmb2_s]
  rfl
theorem x_exF (hF : XF fl k F) (hv : VF F) {mode : Nat} (hm : mode ≤ 5) {p1 p2 : Option Nat} (t : Nat → Int × Bool) {len den : Nat} (hlen : len ≤ 16) (hden : den ≤ 2097152)
    (hend : ∀ Z, (if p2 = none then fX0_exactTotal_L256 (WB x m fl) (some 4) (nI mode) (some k) (lZ Z) 1 else (fX1_scale (WB x m fl) (some k)).bind fun v5 => fX0_exactTotal_L256 (WB x m fl) (some 4) (nI mode) (some k) (lZ Z) ((1 : Int64) <<< ((v5).toInt64 &&& 63))) = fX0_exactTotal_L256 (WB x m fl) (some 4) (nI mode) (some k) (lZ Z) (lZ (den : Int))) (N e : Nat) (Z : Int) (he : e ≤ 2) (h1 : -70368744177664 ≤ Z) (h2 : Z ≤ 70368744177664) :
    fX0_exactTotal_L22 (N + 1) (WB x m fl) (some 4) p1 p2 (nI mode) (some k) (nI len) (eI e) (lZ Z) (nI len) = XO x m fl (exS F t den mode (decide (0 < len) && eq3 mode) 0 len e Z) := by
  have hw := hF.w x m
  have lz : LR Z := ⟨by omega, by omega⟩
  have cz : (lg_cmp (lZ Z) 0 = 0) ↔ Z = 0 := by rw [show (0 : Int64) = lZ 0 from rfl]; exact lc_eq lz ⟨by omega, by omega⟩
  have ws : ∀ b : Bool, fX1_withSign (WB x m fl) (some k) (bI b) 0 = some (nI (sg F b 0)) := fun b => x_withSign hw hv b (fP_pos F)
  have hx3 : (if nI mode = 3 then (1 : Int32) else 0) = bI (eq3 mode) := by
    simp only [nI_3' (show mode < 2 ^ 31 by omega)]; rw [bI_if]; rfl
  rw [fX0_exactTotal_L22, if_pos (nI_le (Nat.le_refl _) (by omega))]
  unfold exS
  by_cases e0 : e = 0
  · rw [if_pos ((eI_0 he).mpr e0), if_neg (show ¬ e = 1 by omega), if_neg (show ¬ e = 2 by omega)]
    by_cases q : Z = 0
    · rw [if_pos (cz.mpr q), frS_sg _ _ _ q]
      by_cases l0 : len = 0
      · rw [if_pos ((nI_le0 (by omega)).mpr l0), show (0 : Int32) = bI false from rfl, show fX1_withSign (WB x m fl) (some k) (bI false) (bI false) = some (nI (sg F false 0)) from ws false, Option.bind_some, decide_eq_false (show ¬ 0 < len by omega), Bool.false_and]
        exact XO.ok _
      · rw [if_neg (fun p => l0 ((nI_le0 (by omega)).mp p)), hx3, ws, Option.bind_some, decide_eq_true (show 0 < len by omega), Bool.true_and]
        exact XO.ok _
    · rw [if_neg (fun p => q (cz.mp p)), hend, x_L256 hF hv hm hden q h1 h2 (decide (0 < len) && eq3 mode)]
  · rw [if_neg (fun p => e0 ((eI_0 he).mp p))]
    by_cases e1 : e = 1
    · subst e1
      rw [if_pos rfl, if_pos (show (0 : Int32) ≤ eI 1 by decide), show fX1_beyond (WB x m fl) (some k) 0 = some (nI (bey F false)) from x_beyond hw hv false, Option.bind_some]
      exact XO.ok _
    · have e2 : e = 2 := by omega
      subst e2
      rw [if_neg (show ¬ (2 : Nat) = 1 by omega), if_pos rfl, if_neg (show ¬ (0 : Int32) ≤ eI 2 by decide), show fX1_beyond (WB x m fl) (some k) 1 = some (nI (bey F true)) from x_beyond hw hv true, Option.bind_some]
      exact XO.ok _
end TOT
section TOT2
variable {n : Nat} {Fs : Nat → FM} {x : XS} {m : MS} {fl : List xmE}
theorem x_sumE {i f k len : Nat} {cs : Nat → Nat} (hR : RR Fs x m fl i f k len cs) {mode : Nat} (hm : mode ≤ 5) (N : Nat) (hN : 16 < N) :
    fX0_exactTotal_L22 N (WB x m fl) (some 4) (some (7 + 2 * i)) none (nI mode) (some k) (nI len) 0 0 0 = XO x m fl (exS (Fs f) (fun q => (siz (Fs f) (cs q), ng (Fs f) (cs q))) 1 mode (decide (0 < len) && eq3 mode) len 0 0 0) := by
  obtain ⟨hi, hf, h1, h2, h3, h4, h5, h6, h7, h8, h9, h10⟩ := hR
  have hw := h2.w x m
  refine x_exL (den := 1) h2 h4 (TOK.sum h4 cs) h6 (fun q N E Z hq => ?_) (fun N e Z he q1 q2 => x_exF (den := 1) h2 h4 hm _ h6 (by decide) (fun Z => if_pos rfl) N e Z he q1 q2) len 0 N 0 0 (by omega) (by omega) (by omega) (by omega) (by omega)
  have hc := (h9 q (by omega)).1
  have kc := code_lt h4 hc
  rw [fX0_exactTotal_L22, if_neg (nI_ge hq (by omega)), x_codeAt hi (by omega), Option.bind_some, (h9 q (by omega)).2, if_pos rfl, x_sizeOf hw h4 (show cs q < 2 ^ 31 by omega), Option.bind_some, if_pos rfl, x_isMinus hw h4 (show cs q < 2 ^ 31 by omega), Option.bind_some, sI_b]
  rfl
theorem x_dotE {i f k len : Nat} {cs : Nat → Nat} (hR : RR Fs x m fl i f k len cs) {i2 len2 : Nat} {ds : Nat → Nat} (hR2 : RR Fs x m fl i2 f k len2 ds) {mode : Nat} (hm : mode ≤ 5) (L : Nat) (hL1 : L ≤ len) (hL2 : L ≤ len2) (N : Nat) (hN : 16 < N) :
    fX0_exactTotal_L22 N (WB x m fl) (some 4) (some (7 + 2 * i)) (some (7 + 2 * i2)) (nI mode) (some k) (nI L) 0 0 0 = XO x m fl (exS (Fs f) (fun q => (szp (Fs f) (cs q) (ds q), ng (Fs f) (cs q) != ng (Fs f) (ds q))) (2 ^ sc (Fs f)) mode (decide (0 < L) && eq3 mode) L 0 0 0) := by
  obtain ⟨hi, hf, h1, h2, h3, h4, h5, h6, h7, h8, h9, h10⟩ := hR
  obtain ⟨hi', _, _, _, _, _, _, h6', _, _, h9', _⟩ := hR2
  have hw := h2.w x m
  have hsc := sc_le h4
  have hpw := pw20 hsc
  refine x_exL (den := 2 ^ sc (Fs f)) h2 h4 (TOK.dot h4 cs ds) (show L ≤ 16 by omega) (fun q N E Z hq => ?_) (fun N e Z he q1 q2 => x_exF h2 h4 hm _ (by omega) (by omega) (fun Z => ?_) N e Z he q1 q2) L 0 N 0 0 (by omega) (by omega) (by omega) (by omega) (by omega)
  · have hc := (h9 q (by omega)).1
    have kc := code_lt h4 hc
    have hd := (h9' q (by omega)).1
    have kd := code_lt h4 hd
    rw [fX0_exactTotal_L22, if_neg (nI_ge hq (by omega)), x_codeAt hi (by omega), Option.bind_some, (h9 q (by omega)).2, if_neg (by simp), x_codeAt hi' (by omega), Option.bind_some, (h9' q (by omega)).2, x_sizeOfProduct hw h4 (show cs q < 2 ^ 31 by omega) (show ds q < 2 ^ 31 by omega), Option.bind_some, if_neg (by simp), Option.bind_some, x_isMinus hw h4 (show ds q < 2 ^ 31 by omega), Option.bind_some, x_isMinus hw h4 (show cs q < 2 ^ 31 by omega), Option.bind_some, bI_02, sI_b2]
    rfl
  · rw [if_neg (by simp), x_scale hw, Option.bind_some, sl_one _ (by omega), lN_lZ]
theorem x_exSum {i f k len : Nat} {cs : Nat → Nat} (hR : RR Fs x m fl i f k len cs) {mode : Nat} (hm : mode ≤ 5) : fX0_exactTotal (WB x m fl) (some 4) (some (7 + 2 * i)) none (nI mode) = XO x m fl (exS (Fs f) (fun q => (siz (Fs f) (cs q), ng (Fs f) (cs q))) 1 mode (decide (0 < len) && eq3 mode) len 0 0 0) := by
  have h := x_sumE hR hm xmN (by decide)
  obtain ⟨hi, hf, h1, h2, h3, h4, h5, h6, h7, h8, h9, h10⟩ := hR
  unfold fX0_exactTotal fX0_termCount
  rw [o_4, Option.bind_some, g_rf hi, Option.bind_some, if_pos rfl, g_rl hi, Option.bind_some, Option.bind_some, h1, h7, h]
theorem x_exDot {i f k len : Nat} {cs : Nat → Nat} (hR : RR Fs x m fl i f k len cs) {i2 len2 : Nat} {ds : Nat → Nat} (hR2 : RR Fs x m fl i2 f k len2 ds) {mode : Nat} (hm : mode ≤ 5) : fX0_exactTotal (WB x m fl) (some 4) (some (7 + 2 * i)) (some (7 + 2 * i2)) (nI mode) = XO x m fl (exS (Fs f) (fun q => (szp (Fs f) (cs q) (ds q), ng (Fs f) (cs q) != ng (Fs f) (ds q))) (2 ^ sc (Fs f)) mode (decide (0 < (if len2 < len then len2 else len)) && eq3 mode) (if len2 < len then len2 else len) 0 0 0) := by
  have h := x_dotE hR hR2 hm (if len2 < len then len2 else len) (by split <;> omega) (by split <;> omega) xmN (by decide)
  obtain ⟨hi, hf, h1, h2, h3, h4, h5, h6, h7, h8, h9, h10⟩ := hR
  obtain ⟨hi', _, _, _, _, _, _, h6', h7', _, h9', _⟩ := hR2
  have e : (if nI len2 < nI len then nI len2 else nI len) = nI (if len2 < len then len2 else len) := by
    simp only [nI_ltI (show len2 < 2 ^ 31 by omega) (show len < 2 ^ 31 by omega)]
    split <;> rfl
  unfold fX0_exactTotal fX0_termCount
  rw [o_4, Option.bind_some, g_rf hi, Option.bind_some, if_neg (by simp), g_rl hi, Option.bind_some, g_rl hi', Option.bind_some, Option.bind_some, h1, h7, h7', e, h]
end TOT2
