/-! numbers -/
theorem cN_down {P : Nat → Bool} : ∀ {n : Nat}, (∀ a b, a ≤ b → b < n → P b = true → P a = true) → ∀ k, k < n → ((P k = true) ↔ k < cN P n) := by
  intro n
  induction n with
  | zero => intro _ k hk; omega
  | succ n ih =>
    intro hd k hk
    have ih := ih (fun a b h1 h2 => hd a b h1 (by omega))
    have hn := cN_n P n
    unfold cN
    by_cases q : P n = true
    · have e : cN P n = n := by
        rw [cN_low (t := n) (fun j hj => ⟨fun _ => hj, fun _ => hd j n (by omega) (by omega) q⟩)]; omega
      rw [if_pos q, e]
      exact ⟨fun _ => by omega, fun _ => hd k n (by omega) (by omega) q⟩
    · rw [if_neg q, Nat.add_zero]
      by_cases hkn : k = n
      · subst hkn
        exact ⟨fun h => absurd h q, fun h => by omega⟩
      · exact ih k (by omega)
/-- how many sizes are at most that many units -/
def muS (F : FM) (lim : Int) : Nat := cN (fun m => decide ((fM F m : Int) ≤ lim)) (gr F + 1)
theorem mu_le (F : FM) (lim : Int) : muS F lim ≤ gr F + 1 := cN_n _ _
theorem mu_P {F : FM} (hv : VF F) (lim : Int) {i : Nat} (hi : i ≤ gr F) : ((fM F i : Int) ≤ lim) ↔ i < muS F lim := by
  have hg := gr_lt hv
  have h := cN_down (P := fun m => decide ((fM F m : Int) ≤ lim)) (n := gr F + 1) (fun a b h1 h2 h3 => by
    have h4 := fM_le hv h1 (show b < fP F by omega)
    have h5 := of_decide_eq_true h3
    exact decide_eq_true (by omega)) i (by omega)
  rw [decide_eq_true_eq] at h
  exact h
theorem mu_neg {F : FM} {lim : Int} (h : lim < 0) : muS F lim = 0 := cN_false (fun k _ => decide_eq_false (by omega))
theorem x_muL {w : xmW} {k : Nat} {F : FM} (h : w[k]? = some (fmtE F)) (hv : VF F) {lim : Int} (hl : LR lim) {t : Nat} (ht : t ≤ gr F + 1) (hP : ∀ i, i ≤ gr F → (((fM F i : Int) ≤ lim) ↔ i < t)) :
    ∀ (j N c : Nat), j ≤ 8 → j + 2 ≤ N → 1 ≤ c → c ≤ t → t < c + 2 ^ (j + 1) → fX1_magnitudesUpTo_L15 N w (some k) (lZ lim) (nI c) (nI (2 ^ j)) = some (nI t) := by
  have hg := gr_lt hv
  have hp := hv.p
  intro j
  induction j with
  | zero =>
    intro N c _ hN c1 c2 c3
    obtain ⟨N, rfl⟩ : ∃ N', N = N' + 2 := ⟨N - 2, by omega⟩
    rw [fX1_magnitudesUpTo_L15]
    have fin : ∀ c', c' = t → fX1_magnitudesUpTo_L15 (N + 1) w (some k) (lZ lim) (nI c') (nI (2 ^ 0) >>> ((1 : Int32) &&& 31)) = some (nI t) := by
      intro c' he
      rw [fX1_magnitudesUpTo_L15, he]
      rfl
    rw [if_neg (by rw [nI_le0 (by decide)]; decide), x_g6 h]
    simp only [Option.bind_some, nI_add, nI_1, nI_ltI (show gr F + 1 < 2 ^ 31 by omega) (show c + 2 ^ 0 < 2 ^ 31 by omega)]
    by_cases q : gr F + 1 < c + 2 ^ 0
    · rw [if_pos q]; exact fin c (by omega)
    · rw [if_neg q, nI_s1 (by omega), x_um h hv (by omega)]
      have ht2 := fM_top hv (m := c + 2 ^ 0 - 1) (by omega)
      simp only [Option.bind_some, lc_gt (show LR ((fM F (c + 2 ^ 0 - 1) : Nat) : Int) from ⟨by omega, by omega⟩) hl]
      have hq := hP (c + 2 ^ 0 - 1) (by omega)
      by_cases q2 : lim < ((fM F (c + 2 ^ 0 - 1) : Nat) : Int)
      · rw [if_pos q2]; exact fin c (by omega)
      · rw [if_neg q2]; exact fin (c + 2 ^ 0) (by omega)
  | succ j ih =>
    intro N c hj hN c1 c2 c3
    obtain ⟨N, rfl⟩ : ∃ N', N = N' + 1 := ⟨N - 1, by omega⟩
    have hpj : 2 ^ (j + 1) = 2 * 2 ^ j := by rw [Nat.pow_succ]; omega
    have hpj2 : 2 ^ (j + 1 + 1) = 2 * 2 ^ (j + 1) := by rw [Nat.pow_succ]; omega
    have hpb : 2 ^ (j + 1) ≤ 2 ^ 8 := Nat.pow_le_pow_right (by omega) hj
    have hp0 : 0 < 2 ^ j := Nat.two_pow_pos _
    have hsh : nI (2 ^ (j + 1)) >>> ((1 : Int32) &&& 31) = nI (2 ^ j) := by rw [sh_r1 (by omega), hpj, Nat.mul_div_cancel_left _ (by omega)]
    rw [fX1_magnitudesUpTo_L15, hsh]
    rw [if_neg (by rw [nI_le0 (by omega)]; omega), x_g6 h]
    simp only [Option.bind_some, nI_add, nI_1, nI_ltI (show gr F + 1 < 2 ^ 31 by omega) (show c + 2 ^ (j + 1) < 2 ^ 31 by omega)]
    by_cases q : gr F + 1 < c + 2 ^ (j + 1)
    · rw [if_pos q]; exact ih N c (by omega) (by omega) c1 c2 (by omega)
    · rw [if_neg q, nI_s1 (by omega), x_um h hv (by omega)]
      have ht2 := fM_top hv (m := c + 2 ^ (j + 1) - 1) (by omega)
      simp only [Option.bind_some, lc_gt (show LR ((fM F (c + 2 ^ (j + 1) - 1) : Nat) : Int) from ⟨by omega, by omega⟩) hl]
      have hq := hP (c + 2 ^ (j + 1) - 1) (by omega)
      by_cases q2 : lim < ((fM F (c + 2 ^ (j + 1) - 1) : Nat) : Int)
      · rw [if_pos q2]; exact ih N c (by omega) (by omega) c1 c2 (by omega)
      · rw [if_neg q2]; exact ih N (c + 2 ^ (j + 1)) (by omega) (by omega) (by omega) (by omega) (by omega)
theorem x_mu0 {w : xmW} {k : Nat} {F : FM} (h : w[k]? = some (fmtE F)) (hv : VF F) {lim : Int} (hl : LR lim) (h0 : 0 ≤ lim) (N : Nat) (hN : 10 ≤ N) : fX1_magnitudesUpTo_L15 N w (some k) (lZ lim) 1 256 = some (nI (muS F lim)) := by
  have hg := gr_lt hv
  have hp := hv.p
  have hle := mu_le F lim
  have h1 := (mu_P hv lim (i := 0) (Nat.zero_le _)).mp (by rw [fM_0]; omega)
  exact x_muL h hv hl hle (fun i hi => mu_P hv lim hi) 8 N 1 (by omega) (by omega) (Nat.le_refl _) (by omega) (by omega)
theorem x_mu {w : xmW} {k : Nat} {F : FM} (h : w[k]? = some (fmtE F)) (hv : VF F) {lim : Int} (hl : LR lim) : fX1_magnitudesUpTo w (some k) (lZ lim) = some (nI (muS F lim)) := by
  unfold fX1_magnitudesUpTo
  rw [x_ob h, Option.bind_some, show (0 : Int64) = lZ 0 from rfl]
  by_cases h0 : 0 ≤ lim
  · rw [if_pos ((lc_ge hl ⟨by omega, by omega⟩).mpr h0), x_mu0 h hv hl h0 xmN (by decide)]
  · rw [if_neg (fun q => h0 ((lc_ge hl ⟨by omega, by omega⟩).mp q)), mu_neg (by omega)]; rfl
def clz (z : Int) : Int := if (if z < 1099511627776 then z else 1099511627776) < -1099511627776 then -1099511627776 else if z < 1099511627776 then z else 1099511627776
theorem clz_r (z : Int) : -1099511627776 ≤ clz z ∧ clz z ≤ 1099511627776 := by unfold clz; split <;> (try split) <;> omega
def nbS (F : FM) (low high : Int) : Nat := if clz low ≤ clz high then (muS F (clz high) - muS F (clz low - 1)) + (if fS F = 1 then muS F (-clz low) - muS F (-clz high - 1) else 0) else 0
theorem mu_mono {F : FM} {a b : Int} (h : a ≤ b) : muS F a ≤ muS F b := cN_le (fun k _ h1 => decide_eq_true (by have := of_decide_eq_true h1; omega))
theorem x_clz {z : Int} (hz : LR z) : (if (if lZ z < (1099511627776 : Int64) then lZ z else (1099511627776 : Int64)) < (-(1099511627776 : Int64)) then (-(1099511627776 : Int64)) else (if lZ z < (1099511627776 : Int64) then lZ z else (1099511627776 : Int64))) = lZ (clz z) := by
  have t2 : (1099511627776 : Int64) = lZ 1099511627776 := by decide
  have r2 : LR 1099511627776 := ⟨by omega, by omega⟩
  have r1 : LR (-1099511627776) := ⟨by omega, by omega⟩
  rw [t2, lZ_neg]
  simp only [lZ_lt hz r2]
  unfold clz
  by_cases q : z < 1099511627776
  · simp only [if_pos q, lZ_lt hz r1]
    by_cases q2 : z < -1099511627776
    · rw [if_pos q2, if_pos q2]
    · rw [if_neg q2, if_neg q2]
  · simp only [if_neg q, lZ_lt r2 r1]
    rw [if_neg (by omega), if_neg (by omega)]
theorem x_nb {w : xmW} {k : Nat} {F : FM} (h : w[k]? = some (fmtE F)) (hv : VF F) {low high : Int} (hl : LR low) (hh : LR high) : fX1_numbersBetween w (some k) (lZ low) (lZ high) = some (nI (nbS F low high)) := by
  have hS := hv.1
  obtain ⟨a1, a2⟩ := clz_r low
  obtain ⟨b1, b2⟩ := clz_r high
  have one : (1 : Int64) = lZ 1 := rfl
  unfold fX1_numbersBetween
  rw [x_clz hl, x_clz hh, x_ob h, Option.bind_some]
  have c1 : (lg_cmp (lZ (clz low)) (lZ (clz high)) ≤ 0) ↔ clz low ≤ clz high := lc_le ⟨by omega, by omega⟩ ⟨by omega, by omega⟩
  unfold nbS
  by_cases q : clz low ≤ clz high
  · rw [if_pos (c1.mpr q), if_pos q, one, lZ_neg, lZ_neg, lZ_sub, lZ_sub, x_mu h hv ⟨by omega, by omega⟩, Option.bind_some, x_mu h hv ⟨by omega, by omega⟩, Option.bind_some, x_mu h hv ⟨by omega, by omega⟩, Option.bind_some, x_mu h hv ⟨by omega, by omega⟩, Option.bind_some, x_g0 h, Option.bind_some]
    rw [pk_sub (mu_mono (by omega)), pk_sub (mu_mono (by omega)), nI_add]
    simp only [nI_1' (show fS F < 2 ^ 31 by omega)]
    by_cases hs : fS F = 1
    · rw [if_pos hs, if_pos hs]
    · rw [if_neg hs, if_neg hs, Nat.add_zero]
  · rw [if_neg (fun p => q (c1.mp p)), if_neg q]; rfl
def nP (F : FM) (low high : Int) (s : Bool) (m : Nat) : Bool := decide (low ≤ (if s = true then -(fM F m : Int) else (fM F m : Int)) ∧ (if s = true then -(fM F m : Int) else (fM F m : Int)) ≤ high)
theorem nb_cN {F : FM} (hv : VF F) (low high : Int) : cN (fun c => isNu F c && decide (low ≤ uz F c ∧ uz F c ≤ high)) (2 ^ bits F) = nbS F low high := by
  have hg := gr_lt hv
  have e : ∀ c, c < 2 ^ bits F → (isNu F c && decide (low ≤ uz F c ∧ uz F c ≤ high)) = (isNu F c && nP F low high (ng F c) (mg F c)) := fun c _ => rfl
  rw [cN_congr e, cN_codes hv (nP F low high)]
  have cz : ∀ z u : Int, -2097152 ≤ u → u ≤ 2097152 → ((z ≤ u ↔ clz z ≤ u) ∧ (u ≤ z ↔ u ≤ clz z)) := by
    intro z u h1 h2
    unfold clz
    constructor
    · split
      · split at * <;> omega
      · split at * <;> omega
    · split
      · split at * <;> omega
      · split at * <;> omega
  unfold nbS
  have top : ∀ m, m < gr F + 1 → fM F m < 2097152 := fun m hm => fM_top hv (by omega)
  by_cases q : clz low ≤ clz high
  · rw [if_pos q]
    have A : cN (nP F low high false) (gr F + 1) + muS F (clz low - 1) = muS F (clz high) := by
      refine cN_sum (fun m hm => ?_)
      have ht := top m hm
      obtain ⟨e1, _⟩ := cz low (fM F m) (by omega) (by omega)
      obtain ⟨_, e2⟩ := cz high (fM F m) (by omega) (by omega)
      simp only [nP, Bool.false_eq_true, if_false, decide_eq_true_eq, e1, e2]
      by_cases p1 : (fM F m : Int) ≤ clz low - 1
      · rw [if_neg (by omega), if_pos p1, if_pos (by omega)]
      · by_cases p2 : (fM F m : Int) ≤ clz high
        · rw [if_pos (by omega), if_neg p1, if_pos p2]
        · rw [if_neg (by omega), if_neg p1, if_neg p2]
    have B : cN (nP F low high true) (gr F + 1) + muS F (-clz high - 1) = muS F (-clz low) := by
      refine cN_sum (fun m hm => ?_)
      have ht := top m hm
      obtain ⟨e1, _⟩ := cz low (-(fM F m : Int)) (by omega) (by omega)
      obtain ⟨_, e2⟩ := cz high (-(fM F m : Int)) (by omega) (by omega)
      simp only [nP, if_true, decide_eq_true_eq, e1, e2]
      by_cases p1 : (fM F m : Int) ≤ -clz high - 1
      · rw [if_neg (by omega), if_pos p1, if_pos (by omega)]
      · by_cases p2 : (fM F m : Int) ≤ -clz low
        · rw [if_pos (by omega), if_neg p1, if_pos p2]
        · rw [if_neg (by omega), if_neg p1, if_neg p2]
    by_cases hs : fS F = 1
    · rw [if_pos hs, if_pos hs]
      omega
    · rw [if_neg hs, if_neg hs]
      omega
  · rw [if_neg q]
    have A : ∀ s : Bool, cN (nP F low high s) (gr F + 1) = 0 := by
      intro s
      refine cN_false (fun m hm => decide_eq_false ?_)
      have ht := top m hm
      have hb : -2097152 ≤ (if s = true then -(fM F m : Int) else (fM F m : Int)) ∧ (if s = true then -(fM F m : Int) else (fM F m : Int)) ≤ 2097152 := by split <;> omega
      obtain ⟨e1, _⟩ := cz low _ hb.1 hb.2
      obtain ⟨_, e2⟩ := cz high _ hb.1 hb.2
      rw [e1, e2]
      omega
    rw [A, A]
    split <;> rfl
section NUM
variable {n : Nat} {Fs : Nat → FM} {x : XS} {m : MS} {fl : List xmE}
theorem m_numL {j : Nat} {F : FM} (hM : MA m j F) (hv : VF F) {low high : Int} (hl : LR low) (hh : LR high) : ∀ (d c N acc : Nat), c + d = 2 ^ bits F → d < N → fX5_numbers_L20 N (WB x m fl) (some 15) (nI j) (lZ low) (lZ high) (nI acc) (nI c) = some (nI (acc + cN (fun k => isNu F (c + k) && decide (low ≤ uz F (c + k) ∧ uz F (c + k) ≤ high)) d), WB x (mset m 17 0) fl) := by
  obtain ⟨b1, b2, b3⟩ := bits_lt hv
  have hG := hM.g x fl
  intro d
  induction d with
  | zero =>
    intro c N acc hc hN
    obtain ⟨N, rfl⟩ : ∃ N', N = N' + 1 := ⟨N - 1, by omega⟩
    rw [fX5_numbers_L20, m_bits hG, Option.bind_some, sh_one _ b1, if_pos (by rw [nI_leI (by omega) (by omega)]; omega), m_fin, xmb2_s]
    rfl
  | succ d ih =>
    intro c N acc hc hN
    obtain ⟨N, rfl⟩ : ∃ N', N = N' + 1 := ⟨N - 1, by omega⟩
    have hcb : c < 2 ^ bits F := by omega
    rw [fX5_numbers_L20, m_bits hG, Option.bind_some, sh_one _ b1, if_neg (by rw [nI_leI (by omega) (by omega)]; omega), m_isNumber hG hv (show c < 2 ^ 31 by omega), Option.bind_some]
    have fr := cN_front (fun k => isNu F k && decide (low ≤ uz F k ∧ uz F k ≤ high)) c d
    cases hn : isNu F c with
    | false =>
      rw [if_pos (show bI false = 0 from rfl), show nI acc + 0 = nI acc from Int32.add_zero _, nI_1, ih (c + 1) N _ (by omega) (by omega), fr, hn, Bool.false_and, if_neg (by decide), Nat.zero_add]
    | true =>
      have hu : LR (uz F c) := by
        have ht := fM_top hv (mg_lt F c)
        unfold uz LR
        split <;> omega
      rw [if_neg (by decide), m_unitsOf hG hv hcb, Option.bind_some, m_in hu hl hh, Option.bind_some, bI_02, nI_1]
      have e : nI acc + bI (decide (low ≤ uz F c ∧ uz F c ≤ high)) = nI (acc + (if decide (low ≤ uz F c ∧ uz F c ≤ high) = true then 1 else 0)) := by
        cases decide (low ≤ uz F c ∧ uz F c ≤ high) with
        | true => exact nI_add acc 1
        | false => exact nI_add acc 0
      rw [e, ih (c + 1) N _ (by omega) (by omega), fr, hn, Bool.true_and, Nat.add_assoc]
theorem m_num0 {j : Nat} {F : FM} (hM : MA m j F) (hv : VF F) {low high : Int} (hl : LR low) (hh : LR high) (N : Nat) (hN : 1024 < N) : fX5_numbers_L20 N (WB x m fl) (some 15) (nI j) (lZ low) (lZ high) 0 0 = some (nI (nbS F low high), WB x (mset m 17 0) fl) := by
  have hb3 := bits_lt hv
  have h := m_numL (x := x) (fl := fl) hM hv hl hh (2 ^ bits F) 0 N 0 (Nat.zero_add _) (by omega)
  rw [Nat.zero_add, cN_congr (Q := fun c => isNu F c && decide (low ≤ uz F c ∧ uz F c ≤ high)) (fun k _ => by rw [Nat.zero_add]), nb_cN hv] at h
  exact h
theorem pr_numbers (h : IW n Fs x m fl) (a1 : Int32) (a2 a3 : Int64) : Pair (fX4_numbers (WB x m fl) (some 0) a1 a2 a3) m (fun w => fX5_numbers w (some 15) a1 a2 a3) := by
  obtain ⟨p, hp, rfl⟩ := lZ_of a2
  obtain ⟨q, hq, rfl⟩ := lZ_of a3
  rcases f_spl h.1 a1 with ⟨i, k, hi, hi10, rfl, hk, hF, hM, hv, e1, e2⟩ | ⟨e1, e2⟩
  · have e2 := fun x' fl' => e2 x' m fl' rfl
    refine Pair.ans h (nI (nbS (Fs i) p q)) ?_ ?_
    · simp only [fX4_numbers, o_0, e1, Option.bind_some, reduceCtorEq, if_false, x_nb (hF.w x m) hv hp hq, x_ans, xmb2_id]
    · show fX5_numbers _ _ _ _ _ = _
      unfold fX5_numbers
      rw [o_15, Option.bind_some, e2, Option.bind_some, if_neg (show ¬ (1 : Int32) = 0 by decide), m_num0 hM hv hp hq xmN (by decide)]
  · have e2 := fun x' fl' => e2 x' m fl' rfl
    refine Pair.ref h (-1) (by simp only [fX4_numbers, o_0, e1, Option.bind_some, if_true, x_ref, xmb2_id]) ?_
    show fX5_numbers _ _ _ _ _ = _
    unfold fX5_numbers
    rw [o_15, Option.bind_some, e2, Option.bind_some, if_pos rfl, m_ref, xmb2_s]
end NUM
