/-! packed -/
def stC (b P R c i : Nat) : Nat := if 8 * P ≤ i * b then (if i * b < 8 * P + 8 then R ||| (c * 2 ^ (i * b - 8 * P)) else R) else (if 8 * P < i * b + b then R ||| (c / 2 ^ (8 * P - i * b)) else R)
def byC (b P : Nat) (cs : Nat → Nat) : Nat → Nat → Nat → Nat
  | 0, _, R => R
  | d + 1, i, R => byC b P cs d (i + 1) (stC b P R (cs i) i)
def byR (b P all : Nat) (cs : Nat → Nat) : Nat → Nat → Nat → Nat
  | 0, _, B => B
  | d + 1, k, B => byR b P all cs d (k + 1) (if 8 * P + k < all then B ||| (cs ((8 * P + k) / b) / 2 ^ ((8 * P + k) % b) % 2 * 2 ^ k) else B)
def qB (b P : Nat) (cs : Nat → Nat) (t i : Nat) : Bool := decide (i * b ≤ 8 * P + t) && (cs i).testBit (8 * P + t - i * b)
def anyB (b P : Nat) (cs : Nat → Nat) (t : Nat) : Nat → Nat → Bool
  | 0, _ => false
  | d + 1, i => qB b P cs t i || anyB b P cs t d (i + 1)
def rB (b P all : Nat) (cs : Nat → Nat) (t : Nat) : Bool := decide (8 * P + t < all) && (cs ((8 * P + t) / b)).testBit ((8 * P + t) % b)
theorem stC_bit {b P R c i t : Nat} (ht : t < 8) (hc : c < 2 ^ b) : (stC b P R c i).testBit t = (R.testBit t || (decide (i * b ≤ 8 * P + t) && c.testBit (8 * P + t - i * b))) := by
  unfold stC
  by_cases h1 : 8 * P ≤ i * b
  · rw [if_pos h1]
    by_cases h2 : i * b < 8 * P + 8
    · rw [if_pos h2, Nat.testBit_or, Nat.testBit_mul_two_pow]
      congr 1
      by_cases h3 : i * b ≤ 8 * P + t
      · rw [decide_eq_true h3, decide_eq_true (show i * b - 8 * P ≤ t by omega), show t - (i * b - 8 * P) = 8 * P + t - i * b by omega]
      · rw [decide_eq_false h3, decide_eq_false (show ¬ i * b - 8 * P ≤ t by omega), Bool.false_and, Bool.false_and]
    · rw [if_neg h2, decide_eq_false (show ¬ i * b ≤ 8 * P + t by omega), Bool.false_and, Bool.or_false]
  · rw [if_neg h1, decide_eq_true (show i * b ≤ 8 * P + t by omega), Bool.true_and]
    by_cases h2 : 8 * P < i * b + b
    · rw [if_pos h2, Nat.testBit_or, Nat.testBit_div_two_pow, show t + (8 * P - i * b) = 8 * P + t - i * b by omega]
    · have hz : c.testBit (8 * P + t - i * b) = false := Nat.testBit_lt_two_pow (Nat.lt_of_lt_of_le hc (Nat.pow_le_pow_right (by omega) (by omega)))
      rw [if_neg h2, hz, Bool.or_false]
theorem byC_bit {b P t : Nat} {cs : Nat → Nat} {len : Nat} (ht : t < 8) (hc : ∀ q, q < len → cs q < 2 ^ b) : ∀ (d i R : Nat), i + d = len → (byC b P cs d i R).testBit t = (R.testBit t || anyB b P cs t d i) := by
  intro d
  induction d with
  | zero => intro i R _; show R.testBit t = (R.testBit t || false); rw [Bool.or_false]
  | succ d ih =>
    intro i R hi
    show (byC b P cs d (i + 1) (stC b P R (cs i) i)).testBit t = (R.testBit t || (qB b P cs t i || anyB b P cs t d (i + 1)))
    rw [ih (i + 1) _ (by omega), stC_bit ht (hc i (by omega)), Bool.or_assoc]
    rfl
theorem anyB_iff {b P t : Nat} {cs : Nat → Nat} : ∀ (d i : Nat), (anyB b P cs t d i = true) ↔ ∃ j, i ≤ j ∧ j < i + d ∧ qB b P cs t j = true := by
  intro d
  induction d with
  | zero =>
    intro i
    constructor
    · intro h; cases h
    · rintro ⟨j, h1, h2, _⟩; omega
  | succ d ih =>
    intro i
    show ((qB b P cs t i || anyB b P cs t d (i + 1)) = true) ↔ _
    rw [Bool.or_eq_true, ih (i + 1)]
    constructor
    · rintro (h | ⟨j, h1, h2, h3⟩)
      · exact ⟨i, Nat.le_refl _, by omega, h⟩
      · exact ⟨j, by omega, by omega, h3⟩
    · rintro ⟨j, h1, h2, h3⟩
      by_cases hj : j = i
      · subst hj; exact Or.inl h3
      · exact Or.inr ⟨j, by omega, by omega, h3⟩
theorem byR_bit {b P all : Nat} {cs : Nat → Nat} : ∀ (d k B : Nat), k + d = 8 → B < 2 ^ k → byR b P all cs d k B < 2 ^ 8 ∧ ∀ t, t < 8 → (byR b P all cs d k B).testBit t = (B.testBit t || (decide (k ≤ t) && rB b P all cs t)) := by
  intro d
  induction d with
  | zero =>
    intro k B hk hB
    have hk8 : k = 8 := by omega
    subst hk8
    refine ⟨hB, fun t ht => ?_⟩
    show B.testBit t = _
    rw [decide_eq_false (show ¬ 8 ≤ t by omega), Bool.false_and, Bool.or_false]
  | succ d ih =>
    intro k B hk hB
    have hB1 : B < 2 ^ (k + 1) := Nat.lt_of_lt_of_le hB (Nat.pow_le_pow_right (by omega) (by omega))
    have hv : ∀ v : Nat, v % 2 * 2 ^ k < 2 ^ (k + 1) := fun v => by
      have h1 : v % 2 ≤ 1 := by omega
      have h2 : v % 2 * 2 ^ k ≤ 1 * 2 ^ k := Nat.mul_le_mul_right _ h1
      have h3 : 0 < 2 ^ k := Nat.two_pow_pos _
      rw [Nat.pow_succ]; omega
    have hBn : (if 8 * P + k < all then B ||| (cs ((8 * P + k) / b) / 2 ^ ((8 * P + k) % b) % 2 * 2 ^ k) else B) < 2 ^ (k + 1) := by
      by_cases h : 8 * P + k < all
      · rw [if_pos h]; exact Nat.or_lt_two_pow hB1 (hv _)
      · rw [if_neg h]; exact hB1
    obtain ⟨g1, g2⟩ := ih (k + 1) _ (by omega) hBn
    refine ⟨g1, fun t ht => ?_⟩
    show (byR b P all cs d (k + 1) _).testBit t = _
    rw [g2 t ht]
    have hbit : ∀ v : Nat, (v % 2 * 2 ^ k).testBit t = (decide (k = t) && v.testBit 0) := by
      intro v
      rw [Nat.testBit_mul_two_pow]
      by_cases h : k ≤ t
      · rw [decide_eq_true h, Bool.true_and, show v % 2 = v % 2 ^ 1 from rfl, Nat.testBit_mod_two_pow]
        by_cases h2 : k = t
        · rw [decide_eq_true h2, decide_eq_true (show t - k < 1 by omega), show t - k = 0 by omega]
        · rw [decide_eq_false h2, decide_eq_false (show ¬ t - k < 1 by omega), Bool.false_and, Bool.false_and]
      · rw [decide_eq_false h, decide_eq_false (show ¬ k = t by omega), Bool.false_and, Bool.false_and]
    have hstep : (if 8 * P + k < all then B ||| (cs ((8 * P + k) / b) / 2 ^ ((8 * P + k) % b) % 2 * 2 ^ k) else B).testBit t = (B.testBit t || (decide (k = t) && rB b P all cs t)) := by
      by_cases h : 8 * P + k < all
      · rw [if_pos h, Nat.testBit_or, hbit, Nat.testBit_div_two_pow, Nat.zero_add]
        by_cases h2 : k = t
        · subst h2
          unfold rB
          rw [decide_eq_true h, Bool.true_and]
        · rw [decide_eq_false h2, Bool.false_and, Bool.false_and]
      · rw [if_neg h]
        by_cases h2 : k = t
        · subst h2
          unfold rB
          rw [decide_eq_false h, Bool.false_and, Bool.and_false, Bool.or_false]
        · rw [decide_eq_false h2, Bool.false_and, Bool.or_false]
    rw [hstep, Bool.or_assoc]
    congr 1
    by_cases h2 : k = t
    · subst h2
      rw [decide_eq_true rfl, decide_eq_false (show ¬ k + 1 ≤ k by omega), decide_eq_true (Nat.le_refl k), Bool.false_and, Bool.or_false]
    · by_cases h3 : k ≤ t
      · rw [decide_eq_false h2, decide_eq_true (show k + 1 ≤ t by omega), decide_eq_true h3, Bool.false_and, Bool.false_or]
      · rw [decide_eq_false h2, decide_eq_false (show ¬ k + 1 ≤ t by omega), decide_eq_false h3, Bool.false_and, Bool.false_or]
theorem any_r {b P len t : Nat} {cs : Nat → Nat} (hb : 0 < b) (hc : ∀ q, q < len → cs q < 2 ^ b) : anyB b P cs t len 0 = rB b P (b * len) cs t := by
  rw [Bool.eq_iff_iff, anyB_iff]
  unfold rB qB
  simp only [Bool.and_eq_true, decide_eq_true_eq]
  have hdm := Nat.div_add_mod (8 * P + t) b
  have hml := Nat.mod_lt (8 * P + t) hb
  constructor
  · rintro ⟨j, h1, h2, h3, h4⟩
    have hlt : 8 * P + t - j * b < b := by
      by_cases q : 8 * P + t - j * b < b
      · exact q
      · exfalso
        rw [Nat.testBit_lt_two_pow (Nat.lt_of_lt_of_le (hc j (by omega)) (Nat.pow_le_pow_right (by omega) (Nat.not_lt.mp q)))] at h4
        cases h4
    have hj : (8 * P + t) / b = j := by
      rw [Nat.div_eq_iff hb]
      have := Nat.mul_comm j b
      constructor
      · omega
      · omega
    have hmj : (8 * P + t) % b = 8 * P + t - j * b := by
      rw [hj] at hdm
      have := Nat.mul_comm j b
      omega
    refine ⟨?_, ?_⟩
    · have h5 : (j + 1) * b ≤ len * b := Nat.mul_le_mul_right _ (by omega)
      rw [Nat.add_mul, Nat.one_mul] at h5
      rw [Nat.mul_comm b len]
      omega
    · rw [hj, hmj]; exact h4
  · rintro ⟨h1, h2⟩
    have hq : (8 * P + t) / b < len := Nat.div_lt_of_lt_mul h1
    refine ⟨(8 * P + t) / b, Nat.zero_le _, by omega, ?_, ?_⟩
    · rw [Nat.mul_comm]; omega
    · rw [Nat.mul_comm ((8 * P + t) / b) b, show 8 * P + t - b * ((8 * P + t) / b) = (8 * P + t) % b by omega]; exact h2
theorem by_eq {b P len : Nat} {cs : Nat → Nat} (hb : 0 < b) (hc : ∀ q, q < len → cs q < 2 ^ b) : byC b P cs len 0 0 % 256 = byR b P (b * len) cs 8 0 0 := by
  obtain ⟨g1, g2⟩ := byR_bit (b := b) (P := P) (all := b * len) (cs := cs) 8 0 0 rfl (by decide)
  apply Nat.eq_of_testBit_eq
  intro t
  rw [show (256 : Nat) = 2 ^ 8 from rfl, Nat.testBit_mod_two_pow]
  by_cases ht : t < 8
  · rw [decide_eq_true ht, Bool.true_and, byC_bit ht hc len 0 0 (Nat.zero_add _), g2 t ht, any_r hb hc, decide_eq_true (Nat.zero_le t), Bool.true_and]
  · rw [decide_eq_false ht, Bool.false_and]
    exact (Nat.testBit_lt_two_pow (Nat.lt_of_lt_of_le g1 (Nat.pow_le_pow_right (by omega) (by omega)))).symm
theorem stC_lt {b P R c i : Nat} (hR : R < 2 ^ 18) (hc : c < 2 ^ 10) : stC b P R c i < 2 ^ 18 := by
  unfold stC
  by_cases h1 : 8 * P ≤ i * b
  · rw [if_pos h1]
    by_cases h2 : i * b < 8 * P + 8
    · rw [if_pos h2]
      refine Nat.or_lt_two_pow hR ?_
      have h3 : 2 ^ (i * b - 8 * P) ≤ 2 ^ 7 := Nat.pow_le_pow_right (by omega) (by omega)
      have h4 : c * 2 ^ (i * b - 8 * P) ≤ 1023 * 2 ^ 7 := Nat.mul_le_mul (by omega) h3
      omega
    · rw [if_neg h2]; exact hR
  · rw [if_neg h1]
    by_cases h2 : 8 * P < i * b + b
    · rw [if_pos h2]
      refine Nat.or_lt_two_pow hR ?_
      have := Nat.div_le_self c (2 ^ (8 * P - i * b))
      omega
    · rw [if_neg h2]; exact hR
section PK
variable {n : Nat} {Fs : Nat → FM} {x : XS} {m : MS} {fl : List xmE}
theorem bits_r {F : FM} (hv : VF F) : 3 ≤ bits F ∧ bits F ≤ 10 := by
  obtain ⟨h1, h2, h3, h4, h5, h6, h7⟩ := hv
  unfold bits
  omega
theorem x_byL {r f k len : Nat} {cs : Nat → Nat} (hR : RR Fs x m fl r f k len cs) {P : Nat} (hP : P < 32) : ∀ (d i N R : Nat), i + d = len → d < N → R < 2 ^ 18 → fX2_byteAt_L4 N (WB x m fl) (some (7 + 2 * r)) (nI P) (nI R) (nI i) = some (nI (byC (bits (Fs f)) P cs d i R % 256)) := by
  obtain ⟨hi, hf, h1, h2, h3, h4, h5, h6, h7, h8, h9, h10⟩ := hR
  obtain ⟨b1, b2⟩ := bits_r h4
  have hbits := x_bits (h2.w x m)
  intro d
  induction d with
  | zero =>
    intro i N R hq hN hRR
    obtain ⟨N, rfl⟩ : ∃ N', N = N' + 1 := ⟨N - 1, by omega⟩
    rw [fX2_byteAt_L4, g_rl hi, Option.bind_some, h7, if_pos (nI_le (by omega) (by omega)), pk_andN (by omega) 8 (by decide)]
    rfl
  | succ d ih =>
    intro i N R hq hN hRR
    obtain ⟨N, rfl⟩ : ∃ N', N = N' + 1 := ⟨N - 1, by omega⟩
    have hc := (h9 i (by omega)).1
    have kc := code_lt h4 hc
    have hcode := (h9 i (by omega)).2
    have hib : i * bits (Fs f) ≤ 15 * 10 := Nat.mul_le_mul (by omega) b2
    generalize hB : bits (Fs f) = b at *
    have hsh : nI i * nI b - (8 : Int32) * nI P = iZ (((i * b : Nat) : Int) - ((8 * P : Nat) : Int)) := by
      rw [show (8 : Int32) = nI 8 from rfl, pk_mul, pk_mul, nI_iZ, nI_iZ, iZ_sub]
    have ir : IR (((i * b : Nat) : Int) - ((8 * P : Nat) : Int)) := ⟨by omega, by omega⟩
    have c1 : (iZ (((i * b : Nat) : Int) - ((8 * P : Nat) : Int)) < 0) ↔ i * b < 8 * P := by rw [show (0 : Int32) = iZ 0 from rfl, iZ_lt ir ⟨by omega, by omega⟩]; omega
    have c2 : ((0 : Int32) ≤ iZ (((i * b : Nat) : Int) - ((8 * P : Nat) : Int))) ↔ 8 * P ≤ i * b := by rw [show (0 : Int32) = iZ 0 from rfl, iZ_le ⟨by omega, by omega⟩ ir]; omega
    have c3 : (iZ (((i * b : Nat) : Int) - ((8 * P : Nat) : Int)) ≤ -nI b) ↔ i * b + b ≤ 8 * P := by rw [nI_iZ, iZ_neg, iZ_le ir ⟨by omega, by omega⟩]; omega
    have c4 : ((8 : Int32) ≤ iZ (((i * b : Nat) : Int) - ((8 * P : Nat) : Int))) ↔ 8 * P + 8 ≤ i * b := by rw [show (8 : Int32) = iZ 8 from rfl, iZ_le ⟨by omega, by omega⟩ ir]; omega
    have nx := ih (i + 1) N (stC b P R (cs i) i) (by omega) (by omega) (stC_lt hRR (by omega))
    rw [fX2_byteAt_L4, g_rl hi, Option.bind_some, h7, if_neg (nI_ge (by omega) (by omega)), g_rf hi, Option.bind_some, h1, hbits, Option.bind_some, hsh, nI_1]
    show _ = some (nI (byC b P cs d (i + 1) (stC b P R (cs i) i) % 256))
    rw [← nx]
    unfold stC
    by_cases q1 : 8 * P ≤ i * b
    · rw [if_neg (fun t => by have := c1.mp t; omega), if_pos q1]
      by_cases q2 : i * b < 8 * P + 8
      · have e1 : iZ (((i * b : Nat) : Int) - ((8 * P : Nat) : Int)) = nI (i * b - 8 * P) := by rw [nI_iZ]; congr 1; omega
        have h3' : 2 ^ (i * b - 8 * P) ≤ 2 ^ 7 := Nat.pow_le_pow_right (by omega) (by omega)
        have h4' : cs i * 2 ^ (i * b - 8 * P) ≤ 1023 * 2 ^ 7 := Nat.mul_le_mul (by omega) h3'
        rw [if_neg (fun t => by have := c4.mp t; omega), x_codeAt hi (by omega), Option.bind_some, hcode, e1, sh_l (by omega) (by omega), or_nI, if_pos q2]
      · rw [if_pos (c4.mpr (by omega)), if_pos (c2.mpr q1), if_neg q2]
    · rw [if_pos (c1.mpr (by omega)), if_neg (fun t => q1 (c2.mp t)), if_neg q1, Option.bind_some, hbits, Option.bind_some]
      by_cases q2 : 8 * P < i * b + b
      · have e1 : -iZ (((i * b : Nat) : Int) - ((8 * P : Nat) : Int)) = nI (8 * P - i * b) := by rw [iZ_neg, nI_iZ]; congr 1; omega
        rw [if_neg (fun t => by have := c3.mp t; omega), x_codeAt hi (by omega), Option.bind_some, hcode, e1, sh_r (by omega) (by omega), or_nI, if_pos q2]
      · rw [if_pos (c3.mpr (by omega)), if_neg q2]
theorem m_byL {F : FM} (hv : VF F) {r f len P : Nat} {cs : Nat → Nat} (hr : r < 4) (hlen : len ≤ 16) (hP : P < 32) (hc : ∀ q, q < len → cs q < 2 ^ bits F) (hp : RP F f r len cs m) (x : XS) : ∀ (d k N B : Nat), k + d = 8 → d < N → B < 2 ^ k → fX5_packed_L83 N (WB x m fl) (some 15) (nI r) (nI P) (nI (bits F)) (nI (bits F * len)) (nI B) (nI k) = some (nI (byR (bits F) P (bits F * len) cs d k B), WB x (mset m 17 0) fl) := by
  obtain ⟨b1, b2⟩ := bits_r hv
  have hall : bits F * len ≤ 10 * 16 := Nat.mul_le_mul b2 hlen
  intro d
  induction d with
  | zero =>
    intro k N B hk hN hB
    obtain ⟨N, rfl⟩ : ∃ N', N = N' + 1 := ⟨N - 1, by omega⟩
    rw [fX5_packed_L83, if_pos (by rw [show k = 8 by omega]; decide), m_fin, xmb2_s]
    rfl
  | succ d ih =>
    intro k N B hk hN hB
    obtain ⟨N, rfl⟩ : ∃ N', N = N' + 1 := ⟨N - 1, by omega⟩
    have hB1 : B < 2 ^ (k + 1) := Nat.lt_of_lt_of_le hB (Nat.pow_le_pow_right (by omega) (by omega))
    have e8 : ¬ (8 : Int32) ≤ nI k := by rw [show (8 : Int32) = nI 8 from rfl, nI_leI (by omega) (by omega)]; omega
    have hj : (8 : Int32) * nI P + nI k = nI (8 * P + k) := by rw [show (8 : Int32) = nI 8 from rfl, pk_mul, nI_add]
    have hk7 : 2 ^ k ≤ 2 ^ 7 := Nat.pow_le_pow_right (by omega) (by omega)
    rw [fX5_packed_L83, if_neg e8, hj, nI_1]
    show _ = some (nI (byR (bits F) P (bits F * len) cs d (k + 1) _), _)
    by_cases q : 8 * P + k < bits F * len
    · have hdl : (8 * P + k) / bits F < len := Nat.div_lt_of_lt_mul q
      have hml := Nat.mod_lt (8 * P + k) (show 0 < bits F by omega)
      have hcq := hc _ hdl
      have kc := code_lt hv hcq
      have nb0 : ¬ nI (bits F) = 0 := by rw [nI_0' (by omega)]; omega
      have hdv : cs ((8 * P + k) / bits F) / 2 ^ ((8 * P + k) % bits F) ≤ 1023 := Nat.le_trans (Nat.div_le_self _ _) (by omega)
      have hv2 : cs ((8 * P + k) / bits F) / 2 ^ ((8 * P + k) % bits F) % 2 * 2 ^ k ≤ 1 * 2 ^ k := Nat.mul_le_mul_right _ (by omega)
      have hv3 : cs ((8 * P + k) / bits F) / 2 ^ ((8 * P + k) % bits F) % 2 * 2 ^ k < 2 ^ (k + 1) := by
        have : 0 < 2 ^ k := Nat.two_pow_pos _
        rw [Nat.pow_succ]; omega
      rw [if_neg (nI_ge q (by omega)), g_15_9, Option.bind_some, if_neg nb0, pk_rem (by omega) (by omega) (by omega), pk_div (by omega) (by omega) (by omega), nI_16, a_24 (show 16 * r + (8 * P + k) / bits F < 64 by omega), Option.bind_some, hp.2.2 _ hdl, if_neg nb0, sh_r (by omega) (by omega), and_1 (by omega), sh_l (by omega) (by omega), or_nI, if_pos q]
      exact ih (k + 1) N _ (by omega) (by omega) (Nat.or_lt_two_pow hB1 hv3)
    · rw [if_pos (nI_le (by omega) (by omega)), if_neg q, show nI B ||| 0 = nI B by rw [show (0 : Int32) = nI 0 from rfl, or_nI, Nat.or_zero]]
      exact ih (k + 1) N B (by omega) (by omega) hB1
theorem x_by0 {r f k len : Nat} {cs : Nat → Nat} (hR : RR Fs x m fl r f k len cs) {P : Nat} (hP : P < 32) (N : Nat) (hN : 16 < N) : fX2_byteAt_L4 N (WB x m fl) (some (7 + 2 * r)) (nI P) 0 0 = some (nI (byC (bits (Fs f)) P cs len 0 0 % 256)) := by
  have hl := hR.2.2.2.2.2.2.2.1
  exact x_byL hR hP len 0 N 0 (Nat.zero_add _) (by omega) (by decide)
theorem m_by0 {F : FM} (hv : VF F) {r f len P : Nat} {cs : Nat → Nat} (hr : r < 4) (hlen : len ≤ 16) (hP : P < 32) (hc : ∀ q, q < len → cs q < 2 ^ bits F) (hp : RP F f r len cs m) (x : XS) (N : Nat) (hN : 16 < N) : fX5_packed_L83 N (WB x m fl) (some 15) (nI r) (nI P) (nI (bits F)) (nI (bits F * len)) 0 0 = some (nI (byR (bits F) P (bits F * len) cs 8 0 0), WB x (mset m 17 0) fl) :=
  m_byL hv hr hlen hP hc hp x 8 0 N 0 rfl (by omega) (by decide)
theorem pr_packed (h : IW n Fs x m fl) (a1 a2 : Int32) : Pair (fX4_packed (WB x m fl) (some 0) a1 a2) m (fun w => fX5_packed w (some 15) a1 a2) := by
  have z1 : ¬ (1 : Int32) = 0 := by decide
  rcases r_spl h a1 with ⟨r, f, k, len, cs, hR, hfn, hk, rfl, e1, e2⟩ | ⟨e1, e2⟩
  · have e2 := fun x' fl' => e2 x' m fl' rfl
    have hR' := hR
    obtain ⟨hi, hf, h1, h2, h3, h4, h5, h6, h7, h8, h9, h10⟩ := hR
    obtain ⟨b1, b2⟩ := bits_r h4
    have hc : ∀ q, q < len → cs q < 2 ^ bits (Fs f) := fun q hq => (h9 q (by omega)).1
    have hall : bits (Fs f) * len ≤ 10 * 16 := Nat.mul_le_mul b2 h6
    have hbc : fX2_byteCount (WB x m fl) (some (7 + 2 * r)) = some (nI ((bits (Fs f) * len + 7) / 8)) := by
      simp only [fX2_byteCount, o_r hi, g_rl hi, h7, g_rf hi, h1, x_bits (h2.w x m), Option.bind_some]
      rw [pk_mul, show (7 : Int32) = nI 7 from rfl, nI_add, show (3 : Int32) = nI 3 from rfl, Nat.mul_comm len, sh_r (by omega) (by omega)]
    have hcm : nI (bits (Fs f)) * nI len = nI (bits (Fs f) * len) := pk_mul _ _
    have hd8 : (nI (bits (Fs f) * len) + 7) / 8 = nI ((bits (Fs f) * len + 7) / 8) := by
      rw [show (7 : Int32) = nI 7 from rfl, nI_add, show (8 : Int32) = nI 8 from rfl, pk_div (by omega) (by omega) (by omega)]
    have hbl : (bits (Fs f) * len + 7) / 8 ≤ 20 := by omega
    have md0 : ∀ x', fX5_packed (WB x' m fl) (some 15) (nI r) a2 = if a2 = -1 then some (nI ((bits (Fs f) * len + 7) / 8), WB x' (mset m 17 0) fl) else (fX5_in (WB x' m fl) a2.toInt64 0 (nI ((bits (Fs f) * len + 7) / 8) - 1).toInt64).bind fun v10 => if v10 = 0 then some (-1, WB x' (mset m 17 (-1)) fl) else fX5_packed_L83 xmN (WB x' m fl) (some 15) (nI r) a2 (nI (bits (Fs f))) (nI (bits (Fs f) * len)) 0 0 := by
      intro x'
      unfold fX5_packed
      rw [o_15, Option.bind_some, e2, Option.bind_some, if_neg z1, g_15_7, Option.bind_some, a_22 hi, Option.bind_some, h5, m_bits (h3.g x' fl), Option.bind_some, g_15_8, Option.bind_some, a_23 hi, Option.bind_some, h8, hcm, hd8, m_fin, xmb2_s, m_ref, xmb2_s]
    obtain ⟨z, hz, rfl⟩ := iZ_of a2
    have zz1 := hz.1
    have zz2 := hz.2
    have lz : LR z := ⟨by omega, by omega⟩
    have hm1 : (-1 : Int32) = iZ (-1) := by decide
    have hin : ∀ w, fX5_in w (iZ z).toInt64 0 (nI ((bits (Fs f) * len + 7) / 8) - 1).toInt64 = some (bI (decide (0 ≤ z ∧ z < (((bits (Fs f) * len + 7) / 8 : Nat) : Int)))) := by
      intro w
      have e1 : nI ((bits (Fs f) * len + 7) / 8) - 1 = iZ ((((bits (Fs f) * len + 7) / 8 : Nat) : Int) - 1) := by rw [nI_iZ, show (1 : Int32) = iZ 1 from rfl, iZ_sub]
      rw [e1, iZ_l hz, iZ_l ⟨by omega, by omega⟩, show (0 : Int64) = lZ 0 from rfl, m_in lz ⟨by omega, by omega⟩ ⟨by omega, by omega⟩]
      congr 2
      by_cases q : 0 ≤ z ∧ z < (((bits (Fs f) * len + 7) / 8 : Nat) : Int)
      · rw [decide_eq_true q, decide_eq_true (by omega)]
      · rw [decide_eq_false q, decide_eq_false (by omega)]
    have hwi : ∀ w, fX4_within w (iZ z) (-1) (nI ((bits (Fs f) * len + 7) / 8) - 1) = some (bI (decide (-1 ≤ z ∧ z < (((bits (Fs f) * len + 7) / 8 : Nat) : Int)))) := by
      intro w
      have e1 : nI ((bits (Fs f) * len + 7) / 8) - 1 = iZ ((((bits (Fs f) * len + 7) / 8 : Nat) : Int) - 1) := by rw [nI_iZ, show (1 : Int32) = iZ 1 from rfl, iZ_sub]
      rw [e1, hm1]
      simp only [fX4_within, iZ_lt hz (show IR (-1) from ⟨by omega, by omega⟩), iZ_lt (show IR ((((bits (Fs f) * len + 7) / 8 : Nat) : Int) - 1) from ⟨by omega, by omega⟩) hz]
      by_cases q1 : z < -1
      · rw [if_pos q1, decide_eq_false (by omega)]; rfl
      · rw [if_neg q1, bI_ifn, bI_z]
        congr 2
        by_cases q2 : (((bits (Fs f) * len + 7) / 8 : Nat) : Int) - 1 < z
        · rw [decide_eq_true q2, decide_eq_false (by omega)]; rfl
        · rw [decide_eq_false q2, decide_eq_true (by omega)]; rfl
    have hz1 : (iZ z = -1) ↔ z = -1 := by rw [hm1, iZ_eq hz ⟨by omega, by omega⟩]
    by_cases q1 : z = -1
    · refine Pair.ans h (nI ((bits (Fs f) * len + 7) / 8)) ?_ ?_
      · have hw := hwi (WB x m fl)
        rw [decide_eq_true (show -1 ≤ z ∧ z < (((bits (Fs f) * len + 7) / 8 : Nat) : Int) by omega)] at hw
        unfold fX4_packed
        rw [o_0, Option.bind_some, e1, Option.bind_some, if_neg (by simp), hbc, Option.bind_some, hw, Option.bind_some, if_neg (by decide), if_pos (hz1.mpr q1), Option.bind_some, x_ans, xmb2_s]
      · show fX5_packed _ _ _ _ = _
        rw [md0, if_pos (hz1.mpr q1)]
    · by_cases q2 : 0 ≤ z ∧ z < (((bits (Fs f) * len + 7) / 8 : Nat) : Int)
      · obtain ⟨P, rfl⟩ : ∃ P : Nat, z = (P : Int) := ⟨z.toNat, by omega⟩
        have hP : P < 32 := by omega
        refine Pair.ans h (nI (byR (bits (Fs f)) P (bits (Fs f) * len) cs 8 0 0)) ?_ ?_
        · have hw := hwi (WB x m fl)
          rw [decide_eq_true (show -1 ≤ (P : Int) ∧ (P : Int) < (((bits (Fs f) * len + 7) / 8 : Nat) : Int) by omega)] at hw
          have hx := x_by0 hR' hP xmN (by decide)
          have hba : fX2_byteAt (WB x m fl) (some (7 + 2 * r)) (iZ (P : Int)) = some (nI (byR (bits (Fs f)) P (bits (Fs f) * len) cs 8 0 0)) := by
            unfold fX2_byteAt
            rw [o_r hi, Option.bind_some, ← nI_iZ, hx, by_eq (by omega) hc]
          unfold fX4_packed
          rw [o_0, Option.bind_some, e1, Option.bind_some, if_neg (by simp), hbc, Option.bind_some, hw, Option.bind_some, if_neg (by decide), if_neg (fun t => q1 (hz1.mp t)), hba, Option.bind_some, x_ans, xmb2_s]
        · show fX5_packed _ _ _ _ = _
          rw [md0, if_neg (fun t => q1 (hz1.mp t)), hin, Option.bind_some, decide_eq_true q2, if_neg (by decide), ← nI_iZ, m_by0 h4 hi h6 hP hc hR'.p _ xmN (by decide)]
      · refine Pair.ref h (-1) ?_ ?_
        · have hw := hwi (WB x m fl)
          rw [decide_eq_false (show ¬ (-1 ≤ z ∧ z < (((bits (Fs f) * len + 7) / 8 : Nat) : Int)) by omega)] at hw
          unfold fX4_packed
          rw [o_0, Option.bind_some, e1, Option.bind_some, if_neg (by simp), hbc, Option.bind_some, hw, Option.bind_some, if_pos (show bI false = 0 from rfl), x_ref, xmb2_s]
        · show fX5_packed _ _ _ _ = _
          rw [md0, if_neg (fun t => q1 (hz1.mp t)), hin, Option.bind_some, decide_eq_false q2, if_pos (show bI false = 0 from rfl)]
  · have e2 := fun x' fl' => e2 x' m fl' rfl
    refine Pair.ref h (-1) (by simp only [fX4_packed, o_0, e1, Option.bind_some, if_true, x_ref, xmb2_id]) ?_
    show fX5_packed _ _ _ _ = _
    unfold fX5_packed
    rw [o_15, Option.bind_some, e2, Option.bind_some, if_pos rfl, m_ref, xmb2_s]
end PK
