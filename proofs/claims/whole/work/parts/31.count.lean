/-! COUNTING: about, numbers -/
def cN (P : Nat → Bool) : Nat → Nat
  | 0 => 0
  | n + 1 => cN P n + (if P n = true then 1 else 0)
theorem cN_congr {P Q : Nat → Bool} : ∀ {n : Nat}, (∀ k, k < n → P k = Q k) → cN P n = cN Q n := by
  intro n
  induction n with
  | zero => intro _; rfl
  | succ n ih =>
    intro h
    unfold cN
    rw [ih (fun k hk => h k (by omega)), h n (by omega)]
theorem cN_add (P : Nat → Bool) (a : Nat) : ∀ b, cN P (a + b) = cN P a + cN (fun k => P (a + k)) b := by
  intro b
  induction b with
  | zero => rfl
  | succ b ih =>
    show cN P (a + b) + (if P (a + b) = true then 1 else 0) = cN P a + (cN (fun k => P (a + k)) b + (if P (a + b) = true then 1 else 0))
    rw [ih, Nat.add_assoc]
theorem cN_front (P : Nat → Bool) (c d : Nat) : cN (fun k => P (c + k)) (d + 1) = (if P c = true then 1 else 0) + cN (fun k => P (c + 1 + k)) d := by
  rw [Nat.add_comm d 1, cN_add]
  congr 1
  · show 0 + (if P (c + 0) = true then 1 else 0) = _
    rw [Nat.zero_add]; rfl
  · exact cN_congr (fun k _ => by show P (c + (1 + k)) = P (c + 1 + k); rw [Nat.add_assoc])
theorem cN_sum {P Q R : Nat → Bool} : ∀ {n : Nat}, (∀ k, k < n → (if P k = true then 1 else 0) + (if Q k = true then 1 else 0) = (if R k = true then 1 else 0)) → cN P n + cN Q n = cN R n := by
  intro n
  induction n with
  | zero => intro _; rfl
  | succ n ih =>
    intro h
    unfold cN
    have h1 := ih (fun k hk => h k (by omega))
    have h2 := h n (by omega)
    omega
theorem cN_low {P : Nat → Bool} {t : Nat} : ∀ {n : Nat}, (∀ k, k < n → ((P k = true) ↔ k < t)) → cN P n = min n t := by
  intro n
  induction n with
  | zero => intro _; simp [cN]
  | succ n ih =>
    intro h
    unfold cN
    rw [ih (fun k hk => h k (by omega))]
    have h2 := h n (by omega)
    by_cases q : n < t
    · rw [if_pos (h2.mpr q)]; omega
    · rw [if_neg (fun p => q (h2.mp p))]; omega
theorem cN_false {P : Nat → Bool} {n : Nat} (h : ∀ k, k < n → P k = false) : cN P n = 0 := by
  rw [cN_low (t := 0) (fun k hk => by rw [h k hk]; simp)]; omega
theorem cN_le {P Q : Nat → Bool} : ∀ {n : Nat}, (∀ k, k < n → P k = true → Q k = true) → cN P n ≤ cN Q n := by
  intro n
  induction n with
  | zero => intro _; exact Nat.le_refl _
  | succ n ih =>
    intro h
    unfold cN
    have h1 := ih (fun k hk => h k (by omega))
    have h2 := h n (by omega)
    by_cases q : P n = true
    · rw [if_pos q, if_pos (h2 q)]; omega
    · rw [if_neg q]; omega
theorem cN_n (P : Nat → Bool) : ∀ n, cN P n ≤ n := by
  intro n
  induction n with
  | zero => exact Nat.le_refl _
  | succ n ih =>
    unfold cN
    split <;> omega
/-- codes of a format: those without the sign, then those with it -/
theorem cN_codes {F : FM} (hv : VF F) (P : Bool → Nat → Bool) : cN (fun c => isNu F c && P (ng F c) (mg F c)) (2 ^ bits F) = cN (P false) (gr F + 1) + (if fS F = 1 then cN (P true) (gr F + 1) else 0) := by
  have hg := gr_lt hv
  have hS := hv.1
  have half : ∀ Q : Nat → Bool, cN (fun m => decide (m ≤ gr F) && Q m) (fP F) = cN Q (gr F + 1) := by
    intro Q
    have e : fP F = (gr F + 1) + (fP F - (gr F + 1)) := by omega
    rw [e, cN_add, cN_false (P := fun k => decide (gr F + 1 + k ≤ gr F) && Q (gr F + 1 + k)) (fun k hk => by rw [decide_eq_false (by omega), Bool.false_and]), Nat.add_zero]
    exact cN_congr (fun k hk => by rw [decide_eq_true (by omega), Bool.true_and])
  have lowc : ∀ c, c < fP F → (isNu F c && P (ng F c) (mg F c)) = (decide (c ≤ gr F) && P false c) := by
    intro c hc
    have h1 : mg F c = c := mg_small hc
    have h2 : ng F c = false := by unfold ng; rw [decide_eq_false (show ¬ fP F ≤ c by omega), Bool.and_false]
    unfold isNu
    rw [h1, h2]
  by_cases hs : fS F = 1
  · rw [if_pos hs, bits_pw, hs, show 2 ^ 1 * fP F = fP F + fP F by omega, cN_add, cN_congr lowc, half]
    congr 1
    rw [← half]
    refine cN_congr (fun k hk => ?_)
    have h1 : mg F (fP F + k) = k := by unfold mg; rw [Nat.add_mod_left, Nat.mod_eq_of_lt hk]
    have h2 : ng F (fP F + k) = true := by unfold ng; rw [decide_eq_true hs, decide_eq_true (show fP F ≤ fP F + k by omega)]; rfl
    show (isNu F (fP F + k) && P (ng F (fP F + k)) (mg F (fP F + k))) = _
    unfold isNu
    rw [h1, h2]
  · have h0 : fS F = 0 := by omega
    rw [if_neg hs, bits_pw, h0, Nat.pow_zero, Nat.one_mul, cN_congr lowc, half]; exact (Nat.add_zero _).symm
theorem cN_nums {F : FM} (hv : VF F) : cN (fun c => isNu F c) (2 ^ bits F) = (gr F + 1) * 2 ^ fS F := by
  have hS := hv.1
  have h := cN_codes hv (fun _ _ => true)
  have e : cN (fun _ : Nat => true) (gr F + 1) = gr F + 1 := by rw [cN_low (t := gr F + 1) (fun k hk => by simp; omega)]; omega
  rw [cN_congr (Q := fun c => isNu F c && (fun (_ : Bool) (_ : Nat) => true) (ng F c) (mg F c)) (fun k _ => by simp), h]
  show cN (fun _ => true) (gr F + 1) + (if fS F = 1 then cN (fun _ => true) (gr F + 1) else 0) = _
  rw [e]
  by_cases hs : fS F = 1
  · rw [if_pos hs, hs]; omega
  · rw [if_neg hs, show fS F = 0 by omega]; omega
theorem bits_lt {F : FM} (hv : VF F) : bits F < 31 ∧ 2 ^ bits F ≤ 1024 ∧ 0 < 2 ^ bits F := by
  obtain ⟨h1, h2, h3, h4, h5, h6, h7⟩ := hv
  have hb : bits F ≤ 10 := by unfold bits; omega
  have := Nat.pow_le_pow_right (show 2 > 0 by omega) hb
  exact ⟨by omega, by omega, Nat.two_pow_pos _⟩
section CNT
variable {n : Nat} {Fs : Nat → FM} {x : XS} {m : MS} {fl : List xmE}
theorem m_aboutL {j : Nat} {F : FM} (hM : MA m j F) (hv : VF F) : ∀ (d c N acc : Nat), c + d = 2 ^ bits F → d < N → fX5_about_L121 N (WB x m fl) (some 15) (nI j) (nI acc) (nI c) = some (nI (acc + cN (fun k => isNu F (c + k)) d), WB x (mset m 17 0) fl) := by
  obtain ⟨b1, b2, b3⟩ := bits_lt hv
  have hG := hM.g x fl
  intro d
  induction d with
  | zero =>
    intro c N acc hc hN
    obtain ⟨N, rfl⟩ : ∃ N', N = N' + 1 := ⟨N - 1, by omega⟩
    rw [fX5_about_L121, m_bits hG, Option.bind_some, sh_one _ b1, if_pos (by rw [nI_leI (by omega) (by omega)]; omega), m_fin, xmb2_s]
    rfl
  | succ d ih =>
    intro c N acc hc hN
    obtain ⟨N, rfl⟩ : ∃ N', N = N' + 1 := ⟨N - 1, by omega⟩
    rw [fX5_about_L121, m_bits hG, Option.bind_some, sh_one _ b1, if_neg (by rw [nI_leI (by omega) (by omega)]; omega), m_isNumber hG hv (show c < 2 ^ 31 by omega), Option.bind_some, bI_02, nI_1]
    have e : nI acc + bI (isNu F c) = nI (acc + (if isNu F c = true then 1 else 0)) := by
      cases isNu F c with
      | true => exact nI_add acc 1
      | false => exact nI_add acc 0
    rw [e, ih (c + 1) N _ (by omega) (by omega), cN_front (fun k => isNu F k) c d, Nat.add_assoc]
theorem m_about0 {j : Nat} {F : FM} (hM : MA m j F) (hv : VF F) (N : Nat) (hN : 1024 < N) : fX5_about_L121 N (WB x m fl) (some 15) (nI j) 0 0 = some (nI ((gr F + 1) * 2 ^ fS F), WB x (mset m 17 0) fl) := by
  have hb3 := bits_lt hv
  have h := m_aboutL (x := x) (fl := fl) hM hv (2 ^ bits F) 0 N 0 (Nat.zero_add _) (by omega)
  rw [Nat.zero_add, cN_congr (Q := fun c => isNu F c) (fun k _ => by rw [Nat.zero_add]), cN_nums hv] at h
  exact h
theorem pr_about (h : IW n Fs x m fl) (a1 a2 : Int32) : Pair (fX4_about (WB x m fl) (some 0) a1 a2) m (fun w => fX5_about w (some 15) a1 a2) := by
  rcases f_spl h.1 a1 with ⟨i, k, hi, hi10, rfl, hk, hF, hM, hv, e1, e2⟩ | ⟨e1, e2⟩
  · have e2 := fun x' fl' => e2 x' m fl' rfl
    have hw := hF.w x m
    have hG := fun x' => hM.g x' fl
    have hg := gr_lt hv
    have hp := hv.p
    have hT := hv.2.2.2.2.2.1
    have hS := hv.1
    rcases wi_6 a2 with ⟨d, hd, rfl, d1, d2⟩ | ⟨d1, d2⟩
    · have q0 := nI_0' (show d < 2 ^ 31 by omega)
      have q1 := nI_1' (show d < 2 ^ 31 by omega)
      have q2 := nI_2' (show d < 2 ^ 31 by omega)
      have q3 := nI_3' (show d < 2 ^ 31 by omega)
      have q4 := nI_4' (show d < 2 ^ 31 by omega)
      have q5 := nI_5' (show d < 2 ^ 31 by omega)
      have T0 := nI_0' (show fT (Fs i) < 2 ^ 31 by omega)
      have z1 : ¬ (1 : Int32) = 0 := by decide
      have st : ∀ x', fX5_about (WB x' m fl) (some 15) (nI i) (nI d) = if nI d = 0 then (fX5_bits (WB x' m fl) (some 15) (nI i)).bind fun v10 => xmb2 (fX5_fine (WB x' m fl) (some 15) v10) fun v12 w13 => some (v12, w13) else if nI d = 1 then (fX5_great (WB x' m fl) (some 15) (nI i)).bind fun v16 => xmb2 (fX5_fine (WB x' m fl) (some 15) v16) fun v18 w19 => some (v18, w19) else if nI d = 2 then (fX5_last (WB x' m fl) (some 15) (nI i)).bind fun v22 => xmb2 (fX5_fine (WB x' m fl) (some 15) v22) fun v24 w25 => some (v24, w25) else if nI d = 3 then (fX5_noneOf (WB x' m fl) (some 15) (nI i)).bind fun v28 => xmb2 (fX5_fine (WB x' m fl) (some 15) v28) fun v30 w31 => some (v30, w31) else if nI d = 4 then (fX5_endless (WB x' m fl) (some 15) (nI i)).bind fun v34 => xmb2 (fX5_fine (WB x' m fl) (some 15) v34) fun v36 w37 => some (v36, w37) else if nI d = 5 then fX5_about_L121 xmN (WB x' m fl) (some 15) (nI i) 0 0 else (fX5_scale (WB x' m fl) (some 15) (nI i)).bind fun v40 => xmb2 (fX5_fine (WB x' m fl) (some 15) v40) fun v42 w43 => some (v42, w43) := by
        intro x'
        unfold fX5_about
        rw [o_15, Option.bind_some, e2, Option.bind_some, if_neg z1, d2, Option.bind_some, if_neg z1]
      have cl : fX4_about (WB x m fl) (some 0) (nI i) (nI d) = if d = 0 then some (nI (bits (Fs i)), WB (xset x 1 0) m fl) else if d = 1 then some (nI (gr (Fs i)), WB (xset x 1 0) m fl) else if d = 2 then some (nI (gr (Fs i) - 1), WB (xset x 1 0) m fl) else if d = 3 then some (ncI (Fs i), WB (xset x 1 0) m fl) else if d = 4 then (if fT (Fs i) = 0 then some (nI (bey (Fs i) false), WB (xset x 1 0) m fl) else some (-9, WB (xset x 1 0) m fl)) else if d = 5 then some (nI ((gr (Fs i) + 1) * 2 ^ fS (Fs i)), WB (xset x 1 0) m fl) else some (nI (sc (Fs i)), WB (xset x 1 0) m fl) := by
        have hb : fX1_beyond (WB x m fl) (some k) 0 = some (nI (bey (Fs i) false)) := x_beyond hw hv false
        have h2S : 2 ^ fS (Fs i) ≤ 2 := by
          have : 2 ^ fS (Fs i) ≤ 2 ^ 1 := Nat.pow_le_pow_right (by omega) hS
          omega
        have hm5 : (gr (Fs i) + 1) * 2 ^ fS (Fs i) ≤ 513 * 2 := Nat.mul_le_mul (by omega) h2S
        simp only [fX4_about, o_0, e1, d1, Option.bind_some, reduceCtorEq, if_false, one_z, q0, q1, q2, q3, q4, q5, x_bits hw, x_g6 hw, nI_s1 hg.2.1, x_noneCode hw hv, x_g5 hw, T0, hb, x_g0 hw, nI_1, sh_l (m := gr (Fs i) + 1) (show fS (Fs i) < 32 by omega) (by omega), x_scale hw, x_ans, xmb2_s]
      by_cases p0 : d = 0
      · refine Pair.ans h (nI (bits (Fs i))) (by rw [cl, if_pos p0]) ?_
        show fX5_about _ _ _ _ = _
        rw [st, if_pos (q0.mpr p0), m_bits (hG _), Option.bind_some, m_fin, xmb2_s]
      · rw [if_neg p0] at cl
        by_cases p1 : d = 1
        · refine Pair.ans h (nI (gr (Fs i))) (by rw [cl, if_pos p1]) ?_
          show fX5_about _ _ _ _ = _
          rw [st, if_neg (fun q => p0 (q0.mp q)), if_pos (q1.mpr p1), m_great (hG _) hv, Option.bind_some, m_fin, xmb2_s]
        · rw [if_neg p1] at cl
          by_cases p2 : d = 2
          · refine Pair.ans h (nI (gr (Fs i) - 1)) (by rw [cl, if_pos p2]) ?_
            show fX5_about _ _ _ _ = _
            rw [st, if_neg (fun q => p0 (q0.mp q)), if_neg (fun q => p1 (q1.mp q)), if_pos (q2.mpr p2), m_last (hG _) hv, Option.bind_some, m_fin, xmb2_s]
          · rw [if_neg p2] at cl
            by_cases p3 : d = 3
            · refine Pair.ans h (ncI (Fs i)) (by rw [cl, if_pos p3]) ?_
              show fX5_about _ _ _ _ = _
              rw [st, if_neg (fun q => p0 (q0.mp q)), if_neg (fun q => p1 (q1.mp q)), if_neg (fun q => p2 (q2.mp q)), if_pos (q3.mpr p3), m_noneOf (hG _) hv, Option.bind_some, m_fin, xmb2_s]
            · rw [if_neg p3] at cl
              by_cases p4 : d = 4
              · rw [if_pos p4] at cl
                by_cases t0 : fT (Fs i) = 0
                · have hb0 : bey (Fs i) false = gr (Fs i) + 1 := by
                    unfold bey sg
                    rw [if_neg (by simp), if_neg (by omega), if_neg (by simp), if_pos t0]
                  refine Pair.ans h (nI (gr (Fs i) + 1)) (by rw [cl, if_pos t0, hb0]) ?_
                  show fX5_about _ _ _ _ = _
                  rw [st, if_neg (fun q => p0 (q0.mp q)), if_neg (fun q => p1 (q1.mp q)), if_neg (fun q => p2 (q2.mp q)), if_neg (fun q => p3 (q3.mp q)), if_pos (q4.mpr p4), m_endless (hG _) hv t0, Option.bind_some, m_fin, xmb2_s]
                · refine Pair.ans h (-9) (by rw [cl, if_neg t0]) ?_
                  show fX5_about _ _ _ _ = _
                  rw [st, if_neg (fun q => p0 (q0.mp q)), if_neg (fun q => p1 (q1.mp q)), if_neg (fun q => p2 (q2.mp q)), if_neg (fun q => p3 (q3.mp q)), if_pos (q4.mpr p4), m_endlessN (hG _) hv t0, Option.bind_some, m_fin, xmb2_s]
              · rw [if_neg p4] at cl
                by_cases p5 : d = 5
                · refine Pair.ans h (nI ((gr (Fs i) + 1) * 2 ^ fS (Fs i))) (by rw [cl, if_pos p5]) ?_
                  show fX5_about _ _ _ _ = _
                  rw [st, if_neg (fun q => p0 (q0.mp q)), if_neg (fun q => p1 (q1.mp q)), if_neg (fun q => p2 (q2.mp q)), if_neg (fun q => p3 (q3.mp q)), if_neg (fun q => p4 (q4.mp q)), if_pos (q5.mpr p5), m_about0 hM hv xmN (by decide)]
                · rw [if_neg p5] at cl
                  refine Pair.ans h (nI (sc (Fs i))) cl ?_
                  show fX5_about _ _ _ _ = _
                  rw [st, if_neg (fun q => p0 (q0.mp q)), if_neg (fun q => p1 (q1.mp q)), if_neg (fun q => p2 (q2.mp q)), if_neg (fun q => p3 (q3.mp q)), if_neg (fun q => p4 (q4.mp q)), if_neg (fun q => p5 (q5.mp q)), m_scale (hG _), Option.bind_some, m_fin, xmb2_s]
    · refine Pair.ref h (-1) (by simp only [fX4_about, o_0, e1, d1, Option.bind_some, reduceCtorEq, if_false, if_true, x_ref, xmb2_id]) ?_
      show fX5_about _ _ _ _ = _
      unfold fX5_about
      rw [o_15, Option.bind_some, e2, Option.bind_some, if_neg (show ¬ (1 : Int32) = 0 by decide), d2, Option.bind_some, if_pos rfl, m_ref, xmb2_s]
  · have e2 := fun x' fl' => e2 x' m fl' rfl
    refine Pair.ref h (-1) (by simp only [fX4_about, o_0, e1, Option.bind_some, if_true, x_ref, xmb2_id]) ?_
    show fX5_about _ _ _ _ = _
    unfold fX5_about
    rw [o_15, Option.bind_some, e2, Option.bind_some, if_pos rfl, m_ref, xmb2_s]
end CNT
