/-! THE INVARIANT of both sides between two calls -/
def RWs (n : Nat) (Fs : Nat → FM) (x : XS) (m : MS) (i : Nat) : Prop :=
  (x.2.2.2.2.1 i = none ∧ m.2.2 7 i = -1) ∨ ∃ f len, f < n ∧ x.2.2.2.2.1 i = x.2.1 f ∧ m.2.2 7 i = nI f ∧ len ≤ 16 ∧ x.1 (11 + i) = nI len ∧ m.2.2 8 i = nI len ∧ ∀ q, q < 16 → ∃ c, c < 2 ^ bits (Fs f) ∧ x.2.2.2.2.2 i q = nI c ∧ (q < len → m.2.2 9 (16 * i + q) = nI c)
def TBs (n : Nat) (x : XS) (m : MS) : Prop :=
  (x.2.2.1 = none ∧ m.1 11 = -1) ∨ ∃ f what mode, f < n ∧ x.2.2.1 = x.2.1 f ∧ m.1 11 = nI f ∧ what ≤ 6 ∧ x.1 2 = nI what ∧ m.1 12 = nI what ∧ mode ≤ 5 ∧ x.1 3 = nI mode ∧ m.1 13 = nI mode
def FSs (n : Nat) (Fs : Nat → FM) (x : XS) (m : MS) (fl : List xmE) : Prop :=
  n ≤ 10 ∧ x.1 0 = nI n ∧ m.1 0 = nI n ∧ (∀ i, i < n → ∃ k, x.2.1 i = some k ∧ XF fl k (Fs i) ∧ MA m i (Fs i) ∧ VF (Fs i)) ∧ (∀ i, n ≤ i → i < 10 → x.2.1 i = none) ∧ (∀ i j, i < n → j < n → Fs i = Fs j → i = j)
def IW (n : Nat) (Fs : Nat → FM) (x : XS) (m : MS) (fl : List xmE) : Prop :=
  FSs n Fs x m fl ∧ (∀ i, i < 4 → RWs n Fs x m i) ∧ TBs n x m ∧ (∃ t, t ≤ 100 ∧ x.1 4 = nI t ∧ m.1 10 = nI t) ∧ x.1 1 = m.1 17 ∧ x.1 8 = m.1 14 ∧ x.1 9 = m.1 15 ∧ x.1 10 = m.1 16
def IV (x : XS) (m : MS) (fl : List xmE) : Prop := ∃ n Fs, IW n Fs x m fl
/-- the pair of one call: both answer r, and the invariant stays -/
def Pair {α : Type} (C : Option (α × xmW)) (m : MS) (M : xmW → Option (α × xmW)) : Prop := ∃ r x' fl' m', C = some (r, WB x' m fl') ∧ M (WB x' m fl') = some (r, WB x' m' fl') ∧ IV x' m' fl'
theorem upd_ne (f : Nat → Int32) {k j : Nat} (v : Int32) (h : j ≠ k) : upd f k v j = f j := by unfold upd; rw [if_neg h]
theorem upd_eq (f : Nat → Int32) (k : Nat) (v : Int32) : upd f k v k = v := by unfold upd; rw [if_pos rfl]
theorem IW.mv {n : Nat} {Fs : Nat → FM} {x x' : XS} {m m' : MS} {fl : List xmE} (h : IW n Fs x m fl)
    (h1 : x'.2.1 = x.2.1) (h2 : x'.2.2.1 = x.2.2.1) (h3 : x'.2.2.2.2 = x.2.2.2.2) (h4 : ∀ k, k ≠ 1 → k ≠ 5 → k ≠ 6 → k ≠ 7 → k ≠ 8 → k ≠ 9 → k ≠ 10 → x'.1 k = x.1 k)
    (g1 : ∀ a, a ≠ 25 → m'.2.2 a = m.2.2 a) (g2 : ∀ k, k < 14 → m'.1 k = m.1 k)
    (e1 : x'.1 1 = m'.1 17) (e2 : x'.1 8 = m'.1 14) (e3 : x'.1 9 = m'.1 15) (e4 : x'.1 10 = m'.1 16) : IW n Fs x' m' fl := by
  obtain ⟨⟨a1, a2, a3, a4, a5, a6⟩, hr, ht, ⟨t, t1, t2, t3⟩, _⟩ := h
  have k1 := g1 1 (by omega)
  have k2 := g1 2 (by omega)
  have k3 := g1 3 (by omega)
  have k4 := g1 4 (by omega)
  have k5 := g1 5 (by omega)
  have k6 := g1 6 (by omega)
  have k7 := g1 7 (by omega)
  have k8 := g1 8 (by omega)
  have k9 := g1 9 (by omega)
  refine ⟨⟨a1, ?_, ?_, ?_, ?_, ?_⟩, ?_, ?_, ⟨t, t1, ?_, ?_⟩, e1, e2, e3, e4⟩
  · rw [h4 0 (by omega) (by omega) (by omega) (by omega) (by omega) (by omega) (by omega)]; exact a2
  · rw [g2 0 (by omega)]; exact a3
  · intro i hi
    obtain ⟨k, q1, q2, q3, q4⟩ := a4 i hi
    refine ⟨k, by rw [h1]; exact q1, q2, ?_, q4⟩
    unfold MA at *
    rw [k1, k2, k3, k4, k5, k6]; exact q3
  · rw [h1]; exact a5
  · exact a6
  · intro i hi
    have := hr i hi
    unfold RWs at *
    rw [h3, h1, k7, k8, k9, h4 (11 + i) (by omega) (by omega) (by omega) (by omega) (by omega) (by omega) (by omega)]
    exact this
  · unfold TBs at *
    rw [h2, h1, g2 11 (by omega), g2 12 (by omega), g2 13 (by omega), h4 2 (by omega) (by omega) (by omega) (by omega) (by omega) (by omega) (by omega), h4 3 (by omega) (by omega) (by omega) (by omega) (by omega) (by omega) (by omega)]
    exact ht
  · rw [h4 4 (by omega) (by omega) (by omega) (by omega) (by omega) (by omega) (by omega)]; exact t2
  · rw [g2 10 (by omega)]; exact t3
/-- splits of arguments -/
theorem spl (a : Int32) (lo hi : Nat) (hb : lo ≤ hi) (hl : hi < 2 ^ 31) : (∃ c, lo ≤ c ∧ c ≤ hi ∧ a = nI c ∧ (∀ w, fX4_within w a (nI lo) (nI hi) = some 1) ∧ (∀ w, fX5_in w a.toInt64 (lN lo) (lN hi) = some 1)) ∨ ((∀ w, fX4_within w a (nI lo) (nI hi) = some 0) ∧ (∀ w, fX5_in w a.toInt64 (lN lo) (lN hi) = some 0)) := by
  obtain ⟨z, hz, rfl⟩ := iZ_of a
  have z1 := hz.1
  have z2 := hz.2
  have lz : LR z := ⟨by omega, by omega⟩
  have il : IR (lo : Int) := ⟨by omega, by omega⟩
  have ih : IR (hi : Int) := ⟨by omega, by omega⟩
  have hm : ∀ w, fX5_in w (iZ z).toInt64 (lN lo) (lN hi) = some (bI (decide ((lo : Int) ≤ z ∧ z ≤ (hi : Int)))) := by
    intro w
    rw [iZ_l hz, lN_lZ, lN_lZ]
    exact m_in lz ⟨by omega, by omega⟩ ⟨by omega, by omega⟩
  have hx : ∀ w, fX4_within w (iZ z) (nI lo) (nI hi) = some (bI (decide ((lo : Int) ≤ z ∧ z ≤ (hi : Int)))) := by
    intro w
    simp only [fX4_within, nI_iZ, iZ_lt hz il, iZ_lt ih hz]
    by_cases q1 : z < (lo : Int)
    · rw [if_pos q1, decide_eq_false (by omega)]; rfl
    · rw [if_neg q1, bI_ifn, bI_z]
      congr 2
      by_cases q2 : (hi : Int) < z
      · rw [decide_eq_true q2, decide_eq_false (by omega)]; rfl
      · rw [decide_eq_false q2, decide_eq_true (by omega)]; rfl
  by_cases q : (lo : Int) ≤ z ∧ z ≤ (hi : Int)
  · rw [decide_eq_true q] at hm hx
    refine Or.inl ⟨z.toNat, by omega, by omega, ?_, hx, hm⟩
    rw [nI_iZ]; congr 1; omega
  · rw [decide_eq_false q] at hm hx
    exact Or.inr ⟨hx, hm⟩
theorem hc_spl {F : FM} (hv : VF F) (a : Int32) : (∃ c, c < 2 ^ bits F ∧ a = nI c ∧ (∀ (w : xmW) (k : Nat), w[k]? = some (fmtE F) → fX1_hasCode w (some k) a = some 1) ∧ (∀ (w : xmW) (j : Nat), MG w j F → fX5_isCode w (some 15) (nI j) a = some 1)) ∨ ((∀ (w : xmW) (k : Nat), w[k]? = some (fmtE F) → fX1_hasCode w (some k) a = some 0) ∧ (∀ (w : xmW) (j : Nat), MG w j F → fX5_isCode w (some 15) (nI j) a = some 0)) := by
  have hb : bits F < 31 := by obtain ⟨h1, h2, h3, h4, h5, h6, h7⟩ := hv; unfold bits; omega
  have hp : 2 ^ bits F ≤ 2 ^ 30 := Nat.pow_le_pow_right (by omega) (by omega)
  have hp0 : 0 < 2 ^ bits F := Nat.two_pow_pos _
  obtain ⟨z, hz, rfl⟩ := iZ_of a
  have z1 := hz.1
  have z2 := hz.2
  have lz : LR z := ⟨by omega, by omega⟩
  have hx : ∀ (w : xmW) (k : Nat), w[k]? = some (fmtE F) → fX1_hasCode w (some k) (iZ z) = some (bI (decide (0 ≤ z ∧ z < (2 ^ bits F : Nat)))) := by
    intro w k h
    rw [x_hasCode h hv, iZ_toInt z1 z2]
  have hm : ∀ (w : xmW) (j : Nat), MG w j F → fX5_isCode w (some 15) (nI j) (iZ z) = some (bI (decide (0 ≤ z ∧ z < (2 ^ bits F : Nat)))) := by
    intro w j h
    obtain ⟨fs, h0⟩ := h.1
    have e1 : nI (2 ^ bits F) - 1 = iZ ((2 ^ bits F : Nat) - 1 : Int) := by rw [nI_iZ, show (1 : Int32) = iZ 1 from rfl, iZ_sub]
    simp only [fX5_isCode, h0, m_bits h, Option.bind_some, sh_one _ hb, e1]
    rw [iZ_l hz, iZ_l ⟨by omega, by omega⟩, show (0 : Int64) = lZ 0 from rfl, m_in lz ⟨by omega, by omega⟩ ⟨by omega, by omega⟩, Option.bind_some, bI_z]
    congr 2
    by_cases q : 0 ≤ z ∧ z < ((2 ^ bits F : Nat) : Int)
    · rw [decide_eq_true q, decide_eq_true (by omega)]
    · rw [decide_eq_false q, decide_eq_false (by omega)]
  by_cases q : 0 ≤ z ∧ z < ((2 ^ bits F : Nat) : Int)
  · rw [decide_eq_true q] at hm hx
    refine Or.inl ⟨z.toNat, by omega, ?_, hx, hm⟩
    rw [nI_iZ]; congr 1; omega
  · rw [decide_eq_false q] at hm hx
    exact Or.inr ⟨hx, hm⟩
section IVS
variable {n : Nat} {Fs : Nat → FM} {x : XS} {m : MS} {fl : List xmE}
theorem f_spl (h : FSs n Fs x m fl) (a : Int32) : (∃ i k, i < n ∧ i < 10 ∧ a = nI i ∧ x.2.1 i = some k ∧ XF fl k (Fs i) ∧ MA m i (Fs i) ∧ VF (Fs i) ∧ fX4_formatAt (WB x m fl) (some 0) a = some (some k) ∧ (∀ (x' : XS) (m' : MS) (fl' : List xmE), m'.1 0 = m.1 0 → fX5_isFormat (WB x' m' fl') (some 15) a = some 1)) ∨ (fX4_formatAt (WB x m fl) (some 0) a = some none ∧ (∀ (x' : XS) (m' : MS) (fl' : List xmE), m'.1 0 = m.1 0 → fX5_isFormat (WB x' m' fl') (some 15) a = some 0)) := by
  obtain ⟨a1, a2, a3, a4, a5, a6⟩ := h
  obtain ⟨z, hz, rfl⟩ := iZ_of a
  have z1 := hz.1
  have z2 := hz.2
  have lz : LR z := ⟨by omega, by omega⟩
  have hm : ∀ (x' : XS) (m' : MS) (fl' : List xmE), m'.1 0 = m.1 0 → fX5_isFormat (WB x' m' fl') (some 15) (iZ z) = some (bI (decide (0 ≤ z ∧ z < (n : Int)))) := by
    intro x' m' fl' e
    have e1 : nI n - 1 = iZ ((n : Int) - 1) := by rw [nI_iZ, show (1 : Int32) = iZ 1 from rfl, iZ_sub]
    simp only [fX5_isFormat, o_15, g_15_0, e, a3, Option.bind_some, e1]
    rw [iZ_l hz, iZ_l ⟨by omega, by omega⟩, show (0 : Int64) = lZ 0 from rfl, m_in lz ⟨by omega, by omega⟩ ⟨by omega, by omega⟩, Option.bind_some, bI_z]
    congr 2
    by_cases q : 0 ≤ z ∧ z < (n : Int)
    · rw [decide_eq_true q, decide_eq_true (by omega)]
    · rw [decide_eq_false q, decide_eq_false (by omega)]
  have ef : fX4_formatAt (WB x m fl) (some 0) (iZ z) = (fX4_within (WB x m fl) (iZ z) 0 9).bind fun v2 => if v2 = 0 then some none else (xmqld (WB x m fl) (some 1) 2 (iZ z)).bind fun v4 => some v4 := by
    simp only [fX4_formatAt, o_0, g_0_0, Option.bind_some]
  by_cases q : 0 ≤ z ∧ z < (n : Int)
  · rw [decide_eq_true q] at hm
    obtain ⟨k, k1, k2, k3, k4⟩ := a4 z.toNat (by omega)
    have ez : iZ z = nI z.toNat := by rw [nI_iZ]; congr 1; omega
    refine Or.inl ⟨z.toNat, k, by omega, by omega, ez, k1, k2, k3, k4, ?_, hm⟩
    rcases spl (iZ z) 0 9 (by omega) (by omega) with ⟨c, _, _, _, hw, _⟩ | ⟨_, hw⟩
    · rw [ef, show (0 : Int32) = nI 0 from rfl, show (9 : Int32) = nI 9 from rfl, hw, Option.bind_some, if_neg (by decide), ez, a_1 (by omega), Option.bind_some, k1]
    · exfalso
      have h5 := hw (WB x m fl)
      rw [iZ_l hz, lN_lZ, lN_lZ, m_in lz ⟨by omega, by omega⟩ ⟨by omega, by omega⟩, decide_eq_true (by omega)] at h5
      exact absurd h5 (by decide)
  · rw [decide_eq_false q] at hm
    refine Or.inr ⟨?_, hm⟩
    rcases spl (iZ z) 0 9 (by omega) (by omega) with ⟨c, _, c2, hc, hw, _⟩ | ⟨hw, _⟩
    · have hcz : z = (c : Int) := by
        rw [nI_iZ] at hc
        exact (iZ_eq hz ⟨by omega, by omega⟩).mp hc
      rw [ef, show (0 : Int32) = nI 0 from rfl, show (9 : Int32) = nI 9 from rfl, hw, Option.bind_some, if_neg (by decide), hc, a_1 (by omega), Option.bind_some, a5 c (by omega) (by omega)]
    · rw [ef, show (0 : Int32) = nI 0 from rfl, show (9 : Int32) = nI 9 from rfl, hw, Option.bind_some, if_pos (show (0 : Int32) = nI 0 from rfl)]
theorem x_ref (v : Int32) : fX4_refused (WB x m fl) (some 0) v = some (v, WB (xset x 1 v) m fl) := by simp only [fX4_refused, o_0, p_0_6, Option.bind_some]
theorem m_ref (v : Int32) : fX5_refused (WB x m fl) (some 15) v = some (v, WB x (mset m 17 v) fl) := by simp only [fX5_refused, o_15, p_15_17, Option.bind_some]
theorem x_ans (v : Int32) : fX4_answered (WB x m fl) (some 0) v = some (v, WB (xset x 1 0) m fl) := by simp only [fX4_answered, o_0, p_0_6, Option.bind_some]
theorem m_fin (v : Int32) : fX5_fine (WB x m fl) (some 15) v = some (v, WB x (mset m 17 0) fl) := by simp only [fX5_fine, o_15, p_15_17, Option.bind_some]
theorem IW.tell (h : IW n Fs x m fl) (v : Int32) : IW n Fs (xset x 1 v) (mset m 17 v) fl := by
  have h2 := h
  obtain ⟨_, _, _, _, b1, b2, b3, b4⟩ := h2
  refine h.mv rfl rfl rfl (fun k k1 _ _ _ _ _ _ => upd_ne _ _ k1) (fun _ _ => rfl) (fun k hk => upd_ne _ _ (by omega)) ?_ ?_ ?_ ?_
  · show upd x.1 1 v 1 = upd m.1 17 v 17
    rw [upd_eq, upd_eq]
  · show upd x.1 1 v 8 = upd m.1 17 v 14
    rw [upd_ne _ _ (by omega), upd_ne _ _ (by omega)]; exact b2
  · show upd x.1 1 v 9 = upd m.1 17 v 15
    rw [upd_ne _ _ (by omega), upd_ne _ _ (by omega)]; exact b3
  · show upd x.1 1 v 10 = upd m.1 17 v 16
    rw [upd_ne _ _ (by omega), upd_ne _ _ (by omega)]; exact b4
/-- a call that both refuse, or both answer, at once -/
theorem Pair.ref (h : IW n Fs x m fl) (v : Int32) {C : Option (Int32 × xmW)} {M : xmW → Option (Int32 × xmW)} (hC : C = some (v, WB (xset x 1 v) m fl)) (hM : M (WB (xset x 1 v) m fl) = some (v, WB (xset x 1 v) (mset m 17 v) fl)) : Pair C m M :=
  ⟨v, _, _, _, hC, hM, n, Fs, h.tell v⟩
theorem Pair.ans (h : IW n Fs x m fl) (v : Int32) {C : Option (Int32 × xmW)} {M : xmW → Option (Int32 × xmW)} (hC : C = some (v, WB (xset x 1 0) m fl)) (hM : M (WB (xset x 1 0) m fl) = some (v, WB (xset x 1 0) (mset m 17 0) fl)) : Pair C m M :=
  ⟨v, _, _, _, hC, hM, n, Fs, h.tell 0⟩
end IVS
