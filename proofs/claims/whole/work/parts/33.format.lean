/-! format -/
theorem set_last {α : Type} (l : List α) (a b : α) : (l ++ [a]).set l.length b = l ++ [b] := by
  induction l with
  | nil => rfl
  | cons c l ih =>
    show c :: ((l ++ [a]).set l.length b) = c :: (l ++ [b])
    rw [ih]
theorem get_last {α : Type} (l : List α) (a : α) : (l ++ [a])[l.length]? = some a := by
  induction l with
  | nil => rfl
  | cons c l ih => exact ih
theorem XF.ext {fl : List xmE} {k : Nat} {F : FM} (h : XF fl k F) (e : xmE) : XF (fl ++ [e]) k F := by
  obtain ⟨i, h1, h2⟩ := h
  have hi : i < fl.length := (List.getElem?_eq_some_iff.mp h2).1
  exact ⟨i, h1, by rw [List.getElem?_append_left hi]; exact h2⟩
theorem XF.new (fl : List xmE) (F : FM) : XF (fl ++ [fmtE F]) (fl.length + 26) F := ⟨fl.length, rfl, get_last _ _⟩
/-- the place of a format among those that are there -/
def fnd (Fs : Nat → FM) (G : FM) : Nat → Nat → Option Nat
  | _, 0 => none
  | i, d + 1 => if Fs i = G then some i else fnd Fs G (i + 1) d
theorem fnd_none {Fs : Nat → FM} {G : FM} : ∀ (d i : Nat), fnd Fs G i d = none → ∀ j, i ≤ j → j < i + d → Fs j ≠ G := by
  intro d
  induction d with
  | zero => intro i _ j h1 h2; omega
  | succ d ih =>
    intro i h j h1 h2
    unfold fnd at h
    by_cases q : Fs i = G
    · rw [if_pos q] at h; cases h
    · rw [if_neg q] at h
      by_cases hj : j = i
      · subst hj; exact q
      · exact ih (i + 1) h j (by omega) (by omega)
section FMT
variable {n : Nat} {Fs : Nat → FM} {x : XS} {m : MS} {fl : List xmE}
theorem IW.ext (h : IW n Fs x m fl) (e : xmE) : IW n Fs x m (fl ++ [e]) := by
  obtain ⟨⟨a1, a2, a3, a4, a5, a6⟩, hr⟩ := h
  refine ⟨⟨a1, a2, a3, fun i hi => ?_, a5, a6⟩, hr⟩
  obtain ⟨k, q1, q2, q3, q4⟩ := a4 i hi
  exact ⟨k, q1, q2.ext e, q3, q4⟩
theorem p_new {fs : List xmV} {j : Nat} (hj : j < fs.length) (v : xmV) : xmput (WB x m (fl ++ [Sum.inl (1, fs)])) (some (fl.length + 26)) 1 j v = some (WB x m (fl ++ [Sum.inl (1, fs.set j v)])) := by
  have h1 : (WB x m (fl ++ [Sum.inl (1, fs)]))[fl.length + 26]? = some (Sum.inl (1, fs)) := by rw [wb_fl]; exact get_last _ _
  have h2 : ∀ e : xmE, (WB x m (fl ++ [Sum.inl (1, fs)])).set (fl.length + 26) e = WB x m ((fl ++ [Sum.inl (1, fs)]).set fl.length e) := fun _ => rfl
  simp only [xmput, h1]
  rw [if_pos ⟨True.intro, hj⟩, h2, set_last]
theorem x_fmt_init {s e f b t : Nat} {u : Bool} (hv : VF (s, e, f, b, u, t)) : fX1_init (WB x m (fl ++ [Sum.inl (1, [xI 0, xI 0, xI 0, xI 0, xI 0, xI 0, xI 0])])) (some (fl.length + 26)) (nI s) (nI e) (nI f) (nI b) (bI u) (nI t) = some (WB x m (fl ++ [fmtE (s, e, f, b, u, t)])) := by
  have hp := hv.p
  have hq := hv.q
  obtain ⟨hf4, _⟩ := hv.f2
  have hg := gr_lt hv
  have hf : fP (s, e, f, b, u, t) = 2 ^ (e + f) := rfl
  have hgr : gr (s, e, f, b, u, t) = if t = 0 then 2 ^ (e + f) - 2 ^ f - 1 else if t = 1 then 2 ^ (e + f) - 2 else 2 ^ (e + f) - 1 := rfl
  have hq : 2 ^ f * 2 ≤ 2 ^ (e + f) := hq
  have hp0 : 0 < 2 ^ f := Nat.two_pow_pos _
  obtain ⟨v1, v2, v3, v4, v5, v6, v7⟩ := hv
  have v1 : s ≤ 1 := v1
  have v3 : e ≤ 4 := v3
  have v4 : f ≤ 5 := v4
  have v6 : t ≤ 2 := v6
  have hb : bI u = 0 ∨ bI u = 1 := by cases u <;> decide
  have g : (if nI t = 0 then some (WB x m (fl ++ [Sum.inl (1, [xI (nI s), xI (nI e), xI (nI f), xI (nI b), xI (bI u), xI (nI t), xI (((1 : Int32) <<< ((nI e + nI f) &&& 31)) - ((1 : Int32) <<< (nI f &&& 31)) - 1)])])) else if nI t = 1 then some (WB x m (fl ++ [Sum.inl (1, [xI (nI s), xI (nI e), xI (nI f), xI (nI b), xI (bI u), xI (nI t), xI (((1 : Int32) <<< ((nI e + nI f) &&& 31)) - 2)])])) else some (WB x m (fl ++ [Sum.inl (1, [xI (nI s), xI (nI e), xI (nI f), xI (nI b), xI (bI u), xI (nI t), xI (((1 : Int32) <<< ((nI e + nI f) &&& 31)) - 1)])]))) = some (WB x m (fl ++ [fmtE (s, e, f, b, u, t)])) := by
    rw [nI_add, sh_one _ (show e + f < 31 by omega), sh_one _ (show f < 31 by omega)]
    simp only [nI_0' (show t < 2 ^ 31 by omega), nI_1' (show t < 2 ^ 31 by omega)]
    unfold fmtE
    rw [hgr]
    by_cases t0 : t = 0
    · rw [if_pos t0, if_pos t0, pk_sub (by omega), nI_s1 (by omega)]; rfl
    · rw [if_neg t0, if_neg t0]
      by_cases t1 : t = 1
      · rw [if_pos t1, if_pos t1, show (2 : Int32) = nI 2 from rfl, pk_sub (by omega)]; rfl
      · rw [if_neg t1, if_neg t1, nI_s1 (by omega)]; rfl
  refine Eq.trans ?_ g
  unfold fX1_init
  rw [Option.bind_some, p_new (Nat.le_of_ble_eq_true rfl), Option.bind_some, p_new (Nat.le_of_ble_eq_true rfl), Option.bind_some, p_new (Nat.le_of_ble_eq_true rfl), Option.bind_some, p_new (Nat.le_of_ble_eq_true rfl), Option.bind_some, if_pos hb, p_new (Nat.le_of_ble_eq_true rfl), Option.bind_some, p_new (Nat.le_of_ble_eq_true rfl), Option.bind_some, p_new (Nat.le_of_ble_eq_true rfl), p_new (Nat.le_of_ble_eq_true rfl), p_new (Nat.le_of_ble_eq_true rfl)]
  rfl
theorem x_alike {w : xmW} {k k2 : Nat} {F G : FM} (h : w[k]? = some (fmtE F)) (hv : VF F) (h2 : w[k2]? = some (fmtE G)) (hv2 : VF G) : fX1_isAlike w (some k) (some k2) = some (if F = G then 1 else 0) := by
  obtain ⟨s, e, f, b, u, t⟩ := F
  obtain ⟨s', e', f', b', u', t'⟩ := G
  simp only [fX1_isAlike, x_ob h, x_g0 h, x_g1 h, x_g2 h, x_g3 h, x_g4 h, x_g5 h, x_g0 h2, x_g1 h2, x_g2 h2, x_g3 h2, x_g4 h2, x_g5 h2, Option.bind_some]
  obtain ⟨v1, v2, v3, v4, v5, v6, v7⟩ := hv
  obtain ⟨w1, w2, w3, w4, w5, w6, w7⟩ := hv2
  have v1 : s ≤ 1 := v1
  have v3 : e ≤ 4 := v3
  have v4 : f ≤ 5 := v4
  have v5 : b ≤ 15 := v5
  have v6 : t ≤ 2 := v6
  have w1 : s' ≤ 1 := w1
  have w3 : e' ≤ 4 := w3
  have w4 : f' ≤ 5 := w4
  have w5 : b' ≤ 15 := w5
  have w6 : t' ≤ 2 := w6
  have e1 : (nI s = nI s') ↔ s = s' := nI_eq (by omega) (by omega)
  have e2 : (nI e = nI e') ↔ e = e' := nI_eq (by omega) (by omega)
  have e3 : (nI f = nI f') ↔ f = f' := nI_eq (by omega) (by omega)
  have e4 : (nI b = nI b') ↔ b = b' := nI_eq (by omega) (by omega)
  have e5 : (bI u = bI u') ↔ u = u' := bI_eq _ _
  have e6 : (nI t = nI t') ↔ t = t' := nI_eq (by omega) (by omega)
  show (if nI s = nI s' then if nI e = nI e' then if nI f = nI f' then if nI b = nI b' then if bI u = bI u' then xmbz (if nI t = nI t' then 1 else 0) else xmbz 0 else xmbz 0 else xmbz 0 else xmbz 0 else xmbz 0) = some (if (s, e, f, b, u, t) = (s', e', f', b', u', t') then 1 else 0)
  simp only [e1, e2, e3, e4, e5, e6]
  simp only [Prod.mk.injEq]
  by_cases q1 : s = s'
  · by_cases q2 : e = e'
    · by_cases q3 : f = f'
      · by_cases q4 : b = b'
        · by_cases q5 : u = u'
          · by_cases q6 : t = t'
            · simp [q1, q2, q3, q4, q5, q6]; rfl
            · simp [q1, q2, q3, q4, q5, q6]; rfl
          · simp [q1, q2, q3, q4, q5]; rfl
        · simp [q1, q2, q3, q4]; rfl
      · simp [q1, q2, q3]; rfl
    · simp [q1, q2]; rfl
  · simp [q1]; rfl
theorem f_at (h : FSs n Fs x m fl) {i : Nat} (hi : i < n) : ∃ k, x.2.1 i = some k ∧ XF fl k (Fs i) ∧ MA m i (Fs i) ∧ VF (Fs i) ∧ fX4_formatAt (WB x m fl) (some 0) (nI i) = some (some k) := by
  obtain ⟨a1, a2, a3, a4, a5, a6⟩ := h
  obtain ⟨k, k1, k2, k3, k4⟩ := a4 i hi
  refine ⟨k, k1, k2, k3, k4, ?_⟩
  have w1 : fX4_within (WB x m fl) (nI i) 0 9 = some 1 := by
    have n1 : ¬ nI i < 0 := nI_pos (by omega)
    have n2 : ¬ (9 : Int32) < nI i := by rw [show (9 : Int32) = nI 9 from rfl, nI_ltI (by omega) (by omega)]; omega
    simp only [fX4_within, if_neg n1, if_neg n2, xmbz1]
  simp only [fX4_formatAt, o_0, Option.bind_some, w1, one_z, if_false, g_0_0, a_1 (show i < 10 by omega), k1]
theorem x_fmtL (h : FSs n Fs x m fl) {K : Nat} {G : FM} (hK : XF fl K G) (hG : VF G) : ∀ (d i N : Nat), i + d = n → d < N → fX4_format_L90 N (WB x m fl) (some 0) (some K) (nI i) = match fnd Fs G i d with
    | some j => some (nI j, WB (xset x 1 0) m fl)
    | none => if n < 10 then some (nI n, WB (xset (xset (xfas x n (some K)) 0 (nI (n + 1))) 1 0) m fl) else some (-3, WB (xset x 1 (-3)) m fl) := by
  obtain ⟨a1, a2, a3, a4, a5, a6⟩ := id h
  intro d
  induction d with
  | zero =>
    intro i N hi hN
    obtain ⟨N, rfl⟩ : ∃ N', N = N' + 1 := ⟨N - 1, by omega⟩
    have hin : i = n := by omega
    subst hin
    have t1 : (nI i < 10) ↔ i < 10 := by rw [show (10 : Int32) = nI 10 from rfl, nI_ltI (by omega) (by omega)]
    rw [fX4_format_L90, g_0_1, Option.bind_some, a2, if_pos (nI_le (Nat.le_refl _) (by omega)), Option.bind_some]
    show _ = if i < 10 then _ else _
    by_cases q : i < 10
    · rw [if_pos (t1.mpr q), if_pos q, g_0_0, Option.bind_some, Option.bind_some, s_1 q (x_ob (hK.w x m)), Option.bind_some, g_0_1, Option.bind_some]
      have e2 : (xfas x i (some K)).1 0 = nI i := a2
      rw [e2, nI_1, p_0_1, Option.bind_some, g_0_1, Option.bind_some]
      have e3 : (xset (xfas x i (some K)) 0 (nI (i + 1))).1 0 = nI (i + 1) := rfl
      rw [e3, nI_s1 (by omega), x_ans, xmb2_s]
      rfl
    · rw [if_neg (fun p => q (t1.mp p)), if_neg q, x_ref, xmb2_s]
  | succ d ih =>
    intro i N hi hN
    obtain ⟨N, rfl⟩ : ∃ N', N = N' + 1 := ⟨N - 1, by omega⟩
    obtain ⟨k, k1, k2, k3, k4, k5⟩ := f_at h (show i < n by omega)
    rw [fX4_format_L90, g_0_1, Option.bind_some, a2, if_neg (nI_ge (by omega) (by omega)), k5, Option.bind_some, if_neg (by simp), x_alike (k2.w x m) k4 (hK.w x m) hG, Option.bind_some]
    unfold fnd
    by_cases q : Fs i = G
    · rw [if_pos q, if_pos q, if_neg (by decide), x_ans, xmb2_s]
    · rw [if_neg q, if_neg q, if_pos rfl, nI_1]
      exact ih (i + 1) N (by omega) (by omega)
def mfm (m : MS) (n : Nat) (G : FM) : MS := mset (mast (mast (mast (mast (mast (mast m 1 n (nI (fS G))) 2 n (nI (fE G))) 3 n (nI (fF G))) 4 n (nI (fB G))) 5 n (bI (fU G))) 6 n (nI (fT G))) 0 (nI (n + 1))
theorem vn_b (u : Bool) : vp_nar .boolean (bI u) = bI u := by cases u <;> decide
theorem m_fmtL (h : FSs n Fs x m fl) {G : FM} (hG : VF G) {x' : XS} {fl' : List xmE} : ∀ (d i N : Nat), i + d = n → d < N → fX5_format_L78 N (WB x' m fl') (some 15) (nI (fS G)) (nI (fE G)) (nI (fF G)) (nI (fB G)) (bI (fU G)) (nI (fT G)) (nI i) = match fnd Fs G i d with
    | some j => some (nI j, WB x' (mset m 17 0) fl')
    | none => if n < 10 then some (nI n, WB x' (mset (mfm m n G) 17 0) fl') else some (-3, WB x' (mset m 17 (-3)) fl') := by
  obtain ⟨a1, a2, a3, a4, a5, a6⟩ := id h
  intro d
  induction d with
  | zero =>
    intro i N hi hN
    obtain ⟨N, rfl⟩ : ∃ N', N = N' + 1 := ⟨N - 1, by omega⟩
    have hin : i = n := by omega
    subst hin
    have t1 : (nI i = 10) ↔ i = 10 := by rw [show (10 : Int32) = nI 10 from rfl, nI_eq (by omega) (by omega)]
    rw [fX5_format_L78, g_15_0, Option.bind_some, a3, if_pos (nI_le (Nat.le_refl _) (by omega)), Option.bind_some]
    show _ = if i < 10 then _ else _
    by_cases q : i < 10
    · rw [if_neg (fun p => by have := t1.mp p; omega), if_pos q, g_15_1, Option.bind_some, Option.bind_some, s_16 q, Option.bind_some, g_15_2, Option.bind_some, g_15_0, Option.bind_some]
      have r1 : (mast m 1 i (nI (fS G))).1 0 = nI i := a3
      rw [r1, s_17 q, Option.bind_some, g_15_3, Option.bind_some, g_15_0, Option.bind_some]
      have r2 : (mast (mast m 1 i (nI (fS G))) 2 i (nI (fE G))).1 0 = nI i := a3
      rw [r2, s_18 q, Option.bind_some, g_15_4, Option.bind_some, g_15_0, Option.bind_some]
      have r3 : (mast (mast (mast m 1 i (nI (fS G))) 2 i (nI (fE G))) 3 i (nI (fF G))).1 0 = nI i := a3
      rw [r3, s_19 q, Option.bind_some, g_15_5, Option.bind_some, g_15_0, Option.bind_some]
      have r4 : (mast (mast (mast (mast m 1 i (nI (fS G))) 2 i (nI (fE G))) 3 i (nI (fF G))) 4 i (nI (fB G))).1 0 = nI i := a3
      rw [r4, vn_b, s_20 q, Option.bind_some, g_15_6, Option.bind_some, g_15_0, Option.bind_some]
      have r5 : (mast (mast (mast (mast (mast m 1 i (nI (fS G))) 2 i (nI (fE G))) 3 i (nI (fF G))) 4 i (nI (fB G))) 5 i (bI (fU G))).1 0 = nI i := a3
      rw [r5, s_21 q, Option.bind_some, g_15_0, Option.bind_some]
      have r6 : (mast (mast (mast (mast (mast (mast m 1 i (nI (fS G))) 2 i (nI (fE G))) 3 i (nI (fF G))) 4 i (nI (fB G))) 5 i (bI (fU G))) 6 i (nI (fT G))).1 0 = nI i := a3
      rw [r6, nI_1, p_15_0, Option.bind_some, g_15_0, Option.bind_some]
      have r7 : (mset (mast (mast (mast (mast (mast (mast m 1 i (nI (fS G))) 2 i (nI (fE G))) 3 i (nI (fF G))) 4 i (nI (fB G))) 5 i (bI (fU G))) 6 i (nI (fT G))) 0 (nI (i + 1))).1 0 = nI (i + 1) := rfl
      rw [r7, nI_s1 (by omega), m_fin, xmb2_s]
      rfl
    · rw [if_pos (t1.mpr (by omega)), if_neg q, m_ref, xmb2_s]
  | succ d ih =>
    intro i N hi hN
    obtain ⟨N, rfl⟩ : ∃ N', N = N' + 1 := ⟨N - 1, by omega⟩
    obtain ⟨k, k1, k2, ⟨c0, c1, c2, c3, c4, c5, c6⟩, k4⟩ := a4 i (by omega)
    have nx := ih (i + 1) N (by omega) (by omega)
    obtain ⟨v1, v2, v3, v4, v5, v6, v7⟩ := k4
    obtain ⟨w1, w2, w3, w4, w5, w6, w7⟩ := hG
    rw [fX5_format_L78, g_15_0, Option.bind_some, a3, if_neg (nI_ge (by omega) (by omega)), g_15_1, Option.bind_some, a_16 c0, Option.bind_some, c1, nI_1]
    unfold fnd
    have eF : (Fs i = G) ↔ (fS (Fs i) = fS G ∧ fE (Fs i) = fE G ∧ fF (Fs i) = fF G ∧ fB (Fs i) = fB G ∧ fU (Fs i) = fU G ∧ fT (Fs i) = fT G) := by
      constructor
      · intro e; rw [e]; exact ⟨rfl, rfl, rfl, rfl, rfl, rfl⟩
      · intro e; exact Prod.ext e.1 (Prod.ext e.2.1 (Prod.ext e.2.2.1 (Prod.ext e.2.2.2.1 (Prod.ext e.2.2.2.2.1 e.2.2.2.2.2))))
    by_cases q1 : fS (Fs i) = fS G
    · rw [if_pos (congrArg nI q1), g_15_2, Option.bind_some, a_17 c0, Option.bind_some, c2]
      by_cases q2 : fE (Fs i) = fE G
      · rw [if_pos (congrArg nI q2), g_15_3, Option.bind_some, a_18 c0, Option.bind_some, c3]
        by_cases q3 : fF (Fs i) = fF G
        · rw [if_pos (congrArg nI q3), g_15_4, Option.bind_some, a_19 c0, Option.bind_some, c4]
          by_cases q4 : fB (Fs i) = fB G
          · rw [if_pos (congrArg nI q4), g_15_5, Option.bind_some, a_20 c0, Option.bind_some, c5]
            by_cases q5 : fU (Fs i) = fU G
            · rw [if_pos (congrArg bI q5), g_15_6, Option.bind_some, a_21 c0, Option.bind_some, c6]
              by_cases q6 : fT (Fs i) = fT G
              · rw [if_pos (congrArg nI q6), if_pos (eF.mpr ⟨q1, q2, q3, q4, q5, q6⟩), m_fin, xmb2_s]
              · rw [if_neg (fun p => q6 ((nI_eq (by omega) (by omega)).mp p)), if_neg (fun p => q6 (eF.mp p).2.2.2.2.2)]; exact nx
            · rw [if_neg (fun p => q5 ((bI_eq _ _).mp p)), if_neg (fun p => q5 (eF.mp p).2.2.2.2.1)]; exact nx
          · rw [if_neg (fun p => q4 ((nI_eq (by omega) (by omega)).mp p)), if_neg (fun p => q4 (eF.mp p).2.2.2.1)]; exact nx
        · rw [if_neg (fun p => q3 ((nI_eq (by omega) (by omega)).mp p)), if_neg (fun p => q3 (eF.mp p).2.2.1)]; exact nx
      · rw [if_neg (fun p => q2 ((nI_eq (by omega) (by omega)).mp p)), if_neg (fun p => q2 (eF.mp p).2.1)]; exact nx
    · rw [if_neg (fun p => q1 ((nI_eq (by omega) (by omega)).mp p)), if_neg (fun p => q1 (eF.mp p).1)]; exact nx
theorem IW.add (h : IW n Fs x m fl) {G : FM} (hG : VF G) (hn : n < 10) (hnew : ∀ j, j < n → Fs j ≠ G) {K : Nat} (hK : XF fl K G) : IW (n + 1) (fun j => if j = n then G else Fs j) (xset (xfas x n (some K)) 0 (nI (n + 1))) (mfm m n G) fl := by
  obtain ⟨⟨a1, a2, a3, a4, a5, a6⟩, hr, ht, hT, b1, b2, b3, b4⟩ := h
  have hxf : ∀ f, f < n → (xset (xfas x n (some K)) 0 (nI (n + 1))).2.1 f = x.2.1 f := fun f hf => by
    show va_up x.2.1 n (some K) f = x.2.1 f
    unfold va_up; rw [if_neg (by omega)]
  have hms : ∀ f, f ≠ n → ∀ a, (mfm m n G).2.2 a f = m.2.2 a f := fun f hf a => by
    show (if a = 6 then upd _ n _ else if a = 5 then upd _ n _ else if a = 4 then upd _ n _ else if a = 3 then upd _ n _ else if a = 2 then upd _ n _ else if a = 1 then upd _ n _ else m.2.2 a) f = m.2.2 a f
    by_cases e6 : a = 6
    · subst e6; rw [if_pos rfl, upd_ne _ _ hf]; rfl
    · rw [if_neg e6]
      by_cases e5 : a = 5
      · subst e5; rw [if_pos rfl, upd_ne _ _ hf]; rfl
      · rw [if_neg e5]
        by_cases e4 : a = 4
        · subst e4; rw [if_pos rfl, upd_ne _ _ hf]; rfl
        · rw [if_neg e4]
          by_cases e3 : a = 3
          · subst e3; rw [if_pos rfl, upd_ne _ _ hf]; rfl
          · rw [if_neg e3]
            by_cases e2 : a = 2
            · subst e2; rw [if_pos rfl, upd_ne _ _ hf]; rfl
            · rw [if_neg e2]
              by_cases e1 : a = 1
              · subst e1; rw [if_pos rfl, upd_ne _ _ hf]
              · rw [if_neg e1]
  have hma : ∀ a, 6 < a → (mfm m n G).2.2 a = m.2.2 a := fun a ha => by
    show (if a = 6 then _ else if a = 5 then _ else if a = 4 then _ else if a = 3 then _ else if a = 2 then _ else if a = 1 then _ else m.2.2 a) = m.2.2 a
    rw [if_neg (by omega), if_neg (by omega), if_neg (by omega), if_neg (by omega), if_neg (by omega), if_neg (by omega)]
  have hm1 : ∀ k, k ≠ 0 → (mfm m n G).1 k = m.1 k := fun k hk => upd_ne _ _ hk
  have hx1 : ∀ k, k ≠ 0 → (xset (xfas x n (some K)) 0 (nI (n + 1))).1 k = x.1 k := fun k hk => upd_ne _ _ hk
  refine ⟨⟨by omega, rfl, rfl, fun i hi => ?_, fun i h1 h2 => ?_, fun i j hi hj hij => ?_⟩, fun i hi => ?_, ?_, ?_, ?_, ?_, ?_, ?_⟩
  · by_cases hin : i = n
    · subst hin
      refine ⟨K, ?_, ?_, ?_, ?_⟩
      · show va_up x.2.1 i (some K) i = some K
        unfold va_up; rw [if_pos rfl]
      · simp only [if_true]; exact hK
      · simp only [if_true]
        refine ⟨hn, ?_, ?_, ?_, ?_, ?_, ?_⟩
        · show upd (m.2.2 1) i _ i = _
          exact upd_eq _ _ _
        · show upd (m.2.2 2) i _ i = _
          exact upd_eq _ _ _
        · show upd (m.2.2 3) i _ i = _
          exact upd_eq _ _ _
        · show upd (m.2.2 4) i _ i = _
          exact upd_eq _ _ _
        · show upd (m.2.2 5) i _ i = _
          exact upd_eq _ _ _
        · show upd (m.2.2 6) i _ i = _
          exact upd_eq _ _ _
      · simp only [if_true]; exact hG
    · obtain ⟨k, q1, q2, q3, q4⟩ := a4 i (by omega)
      refine ⟨k, (hxf i (by omega)).trans q1, ?_, ?_, ?_⟩
      · simp only [if_neg hin]; exact q2
      · simp only [if_neg hin]
        unfold MA at *
        rw [hms i hin 1, hms i hin 2, hms i hin 3, hms i hin 4, hms i hin 5, hms i hin 6]; exact q3
      · simp only [if_neg hin]; exact q4
  · show va_up x.2.1 n (some K) i = none
    unfold va_up; rw [if_neg (by omega)]; exact a5 i (by omega) h2
  · by_cases q1 : i = n
    · by_cases q2 : j = n
      · omega
      · simp only [if_pos q1, if_neg q2] at hij
        exact absurd hij.symm (hnew j (by omega))
    · by_cases q2 : j = n
      · simp only [if_neg q1, if_pos q2] at hij
        exact absurd hij (hnew i (by omega))
      · simp only [if_neg q1, if_neg q2] at hij
        exact a6 i j (by omega) (by omega) hij
  · have := hr i hi
    unfold RWs at *
    rw [hma 7 (by omega), hma 8 (by omega), hma 9 (by omega), hx1 (11 + i) (by omega)]
    rcases this with q | ⟨f, len, c1, c2, c3, c4, c5, c6, c7⟩
    · exact Or.inl q
    · refine Or.inr ⟨f, len, by omega, c2.trans (hxf f c1).symm, c3, c4, c5, c6, ?_⟩
      simp only [if_neg (show ¬ f = n by omega)]
      exact c7
  · unfold TBs at *
    rw [hm1 11 (by omega), hm1 12 (by omega), hm1 13 (by omega), hx1 2 (by omega), hx1 3 (by omega)]
    rcases ht with q | ⟨f, what, mode, c1, c2, c3⟩
    · exact Or.inl q
    · exact Or.inr ⟨f, what, mode, by omega, c2.trans (hxf f c1).symm, c3⟩
  · obtain ⟨t, t1, t2, t3⟩ := hT
    exact ⟨t, t1, (hx1 4 (by omega)).trans t2, (hm1 10 (by omega)).trans t3⟩
  · rw [hx1 1 (by omega), hm1 17 (by omega)]; exact b1
  · rw [hx1 8 (by omega), hm1 14 (by omega)]; exact b2
  · rw [hx1 9 (by omega), hm1 15 (by omega)]; exact b3
  · rw [hx1 10 (by omega), hm1 16 (by omega)]; exact b4
end FMT
