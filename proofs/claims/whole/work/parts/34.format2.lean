/-! format, the call -/
theorem wi_14 (a : Int32) : (∃ c, 1 ≤ c ∧ c ≤ 4 ∧ a = nI c ∧ (∀ w, fX4_within w a 1 4 = some 1) ∧ (∀ w, fX5_in w a.toInt64 1 4 = some 1)) ∨ ((∀ w, fX4_within w a 1 4 = some 0) ∧ (∀ w, fX5_in w a.toInt64 1 4 = some 0)) := spl a 1 4 (by omega) (by omega)
section FMC
variable {n : Nat} {Fs : Nat → FM} {x : XS} {m : MS} {fl : List xmE}
theorem x_new : xmnew (WB x m fl) 1 [xI 0, xI 0, xI 0, xI 0, xI 0, xI 0, xI 0] = some (WB x m (fl ++ [Sum.inl (1, [xI 0, xI 0, xI 0, xI 0, xI 0, xI 0, xI 0])])) := rfl
theorem x_fmt0 (h : FSs n Fs x m fl) {K : Nat} {G : FM} (hK : XF fl K G) (hG : VF G) (N : Nat) (hN : 10 < N) : fX4_format_L90 N (WB x m fl) (some 0) (some K) 0 = match fnd Fs G 0 n with
    | some j => some (nI j, WB (xset x 1 0) m fl)
    | none => if n < 10 then some (nI n, WB (xset (xset (xfas x n (some K)) 0 (nI (n + 1))) 1 0) m fl) else some (-3, WB (xset x 1 (-3)) m fl) := x_fmtL h hK hG n 0 N (Nat.zero_add _) (by have := h.1; omega)
theorem m_fmt0 (h : FSs n Fs x m fl) {G : FM} (hG : VF G) {x' : XS} {fl' : List xmE} (N : Nat) (hN : 10 < N) : fX5_format_L78 N (WB x' m fl') (some 15) (nI (fS G)) (nI (fE G)) (nI (fF G)) (nI (fB G)) (bI (fU G)) (nI (fT G)) 0 = match fnd Fs G 0 n with
    | some j => some (nI j, WB x' (mset m 17 0) fl')
    | none => if n < 10 then some (nI n, WB x' (mset (mfm m n G) 17 0) fl') else some (-3, WB x' (mset m 17 (-3)) fl') := m_fmtL h hG n 0 N (Nat.zero_add _) (by have := h.1; omega)
theorem pr_format (h : IW n Fs x m fl) (a1 a2 a3 a4 : Int32) (u : Bool) (a6 : Int32) : Pair (fX4_format (WB x m fl) (some 0) a1 a2 a3 a4 (bI u) a6) m (fun w => fX5_format w (some 15) a1 a2 a3 a4 (bI u) a6) := by
  have z1 : ¬ (1 : Int32) = 0 := by decide
  have rfs : (fX4_format (WB x m fl) (some 0) a1 a2 a3 a4 (bI u) a6 = some (-1, WB (xset x 1 (-1)) m fl)) → (fX5_format (WB (xset x 1 (-1)) m fl) (some 15) a1 a2 a3 a4 (bI u) a6 = some (-1, WB (xset x 1 (-1)) (mset m 17 (-1)) fl)) → Pair (fX4_format (WB x m fl) (some 0) a1 a2 a3 a4 (bI u) a6) m (fun w => fX5_format w (some 15) a1 a2 a3 a4 (bI u) a6) := fun h1 h2 => Pair.ref h (-1) h1 h2
  rcases wi_1 a1 with ⟨s, hs, rfl, s1, s2⟩ | ⟨s1, s2⟩
  · rcases wi_14 a2 with ⟨e, he1, he, rfl, e1, e2⟩ | ⟨e1, e2⟩
    · rcases wi_5 a3 with ⟨f, hf, rfl, f1, f2⟩ | ⟨f1, f2⟩
      · have hsum : nI s + nI e + nI f = nI (s + e + f) := by rw [nI_add, nI_add]
        have h3 : ((3 : Int32) ≤ nI s + nI e + nI f) ↔ 3 ≤ s + e + f := by rw [hsum, show (3 : Int32) = nI 3 from rfl, nI_leI (by omega) (by omega)]
        by_cases q3 : 3 ≤ s + e + f
        · rcases wi_15 a4 with ⟨b, hb, rfl, b1, b2⟩ | ⟨b1, b2⟩
          · rcases wi_2 a6 with ⟨t, ht, rfl, t1, t2⟩ | ⟨t1, t2⟩
            · have hG : VF (s, e, f, b, u, t) := ⟨hs, he1, he, hf, hb, ht, q3⟩
              have hX := (h.ext (fmtE (s, e, f, b, u, t)))
              have hK := XF.new fl (s, e, f, b, u, t)
              have cl : fX4_format (WB x m fl) (some 0) (nI s) (nI e) (nI f) (nI b) (bI u) (nI t) = fX4_format_L90 xmN (WB x m (fl ++ [fmtE (s, e, f, b, u, t)])) (some 0) (some (fl.length + 26)) 0 := by
                unfold fX4_format
                rw [o_0, Option.bind_some, s1, Option.bind_some, if_neg z1, e1, Option.bind_some, if_neg z1, f1, Option.bind_some, if_neg z1, if_pos (h3.mpr q3), b1, Option.bind_some, if_neg z1, t1, Option.bind_some, if_neg z1, x_new, Option.bind_some, wb_len, x_fmt_init hG, Option.bind_some]
              have md : ∀ x' fl', fX5_format (WB x' m fl') (some 15) (nI s) (nI e) (nI f) (nI b) (bI u) (nI t) = fX5_format_L78 xmN (WB x' m fl') (some 15) (nI s) (nI e) (nI f) (nI b) (bI u) (nI t) 0 := by
                intro x' fl'
                unfold fX5_format
                rw [o_15, Option.bind_some, s2, Option.bind_some, if_neg z1, e2, Option.bind_some, if_neg z1, f2, Option.bind_some, if_neg z1, b2, Option.bind_some, if_neg z1, t2, Option.bind_some, if_neg z1, if_pos (h3.mpr q3)]
              have c2 := x_fmt0 hX.1 hK hG xmN (by decide)
              have m2 := fun (x' : XS) (fl' : List xmE) => m_fmt0 h.1 hG (x' := x') (fl' := fl') xmN (by decide)
              rw [← cl] at c2
              have m3 := fun (x' : XS) (fl' : List xmE) => (md x' fl').trans (m2 x' fl')
              cases hfn : fnd Fs (s, e, f, b, u, t) 0 n with
              | some j =>
                rw [hfn] at c2
                refine ⟨nI j, _, _, _, c2, ?_, n, Fs, hX.tell 0⟩
                have := m3 (xset x 1 0) (fl ++ [fmtE (s, e, f, b, u, t)])
                rw [hfn] at this
                exact this
              | none =>
                rw [hfn] at c2
                have hnew := fnd_none n 0 hfn
                by_cases q10 : n < 10
                · have c2 : fX4_format (WB x m fl) (some 0) (nI s) (nI e) (nI f) (nI b) (bI u) (nI t) = if n < 10 then some (nI n, WB (xset (xset (xfas x n (some (fl.length + 26))) 0 (nI (n + 1))) 1 0) m (fl ++ [fmtE (s, e, f, b, u, t)])) else some (-3, WB (xset x 1 (-3)) m (fl ++ [fmtE (s, e, f, b, u, t)])) := c2
                  rw [if_pos q10] at c2
                  refine ⟨nI n, _, _, _, c2, ?_, n + 1, _, (hX.add hG q10 (fun j hj => hnew j (Nat.zero_le _) (by omega)) hK).tell 0⟩
                  have := m3 (xset (xset (xfas x n (some (fl.length + 26))) 0 (nI (n + 1))) 1 0) (fl ++ [fmtE (s, e, f, b, u, t)])
                  rw [hfn] at this
                  refine this.trans ?_
                  show (if n < 10 then _ else _) = _
                  rw [if_pos q10]
                · have c2 : fX4_format (WB x m fl) (some 0) (nI s) (nI e) (nI f) (nI b) (bI u) (nI t) = if n < 10 then some (nI n, WB (xset (xset (xfas x n (some (fl.length + 26))) 0 (nI (n + 1))) 1 0) m (fl ++ [fmtE (s, e, f, b, u, t)])) else some (-3, WB (xset x 1 (-3)) m (fl ++ [fmtE (s, e, f, b, u, t)])) := c2
                  rw [if_neg q10] at c2
                  refine ⟨-3, _, _, _, c2, ?_, n, Fs, hX.tell (-3)⟩
                  have := m3 (xset x 1 (-3)) (fl ++ [fmtE (s, e, f, b, u, t)])
                  rw [hfn] at this
                  refine this.trans ?_
                  show (if n < 10 then _ else _) = _
                  rw [if_neg q10]
            · refine rfs ?_ ?_
              · unfold fX4_format
                rw [o_0, Option.bind_some, s1, Option.bind_some, if_neg z1, e1, Option.bind_some, if_neg z1, f1, Option.bind_some, if_neg z1, if_pos (h3.mpr q3), b1, Option.bind_some, if_neg z1, t1, Option.bind_some, if_pos rfl, x_ref, xmb2_s]
              · unfold fX5_format
                rw [o_15, Option.bind_some, s2, Option.bind_some, if_neg z1, e2, Option.bind_some, if_neg z1, f2, Option.bind_some, if_neg z1, b2, Option.bind_some, if_neg z1, t2, Option.bind_some, if_pos rfl, m_ref, xmb2_s]
          · refine rfs ?_ ?_
            · unfold fX4_format
              rw [o_0, Option.bind_some, s1, Option.bind_some, if_neg z1, e1, Option.bind_some, if_neg z1, f1, Option.bind_some, if_neg z1, if_pos (h3.mpr q3), b1, Option.bind_some, if_pos rfl, x_ref, xmb2_s]
            · unfold fX5_format
              rw [o_15, Option.bind_some, s2, Option.bind_some, if_neg z1, e2, Option.bind_some, if_neg z1, f2, Option.bind_some, if_neg z1, b2, Option.bind_some, if_pos rfl, m_ref, xmb2_s]
        · refine rfs ?_ ?_
          · unfold fX4_format
            rw [o_0, Option.bind_some, s1, Option.bind_some, if_neg z1, e1, Option.bind_some, if_neg z1, f1, Option.bind_some, if_neg z1, if_neg (fun p => q3 (h3.mp p)), x_ref, xmb2_s]
          · unfold fX5_format
            rw [o_15, Option.bind_some, s2, Option.bind_some, if_neg z1, e2, Option.bind_some, if_neg z1, f2, Option.bind_some, if_neg z1]
            rcases wi_15 a4 with ⟨b, hb, rfl, b1, b2⟩ | ⟨b1, b2⟩
            · rw [b2, Option.bind_some, if_neg z1]
              rcases wi_2 a6 with ⟨t, ht, rfl, t1, t2⟩ | ⟨t1, t2⟩
              · rw [t2, Option.bind_some, if_neg z1, if_neg (fun p => q3 (h3.mp p)), m_ref, xmb2_s]
              · rw [t2, Option.bind_some, if_pos rfl, m_ref, xmb2_s]
            · rw [b2, Option.bind_some, if_pos rfl, m_ref, xmb2_s]
      · refine rfs ?_ ?_
        · unfold fX4_format
          rw [o_0, Option.bind_some, s1, Option.bind_some, if_neg z1, e1, Option.bind_some, if_neg z1, f1, Option.bind_some, if_pos rfl, x_ref, xmb2_s]
        · unfold fX5_format
          rw [o_15, Option.bind_some, s2, Option.bind_some, if_neg z1, e2, Option.bind_some, if_neg z1, f2, Option.bind_some, if_pos rfl, m_ref, xmb2_s]
    · refine rfs ?_ ?_
      · unfold fX4_format
        rw [o_0, Option.bind_some, s1, Option.bind_some, if_neg z1, e1, Option.bind_some, if_pos rfl, x_ref, xmb2_s]
      · unfold fX5_format
        rw [o_15, Option.bind_some, s2, Option.bind_some, if_neg z1, e2, Option.bind_some, if_pos rfl, m_ref, xmb2_s]
  · refine rfs ?_ ?_
    · unfold fX4_format
      rw [o_0, Option.bind_some, s1, Option.bind_some, if_pos rfl, x_ref, xmb2_s]
    · unfold fX5_format
      rw [o_15, Option.bind_some, s2, Option.bind_some, if_pos rfl, m_ref, xmb2_s]
end FMC
