/-! THE LAW: its cases, its loop, its beginning -/
theorem Pair.use {m : MS} {C : Option (Int32 × xmW)} {M : xmW → Option (Int32 × xmW)} (h : Pair C m M) : ∃ x' m' fl', (xmb2 C fun v w => xmb2 (M w) fun v' w' => if v = v' then some w' else none) = some (WB x' m' fl') ∧ IV x' m' fl' := by
  obtain ⟨r, x', fl', m', hC, hM, hI⟩ := h
  refine ⟨x', m', fl', ?_, hI⟩
  rw [hC, xmb2_s, hM, xmb2_s, if_pos rfl]
theorem Pair.useL {m : MS} {C : Option (Int64 × xmW)} {M : xmW → Option (Int64 × xmW)} (h : Pair C m M) : ∃ x' m' fl', (xmb2 C fun v w => xmb2 (M w) fun v' w' => if (lg_cmp v v') = 0 then some w' else none) = some (WB x' m' fl') ∧ IV x' m' fl' := by
  obtain ⟨r, x', fl', m', hC, hM, hI⟩ := h
  refine ⟨x', m', fl', ?_, hI⟩
  rw [hC, xmb2_s, hM, xmb2_s, if_pos ((lg_cmp_eq r r).mpr rfl)]
section LAW
variable {x : XS} {m : MS} {fl : List xmE} {xs : Nat → Int32} {L i : Nat}
theorem bn (hi : i + 7 ≤ L) (hL : L ≤ 3584) {j : Nat} (hj : j < 7) : 0 ≤ nI i + nI j ∧ (nI i + nI j).toNatClampNeg < L := by
  rw [nI_add, nI_clamp (by omega)]
  exact ⟨nI_pos' (by omega), by omega⟩
theorem lc_0 (h : IV x m fl) (hi : i + 7 ≤ L) (hL : L ≤ 3584) : ∃ x' m' fl', fLc_0 xs L (WB x m fl) (some 0) (some 15) (nI i) = some (WB x' m' fl') ∧ IV x' m' fl' := by
  obtain ⟨n, Fs, h⟩ := h
  have b1 : 0 ≤ nI i + (1 : Int32) ∧ (nI i + (1 : Int32)).toNatClampNeg < L := bn hi hL (j := 1) (by omega)
  have b2 : 0 ≤ nI i + (2 : Int32) ∧ (nI i + (2 : Int32)).toNatClampNeg < L := bn hi hL (j := 2) (by omega)
  have b3 : 0 ≤ nI i + (3 : Int32) ∧ (nI i + (3 : Int32)).toNatClampNeg < L := bn hi hL (j := 3) (by omega)
  have b4 : 0 ≤ nI i + (4 : Int32) ∧ (nI i + (4 : Int32)).toNatClampNeg < L := bn hi hL (j := 4) (by omega)
  have b5 : 0 ≤ nI i + (5 : Int32) ∧ (nI i + (5 : Int32)).toNatClampNeg < L := bn hi hL (j := 5) (by omega)
  have b6 : 0 ≤ nI i + (6 : Int32) ∧ (nI i + (6 : Int32)).toNatClampNeg < L := bn hi hL (j := 6) (by omega)
  simp only [fLc_0, b1, b2, b3, b4, b5, b6, and_self, if_true, bI_ifn]
  exact (pr_format h _ _ _ _ _ _).use
theorem lc_1 (h : IV x m fl) (hi : i + 7 ≤ L) (hL : L ≤ 3584) : ∃ x' m' fl', fLc_1 xs L (WB x m fl) (some 0) (some 15) (nI i) = some (WB x' m' fl') ∧ IV x' m' fl' := by
  obtain ⟨n, Fs, h⟩ := h
  have b1 : 0 ≤ nI i + (1 : Int32) ∧ (nI i + (1 : Int32)).toNatClampNeg < L := bn hi hL (j := 1) (by omega)
  have b2 : 0 ≤ nI i + (2 : Int32) ∧ (nI i + (2 : Int32)).toNatClampNeg < L := bn hi hL (j := 2) (by omega)
  simp only [fLc_1, b1, b2, and_self, if_true]
  exact (pr_about h _ _).use
theorem lc_2 (h : IV x m fl) (hi : i + 7 ≤ L) (hL : L ≤ 3584) : ∃ x' m' fl', fLc_2 xs L (WB x m fl) (some 0) (some 15) (nI i) = some (WB x' m' fl') ∧ IV x' m' fl' := by
  obtain ⟨n, Fs, h⟩ := h
  have b1 : 0 ≤ nI i + (1 : Int32) ∧ (nI i + (1 : Int32)).toNatClampNeg < L := bn hi hL (j := 1) (by omega)
  have b2 : 0 ≤ nI i + (2 : Int32) ∧ (nI i + (2 : Int32)).toNatClampNeg < L := bn hi hL (j := 2) (by omega)
  have b3 : 0 ≤ nI i + (3 : Int32) ∧ (nI i + (3 : Int32)).toNatClampNeg < L := bn hi hL (j := 3) (by omega)
  simp only [fLc_2, b1, b2, b3, and_self, if_true]
  exact (pr_kind h _ _ _).use
theorem lc_3 (h : IV x m fl) (hi : i + 7 ≤ L) (hL : L ≤ 3584) : ∃ x' m' fl', fLc_3 xs L (WB x m fl) (some 0) (some 15) (nI i) = some (WB x' m' fl') ∧ IV x' m' fl' := by
  obtain ⟨n, Fs, h⟩ := h
  have b1 : 0 ≤ nI i + (1 : Int32) ∧ (nI i + (1 : Int32)).toNatClampNeg < L := bn hi hL (j := 1) (by omega)
  have b2 : 0 ≤ nI i + (2 : Int32) ∧ (nI i + (2 : Int32)).toNatClampNeg < L := bn hi hL (j := 2) (by omega)
  simp only [fLc_3, b1, b2, and_self, if_true]
  exact (pr_units h _ _).useL
theorem lc_4 (h : IV x m fl) (hi : i + 7 ≤ L) (hL : L ≤ 3584) : ∃ x' m' fl', fLc_4 xs L (WB x m fl) (some 0) (some 15) (nI i) = some (WB x' m' fl') ∧ IV x' m' fl' := by
  obtain ⟨n, Fs, h⟩ := h
  have b1 : 0 ≤ nI i + (1 : Int32) ∧ (nI i + (1 : Int32)).toNatClampNeg < L := bn hi hL (j := 1) (by omega)
  have b2 : 0 ≤ nI i + (2 : Int32) ∧ (nI i + (2 : Int32)).toNatClampNeg < L := bn hi hL (j := 2) (by omega)
  have b3 : 0 ≤ nI i + (3 : Int32) ∧ (nI i + (3 : Int32)).toNatClampNeg < L := bn hi hL (j := 3) (by omega)
  have b4 : 0 ≤ nI i + (4 : Int32) ∧ (nI i + (4 : Int32)).toNatClampNeg < L := bn hi hL (j := 4) (by omega)
  have b5 : 0 ≤ nI i + (5 : Int32) ∧ (nI i + (5 : Int32)).toNatClampNeg < L := bn hi hL (j := 5) (by omega)
  have b6 : 0 ≤ nI i + (6 : Int32) ∧ (nI i + (6 : Int32)).toNatClampNeg < L := bn hi hL (j := 6) (by omega)
  simp only [fLc_4, b1, b2, b3, b4, b5, b6, and_self, if_true]
  exact (pr_code h _ _ _ _).use
theorem lc_5 (h : IV x m fl) (hi : i + 7 ≤ L) (hL : L ≤ 3584) : ∃ x' m' fl', fLc_5 xs L (WB x m fl) (some 0) (some 15) (nI i) = some (WB x' m' fl') ∧ IV x' m' fl' := by
  obtain ⟨n, Fs, h⟩ := h
  have b1 : 0 ≤ nI i + (1 : Int32) ∧ (nI i + (1 : Int32)).toNatClampNeg < L := bn hi hL (j := 1) (by omega)
  have b2 : 0 ≤ nI i + (2 : Int32) ∧ (nI i + (2 : Int32)).toNatClampNeg < L := bn hi hL (j := 2) (by omega)
  have b3 : 0 ≤ nI i + (3 : Int32) ∧ (nI i + (3 : Int32)).toNatClampNeg < L := bn hi hL (j := 3) (by omega)
  have b4 : 0 ≤ nI i + (4 : Int32) ∧ (nI i + (4 : Int32)).toNatClampNeg < L := bn hi hL (j := 4) (by omega)
  simp only [fLc_5, b1, b2, b3, b4, and_self, if_true]
  exact (pr_cross h _ _ _ _).use
theorem lc_6 (h : IV x m fl) (hi : i + 7 ≤ L) (hL : L ≤ 3584) : ∃ x' m' fl', fLc_6 xs L (WB x m fl) (some 0) (some 15) (nI i) = some (WB x' m' fl') ∧ IV x' m' fl' := by
  obtain ⟨n, Fs, h⟩ := h
  have b1 : 0 ≤ nI i + (1 : Int32) ∧ (nI i + (1 : Int32)).toNatClampNeg < L := bn hi hL (j := 1) (by omega)
  have b2 : 0 ≤ nI i + (2 : Int32) ∧ (nI i + (2 : Int32)).toNatClampNeg < L := bn hi hL (j := 2) (by omega)
  have b3 : 0 ≤ nI i + (3 : Int32) ∧ (nI i + (3 : Int32)).toNatClampNeg < L := bn hi hL (j := 3) (by omega)
  have b4 : 0 ≤ nI i + (4 : Int32) ∧ (nI i + (4 : Int32)).toNatClampNeg < L := bn hi hL (j := 4) (by omega)
  have b5 : 0 ≤ nI i + (5 : Int32) ∧ (nI i + (5 : Int32)).toNatClampNeg < L := bn hi hL (j := 5) (by omega)
  simp only [fLc_6, b1, b2, b3, b4, b5, and_self, if_true]
  exact (pr_act h _ _ _ _ _).use
theorem lc_7 (h : IV x m fl) (hi : i + 7 ≤ L) (hL : L ≤ 3584) : ∃ x' m' fl', fLc_7 xs L (WB x m fl) (some 0) (some 15) (nI i) = some (WB x' m' fl') ∧ IV x' m' fl' := by
  obtain ⟨n, Fs, h⟩ := h
  have b1 : 0 ≤ nI i + (1 : Int32) ∧ (nI i + (1 : Int32)).toNatClampNeg < L := bn hi hL (j := 1) (by omega)
  have b2 : 0 ≤ nI i + (2 : Int32) ∧ (nI i + (2 : Int32)).toNatClampNeg < L := bn hi hL (j := 2) (by omega)
  have b3 : 0 ≤ nI i + (3 : Int32) ∧ (nI i + (3 : Int32)).toNatClampNeg < L := bn hi hL (j := 3) (by omega)
  have b4 : 0 ≤ nI i + (4 : Int32) ∧ (nI i + (4 : Int32)).toNatClampNeg < L := bn hi hL (j := 4) (by omega)
  have b5 : 0 ≤ nI i + (5 : Int32) ∧ (nI i + (5 : Int32)).toNatClampNeg < L := bn hi hL (j := 5) (by omega)
  simp only [fLc_7, b1, b2, b3, b4, b5, and_self, if_true]
  exact (pr_fused h _ _ _ _ _).use
theorem lc_8 (h : IV x m fl) (hi : i + 7 ≤ L) (hL : L ≤ 3584) : ∃ x' m' fl', fLc_8 xs L (WB x m fl) (some 0) (some 15) (nI i) = some (WB x' m' fl') ∧ IV x' m' fl' := by
  obtain ⟨n, Fs, h⟩ := h
  have b1 : 0 ≤ nI i + (1 : Int32) ∧ (nI i + (1 : Int32)).toNatClampNeg < L := bn hi hL (j := 1) (by omega)
  have b2 : 0 ≤ nI i + (2 : Int32) ∧ (nI i + (2 : Int32)).toNatClampNeg < L := bn hi hL (j := 2) (by omega)
  have b3 : 0 ≤ nI i + (3 : Int32) ∧ (nI i + (3 : Int32)).toNatClampNeg < L := bn hi hL (j := 3) (by omega)
  simp only [fLc_8, b1, b2, b3, and_self, if_true, bI_ifn]
  exact (pr_next h _ _ _).use
theorem lc_9 (h : IV x m fl) (hi : i + 7 ≤ L) (hL : L ≤ 3584) : ∃ x' m' fl', fLc_9 xs L (WB x m fl) (some 0) (some 15) (nI i) = some (WB x' m' fl') ∧ IV x' m' fl' := by
  obtain ⟨n, Fs, h⟩ := h
  have b1 : 0 ≤ nI i + (1 : Int32) ∧ (nI i + (1 : Int32)).toNatClampNeg < L := bn hi hL (j := 1) (by omega)
  have b2 : 0 ≤ nI i + (2 : Int32) ∧ (nI i + (2 : Int32)).toNatClampNeg < L := bn hi hL (j := 2) (by omega)
  have b3 : 0 ≤ nI i + (3 : Int32) ∧ (nI i + (3 : Int32)).toNatClampNeg < L := bn hi hL (j := 3) (by omega)
  simp only [fLc_9, b1, b2, b3, and_self, if_true]
  exact (pr_order h _ _ _).use
theorem lc_10 (h : IV x m fl) (hi : i + 7 ≤ L) (hL : L ≤ 3584) : ∃ x' m' fl', fLc_10 xs L (WB x m fl) (some 0) (some 15) (nI i) = some (WB x' m' fl') ∧ IV x' m' fl' := by
  obtain ⟨n, Fs, h⟩ := h
  have b1 : 0 ≤ nI i + (1 : Int32) ∧ (nI i + (1 : Int32)).toNatClampNeg < L := bn hi hL (j := 1) (by omega)
  have b2 : 0 ≤ nI i + (2 : Int32) ∧ (nI i + (2 : Int32)).toNatClampNeg < L := bn hi hL (j := 2) (by omega)
  have b3 : 0 ≤ nI i + (3 : Int32) ∧ (nI i + (3 : Int32)).toNatClampNeg < L := bn hi hL (j := 3) (by omega)
  have b4 : 0 ≤ nI i + (4 : Int32) ∧ (nI i + (4 : Int32)).toNatClampNeg < L := bn hi hL (j := 4) (by omega)
  have b5 : 0 ≤ nI i + (5 : Int32) ∧ (nI i + (5 : Int32)).toNatClampNeg < L := bn hi hL (j := 5) (by omega)
  simp only [fLc_10, b1, b2, b3, b4, b5, and_self, if_true]
  exact (pr_numbers h _ _ _).use
theorem lc_11 (h : IV x m fl) (hi : i + 7 ≤ L) (hL : L ≤ 3584) : ∃ x' m' fl', fLc_11 xs L (WB x m fl) (some 0) (some 15) (nI i) = some (WB x' m' fl') ∧ IV x' m' fl' := by
  obtain ⟨n, Fs, h⟩ := h
  have b1 : 0 ≤ nI i + (1 : Int32) ∧ (nI i + (1 : Int32)).toNatClampNeg < L := bn hi hL (j := 1) (by omega)
  have b2 : 0 ≤ nI i + (2 : Int32) ∧ (nI i + (2 : Int32)).toNatClampNeg < L := bn hi hL (j := 2) (by omega)
  have b3 : 0 ≤ nI i + (3 : Int32) ∧ (nI i + (3 : Int32)).toNatClampNeg < L := bn hi hL (j := 3) (by omega)
  simp only [fLc_11, b1, b2, b3, and_self, if_true]
  exact (pr_row h _ _ _).use
theorem lc_12 (h : IV x m fl) (hi : i + 7 ≤ L) (hL : L ≤ 3584) : ∃ x' m' fl', fLc_12 xs L (WB x m fl) (some 0) (some 15) (nI i) = some (WB x' m' fl') ∧ IV x' m' fl' := by
  obtain ⟨n, Fs, h⟩ := h
  have b1 : 0 ≤ nI i + (1 : Int32) ∧ (nI i + (1 : Int32)).toNatClampNeg < L := bn hi hL (j := 1) (by omega)
  have b2 : 0 ≤ nI i + (2 : Int32) ∧ (nI i + (2 : Int32)).toNatClampNeg < L := bn hi hL (j := 2) (by omega)
  have b3 : 0 ≤ nI i + (3 : Int32) ∧ (nI i + (3 : Int32)).toNatClampNeg < L := bn hi hL (j := 3) (by omega)
  simp only [fLc_12, b1, b2, b3, and_self, if_true]
  exact (pr_put h _ _ _).use
theorem lc_13 (h : IV x m fl) (hi : i + 7 ≤ L) (hL : L ≤ 3584) : ∃ x' m' fl', fLc_13 xs L (WB x m fl) (some 0) (some 15) (nI i) = some (WB x' m' fl') ∧ IV x' m' fl' := by
  obtain ⟨n, Fs, h⟩ := h
  have b1 : 0 ≤ nI i + (1 : Int32) ∧ (nI i + (1 : Int32)).toNatClampNeg < L := bn hi hL (j := 1) (by omega)
  have b2 : 0 ≤ nI i + (2 : Int32) ∧ (nI i + (2 : Int32)).toNatClampNeg < L := bn hi hL (j := 2) (by omega)
  simp only [fLc_13, b1, b2, and_self, if_true]
  exact (pr_at h _ _).use
theorem lc_14 (h : IV x m fl) (hi : i + 7 ≤ L) (hL : L ≤ 3584) : ∃ x' m' fl', fLc_14 xs L (WB x m fl) (some 0) (some 15) (nI i) = some (WB x' m' fl') ∧ IV x' m' fl' := by
  obtain ⟨n, Fs, h⟩ := h
  have b1 : 0 ≤ nI i + (1 : Int32) ∧ (nI i + (1 : Int32)).toNatClampNeg < L := bn hi hL (j := 1) (by omega)
  have b2 : 0 ≤ nI i + (2 : Int32) ∧ (nI i + (2 : Int32)).toNatClampNeg < L := bn hi hL (j := 2) (by omega)
  simp only [fLc_14, b1, b2, and_self, if_true]
  exact (pr_packed h _ _).use
theorem lc_15 (h : IV x m fl) (hi : i + 7 ≤ L) (hL : L ≤ 3584) : ∃ x' m' fl', fLc_15 xs L (WB x m fl) (some 0) (some 15) (nI i) = some (WB x' m' fl') ∧ IV x' m' fl' := by
  obtain ⟨n, Fs, h⟩ := h
  have b1 : 0 ≤ nI i + (1 : Int32) ∧ (nI i + (1 : Int32)).toNatClampNeg < L := bn hi hL (j := 1) (by omega)
  have b2 : 0 ≤ nI i + (2 : Int32) ∧ (nI i + (2 : Int32)).toNatClampNeg < L := bn hi hL (j := 2) (by omega)
  have b3 : 0 ≤ nI i + (3 : Int32) ∧ (nI i + (3 : Int32)).toNatClampNeg < L := bn hi hL (j := 3) (by omega)
  have b4 : 0 ≤ nI i + (4 : Int32) ∧ (nI i + (4 : Int32)).toNatClampNeg < L := bn hi hL (j := 4) (by omega)
  simp only [fLc_15, b1, b2, b3, b4, and_self, if_true]
  exact (pr_quantise h _ _ _ _).use
theorem lc_16 (h : IV x m fl) (hi : i + 7 ≤ L) (hL : L ≤ 3584) : ∃ x' m' fl', fLc_16 xs L (WB x m fl) (some 0) (some 15) (nI i) = some (WB x' m' fl') ∧ IV x' m' fl' := by
  obtain ⟨n, Fs, h⟩ := h
  have b1 : 0 ≤ nI i + (1 : Int32) ∧ (nI i + (1 : Int32)).toNatClampNeg < L := bn hi hL (j := 1) (by omega)
  have b2 : 0 ≤ nI i + (2 : Int32) ∧ (nI i + (2 : Int32)).toNatClampNeg < L := bn hi hL (j := 2) (by omega)
  have b3 : 0 ≤ nI i + (3 : Int32) ∧ (nI i + (3 : Int32)).toNatClampNeg < L := bn hi hL (j := 3) (by omega)
  simp only [fLc_16, b1, b2, b3, and_self, if_true]
  exact (pr_worst h _ _ _).use
theorem lc_17 (h : IV x m fl) (hi : i + 7 ≤ L) (hL : L ≤ 3584) : ∃ x' m' fl', fLc_17 xs L (WB x m fl) (some 0) (some 15) (nI i) = some (WB x' m' fl') ∧ IV x' m' fl' := by
  obtain ⟨n, Fs, h⟩ := h
  have b1 : 0 ≤ nI i + (1 : Int32) ∧ (nI i + (1 : Int32)).toNatClampNeg < L := bn hi hL (j := 1) (by omega)
  have b2 : 0 ≤ nI i + (2 : Int32) ∧ (nI i + (2 : Int32)).toNatClampNeg < L := bn hi hL (j := 2) (by omega)
  have b3 : 0 ≤ nI i + (3 : Int32) ∧ (nI i + (3 : Int32)).toNatClampNeg < L := bn hi hL (j := 3) (by omega)
  simp only [fLc_17, b1, b2, b3, and_self, if_true, bI_ifn]
  exact (pr_sum h _ _ _).use
theorem lc_18 (h : IV x m fl) (hi : i + 7 ≤ L) (hL : L ≤ 3584) : ∃ x' m' fl', fLc_18 xs L (WB x m fl) (some 0) (some 15) (nI i) = some (WB x' m' fl') ∧ IV x' m' fl' := by
  obtain ⟨n, Fs, h⟩ := h
  have b1 : 0 ≤ nI i + (1 : Int32) ∧ (nI i + (1 : Int32)).toNatClampNeg < L := bn hi hL (j := 1) (by omega)
  have b2 : 0 ≤ nI i + (2 : Int32) ∧ (nI i + (2 : Int32)).toNatClampNeg < L := bn hi hL (j := 2) (by omega)
  have b3 : 0 ≤ nI i + (3 : Int32) ∧ (nI i + (3 : Int32)).toNatClampNeg < L := bn hi hL (j := 3) (by omega)
  have b4 : 0 ≤ nI i + (4 : Int32) ∧ (nI i + (4 : Int32)).toNatClampNeg < L := bn hi hL (j := 4) (by omega)
  simp only [fLc_18, b1, b2, b3, b4, and_self, if_true, bI_ifn]
  exact (pr_dot h _ _ _ _).use
theorem lc_19 (h : IV x m fl) (hi : i + 7 ≤ L) (hL : L ≤ 3584) : ∃ x' m' fl', fLc_19 xs L (WB x m fl) (some 0) (some 15) (nI i) = some (WB x' m' fl') ∧ IV x' m' fl' := by
  obtain ⟨n, Fs, h⟩ := h
  have b1 : 0 ≤ nI i + (1 : Int32) ∧ (nI i + (1 : Int32)).toNatClampNeg < L := bn hi hL (j := 1) (by omega)
  have b2 : 0 ≤ nI i + (2 : Int32) ∧ (nI i + (2 : Int32)).toNatClampNeg < L := bn hi hL (j := 2) (by omega)
  have b3 : 0 ≤ nI i + (3 : Int32) ∧ (nI i + (3 : Int32)).toNatClampNeg < L := bn hi hL (j := 3) (by omega)
  simp only [fLc_19, b1, b2, b3, and_self, if_true]
  exact (pr_table h _ _ _).use
theorem lc_20 (h : IV x m fl) (hi : i + 7 ≤ L) (hL : L ≤ 3584) : ∃ x' m' fl', fLc_20 xs L (WB x m fl) (some 0) (some 15) (nI i) = some (WB x' m' fl') ∧ IV x' m' fl' := by
  obtain ⟨n, Fs, h⟩ := h
  have b1 : 0 ≤ nI i + (1 : Int32) ∧ (nI i + (1 : Int32)).toNatClampNeg < L := bn hi hL (j := 1) (by omega)
  have b2 : 0 ≤ nI i + (2 : Int32) ∧ (nI i + (2 : Int32)).toNatClampNeg < L := bn hi hL (j := 2) (by omega)
  simp only [fLc_20, b1, b2, and_self, if_true]
  exact (pr_lookup h _ _).use
theorem lc_21 (h : IV x m fl) (hi : i + 7 ≤ L) (hL : L ≤ 3584) : ∃ x' m' fl', fLc_21 xs L (WB x m fl) (some 0) (some 15) (nI i) = some (WB x' m' fl') ∧ IV x' m' fl' := by
  obtain ⟨n, Fs, h⟩ := h
  have b1 : 0 ≤ nI i + (1 : Int32) ∧ (nI i + (1 : Int32)).toNatClampNeg < L := bn hi hL (j := 1) (by omega)
  obtain ⟨v, v1, v2⟩ := pr_count h (xs (nI i + (1 : Int32)).toNatClampNeg)
  refine ⟨x, m, fl, ?_, n, Fs, h⟩
  simp only [fLc_21, b1, and_self, if_true, v1, v2, Option.bind_some]
theorem lc_22 (h : IV x m fl) (hi : i + 7 ≤ L) (hL : L ≤ 3584) : ∃ x' m' fl', fLc_22 xs L (WB x m fl) (some 0) (some 15) (nI i) = some (WB x' m' fl') ∧ IV x' m' fl' := by
  obtain ⟨n, Fs, h⟩ := h
  obtain ⟨v, v1, v2⟩ := pr_told h
  refine ⟨x, m, fl, ?_, n, Fs, h⟩
  simp only [fLc_22, if_true, v1, v2, Option.bind_some]
theorem loop_ok (hL : L ≤ 3584) : ∀ (n i : Nat) (x : XS) (m : MS) (fl : List xmE), 1 ≤ n → L < i + 7 * n → i ≤ 4000 → IV x m fl → fL_loop xs L n (WB x m fl) (some 0) (some 15) (nI i) = some () := by
  intro n
  induction n with
  | zero => intro i x m fl h1; omega
  | succ n ih =>
    intro i x m fl _ h2 h3 hI
    have hex : (Int32.ofNat L - (7 : Int32) < nI i) ↔ L < i + 7 := by
      rw [show Int32.ofNat L = nI L from rfl, nI_iZ, nI_iZ, show (7 : Int32) = iZ 7 from rfl, iZ_sub, iZ_lt ⟨by omega, by omega⟩ ⟨by omega, by omega⟩]; omega
    rw [fL_loop]
    by_cases q : L < i + 7
    · rw [if_pos (hex.mpr q)]
    · rw [if_neg (fun t => q (hex.mp t)), if_pos (show 0 ≤ nI i ∧ (nI i).toNatClampNeg < L by rw [nI_clamp (by omega)]; exact ⟨nI_pos' (by omega), by omega⟩)]
      have e7 : nI i + (7 : Int32) = nI (i + 7) := nI_add i 7
      have nx : ∀ (x' : XS) (m' : MS) (fl' : List xmE), IV x' m' fl' → fL_loop xs L n (WB x' m' fl') (some 0) (some 15) (nI i + (7 : Int32)) = some () := fun x' m' fl' h => by
        rw [e7]; exact ih (i + 7) x' m' fl' (by omega) (by omega) (by omega) h
      have st : ∀ (o : Option xmW), (∃ x' m' fl', o = some (WB x' m' fl') ∧ IV x' m' fl') → (o.bind fun w2 => fL_loop xs L n w2 (some 0) (some 15) (nI i + (7 : Int32))) = some () := fun o h => by
        obtain ⟨x', m', fl', e, h⟩ := h
        rw [e, Option.bind_some]; exact nx x' m' fl' h
      generalize (xs (nI i).toNatClampNeg &&& (31 : Int32)) = v
      show (if v = (0 : Int32) then _ else _) = _
      by_cases v0 : v = (0 : Int32)
      · rw [if_pos v0]; exact st _ (lc_0 hI (by omega) hL)
      rw [if_neg v0]
      by_cases v1 : v = (1 : Int32)
      · rw [if_pos v1]; exact st _ (lc_1 hI (by omega) hL)
      rw [if_neg v1]
      by_cases v2 : v = (2 : Int32)
      · rw [if_pos v2]; exact st _ (lc_2 hI (by omega) hL)
      rw [if_neg v2]
      by_cases v3 : v = (3 : Int32)
      · rw [if_pos v3]; exact st _ (lc_3 hI (by omega) hL)
      rw [if_neg v3]
      by_cases v4 : v = (4 : Int32)
      · rw [if_pos v4]; exact st _ (lc_4 hI (by omega) hL)
      rw [if_neg v4]
      by_cases v5 : v = (5 : Int32)
      · rw [if_pos v5]; exact st _ (lc_5 hI (by omega) hL)
      rw [if_neg v5]
      by_cases v6 : v = (6 : Int32)
      · rw [if_pos v6]; exact st _ (lc_6 hI (by omega) hL)
      rw [if_neg v6]
      by_cases v7 : v = (7 : Int32)
      · rw [if_pos v7]; exact st _ (lc_7 hI (by omega) hL)
      rw [if_neg v7]
      by_cases v8 : v = (8 : Int32)
      · rw [if_pos v8]; exact st _ (lc_8 hI (by omega) hL)
      rw [if_neg v8]
      by_cases v9 : v = (9 : Int32)
      · rw [if_pos v9]; exact st _ (lc_9 hI (by omega) hL)
      rw [if_neg v9]
      by_cases v10 : v = (10 : Int32)
      · rw [if_pos v10]; exact st _ (lc_10 hI (by omega) hL)
      rw [if_neg v10]
      by_cases v11 : v = (11 : Int32)
      · rw [if_pos v11]; exact st _ (lc_11 hI (by omega) hL)
      rw [if_neg v11]
      by_cases v12 : v = (12 : Int32)
      · rw [if_pos v12]; exact st _ (lc_12 hI (by omega) hL)
      rw [if_neg v12]
      by_cases v13 : v = (13 : Int32)
      · rw [if_pos v13]; exact st _ (lc_13 hI (by omega) hL)
      rw [if_neg v13]
      by_cases v14 : v = (14 : Int32)
      · rw [if_pos v14]; exact st _ (lc_14 hI (by omega) hL)
      rw [if_neg v14]
      by_cases v15 : v = (15 : Int32)
      · rw [if_pos v15]; exact st _ (lc_15 hI (by omega) hL)
      rw [if_neg v15]
      by_cases v16 : v = (16 : Int32)
      · rw [if_pos v16]; exact st _ (lc_16 hI (by omega) hL)
      rw [if_neg v16]
      by_cases v17 : v = (17 : Int32)
      · rw [if_pos v17]; exact st _ (lc_17 hI (by omega) hL)
      rw [if_neg v17]
      by_cases v18 : v = (18 : Int32)
      · rw [if_pos v18]; exact st _ (lc_18 hI (by omega) hL)
      rw [if_neg v18]
      by_cases v19 : v = (19 : Int32)
      · rw [if_pos v19]; exact st _ (lc_19 hI (by omega) hL)
      rw [if_neg v19]
      by_cases v20 : v = (20 : Int32)
      · rw [if_pos v20]; exact st _ (lc_20 hI (by omega) hL)
      rw [if_neg v20]
      by_cases v21 : v = (21 : Int32)
      · rw [if_pos v21]; exact st _ (lc_21 hI (by omega) hL)
      rw [if_neg v21]
      by_cases v22 : v = (22 : Int32)
      · rw [if_pos v22]; exact st _ (lc_22 hI (by omega) hL)
      rw [if_neg v22]
      exact nx x m fl hI
end LAW
