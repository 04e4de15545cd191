/-! THE ABSTRACT WORLD: a list of cells, by number (0 is the first cell that the law makes); references are numbers. Mine. -/
abbrev xmV : Type := Int32 ⊕ (Int64 ⊕ (Option Nat ⊕ Nat))
abbrev xI (x : Int32) : xmV := Sum.inl x
abbrev xL (x : Int64) : xmV := Sum.inr (Sum.inl x)
abbrev xR (r : Option Nat) : xmV := Sum.inr (Sum.inr (Sum.inl r))
abbrev xS (a : Nat) : xmV := Sum.inr (Sum.inr (Sum.inr a))
abbrev xmE : Type := (Nat × List xmV) ⊕ (Nat × Nat × ((Nat → Int32) ⊕ (Nat → Option Nat)))
abbrev xmW : Type := List xmE
def xmcv (b : Nat) : xmV → Value
  | Sum.inl x => .int x
  | Sum.inr (Sum.inl x) => .long x
  | Sum.inr (Sum.inr (Sum.inl r)) => va_rf (r.map (b + ·))
  | Sum.inr (Sum.inr (Sum.inr a)) => .ref a
def xm2 : xmV → Bool
  | Sum.inr (Sum.inl _) => true
  | _ => false
theorem xm_cat (b : Nat) (v : xmV) : (xmcv b v).category = if xm2 v then 2 else 1 := by
  rcases v with x | x | r | a
  · rfl
  · rfl
  · cases r <;> rfl
  · rfl
theorem xm_cat2 (b : Nat) (v : xmV) : ((xmcv b v).category == 2) = xm2 v := by
  rw [xm_cat]; cases xm2 v <;> rfl
abbrev xmT (ks : Nat → ClassId) : List (ClassId × FieldType) := [(ks 0, .int), (ks 1, .boolean), (ks 2, .object "SmallFloats$Format"), (ks 3, .object "SmallFloats$Row")]
def xmce (ks : Nat → ClassId) (b : Nat) : xmE → va_E
  | Sum.inl (ci, fs) => Sum.inr (ci, fs.map (xmcv b))
  | Sum.inr (t, n, Sum.inl f) => Sum.inl (ks t, n, Sum.inl f)
  | Sum.inr (t, n, Sum.inr f) => Sum.inl (ks t, n, Sum.inr (Sum.inr (Sum.inr (Sum.inr (fun i => (f i).map (b + ·))))))
def xmws (ks : Nat → ClassId) (b : Nat) (w : xmW) : va_W := w.mapIdx (fun k e => (b + k, xmce ks b e))
def xmRP (D : va_G) (ks : Nat → ClassId) (b : Nat) (w : xmW) (H : Heap) : Prop := va_P D vwCl (xmws ks b w) H ∧ H.size = b + w.length
abbrev xmA (b : Nat) : Nat → Prop := fun q => b ≤ q
theorem xmws_get {ks : Nat → ClassId} {b : Nat} {w : xmW} {k : Nat} {e : xmE} (h : w[k]? = some e) : (xmws ks b w)[k]? = some (b + k, xmce ks b e) := by
  unfold xmws; rw [List.getElem?_mapIdx, h]; rfl
theorem xmws_inv {ks : Nat → ClassId} {b : Nat} {w : xmW} {k : Nat} {q : Nat × va_E} (h : (xmws ks b w)[k]? = some q) : ∃ e, w[k]? = some e ∧ q = (b + k, xmce ks b e) := by
  unfold xmws at h; rw [List.getElem?_mapIdx] at h
  cases hk : w[k]? with
  | none => rw [hk] at h; cases h
  | some e => rw [hk] at h; exact ⟨e, rfl, (Option.some.inj h).symm⟩
theorem xmws_set {ks : Nat → ClassId} {b : Nat} {w : xmW} {k : Nat} {e : xmE} : (xmws ks b w).set k (b + k, xmce ks b e) = xmws ks b (w.set k e) := by
  apply List.ext_getElem?
  intro i
  unfold xmws
  rw [List.getElem?_set, List.getElem?_mapIdx, List.getElem?_mapIdx, List.getElem?_set, List.length_mapIdx]
  by_cases hi : k = i
  · subst hi
    rw [if_pos rfl, if_pos rfl]
    by_cases hl : k < w.length
    · rw [if_pos hl, if_pos hl]; rfl
    · rw [if_neg hl, if_neg hl]; rfl
  · rw [if_neg hi, if_neg hi]
theorem xmws_app {ks : Nat → ClassId} {b : Nat} {w : xmW} {e : xmE} : xmws ks b w ++ [(b + w.length, xmce ks b e)] = xmws ks b (w ++ [e]) := by
  apply List.ext_getElem?
  intro i
  unfold xmws
  rw [List.getElem?_mapIdx, List.getElem?_append, List.getElem?_append, List.length_mapIdx, List.getElem?_mapIdx]
  by_cases hi : i < w.length
  · rw [if_pos hi, if_pos hi]
  · rw [if_neg hi, if_neg hi]
    by_cases hz : i = w.length
    · subst hz; simp
    · have : ∃ j, i - w.length = j + 1 := ⟨i - w.length - 1, by omega⟩
      obtain ⟨j, hj⟩ := this
      rw [hj]; rfl
theorem xm_D {ks : Nat → ClassId} {b : Nat} {w : xmW} : va_D (xmA b) (xmws ks b w) := by
  refine ⟨fun i j p q hp hq hpq => ?_, fun k q hq => ?_⟩
  · obtain ⟨e1, -, rfl⟩ := xmws_inv hp
    obtain ⟨e2, -, rfl⟩ := xmws_inv hq
    have h : b + i = b + j := hpq
    omega
  · obtain ⟨e1, -, rfl⟩ := xmws_inv hq
    exact Nat.le_add_right _ _
/-! reads and writes of the abstract world -/
def xmob (w : xmW) (r : Option Nat) (ci : Nat) : Option (List xmV) := match r with
  | none => none
  | some k => match w[k]? with
    | some (Sum.inl (c, fs)) => if c = ci then some fs else none
    | _ => none
def xmgI (w : xmW) (r : Option Nat) (ci j : Nat) : Option Int32 := match xmob w r ci with
  | some fs => match fs[j]? with
    | some (Sum.inl x) => some x
    | _ => none
  | none => none
def xmgL (w : xmW) (r : Option Nat) (ci j : Nat) : Option Int64 := match xmob w r ci with
  | some fs => match fs[j]? with
    | some (Sum.inr (Sum.inl x)) => some x
    | _ => none
  | none => none
def xmgR (w : xmW) (r : Option Nat) (ci j : Nat) : Option (Option Nat) := match xmob w r ci with
  | some fs => match fs[j]? with
    | some (Sum.inr (Sum.inr (Sum.inl x))) => some x
    | _ => none
  | none => none
def xmput (w : xmW) (r : Option Nat) (ci j : Nat) (v : xmV) : Option xmW := match r with
  | none => none
  | some k => match w[k]? with
    | some (Sum.inl (c, fs)) => if c = ci ∧ j < fs.length then some (w.set k (Sum.inl (c, fs.set j v))) else none
    | _ => none
/-- a boolean kept in a field, or answered -/
def xmbz (x : Int32) : Option Int32 := if x = 0 ∨ x = 1 then some x else none
def xmai (w : xmW) (r : Option Nat) (t : Nat) : Option (Nat × (Nat → Int32)) := match r with
  | none => none
  | some k => match w[k]? with
    | some (Sum.inr (u, n, Sum.inl f)) => if u = t then some (n, f) else none
    | _ => none
def xmaq (w : xmW) (r : Option Nat) (t : Nat) : Option (Nat × (Nat → Option Nat)) := match r with
  | none => none
  | some k => match w[k]? with
    | some (Sum.inr (u, n, Sum.inr f)) => if u = t then some (n, f) else none
    | _ => none
def xmild (w : xmW) (r : Option Nat) (t : Nat) (i : Int32) : Option Int32 := match xmai w r t with
  | some (n, f) => if 0 ≤ i ∧ i.toNatClampNeg < n then some (f i.toNatClampNeg) else none
  | none => none
def xmqld (w : xmW) (r : Option Nat) (t : Nat) (i : Int32) : Option (Option Nat) := match xmaq w r t with
  | some (n, f) => if 0 ≤ i ∧ i.toNatClampNeg < n then some (f i.toNatClampNeg) else none
  | none => none
def xmlen (w : xmW) (r : Option Nat) (t : Nat) : Option Int32 := match xmai w r t with
  | some (n, _) => some (Int32.ofNat n)
  | none => none
def xmist (w : xmW) (r : Option Nat) (t : Nat) (i x : Int32) : Option xmW := match r with
  | none => none
  | some k => match w[k]? with
    | some (Sum.inr (u, n, Sum.inl f)) => if u = t ∧ 0 ≤ i ∧ i.toNatClampNeg < n then some (w.set k (Sum.inr (u, n, Sum.inl (upd f i.toNatClampNeg x)))) else none
    | _ => none
def xmqst (w : xmW) (r : Option Nat) (t : Nat) (ci : Nat) (i : Int32) (x : Option Nat) : Option xmW := match r, xmob w x ci with
  | some k, some _ => match w[k]? with
    | some (Sum.inr (u, n, Sum.inr f)) => if u = t ∧ 0 ≤ i ∧ i.toNatClampNeg < n then some (w.set k (Sum.inr (u, n, Sum.inr (va_up f i.toNatClampNeg x)))) else none
    | _ => none
  | _, _ => none
def xmnew (w : xmW) (ci : Nat) (fs : List xmV) : Option xmW := some (w ++ [Sum.inl (ci, fs)])
def xmnai (w : xmW) (t n : Nat) : Option xmW := some (w ++ [Sum.inr (t, n, Sum.inl (fun _ => 0))])
def xmnaq (w : xmW) (t n : Nat) : Option xmW := some (w ++ [Sum.inr (t, n, Sum.inr (fun _ => none))])
theorem xm_bind {α β : Type} {x : Option α} {f : α → Option β} {z : β} (h : x.bind f = some z) : ∃ a, x = some a ∧ f a = some z := by
  cases x with
  | none => cases h
  | some a => exact ⟨a, rfl, h⟩
theorem xmob_at {w : xmW} {r : Option Nat} {ci : Nat} {fs : List xmV} (h : xmob w r ci = some fs) : ∃ k, r = some k ∧ w[k]? = some (Sum.inl (ci, fs)) := by
  cases r with
  | none => cases h
  | some k =>
    refine ⟨k, rfl, ?_⟩
    simp only [xmob] at h
    split at h
    · rename_i c fs' hk
      split at h
      · rename_i hc
        rw [hk, hc, Option.some.inj h]
      · cases h
    · cases h
theorem xmgI_at {w : xmW} {r : Option Nat} {ci j : Nat} {x : Int32} (h : xmgI w r ci j = some x) : ∃ k fs, r = some k ∧ w[k]? = some (Sum.inl (ci, fs)) ∧ fs[j]? = some (xI x) := by
  unfold xmgI at h
  split at h
  · rename_i fs hf
    obtain ⟨k, h1, h2⟩ := xmob_at hf
    split at h
    · rename_i x' hx
      exact ⟨k, fs, h1, h2, by rw [hx, Option.some.inj h]⟩
    · cases h
  · cases h
theorem xmgL_at {w : xmW} {r : Option Nat} {ci j : Nat} {x : Int64} (h : xmgL w r ci j = some x) : ∃ k fs, r = some k ∧ w[k]? = some (Sum.inl (ci, fs)) ∧ fs[j]? = some (xL x) := by
  unfold xmgL at h
  split at h
  · rename_i fs hf
    obtain ⟨k, h1, h2⟩ := xmob_at hf
    split at h
    · rename_i x' hx
      exact ⟨k, fs, h1, h2, by rw [hx, Option.some.inj h]⟩
    · cases h
  · cases h
theorem xmgR_at {w : xmW} {r : Option Nat} {ci j : Nat} {x : Option Nat} (h : xmgR w r ci j = some x) : ∃ k fs, r = some k ∧ w[k]? = some (Sum.inl (ci, fs)) ∧ fs[j]? = some (xR x) := by
  unfold xmgR at h
  split at h
  · rename_i fs hf
    obtain ⟨k, h1, h2⟩ := xmob_at hf
    split at h
    · rename_i x' hx
      exact ⟨k, fs, h1, h2, by rw [hx, Option.some.inj h]⟩
    · cases h
  · cases h
theorem xmput_at {w w' : xmW} {r : Option Nat} {ci j : Nat} {v : xmV} (h : xmput w r ci j v = some w') : ∃ k fs, r = some k ∧ w[k]? = some (Sum.inl (ci, fs)) ∧ j < fs.length ∧ w' = w.set k (Sum.inl (ci, fs.set j v)) := by
  cases r with
  | none => cases h
  | some k =>
    simp only [xmput] at h
    split at h
    · rename_i c fs hk
      split at h
      · rename_i hc
        obtain ⟨hc1, hc2⟩ := hc
        subst hc1
        exact ⟨k, fs, rfl, hk, hc2, (Option.some.inj h).symm⟩
      · cases h
    · cases h
theorem xmai_at {w : xmW} {r : Option Nat} {t n : Nat} {f : Nat → Int32} (h : xmai w r t = some (n, f)) : ∃ k, r = some k ∧ w[k]? = some (Sum.inr (t, n, Sum.inl f)) := by
  cases r with
  | none => cases h
  | some k =>
    simp only [xmai] at h
    split at h
    · rename_i u n' f' hk
      split at h
      · rename_i hc
        obtain ⟨h1, h2⟩ := Prod.mk.inj (Option.some.inj h)
        exact ⟨k, rfl, by rw [hk, hc, h1, h2]⟩
      · cases h
    · cases h
theorem xmaq_at {w : xmW} {r : Option Nat} {t n : Nat} {f : Nat → Option Nat} (h : xmaq w r t = some (n, f)) : ∃ k, r = some k ∧ w[k]? = some (Sum.inr (t, n, Sum.inr f)) := by
  cases r with
  | none => cases h
  | some k =>
    simp only [xmaq] at h
    split at h
    · rename_i u n' f' hk
      split at h
      · rename_i hc
        obtain ⟨h1, h2⟩ := Prod.mk.inj (Option.some.inj h)
        exact ⟨k, rfl, by rw [hk, hc, h1, h2]⟩
      · cases h
    · cases h
theorem xm_in {i : Int32} {n : Nat} (h : 0 ≤ i ∧ i.toNatClampNeg < n) : vp_in i n := by
  intro q
  rcases q with q | q
  · exact absurd h.1 (by rw [Int32.not_le]; exact q)
  · omega
theorem xmild_at {w : xmW} {r : Option Nat} {t : Nat} {i x : Int32} (h : xmild w r t i = some x) : ∃ k n f, r = some k ∧ w[k]? = some (Sum.inr (t, n, Sum.inl f)) ∧ vp_in i n ∧ f i.toNatClampNeg = x := by
  unfold xmild at h
  split at h
  · rename_i n f hf
    obtain ⟨k, h1, h2⟩ := xmai_at hf
    split at h
    · rename_i hc
      exact ⟨k, n, f, h1, h2, xm_in hc, Option.some.inj h⟩
    · cases h
  · cases h
theorem xmqld_at {w : xmW} {r : Option Nat} {t : Nat} {i : Int32} {x : Option Nat} (h : xmqld w r t i = some x) : ∃ k n f, r = some k ∧ w[k]? = some (Sum.inr (t, n, Sum.inr f)) ∧ vp_in i n ∧ f i.toNatClampNeg = x := by
  unfold xmqld at h
  split at h
  · rename_i n f hf
    obtain ⟨k, h1, h2⟩ := xmaq_at hf
    split at h
    · rename_i hc
      exact ⟨k, n, f, h1, h2, xm_in hc, Option.some.inj h⟩
    · cases h
  · cases h
theorem xmlen_at {w : xmW} {r : Option Nat} {t : Nat} {x : Int32} (h : xmlen w r t = some x) : ∃ k n f, r = some k ∧ w[k]? = some (Sum.inr (t, n, Sum.inl f)) ∧ Int32.ofNat n = x := by
  unfold xmlen at h
  split at h
  · rename_i n f hf
    obtain ⟨k, h1, h2⟩ := xmai_at hf
    exact ⟨k, n, f, h1, h2, Option.some.inj h⟩
  · cases h
theorem xmist_at {w w' : xmW} {r : Option Nat} {t : Nat} {i x : Int32} (h : xmist w r t i x = some w') : ∃ k n f, r = some k ∧ w[k]? = some (Sum.inr (t, n, Sum.inl f)) ∧ vp_in i n ∧ w' = w.set k (Sum.inr (t, n, Sum.inl (upd f i.toNatClampNeg x))) := by
  cases r with
  | none => cases h
  | some k =>
    simp only [xmist] at h
    split at h
    · rename_i u n f hk
      split at h
      · rename_i hc
        obtain ⟨hc1, hc2⟩ := hc
        subst hc1
        exact ⟨k, n, f, rfl, hk, xm_in hc2, (Option.some.inj h).symm⟩
      · cases h
    · cases h
theorem xmqst_at {w w' : xmW} {r x : Option Nat} {t ci : Nat} {i : Int32} (h : xmqst w r t ci i x = some w') : ∃ k n f kx fs, r = some k ∧ x = some kx ∧ w[kx]? = some (Sum.inl (ci, fs)) ∧ w[k]? = some (Sum.inr (t, n, Sum.inr f)) ∧ vp_in i n ∧ w' = w.set k (Sum.inr (t, n, Sum.inr (va_up f i.toNatClampNeg x))) := by
  unfold xmqst at h
  split at h
  · rename_i k fs hx
    obtain ⟨kx, h1, h2⟩ := xmob_at hx
    split at h
    · rename_i u n f hk
      split at h
      · rename_i hc
        obtain ⟨hc1, hc2⟩ := hc
        subst hc1
        exact ⟨k, n, f, kx, fs, rfl, h1, h2, hk, xm_in hc2, (Option.some.inj h).symm⟩
      · cases h
    · cases h
  · cases h
/-! locals -/
def xmlv (b : Nat) (lv : List (Nat × xmV)) : List (Nat × Value) := lv.map fun q => (q.1, xmcv b q.2)
def xmst (i : Nat) (v : xmV) (lv : List (Nat × xmV)) : List (Nat × xmV) := (i, v) :: lv.filter (fun q => !(q.1 == i) && !(q.1 + 1 == i && xm2 q.2))
def xmst2 (i : Nat) (v : xmV) (lv : List (Nat × xmV)) : List (Nat × xmV) := (i, v) :: lv.filter (fun q => !(q.1 == i) && (!(q.1 == i + 1) && !(q.1 + 1 == i && xm2 q.2)))
theorem xmlv_at {b : Nat} {lv : List (Nat × xmV)} {j i : Nat} {v : xmV} (h : lv[j]? = some (i, v)) : (xmlv b lv)[j]? = some (i, xmcv b v) := by
  unfold xmlv; rw [List.getElem?_map, h]; rfl
theorem xmlv_flt (b i : Nat) (lv : List (Nat × xmV)) : (xmlv b lv).filter (fun q => !(q.1 == i) && !(q.1 + 1 == i && q.2.category == 2)) = xmlv b (lv.filter (fun q => !(q.1 == i) && !(q.1 + 1 == i && xm2 q.2))) := by
  unfold xmlv
  rw [List.filter_map]
  congr 1
  apply List.filter_congr
  intro q _
  simp only [Function.comp, xm_cat2]
theorem xmlv_flt2 (b i : Nat) (lv : List (Nat × xmV)) : (xmlv b lv).filter (fun q => !(q.1 == i) && (!(q.1 == i + 1) && !(q.1 + 1 == i && q.2.category == 2))) = xmlv b (lv.filter (fun q => !(q.1 == i) && (!(q.1 == i + 1) && !(q.1 + 1 == i && xm2 q.2)))) := by
  unfold xmlv
  rw [List.filter_map]
  congr 1
  apply List.filter_congr
  intro q _
  simp only [Function.comp, xm_cat2]
def xmarg : Nat → List xmV → List (Nat × xmV)
  | _, [] => []
  | i, v :: vs => (i, v) :: xmarg (if xm2 v then i + 2 else i + 1) vs
theorem xmarg_lv (b : Nat) (as : List xmV) : ∀ i, lv_args i (as.map (xmcv b)) = xmlv b (xmarg i as) := by
  induction as with
  | nil => intro i; rfl
  | cons v vs ih =>
    intro i
    show (i, xmcv b v) :: lv_args (if (xmcv b v).category = 2 then i + 2 else i + 1) (vs.map (xmcv b)) = (i, xmcv b v) :: xmlv b (xmarg (if xm2 v then i + 2 else i + 1) vs)
    rw [ih, xm_cat]
    cases xm2 v <;> rfl
def xmsz (as : List xmV) : Nat := (as.map fun v => if xm2 v then 2 else 1).sum
theorem xm_slen (b : Nat) (as : List xmV) : (lg_sl (as.map (xmcv b))).length = xmsz as := by
  induction as with
  | nil => rfl
  | cons v vs ih =>
    have h : lg_sl ((v :: vs).map (xmcv b)) = (if (xmcv b v).category = 2 then [Slot.val (xmcv b v), Slot.second] else [Slot.val (xmcv b v)]) ++ lg_sl (vs.map (xmcv b)) := rfl
    rw [h, List.length_append, ih, xm_cat]
    show _ = (if xm2 v then 2 else 1) + xmsz vs
    cases xm2 v <;> rfl
theorem xm_stk (b : Nat) (st : List xmV) : ((st.map (xmcv b)).map fun v => v.category).sum = xmsz st := by
  induction st with
  | nil => rfl
  | cons v vs ih =>
    show (xmcv b v).category + ((vs.map (xmcv b)).map fun v => v.category).sum = (if xm2 v then 2 else 1) + xmsz vs
    rw [ih, xm_cat]
/-! what the tables give, beside the words that keep -/
def xmK (D : va_G) (ks : Nat → ClassId) (U : State) : Prop := va_K D vwCl (xmT ks) U ∧ va_AO "SmallFloats$Format" U ∧ va_AO "SmallFloats$Row" U ∧
  va_Nw (.methodLinkNest "SmallFloats" 33 ⟨"SmallFloats$Arithmetic", "<init>", "()V"⟩ "SmallFloats") U ∧ va_Nw (.methodLinkNest "SmallFloats$Arithmetic" 11 ⟨"SmallFloats$Tally", "<init>", "()V"⟩ "SmallFloats") U ∧
  va_Nw (.methodLinkNest "SmallFloats" 40 ⟨"SmallFloats$Tally", "<init>", "()V"⟩ "SmallFloats") U ∧ va_Nw (.methodLinkNest "SmallFloats" 61 ⟨"SmallFloats$Row", "<init>", "()V"⟩ "SmallFloats") U
theorem xmK.moved {D : va_G} {ks : Nat → ClassId} {s U : State} (hW : s.WarmedH U.vm) (h : xmK D ks s) : xmK D ks U := by
  obtain ⟨h1, h2, h3, h4, h5, h6, h7⟩ := h
  exact ⟨va_K.moved hW.alike h1, va_AO.moved hW.alike h2, va_AO.moved hW.alike h3, va_Nw.warmM hW h4, va_Nw.warmM hW h5, va_Nw.warmM hW h6, va_Nw.warmM hW h7⟩
theorem xmK.call {D : va_G} {ks : Nat → ClassId} {U : State} {g : JFrame} {mk : MethodId} {a : Array Value} (h : xmK D ks U) : xmK D ks (U.calling g mk a) := by
  obtain ⟨h1, h2, h3, h4, h5, h6, h7⟩ := h
  have hvm : U.vm = (U.calling g mk a).vm := rfl
  have hal : U.vm.Alike (U.calling g mk a).vm := Vm.Alike.refl U.vm
  exact ⟨va_K.moved (u := U) hal h1, va_AO.moved (u := U) hal h2, va_AO.moved (u := U) hal h3, va_Nw.same (u := U) rfl hvm h4, va_Nw.same (u := U) rfl hvm h5, va_Nw.same (u := U) rfl hvm h6, va_Nw.same (u := U) rfl hvm h7⟩
/-! the contract and the judgement -/
def xmQ (D : va_G) (ks : Nat → ClassId) (b : Nat) (rv : Option xmV) (w' : xmW) : Array Value → State → Outcome → State → Prop := fun _ st oc t => oc = .returned (rv.map (xmcv b)) ∧ xmRP D ks b w' t.heap ∧ va_F (xmA b) st t
def xmM (l : Launch) (y : MethodName) (ws : List Cond) (fr lo mc ms : Nat) (D : va_G) (ks : Nat → ClassId) (b : Nat) (w : xmW) (as : List xmV) (rv : Option xmV) (w' : xmW) : Prop :=
  Met l y ws ({ frames := fr, cells := mc, slots := ms, locals := lo }) (va_Pc (as.map (xmcv b)) (fun U => xmRP D ks b w U.heap ∧ xmK D ks U)) (xmQ D ks b rv w') mc ms (xmA b)
def xmJ (p : Program) (l : Launch) (e : Env) (R : Room) (s : State) (m : MethodId) (args : Array Value) (below : List Frame) (meth : Method) (c : Code) (D : va_G) (ks : Nat → ClassId) (b nL : Nat) (Q : State → Prop) (w : xmW) (cells slots pc : Nat) (lv : List (Nat × xmV)) (st : List xmV) : Prop :=
  ∀ (H : Heap) (locs : List Loc) (ls : Array Slot), xmRP D ks b w H → va_S (xmA b) s.heap H locs → lv_has ls nL (xmlv b lv) → W p l e R s m args below meth c H locs cells slots Q (F0 m pc ls (st.map (xmcv b)))
def xmC (p : Program) (s : State) (m : MethodId) (args : Array Value) (meth : Method) (c : Code) (D : va_G) (ks : Nat → ClassId) (b nL : Nat) (cc : ByteArray) (own : String) : Prop :=
  p.tables.exec = Jvm.exec ∧ c.code = cc ∧ c.maxLocals = nL ∧ s.vm.findClass own = some m.cls ∧ (∀ w ∈ xmTs, w.before args s = true) ∧ xmK D ks s ∧ b ≤ s.heap.size ∧ meth.locks = false
