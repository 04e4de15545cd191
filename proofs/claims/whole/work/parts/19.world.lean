/-! THE WORLD behind the constructors: class state x, reference state m, and the Format objects (and what is garbage) fl -/
/-- numbers of the class's ints: 0 formatCount 1 refusal 2 tableAct 3 tableMode 4 tablesMade 5 6 7 met 8 9 10 counted 11 .. 14 lengths of rows; then formats, tableFormat, scratch, formats of rows, codes of rows -/
abbrev XS : Type := (Nat → Int32) × (Nat → Option Nat) × Option Nat × (Nat → Int32) × (Nat → Option Nat) × (Nat → Nat → Int32)
/-- the reference's ints, longs and arrays, by their fields' numbers -/
abbrev MS : Type := (Nat → Int32) × (Nat → Int64) × (Nat → Nat → Int32)
def rowsA : Nat → Option Nat := va_up (va_up (va_up (va_up (fun _ => none) 0 (some 7)) 1 (some 9)) 2 (some 11)) 3 (some 13)
def WB (x : XS) (m : MS) (fl : List xmE) : xmW := Sum.inl (4, [xR (some 1), xI (x.1 0), xR (some 2), xR (some 3), xR (some 4), xR (some 6), xI (x.1 1), xR x.2.2.1, xI (x.1 2), xI (x.1 3), xI (x.1 4)]) :: Sum.inr (2, 10, Sum.inr x.2.1) :: Sum.inr (3, 4, Sum.inr rowsA) :: Sum.inr (0, 16, Sum.inl x.2.2.2.1) :: Sum.inl (0, [xR (some 5)]) :: Sum.inl (3, [xI (x.1 5), xI (x.1 6), xI (x.1 7)]) :: Sum.inl (3, [xI (x.1 8), xI (x.1 9), xI (x.1 10)]) :: Sum.inl (2, [xR (x.2.2.2.2.1 0), xI (x.1 11), xR (some 8)]) :: Sum.inr (0, 16, Sum.inl (x.2.2.2.2.2 0)) :: Sum.inl (2, [xR (x.2.2.2.2.1 1), xI (x.1 12), xR (some 10)]) :: Sum.inr (0, 16, Sum.inl (x.2.2.2.2.2 1)) :: Sum.inl (2, [xR (x.2.2.2.2.1 2), xI (x.1 13), xR (some 12)]) :: Sum.inr (0, 16, Sum.inl (x.2.2.2.2.2 2)) :: Sum.inl (2, [xR (x.2.2.2.2.1 3), xI (x.1 14), xR (some 14)]) :: Sum.inr (0, 16, Sum.inl (x.2.2.2.2.2 3)) :: Sum.inl (5, [xI (m.1 0), xR (some 16), xR (some 17), xR (some 18), xR (some 19), xR (some 20), xR (some 21), xR (some 22), xR (some 23), xR (some 24), xI (m.1 10), xI (m.1 11), xI (m.1 12), xI (m.1 13), xI (m.1 14), xI (m.1 15), xI (m.1 16), xI (m.1 17), xI (m.1 18), xI (m.1 19), xI (m.1 20), xL (m.2.1 21), xL (m.2.1 22), xI (m.1 23), xL (m.2.1 24), xR (some 25)]) :: Sum.inr (0, 10, Sum.inl (m.2.2 1)) :: Sum.inr (0, 10, Sum.inl (m.2.2 2)) :: Sum.inr (0, 10, Sum.inl (m.2.2 3)) :: Sum.inr (0, 10, Sum.inl (m.2.2 4)) :: Sum.inr (1, 10, Sum.inl (m.2.2 5)) :: Sum.inr (0, 10, Sum.inl (m.2.2 6)) :: Sum.inr (0, 4, Sum.inl (m.2.2 7)) :: Sum.inr (0, 4, Sum.inl (m.2.2 8)) :: Sum.inr (0, 64, Sum.inl (m.2.2 9)) :: Sum.inr (0, 16, Sum.inl (m.2.2 25)) :: fl
def xset (x : XS) (k : Nat) (v : Int32) : XS := (upd x.1 k v, x.2)
def xfas (x : XS) (k : Nat) (v : Option Nat) : XS := (x.1, va_up x.2.1 k v, x.2.2)
def xtf (x : XS) (v : Option Nat) : XS := (x.1, x.2.1, v, x.2.2.2)
def xsc (x : XS) (k : Nat) (v : Int32) : XS := (x.1, x.2.1, x.2.2.1, upd x.2.2.2.1 k v, x.2.2.2.2)
def xrf (x : XS) (i : Nat) (v : Option Nat) : XS := (x.1, x.2.1, x.2.2.1, x.2.2.2.1, va_up x.2.2.2.2.1 i v, x.2.2.2.2.2)
def xrc (x : XS) (i k : Nat) (v : Int32) : XS := (x.1, x.2.1, x.2.2.1, x.2.2.2.1, x.2.2.2.2.1, fun j => if j = i then upd (x.2.2.2.2.2 i) k v else x.2.2.2.2.2 j)
def mset (m : MS) (k : Nat) (v : Int32) : MS := (upd m.1 k v, m.2)
def mlst (m : MS) (k : Nat) (v : Int64) : MS := (m.1, vp_updL m.2.1 k v, m.2.2)
def mast (m : MS) (a k : Nat) (v : Int32) : MS := (m.1, m.2.1, fun j => if j = a then upd (m.2.2 a) k v else m.2.2 j)
section WBS
variable {x : XS} {m : MS} {fl : List xmE}
theorem wb_len : (WB x m fl).length = fl.length + 26 := rfl
theorem wb_fl (k : Nat) : (WB x m fl)[k + 26]? = fl[k]? := rfl
theorem wb_app (e : xmE) : WB x m fl ++ [e] = WB x m (fl ++ [e]) := rfl
theorem o_0 : xmob (WB x m fl) (some 0) 4 = some [xR (some 1), xI (x.1 0), xR (some 2), xR (some 3), xR (some 4), xR (some 6), xI (x.1 1), xR x.2.2.1, xI (x.1 2), xI (x.1 3), xI (x.1 4)] := rfl
theorem g_0_0 : xmgR (WB x m fl) (some 0) 4 0 = some ((some 1)) := rfl
theorem g_0_1 : xmgI (WB x m fl) (some 0) 4 1 = some ((x.1 0)) := rfl
theorem p_0_1 (v : Int32) : xmput (WB x m fl) (some 0) 4 1 (xI v) = some (WB (xset x 0 v) m fl) := rfl
theorem g_0_2 : xmgR (WB x m fl) (some 0) 4 2 = some ((some 2)) := rfl
theorem g_0_3 : xmgR (WB x m fl) (some 0) 4 3 = some ((some 3)) := rfl
theorem g_0_4 : xmgR (WB x m fl) (some 0) 4 4 = some ((some 4)) := rfl
theorem g_0_5 : xmgR (WB x m fl) (some 0) 4 5 = some ((some 6)) := rfl
theorem g_0_6 : xmgI (WB x m fl) (some 0) 4 6 = some ((x.1 1)) := rfl
theorem p_0_6 (v : Int32) : xmput (WB x m fl) (some 0) 4 6 (xI v) = some (WB (xset x 1 v) m fl) := rfl
theorem g_0_7 : xmgR (WB x m fl) (some 0) 4 7 = some (x.2.2.1) := rfl
theorem p_0_7 (v : Option Nat) : xmput (WB x m fl) (some 0) 4 7 (xR v) = some (WB (xtf x v) m fl) := rfl
theorem g_0_8 : xmgI (WB x m fl) (some 0) 4 8 = some ((x.1 2)) := rfl
theorem p_0_8 (v : Int32) : xmput (WB x m fl) (some 0) 4 8 (xI v) = some (WB (xset x 2 v) m fl) := rfl
theorem g_0_9 : xmgI (WB x m fl) (some 0) 4 9 = some ((x.1 3)) := rfl
theorem p_0_9 (v : Int32) : xmput (WB x m fl) (some 0) 4 9 (xI v) = some (WB (xset x 3 v) m fl) := rfl
theorem g_0_10 : xmgI (WB x m fl) (some 0) 4 10 = some ((x.1 4)) := rfl
theorem p_0_10 (v : Int32) : xmput (WB x m fl) (some 0) 4 10 (xI v) = some (WB (xset x 4 v) m fl) := rfl
theorem o_4 : xmob (WB x m fl) (some 4) 0 = some [xR (some 5)] := rfl
theorem g_4_0 : xmgR (WB x m fl) (some 4) 0 0 = some ((some 5)) := rfl
theorem o_5 : xmob (WB x m fl) (some 5) 3 = some [xI (x.1 5), xI (x.1 6), xI (x.1 7)] := rfl
theorem g_5_0 : xmgI (WB x m fl) (some 5) 3 0 = some ((x.1 5)) := rfl
theorem p_5_0 (v : Int32) : xmput (WB x m fl) (some 5) 3 0 (xI v) = some (WB (xset x 5 v) m fl) := rfl
theorem g_5_1 : xmgI (WB x m fl) (some 5) 3 1 = some ((x.1 6)) := rfl
theorem p_5_1 (v : Int32) : xmput (WB x m fl) (some 5) 3 1 (xI v) = some (WB (xset x 6 v) m fl) := rfl
theorem g_5_2 : xmgI (WB x m fl) (some 5) 3 2 = some ((x.1 7)) := rfl
theorem p_5_2 (v : Int32) : xmput (WB x m fl) (some 5) 3 2 (xI v) = some (WB (xset x 7 v) m fl) := rfl
theorem o_6 : xmob (WB x m fl) (some 6) 3 = some [xI (x.1 8), xI (x.1 9), xI (x.1 10)] := rfl
theorem g_6_0 : xmgI (WB x m fl) (some 6) 3 0 = some ((x.1 8)) := rfl
theorem p_6_0 (v : Int32) : xmput (WB x m fl) (some 6) 3 0 (xI v) = some (WB (xset x 8 v) m fl) := rfl
theorem g_6_1 : xmgI (WB x m fl) (some 6) 3 1 = some ((x.1 9)) := rfl
theorem p_6_1 (v : Int32) : xmput (WB x m fl) (some 6) 3 1 (xI v) = some (WB (xset x 9 v) m fl) := rfl
theorem g_6_2 : xmgI (WB x m fl) (some 6) 3 2 = some ((x.1 10)) := rfl
theorem p_6_2 (v : Int32) : xmput (WB x m fl) (some 6) 3 2 (xI v) = some (WB (xset x 10 v) m fl) := rfl
theorem o_7 : xmob (WB x m fl) (some 7) 2 = some [xR (x.2.2.2.2.1 0), xI (x.1 11), xR (some 8)] := rfl
theorem g_7_0 : xmgR (WB x m fl) (some 7) 2 0 = some ((x.2.2.2.2.1 0)) := rfl
theorem p_7_0 (v : Option Nat) : xmput (WB x m fl) (some 7) 2 0 (xR v) = some (WB (xrf x 0 v) m fl) := rfl
theorem g_7_1 : xmgI (WB x m fl) (some 7) 2 1 = some ((x.1 11)) := rfl
theorem p_7_1 (v : Int32) : xmput (WB x m fl) (some 7) 2 1 (xI v) = some (WB (xset x 11 v) m fl) := rfl
theorem g_7_2 : xmgR (WB x m fl) (some 7) 2 2 = some ((some 8)) := rfl
theorem o_9 : xmob (WB x m fl) (some 9) 2 = some [xR (x.2.2.2.2.1 1), xI (x.1 12), xR (some 10)] := rfl
theorem g_9_0 : xmgR (WB x m fl) (some 9) 2 0 = some ((x.2.2.2.2.1 1)) := rfl
theorem p_9_0 (v : Option Nat) : xmput (WB x m fl) (some 9) 2 0 (xR v) = some (WB (xrf x 1 v) m fl) := rfl
theorem g_9_1 : xmgI (WB x m fl) (some 9) 2 1 = some ((x.1 12)) := rfl
theorem p_9_1 (v : Int32) : xmput (WB x m fl) (some 9) 2 1 (xI v) = some (WB (xset x 12 v) m fl) := rfl
theorem g_9_2 : xmgR (WB x m fl) (some 9) 2 2 = some ((some 10)) := rfl
theorem o_11 : xmob (WB x m fl) (some 11) 2 = some [xR (x.2.2.2.2.1 2), xI (x.1 13), xR (some 12)] := rfl
theorem g_11_0 : xmgR (WB x m fl) (some 11) 2 0 = some ((x.2.2.2.2.1 2)) := rfl
theorem p_11_0 (v : Option Nat) : xmput (WB x m fl) (some 11) 2 0 (xR v) = some (WB (xrf x 2 v) m fl) := rfl
theorem g_11_1 : xmgI (WB x m fl) (some 11) 2 1 = some ((x.1 13)) := rfl
theorem p_11_1 (v : Int32) : xmput (WB x m fl) (some 11) 2 1 (xI v) = some (WB (xset x 13 v) m fl) := rfl
theorem g_11_2 : xmgR (WB x m fl) (some 11) 2 2 = some ((some 12)) := rfl
theorem o_13 : xmob (WB x m fl) (some 13) 2 = some [xR (x.2.2.2.2.1 3), xI (x.1 14), xR (some 14)] := rfl
theorem g_13_0 : xmgR (WB x m fl) (some 13) 2 0 = some ((x.2.2.2.2.1 3)) := rfl
theorem p_13_0 (v : Option Nat) : xmput (WB x m fl) (some 13) 2 0 (xR v) = some (WB (xrf x 3 v) m fl) := rfl
theorem g_13_1 : xmgI (WB x m fl) (some 13) 2 1 = some ((x.1 14)) := rfl
theorem p_13_1 (v : Int32) : xmput (WB x m fl) (some 13) 2 1 (xI v) = some (WB (xset x 14 v) m fl) := rfl
theorem g_13_2 : xmgR (WB x m fl) (some 13) 2 2 = some ((some 14)) := rfl
theorem o_15 : xmob (WB x m fl) (some 15) 5 = some [xI (m.1 0), xR (some 16), xR (some 17), xR (some 18), xR (some 19), xR (some 20), xR (some 21), xR (some 22), xR (some 23), xR (some 24), xI (m.1 10), xI (m.1 11), xI (m.1 12), xI (m.1 13), xI (m.1 14), xI (m.1 15), xI (m.1 16), xI (m.1 17), xI (m.1 18), xI (m.1 19), xI (m.1 20), xL (m.2.1 21), xL (m.2.1 22), xI (m.1 23), xL (m.2.1 24), xR (some 25)] := rfl
theorem g_15_0 : xmgI (WB x m fl) (some 15) 5 0 = some ((m.1 0)) := rfl
theorem p_15_0 (v : Int32) : xmput (WB x m fl) (some 15) 5 0 (xI v) = some (WB x (mset m 0 v) fl) := rfl
theorem g_15_1 : xmgR (WB x m fl) (some 15) 5 1 = some ((some 16)) := rfl
theorem g_15_2 : xmgR (WB x m fl) (some 15) 5 2 = some ((some 17)) := rfl
theorem g_15_3 : xmgR (WB x m fl) (some 15) 5 3 = some ((some 18)) := rfl
theorem g_15_4 : xmgR (WB x m fl) (some 15) 5 4 = some ((some 19)) := rfl
theorem g_15_5 : xmgR (WB x m fl) (some 15) 5 5 = some ((some 20)) := rfl
theorem g_15_6 : xmgR (WB x m fl) (some 15) 5 6 = some ((some 21)) := rfl
theorem g_15_7 : xmgR (WB x m fl) (some 15) 5 7 = some ((some 22)) := rfl
theorem g_15_8 : xmgR (WB x m fl) (some 15) 5 8 = some ((some 23)) := rfl
theorem g_15_9 : xmgR (WB x m fl) (some 15) 5 9 = some ((some 24)) := rfl
theorem g_15_10 : xmgI (WB x m fl) (some 15) 5 10 = some ((m.1 10)) := rfl
theorem p_15_10 (v : Int32) : xmput (WB x m fl) (some 15) 5 10 (xI v) = some (WB x (mset m 10 v) fl) := rfl
theorem g_15_11 : xmgI (WB x m fl) (some 15) 5 11 = some ((m.1 11)) := rfl
theorem p_15_11 (v : Int32) : xmput (WB x m fl) (some 15) 5 11 (xI v) = some (WB x (mset m 11 v) fl) := rfl
theorem g_15_12 : xmgI (WB x m fl) (some 15) 5 12 = some ((m.1 12)) := rfl
theorem p_15_12 (v : Int32) : xmput (WB x m fl) (some 15) 5 12 (xI v) = some (WB x (mset m 12 v) fl) := rfl
theorem g_15_13 : xmgI (WB x m fl) (some 15) 5 13 = some ((m.1 13)) := rfl
theorem p_15_13 (v : Int32) : xmput (WB x m fl) (some 15) 5 13 (xI v) = some (WB x (mset m 13 v) fl) := rfl
theorem g_15_14 : xmgI (WB x m fl) (some 15) 5 14 = some ((m.1 14)) := rfl
theorem p_15_14 (v : Int32) : xmput (WB x m fl) (some 15) 5 14 (xI v) = some (WB x (mset m 14 v) fl) := rfl
theorem g_15_15 : xmgI (WB x m fl) (some 15) 5 15 = some ((m.1 15)) := rfl
theorem p_15_15 (v : Int32) : xmput (WB x m fl) (some 15) 5 15 (xI v) = some (WB x (mset m 15 v) fl) := rfl
theorem g_15_16 : xmgI (WB x m fl) (some 15) 5 16 = some ((m.1 16)) := rfl
theorem p_15_16 (v : Int32) : xmput (WB x m fl) (some 15) 5 16 (xI v) = some (WB x (mset m 16 v) fl) := rfl
theorem g_15_17 : xmgI (WB x m fl) (some 15) 5 17 = some ((m.1 17)) := rfl
theorem p_15_17 (v : Int32) : xmput (WB x m fl) (some 15) 5 17 (xI v) = some (WB x (mset m 17 v) fl) := rfl
theorem g_15_18 : xmgI (WB x m fl) (some 15) 5 18 = some ((m.1 18)) := rfl
theorem p_15_18 (v : Int32) : xmput (WB x m fl) (some 15) 5 18 (xI v) = some (WB x (mset m 18 v) fl) := rfl
theorem g_15_19 : xmgI (WB x m fl) (some 15) 5 19 = some ((m.1 19)) := rfl
theorem p_15_19 (v : Int32) : xmput (WB x m fl) (some 15) 5 19 (xI v) = some (WB x (mset m 19 v) fl) := rfl
theorem g_15_20 : xmgI (WB x m fl) (some 15) 5 20 = some ((m.1 20)) := rfl
theorem p_15_20 (v : Int32) : xmput (WB x m fl) (some 15) 5 20 (xI v) = some (WB x (mset m 20 v) fl) := rfl
theorem g_15_21 : xmgL (WB x m fl) (some 15) 5 21 = some ((m.2.1 21)) := rfl
theorem p_15_21 (v : Int64) : xmput (WB x m fl) (some 15) 5 21 (xL v) = some (WB x (mlst m 21 v) fl) := rfl
theorem g_15_22 : xmgL (WB x m fl) (some 15) 5 22 = some ((m.2.1 22)) := rfl
theorem p_15_22 (v : Int64) : xmput (WB x m fl) (some 15) 5 22 (xL v) = some (WB x (mlst m 22 v) fl) := rfl
theorem g_15_23 : xmgI (WB x m fl) (some 15) 5 23 = some ((m.1 23)) := rfl
theorem p_15_23 (v : Int32) : xmput (WB x m fl) (some 15) 5 23 (xI v) = some (WB x (mset m 23 v) fl) := rfl
theorem g_15_24 : xmgL (WB x m fl) (some 15) 5 24 = some ((m.2.1 24)) := rfl
theorem p_15_24 (v : Int64) : xmput (WB x m fl) (some 15) 5 24 (xL v) = some (WB x (mlst m 24 v) fl) := rfl
theorem g_15_25 : xmgR (WB x m fl) (some 15) 5 25 = some ((some 25)) := rfl
theorem a_1 {i : Nat} (h : i < 10) : xmqld (WB x m fl) (some 1) 2 (nI i) = some (x.2.1 i) := by
  have h1 : (nI i).toNatClampNeg = i := nI_clamp (by omega)
  show (if 0 ≤ nI i ∧ (nI i).toNatClampNeg < 10 then some (x.2.1 (nI i).toNatClampNeg) else none) = _
  rw [h1, if_pos ⟨nI_pos' (by omega), h⟩]
theorem a_2 {i : Nat} (h : i < 4) : xmqld (WB x m fl) (some 2) 3 (nI i) = some (rowsA i) := by
  have h1 : (nI i).toNatClampNeg = i := nI_clamp (by omega)
  show (if 0 ≤ nI i ∧ (nI i).toNatClampNeg < 4 then some (rowsA (nI i).toNatClampNeg) else none) = _
  rw [h1, if_pos ⟨nI_pos' (by omega), h⟩]
theorem a_3 {i : Nat} (h : i < 16) : xmild (WB x m fl) (some 3) 0 (nI i) = some (x.2.2.2.1 i) := by
  have h1 : (nI i).toNatClampNeg = i := nI_clamp (by omega)
  show (if 0 ≤ nI i ∧ (nI i).toNatClampNeg < 16 then some (x.2.2.2.1 (nI i).toNatClampNeg) else none) = _
  rw [h1, if_pos ⟨nI_pos' (by omega), h⟩]
theorem l_3 : xmlen (WB x m fl) (some 3) 0 = some 16 := rfl
theorem s_3 {i : Nat} (h : i < 16) (v : Int32) : xmist (WB x m fl) (some 3) 0 (nI i) v = some (WB (xsc x i v) m fl) := by
  have h1 : (nI i).toNatClampNeg = i := nI_clamp (by omega)
  show (if 0 = 0 ∧ 0 ≤ nI i ∧ (nI i).toNatClampNeg < 16 then some ((WB x m fl).set 3 (Sum.inr (0, 16, Sum.inl (upd x.2.2.2.1 (nI i).toNatClampNeg v)))) else none) = _
  rw [h1, if_pos ⟨rfl, nI_pos' (by omega), h⟩]
  rfl
theorem a_8 {i : Nat} (h : i < 16) : xmild (WB x m fl) (some 8) 0 (nI i) = some ((x.2.2.2.2.2 0) i) := by
  have h1 : (nI i).toNatClampNeg = i := nI_clamp (by omega)
  show (if 0 ≤ nI i ∧ (nI i).toNatClampNeg < 16 then some ((x.2.2.2.2.2 0) (nI i).toNatClampNeg) else none) = _
  rw [h1, if_pos ⟨nI_pos' (by omega), h⟩]
theorem l_8 : xmlen (WB x m fl) (some 8) 0 = some 16 := rfl
theorem s_8 {i : Nat} (h : i < 16) (v : Int32) : xmist (WB x m fl) (some 8) 0 (nI i) v = some (WB (xrc x 0 i v) m fl) := by
  have h1 : (nI i).toNatClampNeg = i := nI_clamp (by omega)
  show (if 0 = 0 ∧ 0 ≤ nI i ∧ (nI i).toNatClampNeg < 16 then some ((WB x m fl).set 8 (Sum.inr (0, 16, Sum.inl (upd (x.2.2.2.2.2 0) (nI i).toNatClampNeg v)))) else none) = _
  rw [h1, if_pos ⟨rfl, nI_pos' (by omega), h⟩]
  rfl
theorem a_10 {i : Nat} (h : i < 16) : xmild (WB x m fl) (some 10) 0 (nI i) = some ((x.2.2.2.2.2 1) i) := by
  have h1 : (nI i).toNatClampNeg = i := nI_clamp (by omega)
  show (if 0 ≤ nI i ∧ (nI i).toNatClampNeg < 16 then some ((x.2.2.2.2.2 1) (nI i).toNatClampNeg) else none) = _
  rw [h1, if_pos ⟨nI_pos' (by omega), h⟩]
theorem l_10 : xmlen (WB x m fl) (some 10) 0 = some 16 := rfl
theorem s_10 {i : Nat} (h : i < 16) (v : Int32) : xmist (WB x m fl) (some 10) 0 (nI i) v = some (WB (xrc x 1 i v) m fl) := by
  have h1 : (nI i).toNatClampNeg = i := nI_clamp (by omega)
  show (if 0 = 0 ∧ 0 ≤ nI i ∧ (nI i).toNatClampNeg < 16 then some ((WB x m fl).set 10 (Sum.inr (0, 16, Sum.inl (upd (x.2.2.2.2.2 1) (nI i).toNatClampNeg v)))) else none) = _
  rw [h1, if_pos ⟨rfl, nI_pos' (by omega), h⟩]
  rfl
theorem a_12 {i : Nat} (h : i < 16) : xmild (WB x m fl) (some 12) 0 (nI i) = some ((x.2.2.2.2.2 2) i) := by
  have h1 : (nI i).toNatClampNeg = i := nI_clamp (by omega)
  show (if 0 ≤ nI i ∧ (nI i).toNatClampNeg < 16 then some ((x.2.2.2.2.2 2) (nI i).toNatClampNeg) else none) = _
  rw [h1, if_pos ⟨nI_pos' (by omega), h⟩]
theorem l_12 : xmlen (WB x m fl) (some 12) 0 = some 16 := rfl
theorem s_12 {i : Nat} (h : i < 16) (v : Int32) : xmist (WB x m fl) (some 12) 0 (nI i) v = some (WB (xrc x 2 i v) m fl) := by
  have h1 : (nI i).toNatClampNeg = i := nI_clamp (by omega)
  show (if 0 = 0 ∧ 0 ≤ nI i ∧ (nI i).toNatClampNeg < 16 then some ((WB x m fl).set 12 (Sum.inr (0, 16, Sum.inl (upd (x.2.2.2.2.2 2) (nI i).toNatClampNeg v)))) else none) = _
  rw [h1, if_pos ⟨rfl, nI_pos' (by omega), h⟩]
  rfl
theorem a_14 {i : Nat} (h : i < 16) : xmild (WB x m fl) (some 14) 0 (nI i) = some ((x.2.2.2.2.2 3) i) := by
  have h1 : (nI i).toNatClampNeg = i := nI_clamp (by omega)
  show (if 0 ≤ nI i ∧ (nI i).toNatClampNeg < 16 then some ((x.2.2.2.2.2 3) (nI i).toNatClampNeg) else none) = _
  rw [h1, if_pos ⟨nI_pos' (by omega), h⟩]
theorem l_14 : xmlen (WB x m fl) (some 14) 0 = some 16 := rfl
theorem s_14 {i : Nat} (h : i < 16) (v : Int32) : xmist (WB x m fl) (some 14) 0 (nI i) v = some (WB (xrc x 3 i v) m fl) := by
  have h1 : (nI i).toNatClampNeg = i := nI_clamp (by omega)
  show (if 0 = 0 ∧ 0 ≤ nI i ∧ (nI i).toNatClampNeg < 16 then some ((WB x m fl).set 14 (Sum.inr (0, 16, Sum.inl (upd (x.2.2.2.2.2 3) (nI i).toNatClampNeg v)))) else none) = _
  rw [h1, if_pos ⟨rfl, nI_pos' (by omega), h⟩]
  rfl
theorem a_16 {i : Nat} (h : i < 10) : xmild (WB x m fl) (some 16) 0 (nI i) = some ((m.2.2 1) i) := by
  have h1 : (nI i).toNatClampNeg = i := nI_clamp (by omega)
  show (if 0 ≤ nI i ∧ (nI i).toNatClampNeg < 10 then some ((m.2.2 1) (nI i).toNatClampNeg) else none) = _
  rw [h1, if_pos ⟨nI_pos' (by omega), h⟩]
theorem l_16 : xmlen (WB x m fl) (some 16) 0 = some 10 := rfl
theorem s_16 {i : Nat} (h : i < 10) (v : Int32) : xmist (WB x m fl) (some 16) 0 (nI i) v = some (WB x (mast m 1 i v) fl) := by
  have h1 : (nI i).toNatClampNeg = i := nI_clamp (by omega)
  show (if 0 = 0 ∧ 0 ≤ nI i ∧ (nI i).toNatClampNeg < 10 then some ((WB x m fl).set 16 (Sum.inr (0, 10, Sum.inl (upd (m.2.2 1) (nI i).toNatClampNeg v)))) else none) = _
  rw [h1, if_pos ⟨rfl, nI_pos' (by omega), h⟩]
  rfl
theorem a_17 {i : Nat} (h : i < 10) : xmild (WB x m fl) (some 17) 0 (nI i) = some ((m.2.2 2) i) := by
  have h1 : (nI i).toNatClampNeg = i := nI_clamp (by omega)
  show (if 0 ≤ nI i ∧ (nI i).toNatClampNeg < 10 then some ((m.2.2 2) (nI i).toNatClampNeg) else none) = _
  rw [h1, if_pos ⟨nI_pos' (by omega), h⟩]
theorem l_17 : xmlen (WB x m fl) (some 17) 0 = some 10 := rfl
theorem s_17 {i : Nat} (h : i < 10) (v : Int32) : xmist (WB x m fl) (some 17) 0 (nI i) v = some (WB x (mast m 2 i v) fl) := by
  have h1 : (nI i).toNatClampNeg = i := nI_clamp (by omega)
  show (if 0 = 0 ∧ 0 ≤ nI i ∧ (nI i).toNatClampNeg < 10 then some ((WB x m fl).set 17 (Sum.inr (0, 10, Sum.inl (upd (m.2.2 2) (nI i).toNatClampNeg v)))) else none) = _
  rw [h1, if_pos ⟨rfl, nI_pos' (by omega), h⟩]
  rfl
theorem a_18 {i : Nat} (h : i < 10) : xmild (WB x m fl) (some 18) 0 (nI i) = some ((m.2.2 3) i) := by
  have h1 : (nI i).toNatClampNeg = i := nI_clamp (by omega)
  show (if 0 ≤ nI i ∧ (nI i).toNatClampNeg < 10 then some ((m.2.2 3) (nI i).toNatClampNeg) else none) = _
  rw [h1, if_pos ⟨nI_pos' (by omega), h⟩]
theorem l_18 : xmlen (WB x m fl) (some 18) 0 = some 10 := rfl
theorem s_18 {i : Nat} (h : i < 10) (v : Int32) : xmist (WB x m fl) (some 18) 0 (nI i) v = some (WB x (mast m 3 i v) fl) := by
  have h1 : (nI i).toNatClampNeg = i := nI_clamp (by omega)
  show (if 0 = 0 ∧ 0 ≤ nI i ∧ (nI i).toNatClampNeg < 10 then some ((WB x m fl).set 18 (Sum.inr (0, 10, Sum.inl (upd (m.2.2 3) (nI i).toNatClampNeg v)))) else none) = _
  rw [h1, if_pos ⟨rfl, nI_pos' (by omega), h⟩]
  rfl
theorem a_19 {i : Nat} (h : i < 10) : xmild (WB x m fl) (some 19) 0 (nI i) = some ((m.2.2 4) i) := by
  have h1 : (nI i).toNatClampNeg = i := nI_clamp (by omega)
  show (if 0 ≤ nI i ∧ (nI i).toNatClampNeg < 10 then some ((m.2.2 4) (nI i).toNatClampNeg) else none) = _
  rw [h1, if_pos ⟨nI_pos' (by omega), h⟩]
theorem l_19 : xmlen (WB x m fl) (some 19) 0 = some 10 := rfl
theorem s_19 {i : Nat} (h : i < 10) (v : Int32) : xmist (WB x m fl) (some 19) 0 (nI i) v = some (WB x (mast m 4 i v) fl) := by
  have h1 : (nI i).toNatClampNeg = i := nI_clamp (by omega)
  show (if 0 = 0 ∧ 0 ≤ nI i ∧ (nI i).toNatClampNeg < 10 then some ((WB x m fl).set 19 (Sum.inr (0, 10, Sum.inl (upd (m.2.2 4) (nI i).toNatClampNeg v)))) else none) = _
  rw [h1, if_pos ⟨rfl, nI_pos' (by omega), h⟩]
  rfl
theorem a_20 {i : Nat} (h : i < 10) : xmild (WB x m fl) (some 20) 1 (nI i) = some ((m.2.2 5) i) := by
  have h1 : (nI i).toNatClampNeg = i := nI_clamp (by omega)
  show (if 0 ≤ nI i ∧ (nI i).toNatClampNeg < 10 then some ((m.2.2 5) (nI i).toNatClampNeg) else none) = _
  rw [h1, if_pos ⟨nI_pos' (by omega), h⟩]
theorem s_20 {i : Nat} (h : i < 10) (v : Int32) : xmist (WB x m fl) (some 20) 1 (nI i) v = some (WB x (mast m 5 i v) fl) := by
  have h1 : (nI i).toNatClampNeg = i := nI_clamp (by omega)
  show (if 1 = 1 ∧ 0 ≤ nI i ∧ (nI i).toNatClampNeg < 10 then some ((WB x m fl).set 20 (Sum.inr (1, 10, Sum.inl (upd (m.2.2 5) (nI i).toNatClampNeg v)))) else none) = _
  rw [h1, if_pos ⟨rfl, nI_pos' (by omega), h⟩]
  rfl
theorem a_21 {i : Nat} (h : i < 10) : xmild (WB x m fl) (some 21) 0 (nI i) = some ((m.2.2 6) i) := by
  have h1 : (nI i).toNatClampNeg = i := nI_clamp (by omega)
  show (if 0 ≤ nI i ∧ (nI i).toNatClampNeg < 10 then some ((m.2.2 6) (nI i).toNatClampNeg) else none) = _
  rw [h1, if_pos ⟨nI_pos' (by omega), h⟩]
theorem l_21 : xmlen (WB x m fl) (some 21) 0 = some 10 := rfl
theorem s_21 {i : Nat} (h : i < 10) (v : Int32) : xmist (WB x m fl) (some 21) 0 (nI i) v = some (WB x (mast m 6 i v) fl) := by
  have h1 : (nI i).toNatClampNeg = i := nI_clamp (by omega)
  show (if 0 = 0 ∧ 0 ≤ nI i ∧ (nI i).toNatClampNeg < 10 then some ((WB x m fl).set 21 (Sum.inr (0, 10, Sum.inl (upd (m.2.2 6) (nI i).toNatClampNeg v)))) else none) = _
  rw [h1, if_pos ⟨rfl, nI_pos' (by omega), h⟩]
  rfl
theorem a_22 {i : Nat} (h : i < 4) : xmild (WB x m fl) (some 22) 0 (nI i) = some ((m.2.2 7) i) := by
  have h1 : (nI i).toNatClampNeg = i := nI_clamp (by omega)
  show (if 0 ≤ nI i ∧ (nI i).toNatClampNeg < 4 then some ((m.2.2 7) (nI i).toNatClampNeg) else none) = _
  rw [h1, if_pos ⟨nI_pos' (by omega), h⟩]
theorem l_22 : xmlen (WB x m fl) (some 22) 0 = some 4 := rfl
theorem s_22 {i : Nat} (h : i < 4) (v : Int32) : xmist (WB x m fl) (some 22) 0 (nI i) v = some (WB x (mast m 7 i v) fl) := by
  have h1 : (nI i).toNatClampNeg = i := nI_clamp (by omega)
  show (if 0 = 0 ∧ 0 ≤ nI i ∧ (nI i).toNatClampNeg < 4 then some ((WB x m fl).set 22 (Sum.inr (0, 4, Sum.inl (upd (m.2.2 7) (nI i).toNatClampNeg v)))) else none) = _
  rw [h1, if_pos ⟨rfl, nI_pos' (by omega), h⟩]
  rfl
theorem a_23 {i : Nat} (h : i < 4) : xmild (WB x m fl) (some 23) 0 (nI i) = some ((m.2.2 8) i) := by
  have h1 : (nI i).toNatClampNeg = i := nI_clamp (by omega)
  show (if 0 ≤ nI i ∧ (nI i).toNatClampNeg < 4 then some ((m.2.2 8) (nI i).toNatClampNeg) else none) = _
  rw [h1, if_pos ⟨nI_pos' (by omega), h⟩]
theorem l_23 : xmlen (WB x m fl) (some 23) 0 = some 4 := rfl
theorem s_23 {i : Nat} (h : i < 4) (v : Int32) : xmist (WB x m fl) (some 23) 0 (nI i) v = some (WB x (mast m 8 i v) fl) := by
  have h1 : (nI i).toNatClampNeg = i := nI_clamp (by omega)
  show (if 0 = 0 ∧ 0 ≤ nI i ∧ (nI i).toNatClampNeg < 4 then some ((WB x m fl).set 23 (Sum.inr (0, 4, Sum.inl (upd (m.2.2 8) (nI i).toNatClampNeg v)))) else none) = _
  rw [h1, if_pos ⟨rfl, nI_pos' (by omega), h⟩]
  rfl
theorem a_24 {i : Nat} (h : i < 64) : xmild (WB x m fl) (some 24) 0 (nI i) = some ((m.2.2 9) i) := by
  have h1 : (nI i).toNatClampNeg = i := nI_clamp (by omega)
  show (if 0 ≤ nI i ∧ (nI i).toNatClampNeg < 64 then some ((m.2.2 9) (nI i).toNatClampNeg) else none) = _
  rw [h1, if_pos ⟨nI_pos' (by omega), h⟩]
theorem l_24 : xmlen (WB x m fl) (some 24) 0 = some 64 := rfl
theorem s_24 {i : Nat} (h : i < 64) (v : Int32) : xmist (WB x m fl) (some 24) 0 (nI i) v = some (WB x (mast m 9 i v) fl) := by
  have h1 : (nI i).toNatClampNeg = i := nI_clamp (by omega)
  show (if 0 = 0 ∧ 0 ≤ nI i ∧ (nI i).toNatClampNeg < 64 then some ((WB x m fl).set 24 (Sum.inr (0, 64, Sum.inl (upd (m.2.2 9) (nI i).toNatClampNeg v)))) else none) = _
  rw [h1, if_pos ⟨rfl, nI_pos' (by omega), h⟩]
  rfl
theorem a_25 {i : Nat} (h : i < 16) : xmild (WB x m fl) (some 25) 0 (nI i) = some ((m.2.2 25) i) := by
  have h1 : (nI i).toNatClampNeg = i := nI_clamp (by omega)
  show (if 0 ≤ nI i ∧ (nI i).toNatClampNeg < 16 then some ((m.2.2 25) (nI i).toNatClampNeg) else none) = _
  rw [h1, if_pos ⟨nI_pos' (by omega), h⟩]
theorem l_25 : xmlen (WB x m fl) (some 25) 0 = some 16 := rfl
theorem s_25 {i : Nat} (h : i < 16) (v : Int32) : xmist (WB x m fl) (some 25) 0 (nI i) v = some (WB x (mast m 25 i v) fl) := by
  have h1 : (nI i).toNatClampNeg = i := nI_clamp (by omega)
  show (if 0 = 0 ∧ 0 ≤ nI i ∧ (nI i).toNatClampNeg < 16 then some ((WB x m fl).set 25 (Sum.inr (0, 16, Sum.inl (upd (m.2.2 25) (nI i).toNatClampNeg v)))) else none) = _
  rw [h1, if_pos ⟨rfl, nI_pos' (by omega), h⟩]
  rfl
theorem s_1 {i : Nat} (h : i < 10) {k : Nat} {fs : List xmV} (hk : xmob (WB x m fl) (some k) 1 = some fs) : xmqst (WB x m fl) (some 1) 2 1 (nI i) (some k) = some (WB (xfas x i (some k)) m fl) := by
  have h1 : (nI i).toNatClampNeg = i := nI_clamp (by omega)
  unfold xmqst
  rw [hk]
  show (if 2 = 2 ∧ 0 ≤ nI i ∧ (nI i).toNatClampNeg < 10 then some ((WB x m fl).set 1 (Sum.inr (2, 10, Sum.inr (va_up x.2.1 (nI i).toNatClampNeg (some k))))) else none) = _
  rw [h1, if_pos ⟨rfl, nI_pos' (by omega), h⟩]
  rfl
end WBS
/-- the format j of the reference -/
def MA (m : MS) (j : Nat) (F : FM) : Prop := j < 10 ∧ m.2.2 1 j = nI (fS F) ∧ m.2.2 2 j = nI (fE F) ∧ m.2.2 3 j = nI (fF F) ∧ m.2.2 4 j = nI (fB F) ∧ m.2.2 5 j = bI (fU F) ∧ m.2.2 6 j = nI (fT F)
theorem MA.g {m : MS} {j : Nat} {F : FM} (h : MA m j F) (x : XS) (fl : List xmE) : MG (WB x m fl) j F := by
  obtain ⟨hj, h1, h2, h3, h4, h5, h6⟩ := h
  exact ⟨⟨_, o_15⟩, g_15_1, g_15_2, g_15_3, g_15_4, g_15_5, g_15_6, by rw [a_16 hj, h1], by rw [a_17 hj, h2], by rw [a_18 hj, h3], by rw [a_19 hj, h4], by rw [a_20 hj, h5], by rw [a_21 hj, h6]⟩
/-- the Format object at key k -/
def XF (fl : List xmE) (k : Nat) (F : FM) : Prop := ∃ i, k = i + 26 ∧ fl[i]? = some (fmtE F)
theorem XF.w {fl : List xmE} {k : Nat} {F : FM} (h : XF fl k F) (x : XS) (m : MS) : (WB x m fl)[k]? = some (fmtE F) := by
  obtain ⟨i, rfl, h1⟩ := h
  rw [wb_fl]; exact h1
