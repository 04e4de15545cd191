def fX1_noneCode_L34 (w : xmW) (p0 : (Option Nat)) (s0 : Int32) : Option Int32 := (if s0 = 0 then (some (-9 : Int32)) else ((xmgI w p0 1 6).bind fun v5 => ((xmgI w p0 1 2).bind fun v6 => (some ((v5 + (1 : Int32)) ||| ((1 : Int32) <<< ((v6 - (1 : Int32)) &&& 31)))))))
set_option maxHeartbeats 4000000 in
set_option maxRecDepth 100000 in
theorem lX1_noneCode_L34 {p : Program} {l : Launch} {e : Env} {s : State} {m : MethodId} {args : Array Value} {below : List Frame} {meth : Method} {c : Code} {D : va_G} {ks : Nat → ClassId} {b : Nat} (hC : xmC p s m args meth c D ks b 2 cX1_noneCode RX1) (hr : meth.sig.returnType = (some (FieldType.int))) {y : Int32} (w : xmW) (p0 : (Option Nat)) (s0 : Int32) (hf : fX1_noneCode_L34 w p0 s0 = some y) : xmJ p l e ({ frames := 0, cells := 0, slots := 0, locals := 0 } : Room) s m args below meth c D ks b 2 (MQ below (xmQ D ks b (some (xI y)) w) args s 0 0 (xmA b)) w 0 0 34 [(0, xR p0)] [xI s0] := by
  unfold fX1_noneCode_L34 at hf
  refine xj_istore_n (lv' := [(1, xI s0), (0, xR p0)]) hC dX1_noneCode_34 rfl (by decide) rfl ?_
  refine xj_iload_n hC dX1_noneCode_35 rfl 0 rfl ?_
  refine xb_if_eq (tgt := 57) hC dX1_noneCode_36 (by decide) hf (fun hf => ?_) (fun hf => ?_)
  · refine xj_bipush (v := -9) hC dX1_noneCode_57 (by decide) ?_
    exact xj_iret hC hr (by decide) (by decide) dX1_noneCode_59 (Option.some.inj hf) rfl
  · refine xj_aload_n hC dX1_noneCode_39 rfl 1 rfl ?_
    refine xb_getI hC 1 6 xcl_1 (by decide) xw_fl_X1_31 dX1_noneCode_40 hf (fun v5 hf => ?_)
    refine xj_iconst (v := 1) hC dX1_noneCode_43 (by decide) ?_
    refine xj_iadd hC dX1_noneCode_44 ?_
    refine xj_iconst (v := 1) hC dX1_noneCode_45 (by decide) ?_
    refine xj_aload_n hC dX1_noneCode_46 rfl 1 rfl ?_
    refine xb_getI hC 1 2 xcl_1 (by decide) xw_fl_X1_18 dX1_noneCode_47 hf (fun v6 hf => ?_)
    refine xj_iconst (v := 1) hC dX1_noneCode_50 (by decide) ?_
    refine xj_isub hC dX1_noneCode_51 ?_
    refine xj_ishl hC dX1_noneCode_52 ?_
    refine xj_ior hC dX1_noneCode_53 ?_
    refine xj_goto (tgt := 59) hC dX1_noneCode_54 (by decide) ?_
    exact xj_iret hC hr (by decide) (by decide) dX1_noneCode_59 (Option.some.inj hf) rfl
def fX1_noneCode (w : xmW) (th : (Option Nat)) : Option Int32 := ((xmob w th 1).bind fun _ => ((xmgI w th 1 5).bind fun v1 => (if v1 = (1 : Int32) then ((xmgI w th 1 6).bind fun v4 => (some (v4 + (1 : Int32)))) else ((xmgI w th 1 5).bind fun v2 => (if v2 = 0 then ((xmgI w th 1 2).bind fun v3 => (fX1_noneCode_L34 w (th) ((if v3 ≤ 0 then (0 : Int32) else (1 : Int32))))) else (fX1_noneCode_L34 w (th) ((0 : Int32))))))))
set_option maxHeartbeats 4000000 in
set_option maxRecDepth 100000 in
theorem mX1_noneCode (l : Launch) (D : va_G) (ks : Nat → ClassId) (b : Nat) {w : xmW} {th : (Option Nat)} {y : Int32} (hf : fX1_noneCode w th = some y) : xmM l yX1_noneCode (Cond.code yX1_noneCode cX1_noneCode 2 (some (FieldType.int)) :: xmTs) 0 0 0 0 D ks b w [xR th] (some (xI y)) w := by
  unfold fX1_noneCode at hf
  obtain ⟨_, _, hf⟩ := xm_bind hf
  refine xmM.of (own := RX1) (lv0 := [(0, xR th)]) (by decide) rfl (Nat.le_of_ble_eq_true rfl) rfl ?_
  intro p e s m args below meth c hC hr hnm
  refine xj_aload_n hC dX1_noneCode_0 rfl 0 rfl ?_
  refine xb_getI hC 1 5 xcl_1 (by decide) xw_fl_X1_28 dX1_noneCode_1 hf (fun v1 hf => ?_)
  refine xj_iconst (v := 1) hC dX1_noneCode_4 (by decide) ?_
  refine xb_ic_ne (tgt := 15) hC dX1_noneCode_5 (by decide) hf (fun hf => ?_) (fun hf => ?_)
  · refine xj_aload_n hC dX1_noneCode_15 rfl 0 rfl ?_
    refine xb_getI hC 1 5 xcl_1 (by decide) xw_fl_X1_28 dX1_noneCode_16 hf (fun v2 hf => ?_)
    refine xb_if_ne (tgt := 33) hC dX1_noneCode_19 (by decide) hf (fun hf => ?_) (fun hf => ?_)
    · refine xj_iconst (v := 0) hC dX1_noneCode_33 (by decide) ?_
      exact lX1_noneCode_L34 hC hr  w (th) ((0 : Int32)) hf
    · refine xj_aload_n hC dX1_noneCode_22 rfl 0 rfl ?_
      refine xb_getI hC 1 2 xcl_1 (by decide) xw_fl_X1_18 dX1_noneCode_23 hf (fun v3 hf => ?_)
      refine xj_dia (cnd := v3 ≤ 0) (x := 0) (y := 1) (pc2 := 34) (st2 := []) (fun hc hk => ?_) (fun hc hk => ?_) ?_
      · exact xj_if_le (tgt := 33) hC dX1_noneCode_26 (by decide) (fun _ => xj_iconst (v := 0) hC dX1_noneCode_33 (by decide) hk) (fun hn => absurd hc hn)
      · exact xj_if_le (tgt := 33) hC dX1_noneCode_26 (by decide) (fun hn => absurd hn hc) (fun _ => xj_iconst (v := 1) hC dX1_noneCode_29 (by decide) (xj_goto (tgt := 34) hC dX1_noneCode_30 (by decide) hk))
      exact lX1_noneCode_L34 hC hr  w (th) ((if v3 ≤ 0 then (0 : Int32) else (1 : Int32))) hf
  · refine xj_aload_n hC dX1_noneCode_8 rfl 0 rfl ?_
    refine xb_getI hC 1 6 xcl_1 (by decide) xw_fl_X1_31 dX1_noneCode_9 hf (fun v4 hf => ?_)
    refine xj_iconst (v := 1) hC dX1_noneCode_12 (by decide) ?_
    refine xj_iadd hC dX1_noneCode_13 ?_
    exact xj_iret hC hr (by decide) (by decide) dX1_noneCode_14 (Option.some.inj hf) rfl
def fX1_unitsOfMagnitude_L42 (w : xmW) (p0 : (Option Nat)) (p2 : Int32) (p3 : Int64) : Option Int64 := ((xmgI w p0 1 2).bind fun v4 => (some ((((1 : Int64) <<< ((v4).toInt64 &&& 63)) + p3) <<< ((p2).toInt64 &&& 63))))
set_option maxHeartbeats 4000000 in
set_option maxRecDepth 100000 in
theorem lX1_unitsOfMagnitude_L42 {p : Program} {l : Launch} {e : Env} {s : State} {m : MethodId} {args : Array Value} {below : List Frame} {meth : Method} {c : Code} {D : va_G} {ks : Nat → ClassId} {b : Nat} (hC : xmC p s m args meth c D ks b 5 cX1_unitsOfMagnitude RX1) (hr : meth.sig.returnType = (some (FieldType.long))) {y : Int64} (w : xmW) (p0 : (Option Nat)) (p2 : Int32) (p3 : Int64) (hf : fX1_unitsOfMagnitude_L42 w p0 p2 p3 = some y) : xmJ p l e ({ frames := 0, cells := 0, slots := 0, locals := 0 } : Room) s m args below meth c D ks b 5 (MQ below (xmQ D ks b (some (xL y)) w) args s 0 0 (xmA b)) w 0 0 42 [(0, xR p0), (2, xI p2), (3, xL p3)] [] := by
  unfold fX1_unitsOfMagnitude_L42 at hf
  refine xj_lconst (v := 1) hC dX1_unitsOfMagnitude_42 (by decide) ?_
  refine xj_aload_n hC dX1_unitsOfMagnitude_43 rfl 0 rfl ?_
  refine xb_getI hC 1 2 xcl_1 (by decide) xw_fl_X1_18 dX1_unitsOfMagnitude_44 hf (fun v4 hf => ?_)
  refine xj_lshl hC dX1_unitsOfMagnitude_47 ?_
  refine xj_lload_n hC dX1_unitsOfMagnitude_48 rfl 2 rfl ?_
  refine xj_ladd hC dX1_unitsOfMagnitude_49 ?_
  refine xj_iload_n hC dX1_unitsOfMagnitude_50 rfl 1 rfl ?_
  refine xj_lshl hC dX1_unitsOfMagnitude_51 ?_
  exact xj_lret hC hr (by decide) (by decide) dX1_unitsOfMagnitude_52 (Option.some.inj hf) rfl
def fX1_unitsOfMagnitude (w : xmW) (th : (Option Nat)) (a1 : Int32) : Option Int64 := ((xmob w th 1).bind fun _ => ((xmgI w th 1 2).bind fun v1 => ((xmgI w th 1 2).bind fun v2 => (if a1 = 0 then (some (0 : Int64)) else (if (a1 >>> (v1 &&& 31)) = 0 then ((xmgI w th 1 4).bind fun v3 => (if v3 = 0 then (fX1_unitsOfMagnitude_L42 w (th) ((a1 >>> (v1 &&& 31))) (((a1 &&& (((1 : Int32) <<< (v2 &&& 31)) - (1 : Int32)))).toInt64) ) else (some ((2 : Int64) * ((a1 &&& (((1 : Int32) <<< (v2 &&& 31)) - (1 : Int32)))).toInt64)))) else (fX1_unitsOfMagnitude_L42 w (th) ((a1 >>> (v1 &&& 31))) (((a1 &&& (((1 : Int32) <<< (v2 &&& 31)) - (1 : Int32)))).toInt64) ))))))
set_option maxHeartbeats 4000000 in
set_option maxRecDepth 100000 in
theorem mX1_unitsOfMagnitude (l : Launch) (D : va_G) (ks : Nat → ClassId) (b : Nat) {w : xmW} {th : (Option Nat)} {a1 : Int32} {y : Int64} (hf : fX1_unitsOfMagnitude w th a1 = some y) : xmM l yX1_unitsOfMagnitude (Cond.code yX1_unitsOfMagnitude cX1_unitsOfMagnitude 5 (some (FieldType.long)) :: xmTs) 0 0 0 0 D ks b w [xR th, xI a1] (some (xL y)) w := by
  unfold fX1_unitsOfMagnitude at hf
  obtain ⟨_, _, hf⟩ := xm_bind hf
  refine xmM.of (own := RX1) (lv0 := [(0, xR th), (1, xI a1)]) (by decide) rfl (Nat.le_of_ble_eq_true rfl) rfl ?_
  intro p e s m args below meth c hC hr hnm
  refine xj_iload_n hC dX1_unitsOfMagnitude_0 rfl 1 rfl ?_
  refine xj_aload_n hC dX1_unitsOfMagnitude_1 rfl 0 rfl ?_
  refine xb_getI hC 1 2 xcl_1 (by decide) xw_fl_X1_18 dX1_unitsOfMagnitude_2 hf (fun v1 hf => ?_)
  refine xj_ishr hC dX1_unitsOfMagnitude_5 ?_
  refine xj_istore_n (lv' := [(2, xI (a1 >>> (v1 &&& 31))), (0, xR th), (1, xI a1)]) hC dX1_unitsOfMagnitude_6 rfl (by decide) rfl ?_
  refine xj_iload_n hC dX1_unitsOfMagnitude_7 rfl 2 rfl ?_
  refine xj_iconst (v := 1) hC dX1_unitsOfMagnitude_8 (by decide) ?_
  refine xj_aload_n hC dX1_unitsOfMagnitude_9 rfl 1 rfl ?_
  refine xb_getI hC 1 2 xcl_1 (by decide) xw_fl_X1_18 dX1_unitsOfMagnitude_10 hf (fun v2 hf => ?_)
  refine xj_ishl hC dX1_unitsOfMagnitude_13 ?_
  refine xj_iconst (v := 1) hC dX1_unitsOfMagnitude_14 (by decide) ?_
  refine xj_isub hC dX1_unitsOfMagnitude_15 ?_
  refine xj_iand hC dX1_unitsOfMagnitude_16 ?_
  refine xj_i2l hC dX1_unitsOfMagnitude_17 ?_
  refine xj_lstore_n (lv' := [(3, xL ((a1 &&& (((1 : Int32) <<< (v2 &&& 31)) - (1 : Int32)))).toInt64), (2, xI (a1 >>> (v1 &&& 31))), (0, xR th), (1, xI a1)]) hC dX1_unitsOfMagnitude_18 rfl (by decide) rfl ?_
  refine xj_iload_n hC dX1_unitsOfMagnitude_19 rfl 3 rfl ?_
  refine xb_if_ne (tgt := 25) hC dX1_unitsOfMagnitude_20 (by decide) hf (fun hf => ?_) (fun hf => ?_)
  · refine xj_iload_n hC dX1_unitsOfMagnitude_25 rfl 1 rfl ?_
    refine xb_if_ne (tgt := 42) hC dX1_unitsOfMagnitude_26 (by decide) hf (fun hf => ?_) (fun hf => ?_)
    · refine xj_lv [2, 1, 0] rfl ?_
      exact lX1_unitsOfMagnitude_L42 hC hr  w (th) ((a1 >>> (v1 &&& 31))) (((a1 &&& (((1 : Int32) <<< (v2 &&& 31)) - (1 : Int32)))).toInt64)  hf
    · refine xj_aload_n hC dX1_unitsOfMagnitude_29 rfl 2 rfl ?_
      refine xb_getI hC 1 4 xcl_1 (by decide) xw_fl_X1_24 dX1_unitsOfMagnitude_30 hf (fun v3 hf => ?_)
      refine xb_if_eq (tgt := 42) hC dX1_unitsOfMagnitude_33 (by decide) hf (fun hf => ?_) (fun hf => ?_)
      · refine xj_lv [2, 1, 0] rfl ?_
        exact lX1_unitsOfMagnitude_L42 hC hr  w (th) ((a1 >>> (v1 &&& 31))) (((a1 &&& (((1 : Int32) <<< (v2 &&& 31)) - (1 : Int32)))).toInt64)  hf
      · refine xj_ldc2 hC xw_cst_X1_65 dX1_unitsOfMagnitude_36 ?_
        refine xj_lload_n hC dX1_unitsOfMagnitude_39 rfl 0 rfl ?_
        refine xj_lmul hC dX1_unitsOfMagnitude_40 ?_
        exact xj_lret hC hr (by decide) (by decide) dX1_unitsOfMagnitude_41 (Option.some.inj hf) rfl
  · refine xj_lconst (v := 0) hC dX1_unitsOfMagnitude_23 (by decide) ?_
    exact xj_lret hC hr (by decide) (by decide) dX1_unitsOfMagnitude_24 (Option.some.inj hf) rfl
def fX1_withSign (w : xmW) (th : (Option Nat)) (a1 : Int32) (a2 : Int32) : Option Int32 := ((xmob w th 1).bind fun _ => (if a1 = 0 then (some a2) else ((xmgI w th 1 0).bind fun v1 => (if v1 = (1 : Int32) then ((xmgI w th 1 1).bind fun v2 => ((xmgI w th 1 2).bind fun v3 => (some (a2 ||| ((1 : Int32) <<< ((v2 + v3) &&& 31)))))) else (some a2)))))
set_option maxHeartbeats 4000000 in
set_option maxRecDepth 100000 in
theorem mX1_withSign (l : Launch) (D : va_G) (ks : Nat → ClassId) (b : Nat) {w : xmW} {th : (Option Nat)} {a1 : Int32} {a2 : Int32} {y : Int32} (hf : fX1_withSign w th a1 a2 = some y) : xmM l yX1_withSign (Cond.code yX1_withSign cX1_withSign 3 (some (FieldType.int)) :: xmTs) 0 0 0 0 D ks b w [xR th, xI a1, xI a2] (some (xI y)) w := by
  unfold fX1_withSign at hf
  obtain ⟨_, _, hf⟩ := xm_bind hf
  refine xmM.of (own := RX1) (lv0 := [(0, xR th), (1, xI a1), (2, xI a2)]) (by decide) rfl (Nat.le_of_ble_eq_true rfl) rfl ?_
  intro p e s m args below meth c hC hr hnm
  refine xj_iload_n hC dX1_withSign_0 rfl 1 rfl ?_
  refine xb_if_eq (tgt := 28) hC dX1_withSign_1 (by decide) hf (fun hf => ?_) (fun hf => ?_)
  · refine xj_iload_n hC dX1_withSign_28 rfl 2 rfl ?_
    exact xj_iret hC hr (by decide) (by decide) dX1_withSign_29 (Option.some.inj hf) rfl
  · refine xj_aload_n hC dX1_withSign_4 rfl 0 rfl ?_
    refine xb_getI hC 1 0 xcl_1 (by decide) xw_fl_X1_9 dX1_withSign_5 hf (fun v1 hf => ?_)
    refine xj_iconst (v := 1) hC dX1_withSign_8 (by decide) ?_
    refine xb_ic_ne (tgt := 28) hC dX1_withSign_9 (by decide) hf (fun hf => ?_) (fun hf => ?_)
    · refine xj_iload_n hC dX1_withSign_28 rfl 2 rfl ?_
      exact xj_iret hC hr (by decide) (by decide) dX1_withSign_29 (Option.some.inj hf) rfl
    · refine xj_iload_n hC dX1_withSign_12 rfl 2 rfl ?_
      refine xj_iconst (v := 1) hC dX1_withSign_13 (by decide) ?_
      refine xj_aload_n hC dX1_withSign_14 rfl 0 rfl ?_
      refine xb_getI hC 1 1 xcl_1 (by decide) xw_fl_X1_15 dX1_withSign_15 hf (fun v2 hf => ?_)
      refine xj_aload_n hC dX1_withSign_18 rfl 0 rfl ?_
      refine xb_getI hC 1 2 xcl_1 (by decide) xw_fl_X1_18 dX1_withSign_19 hf (fun v3 hf => ?_)
      refine xj_iadd hC dX1_withSign_22 ?_
      refine xj_ishl hC dX1_withSign_23 ?_
      refine xj_ior hC dX1_withSign_24 ?_
      refine xj_goto (tgt := 29) hC dX1_withSign_25 (by decide) ?_
      exact xj_iret hC hr (by decide) (by decide) dX1_withSign_29 (Option.some.inj hf) rfl
def fX1_beyond_L13 (w : xmW) (p0 : (Option Nat)) (p1 : Int32) : Option Int32 := ((xmgI w p0 1 5).bind fun v2 => (if v2 = (1 : Int32) then ((fX1_noneCode w (p0) ).bind fun v11 => (some v11)) else ((xmgI w p0 1 5).bind fun v3 => (if v3 = 0 then ((xmgI w p0 1 6).bind fun v7 => ((fX1_withSign w (p0) (p1) ((v7 + (1 : Int32)))).bind fun v9 => (some v9))) else ((xmgI w p0 1 6).bind fun v4 => ((fX1_withSign w (p0) (p1) (v4)).bind fun v6 => (some v6)))))))
set_option maxHeartbeats 4000000 in
set_option maxRecDepth 100000 in
theorem lX1_beyond_L13 {p : Program} {l : Launch} {e : Env} {s : State} {m : MethodId} {args : Array Value} {below : List Frame} {meth : Method} {c : Code} {D : va_G} {ks : Nat → ClassId} {b : Nat} (hC : xmC p s m args meth c D ks b 2 cX1_beyond RX1) (hr : meth.sig.returnType = (some (FieldType.int))) {y : Int32} (w : xmW) (p0 : (Option Nat)) (p1 : Int32) (hf : fX1_beyond_L13 w p0 p1 = some y) : xmJ p l e ({ frames := 1, cells := 0, slots := 0, locals := 22 } : Room) s m args below meth c D ks b 2 (MQ below (xmQ D ks b (some (xI y)) w) args s 0 0 (xmA b)) w 0 0 13 [(0, xR p0), (1, xI p1)] [] := by
  unfold fX1_beyond_L13 at hf
  refine xj_aload_n hC dX1_beyond_13 rfl 0 rfl ?_
  refine xb_getI hC 1 5 xcl_1 (by decide) xw_fl_X1_28 dX1_beyond_14 hf (fun v2 hf => ?_)
  refine xj_iconst (v := 1) hC dX1_beyond_17 (by decide) ?_
  refine xb_ic_ne (tgt := 26) hC dX1_beyond_18 (by decide) hf (fun hf => ?_) (fun hf => ?_)
  · refine xj_aload_n hC dX1_beyond_26 rfl 0 rfl ?_
    refine xj_iload_n hC dX1_beyond_27 rfl 1 rfl ?_
    refine xj_aload_n hC dX1_beyond_28 rfl 0 rfl ?_
    refine xb_getI hC 1 5 xcl_1 (by decide) xw_fl_X1_28 dX1_beyond_29 hf (fun v3 hf => ?_)
    refine xb_if_ne (tgt := 44) hC dX1_beyond_32 (by decide) hf (fun hf => ?_) (fun hf => ?_)
    · refine xj_aload_n hC dX1_beyond_44 rfl 0 rfl ?_
      refine xb_getI hC 1 6 xcl_1 (by decide) xw_fl_X1_31 dX1_beyond_45 hf (fun v4 hf => ?_)
      obtain ⟨v6, hc5, hf⟩ := xm_bind hf
      obtain ⟨_, hob, _⟩ := xm_bind hc5
      refine xj_reti (xr_V hC (mX1_withSign l D ks b hc5) hob rfl xw_cod_X1_withSign xw_ini_X1 xw_ins_X1_withSign xw_sel_X1_withSign xw_ml_X1_44 xds_X1_withSign ⟨Nat.le_of_ble_eq_true rfl, Nat.le_of_ble_eq_true rfl⟩ rfl rfl (Nat.le_of_ble_eq_true rfl) ⟨Nat.le_of_ble_eq_true rfl, Nat.le_of_ble_eq_true rfl⟩ dX1_beyond_48) ?_
      exact xj_iret hC hr (by decide) (by decide) dX1_beyond_51 (Option.some.inj hf) rfl
    · refine xj_aload_n hC dX1_beyond_35 rfl 0 rfl ?_
      refine xb_getI hC 1 6 xcl_1 (by decide) xw_fl_X1_31 dX1_beyond_36 hf (fun v7 hf => ?_)
      refine xj_iconst (v := 1) hC dX1_beyond_39 (by decide) ?_
      refine xj_iadd hC dX1_beyond_40 ?_
      refine xj_goto (tgt := 48) hC dX1_beyond_41 (by decide) ?_
      obtain ⟨v9, hc8, hf⟩ := xm_bind hf
      obtain ⟨_, hob, _⟩ := xm_bind hc8
      refine xj_reti (xr_V hC (mX1_withSign l D ks b hc8) hob rfl xw_cod_X1_withSign xw_ini_X1 xw_ins_X1_withSign xw_sel_X1_withSign xw_ml_X1_44 xds_X1_withSign ⟨Nat.le_of_ble_eq_true rfl, Nat.le_of_ble_eq_true rfl⟩ rfl rfl (Nat.le_of_ble_eq_true rfl) ⟨Nat.le_of_ble_eq_true rfl, Nat.le_of_ble_eq_true rfl⟩ dX1_beyond_48) ?_
      exact xj_iret hC hr (by decide) (by decide) dX1_beyond_51 (Option.some.inj hf) rfl
  · refine xj_aload_n hC dX1_beyond_21 rfl 0 rfl ?_
    obtain ⟨v11, hc10, hf⟩ := xm_bind hf
    obtain ⟨_, hob, _⟩ := xm_bind hc10
    refine xj_reti (xr_V hC (mX1_noneCode l D ks b hc10) hob rfl xw_cod_X1_noneCode xw_ini_X1 xw_ins_X1_noneCode xw_sel_X1_noneCode xw_ml_X1_40 xds_X1_noneCode ⟨Nat.le_of_ble_eq_true rfl, Nat.le_of_ble_eq_true rfl⟩ rfl rfl (Nat.le_of_ble_eq_true rfl) ⟨Nat.le_of_ble_eq_true rfl, Nat.le_of_ble_eq_true rfl⟩ dX1_beyond_22) ?_
    exact xj_iret hC hr (by decide) (by decide) dX1_beyond_25 (Option.some.inj hf) rfl
def fX1_beyond (w : xmW) (th : (Option Nat)) (a1 : Int32) : Option Int32 := ((xmob w th 1).bind fun _ => (if a1 = 0 then (fX1_beyond_L13 w (th) (a1) ) else ((xmgI w th 1 0).bind fun v1 => (if v1 = 0 then (some (0 : Int32)) else (fX1_beyond_L13 w (th) (a1) )))))
set_option maxHeartbeats 4000000 in
set_option maxRecDepth 100000 in
theorem mX1_beyond (l : Launch) (D : va_G) (ks : Nat → ClassId) (b : Nat) {w : xmW} {th : (Option Nat)} {a1 : Int32} {y : Int32} (hf : fX1_beyond w th a1 = some y) : xmM l yX1_beyond (Cond.code yX1_beyond cX1_beyond 2 (some (FieldType.int)) :: xmTs) 1 22 0 0 D ks b w [xR th, xI a1] (some (xI y)) w := by
  unfold fX1_beyond at hf
  obtain ⟨_, _, hf⟩ := xm_bind hf
  refine xmM.of (own := RX1) (lv0 := [(0, xR th), (1, xI a1)]) (by decide) rfl (Nat.le_of_ble_eq_true rfl) rfl ?_
  intro p e s m args below meth c hC hr hnm
  refine xj_iload_n hC dX1_beyond_0 rfl 1 rfl ?_
  refine xb_if_eq (tgt := 13) hC dX1_beyond_1 (by decide) hf (fun hf => ?_) (fun hf => ?_)
  · exact lX1_beyond_L13 hC hr  w (th) (a1)  hf
  · refine xj_aload_n hC dX1_beyond_4 rfl 0 rfl ?_
    refine xb_getI hC 1 0 xcl_1 (by decide) xw_fl_X1_9 dX1_beyond_5 hf (fun v1 hf => ?_)
    refine xb_if_ne (tgt := 13) hC dX1_beyond_8 (by decide) hf (fun hf => ?_) (fun hf => ?_)
    · exact lX1_beyond_L13 hC hr  w (th) (a1)  hf
    · refine xj_iconst (v := 0) hC dX1_beyond_11 (by decide) ?_
      exact xj_iret hC hr (by decide) (by decide) dX1_beyond_12 (Option.some.inj hf) rfl
def fX1_twiceMiddleAbove (w : xmW) (th : (Option Nat)) (a1 : Int32) : Option Int64 := ((xmob w th 1).bind fun _ => ((fX1_unitsOfMagnitude w (th) (a1)).bind fun v2 => ((xmgI w th 1 6).bind fun v3 => (if a1 = v3 then ((xmgI w th 1 6).bind fun v6 => ((fX1_unitsOfMagnitude w (th) ((v6 - (1 : Int32)))).bind fun v8 => (some (((3 : Int64) * v2) - v8)))) else ((fX1_unitsOfMagnitude w (th) ((a1 + (1 : Int32)))).bind fun v5 => (some (v2 + v5)))))))
set_option maxHeartbeats 4000000 in
set_option maxRecDepth 100000 in
theorem mX1_twiceMiddleAbove (l : Launch) (D : va_G) (ks : Nat → ClassId) (b : Nat) {w : xmW} {th : (Option Nat)} {a1 : Int32} {y : Int64} (hf : fX1_twiceMiddleAbove w th a1 = some y) : xmM l yX1_twiceMiddleAbove (Cond.code yX1_twiceMiddleAbove cX1_twiceMiddleAbove 4 (some (FieldType.long)) :: xmTs) 1 24 0 0 D ks b w [xR th, xI a1] (some (xL y)) w := by
  unfold fX1_twiceMiddleAbove at hf
  obtain ⟨_, _, hf⟩ := xm_bind hf
  refine xmM.of (own := RX1) (lv0 := [(0, xR th), (1, xI a1)]) (by decide) rfl (Nat.le_of_ble_eq_true rfl) rfl ?_
  intro p e s m args below meth c hC hr hnm
  refine xj_aload_n hC dX1_twiceMiddleAbove_0 rfl 0 rfl ?_
  refine xj_iload_n hC dX1_twiceMiddleAbove_1 rfl 1 rfl ?_
  obtain ⟨v2, hc1, hf⟩ := xm_bind hf
  obtain ⟨_, hob, _⟩ := xm_bind hc1
  refine xj_retl (xr_V hC (mX1_unitsOfMagnitude l D ks b hc1) hob rfl xw_cod_X1_unitsOfMagnitude xw_ini_X1 xw_ins_X1_unitsOfMagnitude xw_sel_X1_unitsOfMagnitude xw_ml_X1_34 xds_X1_unitsOfMagnitude ⟨Nat.le_of_ble_eq_true rfl, Nat.le_of_ble_eq_true rfl⟩ rfl rfl (Nat.le_of_ble_eq_true rfl) ⟨Nat.le_of_ble_eq_true rfl, Nat.le_of_ble_eq_true rfl⟩ dX1_twiceMiddleAbove_2) ?_
  refine xj_lstore_n (lv' := [(2, xL v2), (0, xR th), (1, xI a1)]) hC dX1_twiceMiddleAbove_5 rfl (by decide) rfl ?_
  refine xj_iload_n hC dX1_twiceMiddleAbove_6 rfl 2 rfl ?_
  refine xj_aload_n hC dX1_twiceMiddleAbove_7 rfl 1 rfl ?_
  refine xb_getI hC 1 6 xcl_1 (by decide) xw_fl_X1_31 dX1_twiceMiddleAbove_8 hf (fun v3 hf => ?_)
  refine xb_ic_ne (tgt := 31) hC dX1_twiceMiddleAbove_11 (by decide) hf (fun hf => ?_) (fun hf => ?_)
  · refine xj_lload_n hC dX1_twiceMiddleAbove_31 rfl 0 rfl ?_
    refine xj_aload_n hC dX1_twiceMiddleAbove_32 rfl 1 rfl ?_
    refine xj_iload_n hC dX1_twiceMiddleAbove_33 rfl 2 rfl ?_
    refine xj_iconst (v := 1) hC dX1_twiceMiddleAbove_34 (by decide) ?_
    refine xj_iadd hC dX1_twiceMiddleAbove_35 ?_
    obtain ⟨v5, hc4, hf⟩ := xm_bind hf
    obtain ⟨_, hob, _⟩ := xm_bind hc4
    refine xj_retl (xr_V hC (mX1_unitsOfMagnitude l D ks b hc4) hob rfl xw_cod_X1_unitsOfMagnitude xw_ini_X1 xw_ins_X1_unitsOfMagnitude xw_sel_X1_unitsOfMagnitude xw_ml_X1_34 xds_X1_unitsOfMagnitude ⟨Nat.le_of_ble_eq_true rfl, Nat.le_of_ble_eq_true rfl⟩ rfl rfl (Nat.le_of_ble_eq_true rfl) ⟨Nat.le_of_ble_eq_true rfl, Nat.le_of_ble_eq_true rfl⟩ dX1_twiceMiddleAbove_36) ?_
    refine xj_ladd hC dX1_twiceMiddleAbove_39 ?_
    exact xj_lret hC hr (by decide) (by decide) dX1_twiceMiddleAbove_40 (Option.some.inj hf) rfl
  · refine xj_ldc2 hC xw_cst_X1_38 dX1_twiceMiddleAbove_14 ?_
    refine xj_lload_n hC dX1_twiceMiddleAbove_17 rfl 0 rfl ?_
    refine xj_lmul hC dX1_twiceMiddleAbove_18 ?_
    refine xj_aload_n hC dX1_twiceMiddleAbove_19 rfl 1 rfl ?_
    refine xj_aload_n hC dX1_twiceMiddleAbove_20 rfl 1 rfl ?_
    refine xb_getI hC 1 6 xcl_1 (by decide) xw_fl_X1_31 dX1_twiceMiddleAbove_21 hf (fun v6 hf => ?_)
    refine xj_iconst (v := 1) hC dX1_twiceMiddleAbove_24 (by decide) ?_
    refine xj_isub hC dX1_twiceMiddleAbove_25 ?_
    obtain ⟨v8, hc7, hf⟩ := xm_bind hf
    obtain ⟨_, hob, _⟩ := xm_bind hc7
    refine xj_retl (xr_V hC (mX1_unitsOfMagnitude l D ks b hc7) hob rfl xw_cod_X1_unitsOfMagnitude xw_ini_X1 xw_ins_X1_unitsOfMagnitude xw_sel_X1_unitsOfMagnitude xw_ml_X1_34 xds_X1_unitsOfMagnitude ⟨Nat.le_of_ble_eq_true rfl, Nat.le_of_ble_eq_true rfl⟩ rfl rfl (Nat.le_of_ble_eq_true rfl) ⟨Nat.le_of_ble_eq_true rfl, Nat.le_of_ble_eq_true rfl⟩ dX1_twiceMiddleAbove_26) ?_
    refine xj_lsub hC dX1_twiceMiddleAbove_29 ?_
    exact xj_lret hC hr (by decide) (by decide) dX1_twiceMiddleAbove_30 (Option.some.inj hf) rfl
def fX1_scale (w : xmW) (th : (Option Nat)) : Option Int32 := ((xmob w th 1).bind fun _ => ((xmgI w th 1 3).bind fun v1 => ((xmgI w th 1 2).bind fun v2 => (some (v1 + v2)))))
set_option maxHeartbeats 4000000 in
set_option maxRecDepth 100000 in
theorem mX1_scale (l : Launch) (D : va_G) (ks : Nat → ClassId) (b : Nat) {w : xmW} {th : (Option Nat)} {y : Int32} (hf : fX1_scale w th = some y) : xmM l yX1_scale (Cond.code yX1_scale cX1_scale 1 (some (FieldType.int)) :: xmTs) 0 0 0 0 D ks b w [xR th] (some (xI y)) w := by
  unfold fX1_scale at hf
  obtain ⟨_, _, hf⟩ := xm_bind hf
  refine xmM.of (own := RX1) (lv0 := [(0, xR th)]) (by decide) rfl (Nat.le_of_ble_eq_true rfl) rfl ?_
  intro p e s m args below meth c hC hr hnm
  refine xj_aload_n hC dX1_scale_0 rfl 0 rfl ?_
  refine xb_getI hC 1 3 xcl_1 (by decide) xw_fl_X1_21 dX1_scale_1 hf (fun v1 hf => ?_)
  refine xj_aload_n hC dX1_scale_4 rfl 0 rfl ?_
  refine xb_getI hC 1 2 xcl_1 (by decide) xw_fl_X1_18 dX1_scale_5 hf (fun v2 hf => ?_)
  refine xj_iadd hC dX1_scale_8 ?_
  exact xj_iret hC hr (by decide) (by decide) dX1_scale_9 (Option.some.inj hf) rfl
def fX1_isMinus (w : xmW) (th : (Option Nat)) (a1 : Int32) : Option Int32 := ((xmob w th 1).bind fun _ => ((xmgI w th 1 0).bind fun v1 => (if v1 = (1 : Int32) then ((xmgI w th 1 1).bind fun v2 => ((xmgI w th 1 2).bind fun v3 => (xmbz (if (a1 >>> ((v2 + v3) &&& 31)) = 0 then (0 : Int32) else (1 : Int32))))) else (xmbz (0 : Int32)))))
set_option maxHeartbeats 4000000 in
set_option maxRecDepth 100000 in
theorem mX1_isMinus (l : Launch) (D : va_G) (ks : Nat → ClassId) (b : Nat) {w : xmW} {th : (Option Nat)} {a1 : Int32} {y : Int32} (hf : fX1_isMinus w th a1 = some y) : xmM l yX1_isMinus (Cond.code yX1_isMinus cX1_isMinus 2 (some (FieldType.boolean)) :: xmTs) 0 0 0 0 D ks b w [xR th, xI a1] (some (xI y)) w := by
  unfold fX1_isMinus at hf
  obtain ⟨_, _, hf⟩ := xm_bind hf
  refine xmM.of (own := RX1) (lv0 := [(0, xR th), (1, xI a1)]) (by decide) rfl (Nat.le_of_ble_eq_true rfl) rfl ?_
  intro p e s m args below meth c hC hr hnm
  refine xj_aload_n hC dX1_isMinus_0 rfl 0 rfl ?_
  refine xb_getI hC 1 0 xcl_1 (by decide) xw_fl_X1_9 dX1_isMinus_1 hf (fun v1 hf => ?_)
  refine xj_iconst (v := 1) hC dX1_isMinus_4 (by decide) ?_
  refine xb_ic_ne (tgt := 26) hC dX1_isMinus_5 (by decide) hf (fun hf => ?_) (fun hf => ?_)
  · refine xj_iconst (v := 0) hC dX1_isMinus_26 (by decide) ?_
    exact xj_zret hC hr (by decide) (by decide) dX1_isMinus_27 hf rfl
  · refine xj_iload_n hC dX1_isMinus_8 rfl 1 rfl ?_
    refine xj_aload_n hC dX1_isMinus_9 rfl 0 rfl ?_
    refine xb_getI hC 1 1 xcl_1 (by decide) xw_fl_X1_15 dX1_isMinus_10 hf (fun v2 hf => ?_)
    refine xj_aload_n hC dX1_isMinus_13 rfl 0 rfl ?_
    refine xb_getI hC 1 2 xcl_1 (by decide) xw_fl_X1_18 dX1_isMinus_14 hf (fun v3 hf => ?_)
    refine xj_iadd hC dX1_isMinus_17 ?_
    refine xj_ishr hC dX1_isMinus_18 ?_
    refine xj_dia (cnd := (a1 >>> ((v2 + v3) &&& 31)) = 0) (x := 0) (y := 1) (pc2 := 27) (st2 := []) (fun hc hk => ?_) (fun hc hk => ?_) ?_
    · exact xj_if_eq (tgt := 26) hC dX1_isMinus_19 (by decide) (fun _ => xj_iconst (v := 0) hC dX1_isMinus_26 (by decide) hk) (fun hn => absurd hc hn)
    · exact xj_if_eq (tgt := 26) hC dX1_isMinus_19 (by decide) (fun hn => absurd hn hc) (fun _ => xj_iconst (v := 1) hC dX1_isMinus_22 (by decide) (xj_goto (tgt := 27) hC dX1_isMinus_23 (by decide) hk))
    exact xj_zret hC hr (by decide) (by decide) dX1_isMinus_27 hf rfl
def fX1_magnitude (w : xmW) (th : (Option Nat)) (a1 : Int32) : Option Int32 := ((xmob w th 1).bind fun _ => ((xmgI w th 1 1).bind fun v1 => ((xmgI w th 1 2).bind fun v2 => (some (a1 &&& (((1 : Int32) <<< ((v1 + v2) &&& 31)) - (1 : Int32)))))))
set_option maxHeartbeats 4000000 in
set_option maxRecDepth 100000 in
theorem mX1_magnitude (l : Launch) (D : va_G) (ks : Nat → ClassId) (b : Nat) {w : xmW} {th : (Option Nat)} {a1 : Int32} {y : Int32} (hf : fX1_magnitude w th a1 = some y) : xmM l yX1_magnitude (Cond.code yX1_magnitude cX1_magnitude 2 (some (FieldType.int)) :: xmTs) 0 0 0 0 D ks b w [xR th, xI a1] (some (xI y)) w := by
  unfold fX1_magnitude at hf
  obtain ⟨_, _, hf⟩ := xm_bind hf
  refine xmM.of (own := RX1) (lv0 := [(0, xR th), (1, xI a1)]) (by decide) rfl (Nat.le_of_ble_eq_true rfl) rfl ?_
  intro p e s m args below meth c hC hr hnm
  refine xj_iload_n hC dX1_magnitude_0 rfl 1 rfl ?_
  refine xj_iconst (v := 1) hC dX1_magnitude_1 (by decide) ?_
  refine xj_aload_n hC dX1_magnitude_2 rfl 0 rfl ?_
  refine xb_getI hC 1 1 xcl_1 (by decide) xw_fl_X1_15 dX1_magnitude_3 hf (fun v1 hf => ?_)
  refine xj_aload_n hC dX1_magnitude_6 rfl 0 rfl ?_
  refine xb_getI hC 1 2 xcl_1 (by decide) xw_fl_X1_18 dX1_magnitude_7 hf (fun v2 hf => ?_)
  refine xj_iadd hC dX1_magnitude_10 ?_
  refine xj_ishl hC dX1_magnitude_11 ?_
  refine xj_iconst (v := 1) hC dX1_magnitude_12 (by decide) ?_
  refine xj_isub hC dX1_magnitude_13 ?_
  refine xj_iand hC dX1_magnitude_14 ?_
  exact xj_iret hC hr (by decide) (by decide) dX1_magnitude_15 (Option.some.inj hf) rfl
def fX1_sizeOf (w : xmW) (th : (Option Nat)) (a1 : Int32) : Option Int64 := ((xmob w th 1).bind fun _ => ((fX1_magnitude w (th) (a1)).bind fun v2 => ((xmgI w th 1 6).bind fun v3 => (if v3 < v2 then ((xmgI w th 1 5).bind fun v4 => (if v4 = 0 then ((xmgI w th 1 6).bind fun v5 => (if v2 = (v5 + (1 : Int32)) then (some (-1 : Int64)) else (some (-2 : Int64)))) else (some (-2 : Int64)))) else ((fX1_unitsOfMagnitude w (th) (v2)).bind fun v7 => (some v7))))))
set_option maxHeartbeats 4000000 in
set_option maxRecDepth 100000 in
theorem mX1_sizeOf (l : Launch) (D : va_G) (ks : Nat → ClassId) (b : Nat) {w : xmW} {th : (Option Nat)} {a1 : Int32} {y : Int64} (hf : fX1_sizeOf w th a1 = some y) : xmM l yX1_sizeOf (Cond.code yX1_sizeOf cX1_sizeOf 3 (some (FieldType.long)) :: xmTs) 1 24 0 0 D ks b w [xR th, xI a1] (some (xL y)) w := by
  unfold fX1_sizeOf at hf
  obtain ⟨_, _, hf⟩ := xm_bind hf
  refine xmM.of (own := RX1) (lv0 := [(0, xR th), (1, xI a1)]) (by decide) rfl (Nat.le_of_ble_eq_true rfl) rfl ?_
  intro p e s m args below meth c hC hr hnm
  refine xj_aload_n hC dX1_sizeOf_0 rfl 0 rfl ?_
  refine xj_iload_n hC dX1_sizeOf_1 rfl 1 rfl ?_
  obtain ⟨v2, hc1, hf⟩ := xm_bind hf
  obtain ⟨_, hob, _⟩ := xm_bind hc1
  refine xj_reti (xr_V hC (mX1_magnitude l D ks b hc1) hob rfl xw_cod_X1_magnitude xw_ini_X1 xw_ins_X1_magnitude xw_sel_X1_magnitude xw_ml_X1_51 xds_X1_magnitude ⟨Nat.le_of_ble_eq_true rfl, Nat.le_of_ble_eq_true rfl⟩ rfl rfl (Nat.le_of_ble_eq_true rfl) ⟨Nat.le_of_ble_eq_true rfl, Nat.le_of_ble_eq_true rfl⟩ dX1_sizeOf_2) ?_
  refine xj_istore_n (lv' := [(2, xI v2), (0, xR th), (1, xI a1)]) hC dX1_sizeOf_5 rfl (by decide) rfl ?_
  refine xj_iload_n hC dX1_sizeOf_6 rfl 0 rfl ?_
  refine xj_aload_n hC dX1_sizeOf_7 rfl 1 rfl ?_
  refine xb_getI hC 1 6 xcl_1 (by decide) xw_fl_X1_31 dX1_sizeOf_8 hf (fun v3 hf => ?_)
  refine xb_ic_gt (tgt := 20) hC dX1_sizeOf_11 (by decide) hf (fun hf => ?_) (fun hf => ?_)
  · refine xj_aload_n hC dX1_sizeOf_20 rfl 1 rfl ?_
    refine xb_getI hC 1 5 xcl_1 (by decide) xw_fl_X1_28 dX1_sizeOf_21 hf (fun v4 hf => ?_)
    refine xb_if_ne (tgt := 43) hC dX1_sizeOf_24 (by decide) hf (fun hf => ?_) (fun hf => ?_)
    · refine xj_ldc2 hC xw_cst_X1_72 dX1_sizeOf_43 ?_
      exact xj_lret hC hr (by decide) (by decide) dX1_sizeOf_46 (Option.some.inj hf) rfl
    · refine xj_iload_n hC dX1_sizeOf_27 rfl 0 rfl ?_
      refine xj_aload_n hC dX1_sizeOf_28 rfl 1 rfl ?_
      refine xb_getI hC 1 6 xcl_1 (by decide) xw_fl_X1_31 dX1_sizeOf_29 hf (fun v5 hf => ?_)
      refine xj_iconst (v := 1) hC dX1_sizeOf_32 (by decide) ?_
      refine xj_iadd hC dX1_sizeOf_33 ?_
      refine xb_ic_ne (tgt := 43) hC dX1_sizeOf_34 (by decide) hf (fun hf => ?_) (fun hf => ?_)
      · refine xj_ldc2 hC xw_cst_X1_72 dX1_sizeOf_43 ?_
        exact xj_lret hC hr (by decide) (by decide) dX1_sizeOf_46 (Option.some.inj hf) rfl
      · refine xj_ldc2 hC xw_cst_X1_70 dX1_sizeOf_37 ?_
        refine xj_goto (tgt := 46) hC dX1_sizeOf_40 (by decide) ?_
        exact xj_lret hC hr (by decide) (by decide) dX1_sizeOf_46 (Option.some.inj hf) rfl
  · refine xj_aload_n hC dX1_sizeOf_14 rfl 1 rfl ?_
    refine xj_iload_n hC dX1_sizeOf_15 rfl 0 rfl ?_
    obtain ⟨v7, hc6, hf⟩ := xm_bind hf
    obtain ⟨_, hob, _⟩ := xm_bind hc6
    refine xj_retl (xr_V hC (mX1_unitsOfMagnitude l D ks b hc6) hob rfl xw_cod_X1_unitsOfMagnitude xw_ini_X1 xw_ins_X1_unitsOfMagnitude xw_sel_X1_unitsOfMagnitude xw_ml_X1_34 xds_X1_unitsOfMagnitude ⟨Nat.le_of_ble_eq_true rfl, Nat.le_of_ble_eq_true rfl⟩ rfl rfl (Nat.le_of_ble_eq_true rfl) ⟨Nat.le_of_ble_eq_true rfl, Nat.le_of_ble_eq_true rfl⟩ dX1_sizeOf_16) ?_
    exact xj_lret hC hr (by decide) (by decide) dX1_sizeOf_19 (Option.some.inj hf) rfl
def fX1_sizeOfProduct_L51 (w : xmW) (p3 : Int64) (p5 : Int64) : Option Int64 := (if (lg_cmp p3 (0 : Int64)) = 0 then (some (-3 : Int64)) else (if (lg_cmp p5 (0 : Int64)) = 0 then (some (-3 : Int64)) else (some (-1 : Int64))))
set_option maxHeartbeats 4000000 in
set_option maxRecDepth 100000 in
theorem lX1_sizeOfProduct_L51 {p : Program} {l : Launch} {e : Env} {s : State} {m : MethodId} {args : Array Value} {below : List Frame} {meth : Method} {c : Code} {D : va_G} {ks : Nat → ClassId} {b : Nat} (hC : xmC p s m args meth c D ks b 7 cX1_sizeOfProduct RX1) (hr : meth.sig.returnType = (some (FieldType.long))) {y : Int64} (w : xmW) (p3 : Int64) (p5 : Int64) (hf : fX1_sizeOfProduct_L51 w p3 p5 = some y) : xmJ p l e ({ frames := 2, cells := 0, slots := 0, locals := 46 } : Room) s m args below meth c D ks b 7 (MQ below (xmQ D ks b (some (xL y)) w) args s 0 0 (xmA b)) w 0 0 51 [(3, xL p3), (5, xL p5)] [] := by
  unfold fX1_sizeOfProduct_L51 at hf
  refine xj_lload_n hC dX1_sizeOfProduct_51 rfl 0 rfl ?_
  refine xj_lconst (v := 0) hC dX1_sizeOfProduct_52 (by decide) ?_
  refine xj_lcmp hC dX1_sizeOfProduct_53 ?_
  refine xb_if_eq (tgt := 64) hC dX1_sizeOfProduct_54 (by decide) hf (fun hf => ?_) (fun hf => ?_)
  · refine xj_ldc2 hC xw_cst_X1_77 dX1_sizeOfProduct_64 ?_
    refine xj_goto (tgt := 73) hC dX1_sizeOfProduct_67 (by decide) ?_
    exact xj_lret hC hr (by decide) (by decide) dX1_sizeOfProduct_73 (Option.some.inj hf) rfl
  · refine xj_lload hC dX1_sizeOfProduct_57 1 rfl ?_
    refine xj_lconst (v := 0) hC dX1_sizeOfProduct_59 (by decide) ?_
    refine xj_lcmp hC dX1_sizeOfProduct_60 ?_
    refine xb_if_ne (tgt := 70) hC dX1_sizeOfProduct_61 (by decide) hf (fun hf => ?_) (fun hf => ?_)
    · refine xj_ldc2 hC xw_cst_X1_70 dX1_sizeOfProduct_70 ?_
      exact xj_lret hC hr (by decide) (by decide) dX1_sizeOfProduct_73 (Option.some.inj hf) rfl
    · refine xj_ldc2 hC xw_cst_X1_77 dX1_sizeOfProduct_64 ?_
      refine xj_goto (tgt := 73) hC dX1_sizeOfProduct_67 (by decide) ?_
      exact xj_lret hC hr (by decide) (by decide) dX1_sizeOfProduct_73 (Option.some.inj hf) rfl
def fX1_sizeOfProduct (w : xmW) (th : (Option Nat)) (a1 : Int32) (a2 : Int32) : Option Int64 := ((xmob w th 1).bind fun _ => ((fX1_sizeOf w (th) (a1)).bind fun v2 => ((fX1_sizeOf w (th) (a2)).bind fun v4 => (if (lg_cmp v2 (-2 : Int64)) = 0 then (some (-2 : Int64)) else (if (lg_cmp v4 (-2 : Int64)) = 0 then (some (-2 : Int64)) else (if (lg_cmp v2 (-1 : Int64)) = 0 then (fX1_sizeOfProduct_L51 w (v2) (v4) ) else (if (lg_cmp v4 (-1 : Int64)) = 0 then (fX1_sizeOfProduct_L51 w (v2) (v4) ) else (some (v2 * v4)))))))))
set_option maxHeartbeats 4000000 in
set_option maxRecDepth 100000 in
theorem mX1_sizeOfProduct (l : Launch) (D : va_G) (ks : Nat → ClassId) (b : Nat) {w : xmW} {th : (Option Nat)} {a1 : Int32} {a2 : Int32} {y : Int64} (hf : fX1_sizeOfProduct w th a1 a2 = some y) : xmM l yX1_sizeOfProduct (Cond.code yX1_sizeOfProduct cX1_sizeOfProduct 7 (some (FieldType.long)) :: xmTs) 2 46 0 0 D ks b w [xR th, xI a1, xI a2] (some (xL y)) w := by
  unfold fX1_sizeOfProduct at hf
  obtain ⟨_, _, hf⟩ := xm_bind hf
  refine xmM.of (own := RX1) (lv0 := [(0, xR th), (1, xI a1), (2, xI a2)]) (by decide) rfl (Nat.le_of_ble_eq_true rfl) rfl ?_
  intro p e s m args below meth c hC hr hnm
  refine xj_aload_n hC dX1_sizeOfProduct_0 rfl 0 rfl ?_
  refine xj_iload_n hC dX1_sizeOfProduct_1 rfl 1 rfl ?_
  obtain ⟨v2, hc1, hf⟩ := xm_bind hf
  obtain ⟨_, hob, _⟩ := xm_bind hc1
  refine xj_retl (xr_V hC (mX1_sizeOf l D ks b hc1) hob rfl xw_cod_X1_sizeOf xw_ini_X1 xw_ins_X1_sizeOf xw_sel_X1_sizeOf xw_ml_X1_74 xds_X1_sizeOf ⟨Nat.le_of_ble_eq_true rfl, Nat.le_of_ble_eq_true rfl⟩ rfl rfl (Nat.le_of_ble_eq_true rfl) ⟨Nat.le_of_ble_eq_true rfl, Nat.le_of_ble_eq_true rfl⟩ dX1_sizeOfProduct_2) ?_
  refine xj_lstore_n (lv' := [(3, xL v2), (0, xR th), (1, xI a1), (2, xI a2)]) hC dX1_sizeOfProduct_5 rfl (by decide) rfl ?_
  refine xj_aload_n hC dX1_sizeOfProduct_6 rfl 1 rfl ?_
  refine xj_iload_n hC dX1_sizeOfProduct_7 rfl 3 rfl ?_
  obtain ⟨v4, hc3, hf⟩ := xm_bind hf
  obtain ⟨_, hob, _⟩ := xm_bind hc3
  refine xj_retl (xr_V hC (mX1_sizeOf l D ks b hc3) hob rfl xw_cod_X1_sizeOf xw_ini_X1 xw_ins_X1_sizeOf xw_sel_X1_sizeOf xw_ml_X1_74 xds_X1_sizeOf ⟨Nat.le_of_ble_eq_true rfl, Nat.le_of_ble_eq_true rfl⟩ rfl rfl (Nat.le_of_ble_eq_true rfl) ⟨Nat.le_of_ble_eq_true rfl, Nat.le_of_ble_eq_true rfl⟩ dX1_sizeOfProduct_8) ?_
  refine xj_lstore (lv' := [(5, xL v4), (3, xL v2), (0, xR th), (1, xI a1), (2, xI a2)]) hC dX1_sizeOfProduct_11 (by decide) rfl ?_
  refine xj_lload_n hC dX1_sizeOfProduct_13 rfl 1 rfl ?_
  refine xj_ldc2 hC xw_cst_X1_72 dX1_sizeOfProduct_14 ?_
  refine xj_lcmp hC dX1_sizeOfProduct_17 ?_
  refine xb_if_eq (tgt := 30) hC dX1_sizeOfProduct_18 (by decide) hf (fun hf => ?_) (fun hf => ?_)
  · refine xj_ldc2 hC xw_cst_X1_72 dX1_sizeOfProduct_30 ?_
    exact xj_lret hC hr (by decide) (by decide) dX1_sizeOfProduct_33 (Option.some.inj hf) rfl
  · refine xj_lload hC dX1_sizeOfProduct_21 0 rfl ?_
    refine xj_ldc2 hC xw_cst_X1_72 dX1_sizeOfProduct_23 ?_
    refine xj_lcmp hC dX1_sizeOfProduct_26 ?_
    refine xb_if_ne (tgt := 34) hC dX1_sizeOfProduct_27 (by decide) hf (fun hf => ?_) (fun hf => ?_)
    · refine xj_lload_n hC dX1_sizeOfProduct_34 rfl 1 rfl ?_
      refine xj_ldc2 hC xw_cst_X1_70 dX1_sizeOfProduct_35 ?_
      refine xj_lcmp hC dX1_sizeOfProduct_38 ?_
      refine xb_if_eq (tgt := 51) hC dX1_sizeOfProduct_39 (by decide) hf (fun hf => ?_) (fun hf => ?_)
      · refine xj_lv [1, 0] rfl ?_
        exact lX1_sizeOfProduct_L51 hC hr  w (v2) (v4)  hf
      · refine xj_lload hC dX1_sizeOfProduct_42 0 rfl ?_
        refine xj_ldc2 hC xw_cst_X1_70 dX1_sizeOfProduct_44 ?_
        refine xj_lcmp hC dX1_sizeOfProduct_47 ?_
        refine xb_if_ne (tgt := 74) hC dX1_sizeOfProduct_48 (by decide) hf (fun hf => ?_) (fun hf => ?_)
        · refine xj_lload_n hC dX1_sizeOfProduct_74 rfl 1 rfl ?_
          refine xj_lload hC dX1_sizeOfProduct_75 0 rfl ?_
          refine xj_lmul hC dX1_sizeOfProduct_77 ?_
          exact xj_lret hC hr (by decide) (by decide) dX1_sizeOfProduct_78 (Option.some.inj hf) rfl
        · refine xj_lv [1, 0] rfl ?_
          exact lX1_sizeOfProduct_L51 hC hr  w (v2) (v4)  hf
    · refine xj_ldc2 hC xw_cst_X1_72 dX1_sizeOfProduct_30 ?_
      exact xj_lret hC hr (by decide) (by decide) dX1_sizeOfProduct_33 (Option.some.inj hf) rfl
def fX1_rank (w : xmW) (th : (Option Nat)) (a1 : Int32) : Option Int32 := ((xmob w th 1).bind fun _ => ((fX1_isMinus w (th) (a1)).bind fun v2 => (if v2 = 0 then ((fX1_magnitude w (th) (a1)).bind fun v4 => (some v4)) else ((fX1_magnitude w (th) (a1)).bind fun v6 => (some (-v6))))))
set_option maxHeartbeats 4000000 in
set_option maxRecDepth 100000 in
theorem mX1_rank (l : Launch) (D : va_G) (ks : Nat → ClassId) (b : Nat) {w : xmW} {th : (Option Nat)} {a1 : Int32} {y : Int32} (hf : fX1_rank w th a1 = some y) : xmM l yX1_rank (Cond.code yX1_rank cX1_rank 2 (some (FieldType.int)) :: xmTs) 1 21 0 0 D ks b w [xR th, xI a1] (some (xI y)) w := by
  unfold fX1_rank at hf
  obtain ⟨_, _, hf⟩ := xm_bind hf
  refine xmM.of (own := RX1) (lv0 := [(0, xR th), (1, xI a1)]) (by decide) rfl (Nat.le_of_ble_eq_true rfl) rfl ?_
  intro p e s m args below meth c hC hr hnm
  refine xj_aload_n hC dX1_rank_0 rfl 0 rfl ?_
  refine xj_iload_n hC dX1_rank_1 rfl 1 rfl ?_
  obtain ⟨v2, hc1, hf⟩ := xm_bind hf
  obtain ⟨_, hob, _⟩ := xm_bind hc1
  refine xj_reti (xr_V hC (mX1_isMinus l D ks b hc1) hob rfl xw_cod_X1_isMinus xw_ini_X1 xw_ins_X1_isMinus xw_sel_X1_isMinus xw_ml_X1_67 xds_X1_isMinus ⟨Nat.le_of_ble_eq_true rfl, Nat.le_of_ble_eq_true rfl⟩ rfl rfl (Nat.le_of_ble_eq_true rfl) ⟨Nat.le_of_ble_eq_true rfl, Nat.le_of_ble_eq_true rfl⟩ dX1_rank_2) ?_
  refine xb_if_eq (tgt := 17) hC dX1_rank_5 (by decide) hf (fun hf => ?_) (fun hf => ?_)
  · refine xj_aload_n hC dX1_rank_17 rfl 0 rfl ?_
    refine xj_iload_n hC dX1_rank_18 rfl 1 rfl ?_
    obtain ⟨v4, hc3, hf⟩ := xm_bind hf
    obtain ⟨_, hob, _⟩ := xm_bind hc3
    refine xj_reti (xr_V hC (mX1_magnitude l D ks b hc3) hob rfl xw_cod_X1_magnitude xw_ini_X1 xw_ins_X1_magnitude xw_sel_X1_magnitude xw_ml_X1_51 xds_X1_magnitude ⟨Nat.le_of_ble_eq_true rfl, Nat.le_of_ble_eq_true rfl⟩ rfl rfl (Nat.le_of_ble_eq_true rfl) ⟨Nat.le_of_ble_eq_true rfl, Nat.le_of_ble_eq_true rfl⟩ dX1_rank_19) ?_
    exact xj_iret hC hr (by decide) (by decide) dX1_rank_22 (Option.some.inj hf) rfl
  · refine xj_aload_n hC dX1_rank_8 rfl 0 rfl ?_
    refine xj_iload_n hC dX1_rank_9 rfl 1 rfl ?_
    obtain ⟨v6, hc5, hf⟩ := xm_bind hf
    obtain ⟨_, hob, _⟩ := xm_bind hc5
    refine xj_reti (xr_V hC (mX1_magnitude l D ks b hc5) hob rfl xw_cod_X1_magnitude xw_ini_X1 xw_ins_X1_magnitude xw_sel_X1_magnitude xw_ml_X1_51 xds_X1_magnitude ⟨Nat.le_of_ble_eq_true rfl, Nat.le_of_ble_eq_true rfl⟩ rfl rfl (Nat.le_of_ble_eq_true rfl) ⟨Nat.le_of_ble_eq_true rfl, Nat.le_of_ble_eq_true rfl⟩ dX1_rank_10) ?_
    refine xj_ineg hC dX1_rank_13 ?_
    refine xj_goto (tgt := 22) hC dX1_rank_14 (by decide) ?_
    exact xj_iret hC hr (by decide) (by decide) dX1_rank_22 (Option.some.inj hf) rfl
def fX1_greater (w : xmW) (th : (Option Nat)) (a1 : Int32) (a2 : Int32) : Option Int32 := ((xmob w th 1).bind fun _ => ((fX1_rank w (th) (a1)).bind fun v2 => ((fX1_rank w (th) (a2)).bind fun v4 => (if v2 = v4 then ((fX1_isMinus w (th) (a1)).bind fun v10 => (if v10 = 0 then (some a1) else (some a2))) else ((fX1_rank w (th) (a1)).bind fun v6 => ((fX1_rank w (th) (a2)).bind fun v8 => (if v6 ≤ v8 then (some a2) else (some a1))))))))
set_option maxHeartbeats 4000000 in
set_option maxRecDepth 100000 in
theorem mX1_greater (l : Launch) (D : va_G) (ks : Nat → ClassId) (b : Nat) {w : xmW} {th : (Option Nat)} {a1 : Int32} {a2 : Int32} {y : Int32} (hf : fX1_greater w th a1 a2 = some y) : xmM l yX1_greater (Cond.code yX1_greater cX1_greater 3 (some (FieldType.int)) :: xmTs) 2 42 0 0 D ks b w [xR th, xI a1, xI a2] (some (xI y)) w := by
  unfold fX1_greater at hf
  obtain ⟨_, _, hf⟩ := xm_bind hf
  refine xmM.of (own := RX1) (lv0 := [(0, xR th), (1, xI a1), (2, xI a2)]) (by decide) rfl (Nat.le_of_ble_eq_true rfl) rfl ?_
  intro p e s m args below meth c hC hr hnm
  refine xj_aload_n hC dX1_greater_0 rfl 0 rfl ?_
  refine xj_iload_n hC dX1_greater_1 rfl 1 rfl ?_
  obtain ⟨v2, hc1, hf⟩ := xm_bind hf
  obtain ⟨_, hob, _⟩ := xm_bind hc1
  refine xj_reti (xr_V hC (mX1_rank l D ks b hc1) hob rfl xw_cod_X1_rank xw_ini_X1 xw_ins_X1_rank xw_sel_X1_rank xw_ml_X1_79 xds_X1_rank ⟨Nat.le_of_ble_eq_true rfl, Nat.le_of_ble_eq_true rfl⟩ rfl rfl (Nat.le_of_ble_eq_true rfl) ⟨Nat.le_of_ble_eq_true rfl, Nat.le_of_ble_eq_true rfl⟩ dX1_greater_2) ?_
  refine xj_aload_n hC dX1_greater_5 rfl 0 rfl ?_
  refine xj_iload_n hC dX1_greater_6 rfl 2 rfl ?_
  obtain ⟨v4, hc3, hf⟩ := xm_bind hf
  obtain ⟨_, hob, _⟩ := xm_bind hc3
  refine xj_reti (xr_V hC (mX1_rank l D ks b hc3) hob rfl xw_cod_X1_rank xw_ini_X1 xw_ins_X1_rank xw_sel_X1_rank xw_ml_X1_79 xds_X1_rank ⟨Nat.le_of_ble_eq_true rfl, Nat.le_of_ble_eq_true rfl⟩ rfl rfl (Nat.le_of_ble_eq_true rfl) ⟨Nat.le_of_ble_eq_true rfl, Nat.le_of_ble_eq_true rfl⟩ dX1_greater_7) ?_
  refine xb_ic_ne (tgt := 27) hC dX1_greater_10 (by decide) hf (fun hf => ?_) (fun hf => ?_)
  · refine xj_aload_n hC dX1_greater_27 rfl 0 rfl ?_
    refine xj_iload_n hC dX1_greater_28 rfl 1 rfl ?_
    obtain ⟨v6, hc5, hf⟩ := xm_bind hf
    obtain ⟨_, hob, _⟩ := xm_bind hc5
    refine xj_reti (xr_V hC (mX1_rank l D ks b hc5) hob rfl xw_cod_X1_rank xw_ini_X1 xw_ins_X1_rank xw_sel_X1_rank xw_ml_X1_79 xds_X1_rank ⟨Nat.le_of_ble_eq_true rfl, Nat.le_of_ble_eq_true rfl⟩ rfl rfl (Nat.le_of_ble_eq_true rfl) ⟨Nat.le_of_ble_eq_true rfl, Nat.le_of_ble_eq_true rfl⟩ dX1_greater_29) ?_
    refine xj_aload_n hC dX1_greater_32 rfl 0 rfl ?_
    refine xj_iload_n hC dX1_greater_33 rfl 2 rfl ?_
    obtain ⟨v8, hc7, hf⟩ := xm_bind hf
    obtain ⟨_, hob, _⟩ := xm_bind hc7
    refine xj_reti (xr_V hC (mX1_rank l D ks b hc7) hob rfl xw_cod_X1_rank xw_ini_X1 xw_ins_X1_rank xw_sel_X1_rank xw_ml_X1_79 xds_X1_rank ⟨Nat.le_of_ble_eq_true rfl, Nat.le_of_ble_eq_true rfl⟩ rfl rfl (Nat.le_of_ble_eq_true rfl) ⟨Nat.le_of_ble_eq_true rfl, Nat.le_of_ble_eq_true rfl⟩ dX1_greater_34) ?_
    refine xb_ic_le (tgt := 44) hC dX1_greater_37 (by decide) hf (fun hf => ?_) (fun hf => ?_)
    · refine xj_iload_n hC dX1_greater_44 rfl 2 rfl ?_
      exact xj_iret hC hr (by decide) (by decide) dX1_greater_45 (Option.some.inj hf) rfl
    · refine xj_iload_n hC dX1_greater_40 rfl 1 rfl ?_
      refine xj_goto (tgt := 45) hC dX1_greater_41 (by decide) ?_
      exact xj_iret hC hr (by decide) (by decide) dX1_greater_45 (Option.some.inj hf) rfl
  · refine xj_aload_n hC dX1_greater_13 rfl 0 rfl ?_
    refine xj_iload_n hC dX1_greater_14 rfl 1 rfl ?_
    obtain ⟨v10, hc9, hf⟩ := xm_bind hf
    obtain ⟨_, hob, _⟩ := xm_bind hc9
    refine xj_reti (xr_V hC (mX1_isMinus l D ks b hc9) hob rfl xw_cod_X1_isMinus xw_ini_X1 xw_ins_X1_isMinus xw_sel_X1_isMinus xw_ml_X1_67 xds_X1_isMinus ⟨Nat.le_of_ble_eq_true rfl, Nat.le_of_ble_eq_true rfl⟩ rfl rfl (Nat.le_of_ble_eq_true rfl) ⟨Nat.le_of_ble_eq_true rfl, Nat.le_of_ble_eq_true rfl⟩ dX1_greater_15) ?_
    refine xb_if_eq (tgt := 25) hC dX1_greater_18 (by decide) hf (fun hf => ?_) (fun hf => ?_)
    · refine xj_iload_n hC dX1_greater_25 rfl 1 rfl ?_
      exact xj_iret hC hr (by decide) (by decide) dX1_greater_26 (Option.some.inj hf) rfl
    · refine xj_iload_n hC dX1_greater_21 rfl 2 rfl ?_
      refine xj_goto (tgt := 26) hC dX1_greater_22 (by decide) ?_
      exact xj_iret hC hr (by decide) (by decide) dX1_greater_26 (Option.some.inj hf) rfl
def fX1_isEndless (w : xmW) (th : (Option Nat)) (a1 : Int32) : Option Int32 := ((xmob w th 1).bind fun _ => ((xmgI w th 1 5).bind fun v1 => (if v1 = 0 then ((fX1_magnitude w (th) (a1)).bind fun v3 => ((xmgI w th 1 6).bind fun v4 => (xmbz (if v3 = (v4 + (1 : Int32)) then (1 : Int32) else (0 : Int32))))) else (xmbz (0 : Int32)))))
set_option maxHeartbeats 4000000 in
set_option maxRecDepth 100000 in
theorem mX1_isEndless (l : Launch) (D : va_G) (ks : Nat → ClassId) (b : Nat) {w : xmW} {th : (Option Nat)} {a1 : Int32} {y : Int32} (hf : fX1_isEndless w th a1 = some y) : xmM l yX1_isEndless (Cond.code yX1_isEndless cX1_isEndless 2 (some (FieldType.boolean)) :: xmTs) 1 21 0 0 D ks b w [xR th, xI a1] (some (xI y)) w := by
  unfold fX1_isEndless at hf
  obtain ⟨_, _, hf⟩ := xm_bind hf
  refine xmM.of (own := RX1) (lv0 := [(0, xR th), (1, xI a1)]) (by decide) rfl (Nat.le_of_ble_eq_true rfl) rfl ?_
  intro p e s m args below meth c hC hr hnm
  refine xj_aload_n hC dX1_isEndless_0 rfl 0 rfl ?_
  refine xb_getI hC 1 5 xcl_1 (by decide) xw_fl_X1_28 dX1_isEndless_1 hf (fun v1 hf => ?_)
  refine xb_if_ne (tgt := 25) hC dX1_isEndless_4 (by decide) hf (fun hf => ?_) (fun hf => ?_)
  · refine xj_iconst (v := 0) hC dX1_isEndless_25 (by decide) ?_
    exact xj_zret hC hr (by decide) (by decide) dX1_isEndless_26 hf rfl
  · refine xj_aload_n hC dX1_isEndless_7 rfl 0 rfl ?_
    refine xj_iload_n hC dX1_isEndless_8 rfl 1 rfl ?_
    obtain ⟨v3, hc2, hf⟩ := xm_bind hf
    obtain ⟨_, hob, _⟩ := xm_bind hc2
    refine xj_reti (xr_V hC (mX1_magnitude l D ks b hc2) hob rfl xw_cod_X1_magnitude xw_ini_X1 xw_ins_X1_magnitude xw_sel_X1_magnitude xw_ml_X1_51 xds_X1_magnitude ⟨Nat.le_of_ble_eq_true rfl, Nat.le_of_ble_eq_true rfl⟩ rfl rfl (Nat.le_of_ble_eq_true rfl) ⟨Nat.le_of_ble_eq_true rfl, Nat.le_of_ble_eq_true rfl⟩ dX1_isEndless_9) ?_
    refine xj_aload_n hC dX1_isEndless_12 rfl 0 rfl ?_
    refine xb_getI hC 1 6 xcl_1 (by decide) xw_fl_X1_31 dX1_isEndless_13 hf (fun v4 hf => ?_)
    refine xj_iconst (v := 1) hC dX1_isEndless_16 (by decide) ?_
    refine xj_iadd hC dX1_isEndless_17 ?_
    refine xj_dia (cnd := v3 = (v4 + (1 : Int32))) (x := 1) (y := 0) (pc2 := 26) (st2 := []) (fun hc hk => ?_) (fun hc hk => ?_) ?_
    · exact xj_ic_ne (tgt := 25) hC dX1_isEndless_18 (by decide) (fun hn => absurd hc hn) (fun _ => xj_iconst (v := 1) hC dX1_isEndless_21 (by decide) (xj_goto (tgt := 26) hC dX1_isEndless_22 (by decide) hk))
    · exact xj_ic_ne (tgt := 25) hC dX1_isEndless_18 (by decide) (fun _ => xj_iconst (v := 0) hC dX1_isEndless_25 (by decide) hk) (fun hn => absurd hn hc)
    exact xj_zret hC hr (by decide) (by decide) dX1_isEndless_26 hf rfl
def fX1_isNumber (w : xmW) (th : (Option Nat)) (a1 : Int32) : Option Int32 := ((xmob w th 1).bind fun _ => ((fX1_magnitude w (th) (a1)).bind fun v2 => ((xmgI w th 1 6).bind fun v3 => (xmbz (if v3 < v2 then (0 : Int32) else (1 : Int32))))))
set_option maxHeartbeats 4000000 in
set_option maxRecDepth 100000 in
theorem mX1_isNumber (l : Launch) (D : va_G) (ks : Nat → ClassId) (b : Nat) {w : xmW} {th : (Option Nat)} {a1 : Int32} {y : Int32} (hf : fX1_isNumber w th a1 = some y) : xmM l yX1_isNumber (Cond.code yX1_isNumber cX1_isNumber 2 (some (FieldType.boolean)) :: xmTs) 1 21 0 0 D ks b w [xR th, xI a1] (some (xI y)) w := by
  unfold fX1_isNumber at hf
  obtain ⟨_, _, hf⟩ := xm_bind hf
  refine xmM.of (own := RX1) (lv0 := [(0, xR th), (1, xI a1)]) (by decide) rfl (Nat.le_of_ble_eq_true rfl) rfl ?_
  intro p e s m args below meth c hC hr hnm
  refine xj_aload_n hC dX1_isNumber_0 rfl 0 rfl ?_
  refine xj_iload_n hC dX1_isNumber_1 rfl 1 rfl ?_
  obtain ⟨v2, hc1, hf⟩ := xm_bind hf
  obtain ⟨_, hob, _⟩ := xm_bind hc1
  refine xj_reti (xr_V hC (mX1_magnitude l D ks b hc1) hob rfl xw_cod_X1_magnitude xw_ini_X1 xw_ins_X1_magnitude xw_sel_X1_magnitude xw_ml_X1_51 xds_X1_magnitude ⟨Nat.le_of_ble_eq_true rfl, Nat.le_of_ble_eq_true rfl⟩ rfl rfl (Nat.le_of_ble_eq_true rfl) ⟨Nat.le_of_ble_eq_true rfl, Nat.le_of_ble_eq_true rfl⟩ dX1_isNumber_2) ?_
  refine xj_aload_n hC dX1_isNumber_5 rfl 0 rfl ?_
  refine xb_getI hC 1 6 xcl_1 (by decide) xw_fl_X1_31 dX1_isNumber_6 hf (fun v3 hf => ?_)
  refine xj_dia (cnd := v3 < v2) (x := 0) (y := 1) (pc2 := 17) (st2 := []) (fun hc hk => ?_) (fun hc hk => ?_) ?_
  · exact xj_ic_gt (tgt := 16) hC dX1_isNumber_9 (by decide) (fun _ => xj_iconst (v := 0) hC dX1_isNumber_16 (by decide) hk) (fun hn => absurd hc hn)
  · exact xj_ic_gt (tgt := 16) hC dX1_isNumber_9 (by decide) (fun hn => absurd hn hc) (fun _ => xj_iconst (v := 1) hC dX1_isNumber_12 (by decide) (xj_goto (tgt := 17) hC dX1_isNumber_13 (by decide) hk))
  exact xj_zret hC hr (by decide) (by decide) dX1_isNumber_17 hf rfl
def fX1_isNone (w : xmW) (th : (Option Nat)) (a1 : Int32) : Option Int32 := ((xmob w th 1).bind fun _ => ((fX1_isNumber w (th) (a1)).bind fun v2 => (if v2 = 0 then ((fX1_isEndless w (th) (a1)).bind fun v4 => (xmbz (if v4 = 0 then (1 : Int32) else (0 : Int32)))) else (xmbz (0 : Int32)))))
set_option maxHeartbeats 4000000 in
set_option maxRecDepth 100000 in
theorem mX1_isNone (l : Launch) (D : va_G) (ks : Nat → ClassId) (b : Nat) {w : xmW} {th : (Option Nat)} {a1 : Int32} {y : Int32} (hf : fX1_isNone w th a1 = some y) : xmM l yX1_isNone (Cond.code yX1_isNone cX1_isNone 2 (some (FieldType.boolean)) :: xmTs) 2 42 0 0 D ks b w [xR th, xI a1] (some (xI y)) w := by
  unfold fX1_isNone at hf
  obtain ⟨_, _, hf⟩ := xm_bind hf
  refine xmM.of (own := RX1) (lv0 := [(0, xR th), (1, xI a1)]) (by decide) rfl (Nat.le_of_ble_eq_true rfl) rfl ?_
  intro p e s m args below meth c hC hr hnm
  refine xj_aload_n hC dX1_isNone_0 rfl 0 rfl ?_
  refine xj_iload_n hC dX1_isNone_1 rfl 1 rfl ?_
  obtain ⟨v2, hc1, hf⟩ := xm_bind hf
  obtain ⟨_, hob, _⟩ := xm_bind hc1
  refine xj_reti (xr_V hC (mX1_isNumber l D ks b hc1) hob rfl xw_cod_X1_isNumber xw_ini_X1 xw_ins_X1_isNumber xw_sel_X1_isNumber xw_ml_X1_55 xds_X1_isNumber ⟨Nat.le_of_ble_eq_true rfl, Nat.le_of_ble_eq_true rfl⟩ rfl rfl (Nat.le_of_ble_eq_true rfl) ⟨Nat.le_of_ble_eq_true rfl, Nat.le_of_ble_eq_true rfl⟩ dX1_isNone_2) ?_
  refine xb_if_ne (tgt := 20) hC dX1_isNone_5 (by decide) hf (fun hf => ?_) (fun hf => ?_)
  · refine xj_iconst (v := 0) hC dX1_isNone_20 (by decide) ?_
    exact xj_zret hC hr (by decide) (by decide) dX1_isNone_21 hf rfl
  · refine xj_aload_n hC dX1_isNone_8 rfl 0 rfl ?_
    refine xj_iload_n hC dX1_isNone_9 rfl 1 rfl ?_
    obtain ⟨v4, hc3, hf⟩ := xm_bind hf
    obtain ⟨_, hob, _⟩ := xm_bind hc3
    refine xj_reti (xr_V hC (mX1_isEndless l D ks b hc3) hob rfl xw_cod_X1_isEndless xw_ini_X1 xw_ins_X1_isEndless xw_sel_X1_isEndless xw_ml_X1_59 xds_X1_isEndless ⟨Nat.le_of_ble_eq_true rfl, Nat.le_of_ble_eq_true rfl⟩ rfl rfl (Nat.le_of_ble_eq_true rfl) ⟨Nat.le_of_ble_eq_true rfl, Nat.le_of_ble_eq_true rfl⟩ dX1_isNone_10) ?_
    refine xj_dia (cnd := v4 = 0) (x := 1) (y := 0) (pc2 := 21) (st2 := []) (fun hc hk => ?_) (fun hc hk => ?_) ?_
    · exact xj_if_ne (tgt := 20) hC dX1_isNone_13 (by decide) (fun hn => absurd hc hn) (fun _ => xj_iconst (v := 1) hC dX1_isNone_16 (by decide) (xj_goto (tgt := 21) hC dX1_isNone_17 (by decide) hk))
    · exact xj_if_ne (tgt := 20) hC dX1_isNone_13 (by decide) (fun _ => xj_iconst (v := 0) hC dX1_isNone_20 (by decide) hk) (fun hn => absurd hn hc)
    exact xj_zret hC hr (by decide) (by decide) dX1_isNone_21 hf rfl
def fX1_lesser (w : xmW) (th : (Option Nat)) (a1 : Int32) (a2 : Int32) : Option Int32 := ((xmob w th 1).bind fun _ => ((fX1_rank w (th) (a1)).bind fun v2 => ((fX1_rank w (th) (a2)).bind fun v4 => (if v2 = v4 then ((fX1_isMinus w (th) (a2)).bind fun v10 => (if v10 = 0 then (some a1) else (some a2))) else ((fX1_rank w (th) (a1)).bind fun v6 => ((fX1_rank w (th) (a2)).bind fun v8 => (if v8 ≤ v6 then (some a2) else (some a1))))))))
set_option maxHeartbeats 4000000 in
set_option maxRecDepth 100000 in
theorem mX1_lesser (l : Launch) (D : va_G) (ks : Nat → ClassId) (b : Nat) {w : xmW} {th : (Option Nat)} {a1 : Int32} {a2 : Int32} {y : Int32} (hf : fX1_lesser w th a1 a2 = some y) : xmM l yX1_lesser (Cond.code yX1_lesser cX1_lesser 3 (some (FieldType.int)) :: xmTs) 2 42 0 0 D ks b w [xR th, xI a1, xI a2] (some (xI y)) w := by
  unfold fX1_lesser at hf
  obtain ⟨_, _, hf⟩ := xm_bind hf
  refine xmM.of (own := RX1) (lv0 := [(0, xR th), (1, xI a1), (2, xI a2)]) (by decide) rfl (Nat.le_of_ble_eq_true rfl) rfl ?_
  intro p e s m args below meth c hC hr hnm
  refine xj_aload_n hC dX1_lesser_0 rfl 0 rfl ?_
  refine xj_iload_n hC dX1_lesser_1 rfl 1 rfl ?_
  obtain ⟨v2, hc1, hf⟩ := xm_bind hf
  obtain ⟨_, hob, _⟩ := xm_bind hc1
  refine xj_reti (xr_V hC (mX1_rank l D ks b hc1) hob rfl xw_cod_X1_rank xw_ini_X1 xw_ins_X1_rank xw_sel_X1_rank xw_ml_X1_79 xds_X1_rank ⟨Nat.le_of_ble_eq_true rfl, Nat.le_of_ble_eq_true rfl⟩ rfl rfl (Nat.le_of_ble_eq_true rfl) ⟨Nat.le_of_ble_eq_true rfl, Nat.le_of_ble_eq_true rfl⟩ dX1_lesser_2) ?_
  refine xj_aload_n hC dX1_lesser_5 rfl 0 rfl ?_
  refine xj_iload_n hC dX1_lesser_6 rfl 2 rfl ?_
  obtain ⟨v4, hc3, hf⟩ := xm_bind hf
  obtain ⟨_, hob, _⟩ := xm_bind hc3
  refine xj_reti (xr_V hC (mX1_rank l D ks b hc3) hob rfl xw_cod_X1_rank xw_ini_X1 xw_ins_X1_rank xw_sel_X1_rank xw_ml_X1_79 xds_X1_rank ⟨Nat.le_of_ble_eq_true rfl, Nat.le_of_ble_eq_true rfl⟩ rfl rfl (Nat.le_of_ble_eq_true rfl) ⟨Nat.le_of_ble_eq_true rfl, Nat.le_of_ble_eq_true rfl⟩ dX1_lesser_7) ?_
  refine xb_ic_ne (tgt := 27) hC dX1_lesser_10 (by decide) hf (fun hf => ?_) (fun hf => ?_)
  · refine xj_aload_n hC dX1_lesser_27 rfl 0 rfl ?_
    refine xj_iload_n hC dX1_lesser_28 rfl 1 rfl ?_
    obtain ⟨v6, hc5, hf⟩ := xm_bind hf
    obtain ⟨_, hob, _⟩ := xm_bind hc5
    refine xj_reti (xr_V hC (mX1_rank l D ks b hc5) hob rfl xw_cod_X1_rank xw_ini_X1 xw_ins_X1_rank xw_sel_X1_rank xw_ml_X1_79 xds_X1_rank ⟨Nat.le_of_ble_eq_true rfl, Nat.le_of_ble_eq_true rfl⟩ rfl rfl (Nat.le_of_ble_eq_true rfl) ⟨Nat.le_of_ble_eq_true rfl, Nat.le_of_ble_eq_true rfl⟩ dX1_lesser_29) ?_
    refine xj_aload_n hC dX1_lesser_32 rfl 0 rfl ?_
    refine xj_iload_n hC dX1_lesser_33 rfl 2 rfl ?_
    obtain ⟨v8, hc7, hf⟩ := xm_bind hf
    obtain ⟨_, hob, _⟩ := xm_bind hc7
    refine xj_reti (xr_V hC (mX1_rank l D ks b hc7) hob rfl xw_cod_X1_rank xw_ini_X1 xw_ins_X1_rank xw_sel_X1_rank xw_ml_X1_79 xds_X1_rank ⟨Nat.le_of_ble_eq_true rfl, Nat.le_of_ble_eq_true rfl⟩ rfl rfl (Nat.le_of_ble_eq_true rfl) ⟨Nat.le_of_ble_eq_true rfl, Nat.le_of_ble_eq_true rfl⟩ dX1_lesser_34) ?_
    refine xb_ic_ge (tgt := 44) hC dX1_lesser_37 (by decide) hf (fun hf => ?_) (fun hf => ?_)
    · refine xj_iload_n hC dX1_lesser_44 rfl 2 rfl ?_
      exact xj_iret hC hr (by decide) (by decide) dX1_lesser_45 (Option.some.inj hf) rfl
    · refine xj_iload_n hC dX1_lesser_40 rfl 1 rfl ?_
      refine xj_goto (tgt := 45) hC dX1_lesser_41 (by decide) ?_
      exact xj_iret hC hr (by decide) (by decide) dX1_lesser_45 (Option.some.inj hf) rfl
  · refine xj_aload_n hC dX1_lesser_13 rfl 0 rfl ?_
    refine xj_iload_n hC dX1_lesser_14 rfl 2 rfl ?_
    obtain ⟨v10, hc9, hf⟩ := xm_bind hf
    obtain ⟨_, hob, _⟩ := xm_bind hc9
    refine xj_reti (xr_V hC (mX1_isMinus l D ks b hc9) hob rfl xw_cod_X1_isMinus xw_ini_X1 xw_ins_X1_isMinus xw_sel_X1_isMinus xw_ml_X1_67 xds_X1_isMinus ⟨Nat.le_of_ble_eq_true rfl, Nat.le_of_ble_eq_true rfl⟩ rfl rfl (Nat.le_of_ble_eq_true rfl) ⟨Nat.le_of_ble_eq_true rfl, Nat.le_of_ble_eq_true rfl⟩ dX1_lesser_15) ?_
    refine xb_if_eq (tgt := 25) hC dX1_lesser_18 (by decide) hf (fun hf => ?_) (fun hf => ?_)
    · refine xj_iload_n hC dX1_lesser_25 rfl 1 rfl ?_
      exact xj_iret hC hr (by decide) (by decide) dX1_lesser_26 (Option.some.inj hf) rfl
    · refine xj_iload_n hC dX1_lesser_21 rfl 2 rfl ?_
      refine xj_goto (tgt := 26) hC dX1_lesser_22 (by decide) ?_
      exact xj_iret hC hr (by decide) (by decide) dX1_lesser_26 (Option.some.inj hf) rfl
def fX1_init (w : xmW) (th : (Option Nat)) (a1 : Int32) (a2 : Int32) (a3 : Int32) (a4 : Int32) (a5 : Int32) (a6 : Int32) : Option xmW := (th.bind fun k10 => ((xmput w th 1 0 (xI a1)).bind fun w1 => ((xmput w1 th 1 1 (xI a2)).bind fun w2 => ((xmput w2 th 1 2 (xI a3)).bind fun w3 => ((xmput w3 th 1 3 (xI a4)).bind fun w4 => (if a5 = 0 ∨ a5 = 1 then ((xmput w4 th 1 4 (xI a5)).bind fun w5 => ((xmput w5 th 1 5 (xI a6)).bind fun w6 => (if a6 = 0 then ((xmput w6 th 1 6 (xI ((((1 : Int32) <<< ((a2 + a3) &&& 31)) - ((1 : Int32) <<< (a3 &&& 31))) - (1 : Int32)))).bind fun w9 => (some w9)) else (if a6 = (1 : Int32) then ((xmput w6 th 1 6 (xI (((1 : Int32) <<< ((a2 + a3) &&& 31)) - (2 : Int32)))).bind fun w8 => (some w8)) else ((xmput w6 th 1 6 (xI (((1 : Int32) <<< ((a2 + a3) &&& 31)) - (1 : Int32)))).bind fun w7 => (some w7)))))) else none))))))
set_option maxHeartbeats 4000000 in
set_option maxRecDepth 100000 in
theorem mX1_init (l : Launch) (D : va_G) (ks : Nat → ClassId) (b : Nat) {w : xmW} {th : (Option Nat)} {a1 : Int32} {a2 : Int32} {a3 : Int32} {a4 : Int32} {a5 : Int32} {a6 : Int32} {wz : xmW} (hf : fX1_init w th a1 a2 a3 a4 a5 a6 = some wz) : xmM l yX1_init (Cond.code yX1_init cX1_init 8 none :: xmTs) 1 20 0 0 D ks b w [xR th, xI a1, xI a2, xI a3, xI a4, xI a5, xI a6] none wz := by
  unfold fX1_init at hf
  refine xmM.of (own := RX1) (lv0 := [(0, xR th), (1, xI a1), (2, xI a2), (3, xI a3), (4, xI a4), (5, xI a5), (6, xI a6)]) (by decide) rfl (Nat.le_of_ble_eq_true rfl) rfl ?_
  intro p e s m args below meth c hC hr hnm
  refine xj_aload_n hC dX1_init_0 rfl 0 rfl ?_
  obtain ⟨k10, hkk10, hf⟩ := xm_bind hf
  refine xj_objInit hC hkk10 xw_ml_X1_3 xw_ins_obj xw_cod_obj dX1_init_1 ⟨Nat.le_of_ble_eq_true rfl, Nat.le_of_ble_eq_true rfl⟩ ?_
  refine xj_aload_n hC dX1_init_4 rfl 0 rfl ?_
  refine xj_iload_n hC dX1_init_5 rfl 1 rfl ?_
  refine xb_putF hC 1 0 xcl_1 (by decide) xw_fl_X1_9 rfl hnm rfl (xmfit_i _) dX1_init_6 hf (fun w1 hf => ?_)
  refine xj_aload_n hC dX1_init_9 rfl 0 rfl ?_
  refine xj_iload_n hC dX1_init_10 rfl 2 rfl ?_
  refine xb_putF hC 1 1 xcl_1 (by decide) xw_fl_X1_15 rfl hnm rfl (xmfit_i _) dX1_init_11 hf (fun w2 hf => ?_)
  refine xj_aload_n hC dX1_init_14 rfl 0 rfl ?_
  refine xj_iload_n hC dX1_init_15 rfl 3 rfl ?_
  refine xb_putF hC 1 2 xcl_1 (by decide) xw_fl_X1_18 rfl hnm rfl (xmfit_i _) dX1_init_16 hf (fun w3 hf => ?_)
  refine xj_aload_n hC dX1_init_19 rfl 0 rfl ?_
  refine xj_iload hC dX1_init_20 4 rfl ?_
  refine xb_putF hC 1 3 xcl_1 (by decide) xw_fl_X1_21 rfl hnm rfl (xmfit_i _) dX1_init_22 hf (fun w4 hf => ?_)
  refine xj_aload_n hC dX1_init_25 rfl 0 rfl ?_
  refine xj_iload hC dX1_init_26 5 rfl ?_
  obtain ⟨hz, hf⟩ := xm_ift hf
  refine xb_putF hC 1 4 xcl_1 (by decide) xw_fl_X1_24 rfl hnm rfl (xmfit_z hz) dX1_init_28 hf (fun w5 hf => ?_)
  refine xj_aload_n hC dX1_init_31 rfl 0 rfl ?_
  refine xj_iload hC dX1_init_32 6 rfl ?_
  refine xb_putF hC 1 5 xcl_1 (by decide) xw_fl_X1_28 rfl hnm rfl (xmfit_i _) dX1_init_34 hf (fun w6 hf => ?_)
  refine xj_iconst (v := 1) hC dX1_init_37 (by decide) ?_
  refine xj_iload_n hC dX1_init_38 rfl 2 rfl ?_
  refine xj_iload_n hC dX1_init_39 rfl 3 rfl ?_
  refine xj_iadd hC dX1_init_40 ?_
  refine xj_ishl hC dX1_init_41 ?_
  refine xj_istore (lv' := [(7, xI ((1 : Int32) <<< ((a2 + a3) &&& 31))), (0, xR th), (1, xI a1), (2, xI a2), (3, xI a3), (4, xI a4), (5, xI a5), (6, xI a6)]) hC dX1_init_42 (by decide) rfl ?_
  refine xj_iload hC dX1_init_44 7 rfl ?_
  refine xb_if_ne (tgt := 64) hC dX1_init_46 (by decide) hf (fun hf => ?_) (fun hf => ?_)
  · refine xj_aload_n hC dX1_init_64 rfl 1 rfl ?_
    refine xj_iload hC dX1_init_65 7 rfl ?_
    refine xj_iconst (v := 1) hC dX1_init_67 (by decide) ?_
    refine xb_ic_ne (tgt := 78) hC dX1_init_68 (by decide) hf (fun hf => ?_) (fun hf => ?_)
    · refine xj_iload hC dX1_init_78 0 rfl ?_
      refine xj_iconst (v := 1) hC dX1_init_80 (by decide) ?_
      refine xj_isub hC dX1_init_81 ?_
      refine xb_putF hC 1 6 xcl_1 (by decide) xw_fl_X1_31 rfl hnm rfl (xmfit_i _) dX1_init_82 hf (fun w7 hf => ?_)
      exact xj_vret hC hr (by decide) (by decide) dX1_init_85 (Option.some.inj hf)
    · refine xj_iload hC dX1_init_71 0 rfl ?_
      refine xj_iconst (v := 2) hC dX1_init_73 (by decide) ?_
      refine xj_isub hC dX1_init_74 ?_
      refine xj_goto (tgt := 82) hC dX1_init_75 (by decide) ?_
      refine xb_putF hC 1 6 xcl_1 (by decide) xw_fl_X1_31 rfl hnm rfl (xmfit_i _) dX1_init_82 hf (fun w8 hf => ?_)
      exact xj_vret hC hr (by decide) (by decide) dX1_init_85 (Option.some.inj hf)
  · refine xj_aload_n hC dX1_init_49 rfl 1 rfl ?_
    refine xj_iload hC dX1_init_50 0 rfl ?_
    refine xj_iconst (v := 1) hC dX1_init_52 (by decide) ?_
    refine xj_iload_n hC dX1_init_53 rfl 4 rfl ?_
    refine xj_ishl hC dX1_init_54 ?_
    refine xj_isub hC dX1_init_55 ?_
    refine xj_iconst (v := 1) hC dX1_init_56 (by decide) ?_
    refine xj_isub hC dX1_init_57 ?_
    refine xb_putF hC 1 6 xcl_1 (by decide) xw_fl_X1_31 rfl hnm rfl (xmfit_i _) dX1_init_58 hf (fun w9 hf => ?_)
    refine xj_goto (tgt := 85) hC dX1_init_61 (by decide) ?_
    exact xj_vret hC hr (by decide) (by decide) dX1_init_85 (Option.some.inj hf)
def fX1_isAlike (w : xmW) (th : (Option Nat)) (a1 : (Option Nat)) : Option Int32 := ((xmob w th 1).bind fun _ => ((xmgI w th 1 0).bind fun v1 => ((xmgI w a1 1 0).bind fun v2 => (if v1 = v2 then ((xmgI w th 1 1).bind fun v3 => ((xmgI w a1 1 1).bind fun v4 => (if v3 = v4 then ((xmgI w th 1 2).bind fun v5 => ((xmgI w a1 1 2).bind fun v6 => (if v5 = v6 then ((xmgI w th 1 3).bind fun v7 => ((xmgI w a1 1 3).bind fun v8 => (if v7 = v8 then ((xmgI w th 1 4).bind fun v9 => ((xmgI w a1 1 4).bind fun v10 => (if v9 = v10 then ((xmgI w th 1 5).bind fun v11 => ((xmgI w a1 1 5).bind fun v12 => (xmbz (if v11 = v12 then (1 : Int32) else (0 : Int32))))) else (xmbz (0 : Int32))))) else (xmbz (0 : Int32))))) else (xmbz (0 : Int32))))) else (xmbz (0 : Int32))))) else (xmbz (0 : Int32))))))
set_option maxHeartbeats 4000000 in
set_option maxRecDepth 100000 in
theorem mX1_isAlike (l : Launch) (D : va_G) (ks : Nat → ClassId) (b : Nat) {w : xmW} {th : (Option Nat)} {a1 : (Option Nat)} {y : Int32} (hf : fX1_isAlike w th a1 = some y) : xmM l yX1_isAlike (Cond.code yX1_isAlike cX1_isAlike 2 (some (FieldType.boolean)) :: xmTs) 0 0 0 0 D ks b w [xR th, xR a1] (some (xI y)) w := by
  unfold fX1_isAlike at hf
  obtain ⟨_, _, hf⟩ := xm_bind hf
  refine xmM.of (own := RX1) (lv0 := [(0, xR th), (1, xR a1)]) (by decide) rfl (Nat.le_of_ble_eq_true rfl) rfl ?_
  intro p e s m args below meth c hC hr hnm
  refine xj_aload_n hC dX1_isAlike_0 rfl 0 rfl ?_
  refine xb_getI hC 1 0 xcl_1 (by decide) xw_fl_X1_9 dX1_isAlike_1 hf (fun v1 hf => ?_)
  refine xj_aload_n hC dX1_isAlike_4 rfl 1 rfl ?_
  refine xb_getI hC 1 0 xcl_1 (by decide) xw_fl_X1_9 dX1_isAlike_5 hf (fun v2 hf => ?_)
  refine xb_ic_ne (tgt := 70) hC dX1_isAlike_8 (by decide) hf (fun hf => ?_) (fun hf => ?_)
  · refine xj_iconst (v := 0) hC dX1_isAlike_70 (by decide) ?_
    exact xj_zret hC hr (by decide) (by decide) dX1_isAlike_71 hf rfl
  · refine xj_aload_n hC dX1_isAlike_11 rfl 0 rfl ?_
    refine xb_getI hC 1 1 xcl_1 (by decide) xw_fl_X1_15 dX1_isAlike_12 hf (fun v3 hf => ?_)
    refine xj_aload_n hC dX1_isAlike_15 rfl 1 rfl ?_
    refine xb_getI hC 1 1 xcl_1 (by decide) xw_fl_X1_15 dX1_isAlike_16 hf (fun v4 hf => ?_)
    refine xb_ic_ne (tgt := 70) hC dX1_isAlike_19 (by decide) hf (fun hf => ?_) (fun hf => ?_)
    · refine xj_iconst (v := 0) hC dX1_isAlike_70 (by decide) ?_
      exact xj_zret hC hr (by decide) (by decide) dX1_isAlike_71 hf rfl
    · refine xj_aload_n hC dX1_isAlike_22 rfl 0 rfl ?_
      refine xb_getI hC 1 2 xcl_1 (by decide) xw_fl_X1_18 dX1_isAlike_23 hf (fun v5 hf => ?_)
      refine xj_aload_n hC dX1_isAlike_26 rfl 1 rfl ?_
      refine xb_getI hC 1 2 xcl_1 (by decide) xw_fl_X1_18 dX1_isAlike_27 hf (fun v6 hf => ?_)
      refine xb_ic_ne (tgt := 70) hC dX1_isAlike_30 (by decide) hf (fun hf => ?_) (fun hf => ?_)
      · refine xj_iconst (v := 0) hC dX1_isAlike_70 (by decide) ?_
        exact xj_zret hC hr (by decide) (by decide) dX1_isAlike_71 hf rfl
      · refine xj_aload_n hC dX1_isAlike_33 rfl 0 rfl ?_
        refine xb_getI hC 1 3 xcl_1 (by decide) xw_fl_X1_21 dX1_isAlike_34 hf (fun v7 hf => ?_)
        refine xj_aload_n hC dX1_isAlike_37 rfl 1 rfl ?_
        refine xb_getI hC 1 3 xcl_1 (by decide) xw_fl_X1_21 dX1_isAlike_38 hf (fun v8 hf => ?_)
        refine xb_ic_ne (tgt := 70) hC dX1_isAlike_41 (by decide) hf (fun hf => ?_) (fun hf => ?_)
        · refine xj_iconst (v := 0) hC dX1_isAlike_70 (by decide) ?_
          exact xj_zret hC hr (by decide) (by decide) dX1_isAlike_71 hf rfl
        · refine xj_aload_n hC dX1_isAlike_44 rfl 0 rfl ?_
          refine xb_getI hC 1 4 xcl_1 (by decide) xw_fl_X1_24 dX1_isAlike_45 hf (fun v9 hf => ?_)
          refine xj_aload_n hC dX1_isAlike_48 rfl 1 rfl ?_
          refine xb_getI hC 1 4 xcl_1 (by decide) xw_fl_X1_24 dX1_isAlike_49 hf (fun v10 hf => ?_)
          refine xb_ic_ne (tgt := 70) hC dX1_isAlike_52 (by decide) hf (fun hf => ?_) (fun hf => ?_)
          · refine xj_iconst (v := 0) hC dX1_isAlike_70 (by decide) ?_
            exact xj_zret hC hr (by decide) (by decide) dX1_isAlike_71 hf rfl
          · refine xj_aload_n hC dX1_isAlike_55 rfl 0 rfl ?_
            refine xb_getI hC 1 5 xcl_1 (by decide) xw_fl_X1_28 dX1_isAlike_56 hf (fun v11 hf => ?_)
            refine xj_aload_n hC dX1_isAlike_59 rfl 1 rfl ?_
            refine xb_getI hC 1 5 xcl_1 (by decide) xw_fl_X1_28 dX1_isAlike_60 hf (fun v12 hf => ?_)
            refine xj_dia (cnd := v11 = v12) (x := 1) (y := 0) (pc2 := 71) (st2 := []) (fun hc hk => ?_) (fun hc hk => ?_) ?_
            · exact xj_ic_ne (tgt := 70) hC dX1_isAlike_63 (by decide) (fun hn => absurd hc hn) (fun _ => xj_iconst (v := 1) hC dX1_isAlike_66 (by decide) (xj_goto (tgt := 71) hC dX1_isAlike_67 (by decide) hk))
            · exact xj_ic_ne (tgt := 70) hC dX1_isAlike_63 (by decide) (fun _ => xj_iconst (v := 0) hC dX1_isAlike_70 (by decide) hk) (fun hn => absurd hn hc)
            exact xj_zret hC hr (by decide) (by decide) dX1_isAlike_71 hf rfl
def fX1_bits (w : xmW) (th : (Option Nat)) : Option Int32 := ((xmob w th 1).bind fun _ => ((xmgI w th 1 0).bind fun v1 => ((xmgI w th 1 1).bind fun v2 => ((xmgI w th 1 2).bind fun v3 => (some ((v1 + v2) + v3))))))
set_option maxHeartbeats 4000000 in
set_option maxRecDepth 100000 in
theorem mX1_bits (l : Launch) (D : va_G) (ks : Nat → ClassId) (b : Nat) {w : xmW} {th : (Option Nat)} {y : Int32} (hf : fX1_bits w th = some y) : xmM l yX1_bits (Cond.code yX1_bits cX1_bits 1 (some (FieldType.int)) :: xmTs) 0 0 0 0 D ks b w [xR th] (some (xI y)) w := by
  unfold fX1_bits at hf
  obtain ⟨_, _, hf⟩ := xm_bind hf
  refine xmM.of (own := RX1) (lv0 := [(0, xR th)]) (by decide) rfl (Nat.le_of_ble_eq_true rfl) rfl ?_
  intro p e s m args below meth c hC hr hnm
  refine xj_aload_n hC dX1_bits_0 rfl 0 rfl ?_
  refine xb_getI hC 1 0 xcl_1 (by decide) xw_fl_X1_9 dX1_bits_1 hf (fun v1 hf => ?_)
  refine xj_aload_n hC dX1_bits_4 rfl 0 rfl ?_
  refine xb_getI hC 1 1 xcl_1 (by decide) xw_fl_X1_15 dX1_bits_5 hf (fun v2 hf => ?_)
  refine xj_iadd hC dX1_bits_8 ?_
  refine xj_aload_n hC dX1_bits_9 rfl 0 rfl ?_
  refine xb_getI hC 1 2 xcl_1 (by decide) xw_fl_X1_18 dX1_bits_10 hf (fun v3 hf => ?_)
  refine xj_iadd hC dX1_bits_13 ?_
  exact xj_iret hC hr (by decide) (by decide) dX1_bits_14 (Option.some.inj hf) rfl
def fX1_hasCode (w : xmW) (th : (Option Nat)) (a1 : Int32) : Option Int32 := ((xmob w th 1).bind fun _ => (if a1 < 0 then (xmbz (0 : Int32)) else ((fX1_bits w (th) ).bind fun v2 => (xmbz (if ((1 : Int32) <<< (v2 &&& 31)) ≤ a1 then (0 : Int32) else (1 : Int32))))))
set_option maxHeartbeats 4000000 in
set_option maxRecDepth 100000 in
theorem mX1_hasCode (l : Launch) (D : va_G) (ks : Nat → ClassId) (b : Nat) {w : xmW} {th : (Option Nat)} {a1 : Int32} {y : Int32} (hf : fX1_hasCode w th a1 = some y) : xmM l yX1_hasCode (Cond.code yX1_hasCode cX1_hasCode 2 (some (FieldType.boolean)) :: xmTs) 1 20 0 0 D ks b w [xR th, xI a1] (some (xI y)) w := by
  unfold fX1_hasCode at hf
  obtain ⟨_, _, hf⟩ := xm_bind hf
  refine xmM.of (own := RX1) (lv0 := [(0, xR th), (1, xI a1)]) (by decide) rfl (Nat.le_of_ble_eq_true rfl) rfl ?_
  intro p e s m args below meth c hC hr hnm
  refine xj_iload_n hC dX1_hasCode_0 rfl 1 rfl ?_
  refine xb_if_lt (tgt := 18) hC dX1_hasCode_1 (by decide) hf (fun hf => ?_) (fun hf => ?_)
  · refine xj_iconst (v := 0) hC dX1_hasCode_18 (by decide) ?_
    exact xj_zret hC hr (by decide) (by decide) dX1_hasCode_19 hf rfl
  · refine xj_iload_n hC dX1_hasCode_4 rfl 1 rfl ?_
    refine xj_iconst (v := 1) hC dX1_hasCode_5 (by decide) ?_
    refine xj_aload_n hC dX1_hasCode_6 rfl 0 rfl ?_
    obtain ⟨v2, hc1, hf⟩ := xm_bind hf
    obtain ⟨_, hob, _⟩ := xm_bind hc1
    refine xj_reti (xr_V hC (mX1_bits l D ks b hc1) hob rfl xw_cod_X1_bits xw_ini_X1 xw_ins_X1_bits xw_sel_X1_bits xw_ml_X1_48 xds_X1_bits ⟨Nat.le_of_ble_eq_true rfl, Nat.le_of_ble_eq_true rfl⟩ rfl rfl (Nat.le_of_ble_eq_true rfl) ⟨Nat.le_of_ble_eq_true rfl, Nat.le_of_ble_eq_true rfl⟩ dX1_hasCode_7) ?_
    refine xj_ishl hC dX1_hasCode_10 ?_
    refine xj_dia (cnd := ((1 : Int32) <<< (v2 &&& 31)) ≤ a1) (x := 0) (y := 1) (pc2 := 19) (st2 := []) (fun hc hk => ?_) (fun hc hk => ?_) ?_
    · exact xj_ic_ge (tgt := 18) hC dX1_hasCode_11 (by decide) (fun _ => xj_iconst (v := 0) hC dX1_hasCode_18 (by decide) hk) (fun hn => absurd hc hn)
    · exact xj_ic_ge (tgt := 18) hC dX1_hasCode_11 (by decide) (fun hn => absurd hn hc) (fun _ => xj_iconst (v := 1) hC dX1_hasCode_14 (by decide) (xj_goto (tgt := 19) hC dX1_hasCode_15 (by decide) hk))
    exact xj_zret hC hr (by decide) (by decide) dX1_hasCode_19 hf rfl
def fX1_kindOf (w : xmW) (th : (Option Nat)) (a1 : Int32) : Option Int32 := ((xmob w th 1).bind fun _ => ((fX1_magnitude w (th) (a1)).bind fun v2 => ((fX1_isNone w (th) (a1)).bind fun v4 => (if v4 = 0 then ((fX1_isEndless w (th) (a1)).bind fun v6 => (if v6 = 0 then (if v2 = 0 then (some (0 : Int32)) else ((xmgI w th 1 4).bind fun v7 => (if v7 = 0 then (some (2 : Int32)) else ((xmgI w th 1 2).bind fun v8 => (some (if (v2 >>> (v8 &&& 31)) = 0 then (1 : Int32) else (2 : Int32))))))) else (some (3 : Int32)))) else (some (4 : Int32))))))
set_option maxHeartbeats 4000000 in
set_option maxRecDepth 100000 in
theorem mX1_kindOf (l : Launch) (D : va_G) (ks : Nat → ClassId) (b : Nat) {w : xmW} {th : (Option Nat)} {a1 : Int32} {y : Int32} (hf : fX1_kindOf w th a1 = some y) : xmM l yX1_kindOf (Cond.code yX1_kindOf cX1_kindOf 3 (some (FieldType.int)) :: xmTs) 3 63 0 0 D ks b w [xR th, xI a1] (some (xI y)) w := by
  unfold fX1_kindOf at hf
  obtain ⟨_, _, hf⟩ := xm_bind hf
  refine xmM.of (own := RX1) (lv0 := [(0, xR th), (1, xI a1)]) (by decide) rfl (Nat.le_of_ble_eq_true rfl) rfl ?_
  intro p e s m args below meth c hC hr hnm
  refine xj_aload_n hC dX1_kindOf_0 rfl 0 rfl ?_
  refine xj_iload_n hC dX1_kindOf_1 rfl 1 rfl ?_
  obtain ⟨v2, hc1, hf⟩ := xm_bind hf
  obtain ⟨_, hob, _⟩ := xm_bind hc1
  refine xj_reti (xr_V hC (mX1_magnitude l D ks b hc1) hob rfl xw_cod_X1_magnitude xw_ini_X1 xw_ins_X1_magnitude xw_sel_X1_magnitude xw_ml_X1_51 xds_X1_magnitude ⟨Nat.le_of_ble_eq_true rfl, Nat.le_of_ble_eq_true rfl⟩ rfl rfl (Nat.le_of_ble_eq_true rfl) ⟨Nat.le_of_ble_eq_true rfl, Nat.le_of_ble_eq_true rfl⟩ dX1_kindOf_2) ?_
  refine xj_istore_n (lv' := [(2, xI v2), (0, xR th), (1, xI a1)]) hC dX1_kindOf_5 rfl (by decide) rfl ?_
  refine xj_aload_n hC dX1_kindOf_6 rfl 1 rfl ?_
  refine xj_iload_n hC dX1_kindOf_7 rfl 2 rfl ?_
  obtain ⟨v4, hc3, hf⟩ := xm_bind hf
  obtain ⟨_, hob, _⟩ := xm_bind hc3
  refine xj_reti (xr_V hC (mX1_isNone l D ks b hc3) hob rfl xw_cod_X1_isNone xw_ini_X1 xw_ins_X1_isNone xw_sel_X1_isNone xw_ml_X1_62 xds_X1_isNone ⟨Nat.le_of_ble_eq_true rfl, Nat.le_of_ble_eq_true rfl⟩ rfl rfl (Nat.le_of_ble_eq_true rfl) ⟨Nat.le_of_ble_eq_true rfl, Nat.le_of_ble_eq_true rfl⟩ dX1_kindOf_8) ?_
  refine xb_if_eq (tgt := 16) hC dX1_kindOf_11 (by decide) hf (fun hf => ?_) (fun hf => ?_)
  · refine xj_aload_n hC dX1_kindOf_16 rfl 1 rfl ?_
    refine xj_iload_n hC dX1_kindOf_17 rfl 2 rfl ?_
    obtain ⟨v6, hc5, hf⟩ := xm_bind hf
    obtain ⟨_, hob, _⟩ := xm_bind hc5
    refine xj_reti (xr_V hC (mX1_isEndless l D ks b hc5) hob rfl xw_cod_X1_isEndless xw_ini_X1 xw_ins_X1_isEndless xw_sel_X1_isEndless xw_ml_X1_59 xds_X1_isEndless ⟨Nat.le_of_ble_eq_true rfl, Nat.le_of_ble_eq_true rfl⟩ rfl rfl (Nat.le_of_ble_eq_true rfl) ⟨Nat.le_of_ble_eq_true rfl, Nat.le_of_ble_eq_true rfl⟩ dX1_kindOf_18) ?_
    refine xb_if_eq (tgt := 26) hC dX1_kindOf_21 (by decide) hf (fun hf => ?_) (fun hf => ?_)
    · refine xj_iload_n hC dX1_kindOf_26 rfl 0 rfl ?_
      refine xb_if_ne (tgt := 32) hC dX1_kindOf_27 (by decide) hf (fun hf => ?_) (fun hf => ?_)
      · refine xj_aload_n hC dX1_kindOf_32 rfl 1 rfl ?_
        refine xb_getI hC 1 4 xcl_1 (by decide) xw_fl_X1_24 dX1_kindOf_33 hf (fun v7 hf => ?_)
        refine xb_if_eq (tgt := 52) hC dX1_kindOf_36 (by decide) hf (fun hf => ?_) (fun hf => ?_)
        · refine xj_iconst (v := 2) hC dX1_kindOf_52 (by decide) ?_
          exact xj_iret hC hr (by decide) (by decide) dX1_kindOf_53 (Option.some.inj hf) rfl
        · refine xj_iload_n hC dX1_kindOf_39 rfl 0 rfl ?_
          refine xj_aload_n hC dX1_kindOf_40 rfl 1 rfl ?_
          refine xb_getI hC 1 2 xcl_1 (by decide) xw_fl_X1_18 dX1_kindOf_41 hf (fun v8 hf => ?_)
          refine xj_ishr hC dX1_kindOf_44 ?_
          refine xj_dia (cnd := (v2 >>> (v8 &&& 31)) = 0) (x := 1) (y := 2) (pc2 := 53) (st2 := []) (fun hc hk => ?_) (fun hc hk => ?_) ?_
          · exact xj_if_ne (tgt := 52) hC dX1_kindOf_45 (by decide) (fun hn => absurd hc hn) (fun _ => xj_iconst (v := 1) hC dX1_kindOf_48 (by decide) (xj_goto (tgt := 53) hC dX1_kindOf_49 (by decide) hk))
          · exact xj_if_ne (tgt := 52) hC dX1_kindOf_45 (by decide) (fun _ => xj_iconst (v := 2) hC dX1_kindOf_52 (by decide) hk) (fun hn => absurd hn hc)
          exact xj_iret hC hr (by decide) (by decide) dX1_kindOf_53 (Option.some.inj hf) rfl
      · refine xj_iconst (v := 0) hC dX1_kindOf_30 (by decide) ?_
        exact xj_iret hC hr (by decide) (by decide) dX1_kindOf_31 (Option.some.inj hf) rfl
    · refine xj_iconst (v := 3) hC dX1_kindOf_24 (by decide) ?_
      exact xj_iret hC hr (by decide) (by decide) dX1_kindOf_25 (Option.some.inj hf) rfl
  · refine xj_iconst (v := 4) hC dX1_kindOf_14 (by decide) ?_
    exact xj_iret hC hr (by decide) (by decide) dX1_kindOf_15 (Option.some.inj hf) rfl
def fX1_unitsOf (w : xmW) (th : (Option Nat)) (a1 : Int32) : Option Int64 := ((xmob w th 1).bind fun _ => ((fX1_magnitude w (th) (a1)).bind fun v2 => ((fX1_unitsOfMagnitude w (th) (v2)).bind fun v4 => ((fX1_isMinus w (th) (a1)).bind fun v6 => (if v6 = 0 then (some v4) else (some (-v4)))))))
set_option maxHeartbeats 4000000 in
set_option maxRecDepth 100000 in
theorem mX1_unitsOf (l : Launch) (D : va_G) (ks : Nat → ClassId) (b : Nat) {w : xmW} {th : (Option Nat)} {a1 : Int32} {y : Int64} (hf : fX1_unitsOf w th a1 = some y) : xmM l yX1_unitsOf (Cond.code yX1_unitsOf cX1_unitsOf 4 (some (FieldType.long)) :: xmTs) 1 24 0 0 D ks b w [xR th, xI a1] (some (xL y)) w := by
  unfold fX1_unitsOf at hf
  obtain ⟨_, _, hf⟩ := xm_bind hf
  refine xmM.of (own := RX1) (lv0 := [(0, xR th), (1, xI a1)]) (by decide) rfl (Nat.le_of_ble_eq_true rfl) rfl ?_
  intro p e s m args below meth c hC hr hnm
  refine xj_aload_n hC dX1_unitsOf_0 rfl 0 rfl ?_
  refine xj_aload_n hC dX1_unitsOf_1 rfl 0 rfl ?_
  refine xj_iload_n hC dX1_unitsOf_2 rfl 1 rfl ?_
  obtain ⟨v2, hc1, hf⟩ := xm_bind hf
  obtain ⟨_, hob, _⟩ := xm_bind hc1
  refine xj_reti (xr_V hC (mX1_magnitude l D ks b hc1) hob rfl xw_cod_X1_magnitude xw_ini_X1 xw_ins_X1_magnitude xw_sel_X1_magnitude xw_ml_X1_51 xds_X1_magnitude ⟨Nat.le_of_ble_eq_true rfl, Nat.le_of_ble_eq_true rfl⟩ rfl rfl (Nat.le_of_ble_eq_true rfl) ⟨Nat.le_of_ble_eq_true rfl, Nat.le_of_ble_eq_true rfl⟩ dX1_unitsOf_3) ?_
  obtain ⟨v4, hc3, hf⟩ := xm_bind hf
  obtain ⟨_, hob, _⟩ := xm_bind hc3
  refine xj_retl (xr_V hC (mX1_unitsOfMagnitude l D ks b hc3) hob rfl xw_cod_X1_unitsOfMagnitude xw_ini_X1 xw_ins_X1_unitsOfMagnitude xw_sel_X1_unitsOfMagnitude xw_ml_X1_34 xds_X1_unitsOfMagnitude ⟨Nat.le_of_ble_eq_true rfl, Nat.le_of_ble_eq_true rfl⟩ rfl rfl (Nat.le_of_ble_eq_true rfl) ⟨Nat.le_of_ble_eq_true rfl, Nat.le_of_ble_eq_true rfl⟩ dX1_unitsOf_6) ?_
  refine xj_lstore_n (lv' := [(2, xL v4), (0, xR th), (1, xI a1)]) hC dX1_unitsOf_9 rfl (by decide) rfl ?_
  refine xj_aload_n hC dX1_unitsOf_10 rfl 1 rfl ?_
  refine xj_iload_n hC dX1_unitsOf_11 rfl 2 rfl ?_
  obtain ⟨v6, hc5, hf⟩ := xm_bind hf
  obtain ⟨_, hob, _⟩ := xm_bind hc5
  refine xj_reti (xr_V hC (mX1_isMinus l D ks b hc5) hob rfl xw_cod_X1_isMinus xw_ini_X1 xw_ins_X1_isMinus xw_sel_X1_isMinus xw_ml_X1_67 xds_X1_isMinus ⟨Nat.le_of_ble_eq_true rfl, Nat.le_of_ble_eq_true rfl⟩ rfl rfl (Nat.le_of_ble_eq_true rfl) ⟨Nat.le_of_ble_eq_true rfl, Nat.le_of_ble_eq_true rfl⟩ dX1_unitsOf_12) ?_
  refine xb_if_eq (tgt := 23) hC dX1_unitsOf_15 (by decide) hf (fun hf => ?_) (fun hf => ?_)
  · refine xj_lload_n hC dX1_unitsOf_23 rfl 0 rfl ?_
    exact xj_lret hC hr (by decide) (by decide) dX1_unitsOf_24 (Option.some.inj hf) rfl
  · refine xj_lload_n hC dX1_unitsOf_18 rfl 0 rfl ?_
    refine xj_lneg hC dX1_unitsOf_19 ?_
    refine xj_goto (tgt := 24) hC dX1_unitsOf_20 (by decide) ?_
    exact xj_lret hC hr (by decide) (by decide) dX1_unitsOf_24 (Option.some.inj hf) rfl
def fX1_neighbour_L33 (w : xmW) (p0 : (Option Nat)) (p2 : Int32) (p3 : Int32) (s0 : Int32) : Option Int32 := (if p3 < s0 then (some (-9 : Int32)) else ((xmgI w p0 1 6).bind fun v5 => (if p3 ≤ v5 then (if p3 < 0 then ((fX1_withSign w (p0) ((1 : Int32)) ((if 0 ≤ p3 then p3 else 0 - p3))).bind fun v7 => (some v7)) else (if p3 = 0 then ((fX1_withSign w (p0) ((if p2 = 0 then (0 : Int32) else (1 : Int32))) ((if 0 ≤ p3 then p3 else 0 - p3))).bind fun v11 => (some v11)) else ((fX1_withSign w (p0) ((0 : Int32)) ((if 0 ≤ p3 then p3 else 0 - p3))).bind fun v9 => (some v9)))) else (some (-9 : Int32)))))
set_option maxHeartbeats 4000000 in
set_option maxRecDepth 100000 in
theorem lX1_neighbour_L33 {p : Program} {l : Launch} {e : Env} {s : State} {m : MethodId} {args : Array Value} {below : List Frame} {meth : Method} {c : Code} {D : va_G} {ks : Nat → ClassId} {b : Nat} (hC : xmC p s m args meth c D ks b 6 cX1_neighbour RX1) (hr : meth.sig.returnType = (some (FieldType.int))) {y : Int32} (w : xmW) (p0 : (Option Nat)) (p2 : Int32) (p3 : Int32) (s0 : Int32) (hf : fX1_neighbour_L33 w p0 p2 p3 s0 = some y) : xmJ p l e ({ frames := 2, cells := 0, slots := 0, locals := 42 } : Room) s m args below meth c D ks b 6 (MQ below (xmQ D ks b (some (xI y)) w) args s 0 0 (xmA b)) w 0 0 33 [(0, xR p0), (2, xI p2), (3, xI p3)] [xI s0] := by
  unfold fX1_neighbour_L33 at hf
  refine xj_istore (lv' := [(4, xI s0), (0, xR p0), (2, xI p2), (3, xI p3)]) hC dX1_neighbour_33 (by decide) rfl ?_
  refine xj_iload_n hC dX1_neighbour_35 rfl 3 rfl ?_
  refine xj_iload hC dX1_neighbour_36 0 rfl ?_
  refine xb_ic_lt (tgt := 49) hC dX1_neighbour_38 (by decide) hf (fun hf => ?_) (fun hf => ?_)
  · refine xj_bipush (v := -9) hC dX1_neighbour_49 (by decide) ?_
    exact xj_iret hC hr (by decide) (by decide) dX1_neighbour_51 (Option.some.inj hf) rfl
  · refine xj_iload_n hC dX1_neighbour_41 rfl 3 rfl ?_
    refine xj_aload_n hC dX1_neighbour_42 rfl 1 rfl ?_
    refine xb_getI hC 1 6 xcl_1 (by decide) xw_fl_X1_31 dX1_neighbour_43 hf (fun v5 hf => ?_)
    refine xb_ic_le (tgt := 52) hC dX1_neighbour_46 (by decide) hf (fun hf => ?_) (fun hf => ?_)
    · refine xj_iload_n hC dX1_neighbour_52 rfl 3 rfl ?_
      refine xb_if_lt (tgt := 64) hC dX1_neighbour_53 (by decide) hf (fun hf => ?_) (fun hf => ?_)
      · refine xj_iconst (v := 1) hC dX1_neighbour_64 (by decide) ?_
        refine xj_goto (tgt := 69) hC dX1_neighbour_65 (by decide) ?_
        refine xj_istore (lv' := [(5, xI (1 : Int32)), (4, xI s0), (0, xR p0), (2, xI p2), (3, xI p3)]) hC dX1_neighbour_69 (by decide) rfl ?_
        refine xj_aload_n hC dX1_neighbour_71 rfl 2 rfl ?_
        refine xj_iload hC dX1_neighbour_72 0 rfl ?_
        refine xj_iload_n hC dX1_neighbour_74 rfl 4 rfl ?_
        refine xj_mabs hC xw_ml_X1_82 xw_sta_J9_abs_i xw_ini_J9 xw_cod_J9_abs_i ⟨Nat.le_of_ble_eq_true rfl, Nat.le_of_ble_eq_true rfl⟩ (Nat.le_of_ble_eq_true rfl) (Nat.le_of_ble_eq_true rfl) dX1_neighbour_75 ?_
        obtain ⟨v7, hc6, hf⟩ := xm_bind hf
        obtain ⟨_, hob, _⟩ := xm_bind hc6
        refine xj_reti (xr_V hC (mX1_withSign l D ks b hc6) hob rfl xw_cod_X1_withSign xw_ini_X1 xw_ins_X1_withSign xw_sel_X1_withSign xw_ml_X1_44 xds_X1_withSign ⟨Nat.le_of_ble_eq_true rfl, Nat.le_of_ble_eq_true rfl⟩ rfl rfl (Nat.le_of_ble_eq_true rfl) ⟨Nat.le_of_ble_eq_true rfl, Nat.le_of_ble_eq_true rfl⟩ dX1_neighbour_78) ?_
        exact xj_iret hC hr (by decide) (by decide) dX1_neighbour_81 (Option.some.inj hf) rfl
      · refine xj_iload_n hC dX1_neighbour_56 rfl 3 rfl ?_
        refine xb_if_ne (tgt := 68) hC dX1_neighbour_57 (by decide) hf (fun hf => ?_) (fun hf => ?_)
        · refine xj_iconst (v := 0) hC dX1_neighbour_68 (by decide) ?_
          refine xj_istore (lv' := [(5, xI (0 : Int32)), (4, xI s0), (0, xR p0), (2, xI p2), (3, xI p3)]) hC dX1_neighbour_69 (by decide) rfl ?_
          refine xj_aload_n hC dX1_neighbour_71 rfl 2 rfl ?_
          refine xj_iload hC dX1_neighbour_72 0 rfl ?_
          refine xj_iload_n hC dX1_neighbour_74 rfl 4 rfl ?_
          refine xj_mabs hC xw_ml_X1_82 xw_sta_J9_abs_i xw_ini_J9 xw_cod_J9_abs_i ⟨Nat.le_of_ble_eq_true rfl, Nat.le_of_ble_eq_true rfl⟩ (Nat.le_of_ble_eq_true rfl) (Nat.le_of_ble_eq_true rfl) dX1_neighbour_75 ?_
          obtain ⟨v9, hc8, hf⟩ := xm_bind hf
          obtain ⟨_, hob, _⟩ := xm_bind hc8
          refine xj_reti (xr_V hC (mX1_withSign l D ks b hc8) hob rfl xw_cod_X1_withSign xw_ini_X1 xw_ins_X1_withSign xw_sel_X1_withSign xw_ml_X1_44 xds_X1_withSign ⟨Nat.le_of_ble_eq_true rfl, Nat.le_of_ble_eq_true rfl⟩ rfl rfl (Nat.le_of_ble_eq_true rfl) ⟨Nat.le_of_ble_eq_true rfl, Nat.le_of_ble_eq_true rfl⟩ dX1_neighbour_78) ?_
          exact xj_iret hC hr (by decide) (by decide) dX1_neighbour_81 (Option.some.inj hf) rfl
        · refine xj_iload_n hC dX1_neighbour_60 rfl 2 rfl ?_
          refine xj_dia (cnd := p2 = 0) (x := 0) (y := 1) (pc2 := 69) (st2 := []) (fun hc hk => ?_) (fun hc hk => ?_) ?_
          · exact xj_if_eq (tgt := 68) hC dX1_neighbour_61 (by decide) (fun _ => xj_iconst (v := 0) hC dX1_neighbour_68 (by decide) hk) (fun hn => absurd hc hn)
          · exact xj_if_eq (tgt := 68) hC dX1_neighbour_61 (by decide) (fun hn => absurd hn hc) (fun _ => xj_iconst (v := 1) hC dX1_neighbour_64 (by decide) (xj_goto (tgt := 69) hC dX1_neighbour_65 (by decide) hk))
          refine xj_istore (lv' := [(5, xI (if p2 = 0 then (0 : Int32) else (1 : Int32))), (4, xI s0), (0, xR p0), (2, xI p2), (3, xI p3)]) hC dX1_neighbour_69 (by decide) rfl ?_
          refine xj_aload_n hC dX1_neighbour_71 rfl 2 rfl ?_
          refine xj_iload hC dX1_neighbour_72 0 rfl ?_
          refine xj_iload_n hC dX1_neighbour_74 rfl 4 rfl ?_
          refine xj_mabs hC xw_ml_X1_82 xw_sta_J9_abs_i xw_ini_J9 xw_cod_J9_abs_i ⟨Nat.le_of_ble_eq_true rfl, Nat.le_of_ble_eq_true rfl⟩ (Nat.le_of_ble_eq_true rfl) (Nat.le_of_ble_eq_true rfl) dX1_neighbour_75 ?_
          obtain ⟨v11, hc10, hf⟩ := xm_bind hf
          obtain ⟨_, hob, _⟩ := xm_bind hc10
          refine xj_reti (xr_V hC (mX1_withSign l D ks b hc10) hob rfl xw_cod_X1_withSign xw_ini_X1 xw_ins_X1_withSign xw_sel_X1_withSign xw_ml_X1_44 xds_X1_withSign ⟨Nat.le_of_ble_eq_true rfl, Nat.le_of_ble_eq_true rfl⟩ rfl rfl (Nat.le_of_ble_eq_true rfl) ⟨Nat.le_of_ble_eq_true rfl, Nat.le_of_ble_eq_true rfl⟩ dX1_neighbour_78) ?_
          exact xj_iret hC hr (by decide) (by decide) dX1_neighbour_81 (Option.some.inj hf) rfl
    · refine xj_bipush (v := -9) hC dX1_neighbour_49 (by decide) ?_
      exact xj_iret hC hr (by decide) (by decide) dX1_neighbour_51 (Option.some.inj hf) rfl
def fX1_neighbour (w : xmW) (th : (Option Nat)) (a1 : Int32) (a2 : Int32) : Option Int32 := ((xmob w th 1).bind fun _ => ((fX1_rank w (th) (a1)).bind fun v2 => ((xmgI w th 1 0).bind fun v3 => (if v3 = (1 : Int32) then ((xmgI w th 1 6).bind fun v4 => (fX1_neighbour_L33 w (th) (a2) ((v2 + (if a2 = 0 then (-1 : Int32) else (1 : Int32)))) ((-v4)))) else (fX1_neighbour_L33 w (th) (a2) ((v2 + (if a2 = 0 then (-1 : Int32) else (1 : Int32)))) ((0 : Int32)))))))
set_option maxHeartbeats 4000000 in
set_option maxRecDepth 100000 in
theorem mX1_neighbour (l : Launch) (D : va_G) (ks : Nat → ClassId) (b : Nat) {w : xmW} {th : (Option Nat)} {a1 : Int32} {a2 : Int32} {y : Int32} (hf : fX1_neighbour w th a1 a2 = some y) : xmM l yX1_neighbour (Cond.code yX1_neighbour cX1_neighbour 6 (some (FieldType.int)) :: xmTs) 2 42 0 0 D ks b w [xR th, xI a1, xI a2] (some (xI y)) w := by
  unfold fX1_neighbour at hf
  obtain ⟨_, _, hf⟩ := xm_bind hf
  refine xmM.of (own := RX1) (lv0 := [(0, xR th), (1, xI a1), (2, xI a2)]) (by decide) rfl (Nat.le_of_ble_eq_true rfl) rfl ?_
  intro p e s m args below meth c hC hr hnm
  refine xj_aload_n hC dX1_neighbour_0 rfl 0 rfl ?_
  refine xj_iload_n hC dX1_neighbour_1 rfl 1 rfl ?_
  obtain ⟨v2, hc1, hf⟩ := xm_bind hf
  obtain ⟨_, hob, _⟩ := xm_bind hc1
  refine xj_reti (xr_V hC (mX1_rank l D ks b hc1) hob rfl xw_cod_X1_rank xw_ini_X1 xw_ins_X1_rank xw_sel_X1_rank xw_ml_X1_79 xds_X1_rank ⟨Nat.le_of_ble_eq_true rfl, Nat.le_of_ble_eq_true rfl⟩ rfl rfl (Nat.le_of_ble_eq_true rfl) ⟨Nat.le_of_ble_eq_true rfl, Nat.le_of_ble_eq_true rfl⟩ dX1_neighbour_2) ?_
  refine xj_iload_n hC dX1_neighbour_5 rfl 2 rfl ?_
  refine xj_dia (cnd := a2 = 0) (x := -1) (y := 1) (pc2 := 14) (st2 := [xI v2]) (fun hc hk => ?_) (fun hc hk => ?_) ?_
  · exact xj_if_eq (tgt := 13) hC dX1_neighbour_6 (by decide) (fun _ => xj_iconst (v := -1) hC dX1_neighbour_13 (by decide) hk) (fun hn => absurd hc hn)
  · exact xj_if_eq (tgt := 13) hC dX1_neighbour_6 (by decide) (fun hn => absurd hn hc) (fun _ => xj_iconst (v := 1) hC dX1_neighbour_9 (by decide) (xj_goto (tgt := 14) hC dX1_neighbour_10 (by decide) hk))
  refine xj_iadd hC dX1_neighbour_14 ?_
  refine xj_istore_n (lv' := [(3, xI (v2 + (if a2 = 0 then (-1 : Int32) else (1 : Int32)))), (0, xR th), (1, xI a1), (2, xI a2)]) hC dX1_neighbour_15 rfl (by decide) rfl ?_
  refine xj_aload_n hC dX1_neighbour_16 rfl 1 rfl ?_
  refine xb_getI hC 1 0 xcl_1 (by decide) xw_fl_X1_9 dX1_neighbour_17 hf (fun v3 hf => ?_)
  refine xj_iconst (v := 1) hC dX1_neighbour_20 (by decide) ?_
  refine xb_ic_ne (tgt := 32) hC dX1_neighbour_21 (by decide) hf (fun hf => ?_) (fun hf => ?_)
  · refine xj_iconst (v := 0) hC dX1_neighbour_32 (by decide) ?_
    refine xj_lv [1, 3, 0] rfl ?_
    exact lX1_neighbour_L33 hC hr  w (th) (a2) ((v2 + (if a2 = 0 then (-1 : Int32) else (1 : Int32)))) ((0 : Int32)) hf
  · refine xj_aload_n hC dX1_neighbour_24 rfl 1 rfl ?_
    refine xb_getI hC 1 6 xcl_1 (by decide) xw_fl_X1_31 dX1_neighbour_25 hf (fun v4 hf => ?_)
    refine xj_ineg hC dX1_neighbour_28 ?_
    refine xj_goto (tgt := 33) hC dX1_neighbour_29 (by decide) ?_
    refine xj_lv [1, 3, 0] rfl ?_
    exact lX1_neighbour_L33 hC hr  w (th) (a2) ((v2 + (if a2 = 0 then (-1 : Int32) else (1 : Int32)))) ((-v4)) hf
def fX1_magnitudesUpTo_L15 : Nat → xmW → (Option Nat) → Int64 → Int32 → Int32 → Option Int32
  | 0, _, _, _, _, _ => none
  | n + 1, w, p0, p1, p3, p4 => (if p4 ≤ 0 then (some p3) else ((xmgI w p0 1 6).bind fun v1 => (if (v1 + (1 : Int32)) < (p3 + p4) then (fX1_magnitudesUpTo_L15 n w (p0) (p1) (p3) ((p4 >>> ((1 : Int32) &&& 31))) ) else ((fX1_unitsOfMagnitude w (p0) (((p3 + p4) - (1 : Int32)))).bind fun v3 => (if 0 < (lg_cmp v3 p1) then (fX1_magnitudesUpTo_L15 n w (p0) (p1) (p3) ((p4 >>> ((1 : Int32) &&& 31))) ) else (fX1_magnitudesUpTo_L15 n w (p0) (p1) ((p3 + p4)) ((p4 >>> ((1 : Int32) &&& 31))) ))))))
set_option maxHeartbeats 4000000 in
set_option maxRecDepth 100000 in
theorem lX1_magnitudesUpTo_L15 {p : Program} {l : Launch} {e : Env} {s : State} {m : MethodId} {args : Array Value} {below : List Frame} {meth : Method} {c : Code} {D : va_G} {ks : Nat → ClassId} {b : Nat} (hC : xmC p s m args meth c D ks b 5 cX1_magnitudesUpTo RX1) (hr : meth.sig.returnType = (some (FieldType.int))) {y : Int32} : ∀ (n : Nat) (w : xmW) (p0 : (Option Nat)) (p1 : Int64) (p3 : Int32) (p4 : Int32), fX1_magnitudesUpTo_L15 n w p0 p1 p3 p4 = some y → xmJ p l e ({ frames := 1, cells := 0, slots := 0, locals := 24 } : Room) s m args below meth c D ks b 5 (MQ below (xmQ D ks b (some (xI y)) w) args s 0 0 (xmA b)) w 0 0 15 [(0, xR p0), (1, xL p1), (3, xI p3), (4, xI p4)] [] := by
  intro n
  induction n with
  | zero => intro w p0 p1 p3 p4 hf; simp [fX1_magnitudesUpTo_L15] at hf
  | succ n ih =>
    intro w p0 p1 p3 p4 hf
    rw [fX1_magnitudesUpTo_L15] at hf
    refine xj_iload hC dX1_magnitudesUpTo_15 3 rfl ?_
    refine xb_if_le (tgt := 62) hC dX1_magnitudesUpTo_17 (by decide) hf (fun hf => ?_) (fun hf => ?_)
    · refine xj_iload_n hC dX1_magnitudesUpTo_62 rfl 2 rfl ?_
      exact xj_iret hC hr (by decide) (by decide) dX1_magnitudesUpTo_63 (Option.some.inj hf) rfl
    · refine xj_iload_n hC dX1_magnitudesUpTo_20 rfl 2 rfl ?_
      refine xj_iload hC dX1_magnitudesUpTo_21 3 rfl ?_
      refine xj_iadd hC dX1_magnitudesUpTo_23 ?_
      refine xj_aload_n hC dX1_magnitudesUpTo_24 rfl 0 rfl ?_
      refine xb_getI hC 1 6 xcl_1 (by decide) xw_fl_X1_31 dX1_magnitudesUpTo_25 hf (fun v1 hf => ?_)
      refine xj_iconst (v := 1) hC dX1_magnitudesUpTo_28 (by decide) ?_
      refine xj_iadd hC dX1_magnitudesUpTo_29 ?_
      refine xb_ic_gt (tgt := 53) hC dX1_magnitudesUpTo_30 (by decide) hf (fun hf => ?_) (fun hf => ?_)
      · refine xj_iload hC dX1_magnitudesUpTo_53 3 rfl ?_
        refine xj_iconst (v := 1) hC dX1_magnitudesUpTo_55 (by decide) ?_
        refine xj_ishr hC dX1_magnitudesUpTo_56 ?_
        refine xj_istore (lv' := [(4, xI (p4 >>> ((1 : Int32) &&& 31))), (0, xR p0), (1, xL p1), (3, xI p3)]) hC dX1_magnitudesUpTo_57 (by decide) rfl ?_
        refine xj_goto (tgt := 15) hC dX1_magnitudesUpTo_59 (by decide) ?_
        refine xj_lv [1, 2, 3, 0] rfl ?_
        exact ih w (p0) (p1) (p3) ((p4 >>> ((1 : Int32) &&& 31)))  hf
      · refine xj_aload_n hC dX1_magnitudesUpTo_33 rfl 0 rfl ?_
        refine xj_iload_n hC dX1_magnitudesUpTo_34 rfl 2 rfl ?_
        refine xj_iload hC dX1_magnitudesUpTo_35 3 rfl ?_
        refine xj_iadd hC dX1_magnitudesUpTo_37 ?_
        refine xj_iconst (v := 1) hC dX1_magnitudesUpTo_38 (by decide) ?_
        refine xj_isub hC dX1_magnitudesUpTo_39 ?_
        obtain ⟨v3, hc2, hf⟩ := xm_bind hf
        obtain ⟨_, hob, _⟩ := xm_bind hc2
        refine xj_retl (xr_V hC (mX1_unitsOfMagnitude l D ks b hc2) hob rfl xw_cod_X1_unitsOfMagnitude xw_ini_X1 xw_ins_X1_unitsOfMagnitude xw_sel_X1_unitsOfMagnitude xw_ml_X1_34 xds_X1_unitsOfMagnitude ⟨Nat.le_of_ble_eq_true rfl, Nat.le_of_ble_eq_true rfl⟩ rfl rfl (Nat.le_of_ble_eq_true rfl) ⟨Nat.le_of_ble_eq_true rfl, Nat.le_of_ble_eq_true rfl⟩ dX1_magnitudesUpTo_40) ?_
        refine xj_lload_n hC dX1_magnitudesUpTo_43 rfl 1 rfl ?_
        refine xj_lcmp hC dX1_magnitudesUpTo_44 ?_
        refine xb_if_gt (tgt := 53) hC dX1_magnitudesUpTo_45 (by decide) hf (fun hf => ?_) (fun hf => ?_)
        · refine xj_iload hC dX1_magnitudesUpTo_53 3 rfl ?_
          refine xj_iconst (v := 1) hC dX1_magnitudesUpTo_55 (by decide) ?_
          refine xj_ishr hC dX1_magnitudesUpTo_56 ?_
          refine xj_istore (lv' := [(4, xI (p4 >>> ((1 : Int32) &&& 31))), (0, xR p0), (1, xL p1), (3, xI p3)]) hC dX1_magnitudesUpTo_57 (by decide) rfl ?_
          refine xj_goto (tgt := 15) hC dX1_magnitudesUpTo_59 (by decide) ?_
          refine xj_lv [1, 2, 3, 0] rfl ?_
          exact ih w (p0) (p1) (p3) ((p4 >>> ((1 : Int32) &&& 31)))  hf
        · refine xj_iload_n hC dX1_magnitudesUpTo_48 rfl 2 rfl ?_
          refine xj_iload hC dX1_magnitudesUpTo_49 3 rfl ?_
          refine xj_iadd hC dX1_magnitudesUpTo_51 ?_
          refine xj_istore_n (lv' := [(3, xI (p3 + p4)), (0, xR p0), (1, xL p1), (4, xI p4)]) hC dX1_magnitudesUpTo_52 rfl (by decide) rfl ?_
          refine xj_iload hC dX1_magnitudesUpTo_53 3 rfl ?_
          refine xj_iconst (v := 1) hC dX1_magnitudesUpTo_55 (by decide) ?_
          refine xj_ishr hC dX1_magnitudesUpTo_56 ?_
          refine xj_istore (lv' := [(4, xI (p4 >>> ((1 : Int32) &&& 31))), (3, xI (p3 + p4)), (0, xR p0), (1, xL p1)]) hC dX1_magnitudesUpTo_57 (by decide) rfl ?_
          refine xj_goto (tgt := 15) hC dX1_magnitudesUpTo_59 (by decide) ?_
          refine xj_lv [2, 3, 1, 0] rfl ?_
          exact ih w (p0) (p1) ((p3 + p4)) ((p4 >>> ((1 : Int32) &&& 31)))  hf
def fX1_magnitudesUpTo (w : xmW) (th : (Option Nat)) (a1 : Int64) : Option Int32 := ((xmob w th 1).bind fun _ => (if 0 ≤ (lg_cmp a1 (0 : Int64)) then (fX1_magnitudesUpTo_L15 xmN w (th) (a1) ((1 : Int32)) ((256 : Int32)) ) else (some (0 : Int32))))
set_option maxHeartbeats 4000000 in
set_option maxRecDepth 100000 in
theorem mX1_magnitudesUpTo (l : Launch) (D : va_G) (ks : Nat → ClassId) (b : Nat) {w : xmW} {th : (Option Nat)} {a1 : Int64} {y : Int32} (hf : fX1_magnitudesUpTo w th a1 = some y) : xmM l yX1_magnitudesUpTo (Cond.code yX1_magnitudesUpTo cX1_magnitudesUpTo 5 (some (FieldType.int)) :: xmTs) 1 24 0 0 D ks b w [xR th, xL a1] (some (xI y)) w := by
  unfold fX1_magnitudesUpTo at hf
  obtain ⟨_, _, hf⟩ := xm_bind hf
  refine xmM.of (own := RX1) (lv0 := [(0, xR th), (1, xL a1)]) (by decide) rfl (Nat.le_of_ble_eq_true rfl) rfl ?_
  intro p e s m args below meth c hC hr hnm
  refine xj_lload_n hC dX1_magnitudesUpTo_0 rfl 1 rfl ?_
  refine xj_lconst (v := 0) hC dX1_magnitudesUpTo_1 (by decide) ?_
  refine xj_lcmp hC dX1_magnitudesUpTo_2 ?_
  refine xb_if_ge (tgt := 8) hC dX1_magnitudesUpTo_3 (by decide) hf (fun hf => ?_) (fun hf => ?_)
  · refine xj_iconst (v := 1) hC dX1_magnitudesUpTo_8 (by decide) ?_
    refine xj_istore_n (lv' := [(3, xI (1 : Int32)), (0, xR th), (1, xL a1)]) hC dX1_magnitudesUpTo_9 rfl (by decide) rfl ?_
    refine xj_sipush (v := 256) hC dX1_magnitudesUpTo_10 (by decide) ?_
    refine xj_istore (lv' := [(4, xI (256 : Int32)), (3, xI (1 : Int32)), (0, xR th), (1, xL a1)]) hC dX1_magnitudesUpTo_13 (by decide) rfl ?_
    refine xj_lv [2, 3, 1, 0] rfl ?_
    exact lX1_magnitudesUpTo_L15 hC hr  xmN w (th) (a1) ((1 : Int32)) ((256 : Int32))  hf
  · refine xj_iconst (v := 0) hC dX1_magnitudesUpTo_6 (by decide) ?_
    exact xj_iret hC hr (by decide) (by decide) dX1_magnitudesUpTo_7 (Option.some.inj hf) rfl
def fX1_numbersBetween (w : xmW) (th : (Option Nat)) (a1 : Int64) (a2 : Int64) : Option Int32 := ((xmob w th 1).bind fun _ => (if (lg_cmp (if (if a1 < (1099511627776 : Int64) then a1 else (1099511627776 : Int64)) < (-(1099511627776 : Int64)) then (-(1099511627776 : Int64)) else (if a1 < (1099511627776 : Int64) then a1 else (1099511627776 : Int64))) (if (if a2 < (1099511627776 : Int64) then a2 else (1099511627776 : Int64)) < (-(1099511627776 : Int64)) then (-(1099511627776 : Int64)) else (if a2 < (1099511627776 : Int64) then a2 else (1099511627776 : Int64)))) ≤ 0 then ((fX1_magnitudesUpTo w (th) ((if (if a2 < (1099511627776 : Int64) then a2 else (1099511627776 : Int64)) < (-(1099511627776 : Int64)) then (-(1099511627776 : Int64)) else (if a2 < (1099511627776 : Int64) then a2 else (1099511627776 : Int64))))).bind fun v2 => ((fX1_magnitudesUpTo w (th) (((if (if a1 < (1099511627776 : Int64) then a1 else (1099511627776 : Int64)) < (-(1099511627776 : Int64)) then (-(1099511627776 : Int64)) else (if a1 < (1099511627776 : Int64) then a1 else (1099511627776 : Int64))) - (1 : Int64)))).bind fun v4 => ((fX1_magnitudesUpTo w (th) ((-(if (if a1 < (1099511627776 : Int64) then a1 else (1099511627776 : Int64)) < (-(1099511627776 : Int64)) then (-(1099511627776 : Int64)) else (if a1 < (1099511627776 : Int64) then a1 else (1099511627776 : Int64)))))).bind fun v6 => ((fX1_magnitudesUpTo w (th) (((-(if (if a2 < (1099511627776 : Int64) then a2 else (1099511627776 : Int64)) < (-(1099511627776 : Int64)) then (-(1099511627776 : Int64)) else (if a2 < (1099511627776 : Int64) then a2 else (1099511627776 : Int64)))) - (1 : Int64)))).bind fun v8 => ((xmgI w th 1 0).bind fun v9 => (if v9 = (1 : Int32) then (some ((v2 - v4) + (v6 - v8))) else (some (v2 - v4)))))))) else (some (0 : Int32))))
set_option maxHeartbeats 4000000 in
set_option maxRecDepth 100000 in
theorem mX1_numbersBetween (l : Launch) (D : va_G) (ks : Nat → ClassId) (b : Nat) {w : xmW} {th : (Option Nat)} {a1 : Int64} {a2 : Int64} {y : Int32} (hf : fX1_numbersBetween w th a1 a2 = some y) : xmM l yX1_numbersBetween (Cond.code yX1_numbersBetween cX1_numbersBetween 13 (some (FieldType.int)) :: xmTs) 2 48 0 0 D ks b w [xR th, xL a1, xL a2] (some (xI y)) w := by
  unfold fX1_numbersBetween at hf
  obtain ⟨_, _, hf⟩ := xm_bind hf
  refine xmM.of (own := RX1) (lv0 := [(0, xR th), (1, xL a1), (3, xL a2)]) (by decide) rfl (Nat.le_of_ble_eq_true rfl) rfl ?_
  intro p e s m args below meth c hC hr hnm
  refine xj_ldc2 hC xw_cst_X1_87 dX1_numbersBetween_0 ?_
  refine xj_lstore (lv' := [(5, xL (1099511627776 : Int64)), (0, xR th), (1, xL a1), (3, xL a2)]) hC dX1_numbersBetween_3 (by decide) rfl ?_
  refine xj_lload hC dX1_numbersBetween_5 0 rfl ?_
  refine xj_lneg hC dX1_numbersBetween_7 ?_
  refine xj_lload hC dX1_numbersBetween_8 0 rfl ?_
  refine xj_lload_n hC dX1_numbersBetween_10 rfl 2 rfl ?_
  refine xj_mmin_long hC xw_ml_X1_89 xw_sta_J9_min_l xw_ini_J9 xw_cod_J9_min_l ⟨Nat.le_of_ble_eq_true rfl, Nat.le_of_ble_eq_true rfl⟩ (Nat.le_of_ble_eq_true rfl) (Nat.le_of_ble_eq_true rfl) dX1_numbersBetween_11 ?_
  refine xj_mmax_long hC xw_ml_X1_93 xw_sta_J9_max_l xw_ini_J9 xw_cod_J9_max_l ⟨Nat.le_of_ble_eq_true rfl, Nat.le_of_ble_eq_true rfl⟩ (Nat.le_of_ble_eq_true rfl) (Nat.le_of_ble_eq_true rfl) dX1_numbersBetween_14 ?_
  refine xj_lstore (lv' := [(7, xL (if (if a1 < (1099511627776 : Int64) then a1 else (1099511627776 : Int64)) < (-(1099511627776 : Int64)) then (-(1099511627776 : Int64)) else (if a1 < (1099511627776 : Int64) then a1 else (1099511627776 : Int64)))), (5, xL (1099511627776 : Int64)), (0, xR th), (1, xL a1), (3, xL a2)]) hC dX1_numbersBetween_17 (by decide) rfl ?_
  refine xj_lload hC dX1_numbersBetween_19 1 rfl ?_
  refine xj_lneg hC dX1_numbersBetween_21 ?_
  refine xj_lload hC dX1_numbersBetween_22 1 rfl ?_
  refine xj_lload_n hC dX1_numbersBetween_24 rfl 4 rfl ?_
  refine xj_mmin_long hC xw_ml_X1_89 xw_sta_J9_min_l xw_ini_J9 xw_cod_J9_min_l ⟨Nat.le_of_ble_eq_true rfl, Nat.le_of_ble_eq_true rfl⟩ (Nat.le_of_ble_eq_true rfl) (Nat.le_of_ble_eq_true rfl) dX1_numbersBetween_25 ?_
  refine xj_mmax_long hC xw_ml_X1_93 xw_sta_J9_max_l xw_ini_J9 xw_cod_J9_max_l ⟨Nat.le_of_ble_eq_true rfl, Nat.le_of_ble_eq_true rfl⟩ (Nat.le_of_ble_eq_true rfl) (Nat.le_of_ble_eq_true rfl) dX1_numbersBetween_28 ?_
  refine xj_lstore (lv' := [(9, xL (if (if a2 < (1099511627776 : Int64) then a2 else (1099511627776 : Int64)) < (-(1099511627776 : Int64)) then (-(1099511627776 : Int64)) else (if a2 < (1099511627776 : Int64) then a2 else (1099511627776 : Int64)))), (7, xL (if (if a1 < (1099511627776 : Int64) then a1 else (1099511627776 : Int64)) < (-(1099511627776 : Int64)) then (-(1099511627776 : Int64)) else (if a1 < (1099511627776 : Int64) then a1 else (1099511627776 : Int64)))), (5, xL (1099511627776 : Int64)), (0, xR th), (1, xL a1), (3, xL a2)]) hC dX1_numbersBetween_31 (by decide) rfl ?_
  refine xj_lload hC dX1_numbersBetween_33 1 rfl ?_
  refine xj_lload hC dX1_numbersBetween_35 0 rfl ?_
  refine xj_lcmp hC dX1_numbersBetween_37 ?_
  refine xb_if_le (tgt := 43) hC dX1_numbersBetween_38 (by decide) hf (fun hf => ?_) (fun hf => ?_)
  · refine xj_aload_n hC dX1_numbersBetween_43 rfl 3 rfl ?_
    refine xj_lload hC dX1_numbersBetween_44 0 rfl ?_
    obtain ⟨v2, hc1, hf⟩ := xm_bind hf
    obtain ⟨_, hob, _⟩ := xm_bind hc1
    refine xj_reti (xr_V hC (mX1_magnitudesUpTo l D ks b hc1) hob rfl xw_cod_X1_magnitudesUpTo xw_ini_X1 xw_ins_X1_magnitudesUpTo xw_sel_X1_magnitudesUpTo xw_ml_X1_96 xds_X1_magnitudesUpTo ⟨Nat.le_of_ble_eq_true rfl, Nat.le_of_ble_eq_true rfl⟩ rfl rfl (Nat.le_of_ble_eq_true rfl) ⟨Nat.le_of_ble_eq_true rfl, Nat.le_of_ble_eq_true rfl⟩ dX1_numbersBetween_46) ?_
    refine xj_aload_n hC dX1_numbersBetween_49 rfl 3 rfl ?_
    refine xj_lload hC dX1_numbersBetween_50 1 rfl ?_
    refine xj_lconst (v := 1) hC dX1_numbersBetween_52 (by decide) ?_
    refine xj_lsub hC dX1_numbersBetween_53 ?_
    obtain ⟨v4, hc3, hf⟩ := xm_bind hf
    obtain ⟨_, hob, _⟩ := xm_bind hc3
    refine xj_reti (xr_V hC (mX1_magnitudesUpTo l D ks b hc3) hob rfl xw_cod_X1_magnitudesUpTo xw_ini_X1 xw_ins_X1_magnitudesUpTo xw_sel_X1_magnitudesUpTo xw_ml_X1_96 xds_X1_magnitudesUpTo ⟨Nat.le_of_ble_eq_true rfl, Nat.le_of_ble_eq_true rfl⟩ rfl rfl (Nat.le_of_ble_eq_true rfl) ⟨Nat.le_of_ble_eq_true rfl, Nat.le_of_ble_eq_true rfl⟩ dX1_numbersBetween_54) ?_
    refine xj_isub hC dX1_numbersBetween_57 ?_
    refine xj_istore (lv' := [(11, xI (v2 - v4)), (9, xL (if (if a2 < (1099511627776 : Int64) then a2 else (1099511627776 : Int64)) < (-(1099511627776 : Int64)) then (-(1099511627776 : Int64)) else (if a2 < (1099511627776 : Int64) then a2 else (1099511627776 : Int64)))), (7, xL (if (if a1 < (1099511627776 : Int64) then a1 else (1099511627776 : Int64)) < (-(1099511627776 : Int64)) then (-(1099511627776 : Int64)) else (if a1 < (1099511627776 : Int64) then a1 else (1099511627776 : Int64)))), (5, xL (1099511627776 : Int64)), (0, xR th), (1, xL a1), (3, xL a2)]) hC dX1_numbersBetween_58 (by decide) rfl ?_
    refine xj_aload_n hC dX1_numbersBetween_60 rfl 4 rfl ?_
    refine xj_lload hC dX1_numbersBetween_61 2 rfl ?_
    refine xj_lneg hC dX1_numbersBetween_63 ?_
    obtain ⟨v6, hc5, hf⟩ := xm_bind hf
    obtain ⟨_, hob, _⟩ := xm_bind hc5
    refine xj_reti (xr_V hC (mX1_magnitudesUpTo l D ks b hc5) hob rfl xw_cod_X1_magnitudesUpTo xw_ini_X1 xw_ins_X1_magnitudesUpTo xw_sel_X1_magnitudesUpTo xw_ml_X1_96 xds_X1_magnitudesUpTo ⟨Nat.le_of_ble_eq_true rfl, Nat.le_of_ble_eq_true rfl⟩ rfl rfl (Nat.le_of_ble_eq_true rfl) ⟨Nat.le_of_ble_eq_true rfl, Nat.le_of_ble_eq_true rfl⟩ dX1_numbersBetween_64) ?_
    refine xj_aload_n hC dX1_numbersBetween_67 rfl 4 rfl ?_
    refine xj_lload hC dX1_numbersBetween_68 1 rfl ?_
    refine xj_lneg hC dX1_numbersBetween_70 ?_
    refine xj_lconst (v := 1) hC dX1_numbersBetween_71 (by decide) ?_
    refine xj_lsub hC dX1_numbersBetween_72 ?_
    obtain ⟨v8, hc7, hf⟩ := xm_bind hf
    obtain ⟨_, hob, _⟩ := xm_bind hc7
    refine xj_reti (xr_V hC (mX1_magnitudesUpTo l D ks b hc7) hob rfl xw_cod_X1_magnitudesUpTo xw_ini_X1 xw_ins_X1_magnitudesUpTo xw_sel_X1_magnitudesUpTo xw_ml_X1_96 xds_X1_magnitudesUpTo ⟨Nat.le_of_ble_eq_true rfl, Nat.le_of_ble_eq_true rfl⟩ rfl rfl (Nat.le_of_ble_eq_true rfl) ⟨Nat.le_of_ble_eq_true rfl, Nat.le_of_ble_eq_true rfl⟩ dX1_numbersBetween_73) ?_
    refine xj_isub hC dX1_numbersBetween_76 ?_
    refine xj_istore (lv' := [(12, xI (v6 - v8)), (11, xI (v2 - v4)), (9, xL (if (if a2 < (1099511627776 : Int64) then a2 else (1099511627776 : Int64)) < (-(1099511627776 : Int64)) then (-(1099511627776 : Int64)) else (if a2 < (1099511627776 : Int64) then a2 else (1099511627776 : Int64)))), (7, xL (if (if a1 < (1099511627776 : Int64) then a1 else (1099511627776 : Int64)) < (-(1099511627776 : Int64)) then (-(1099511627776 : Int64)) else (if a1 < (1099511627776 : Int64) then a1 else (1099511627776 : Int64)))), (5, xL (1099511627776 : Int64)), (0, xR th), (1, xL a1), (3, xL a2)]) hC dX1_numbersBetween_77 (by decide) rfl ?_
    refine xj_aload_n hC dX1_numbersBetween_79 rfl 5 rfl ?_
    refine xb_getI hC 1 0 xcl_1 (by decide) xw_fl_X1_9 dX1_numbersBetween_80 hf (fun v9 hf => ?_)
    refine xj_iconst (v := 1) hC dX1_numbersBetween_83 (by decide) ?_
    refine xb_ic_ne (tgt := 95) hC dX1_numbersBetween_84 (by decide) hf (fun hf => ?_) (fun hf => ?_)
    · refine xj_iload hC dX1_numbersBetween_95 1 rfl ?_
      exact xj_iret hC hr (by decide) (by decide) dX1_numbersBetween_97 (Option.some.inj hf) rfl
    · refine xj_iload hC dX1_numbersBetween_87 1 rfl ?_
      refine xj_iload hC dX1_numbersBetween_89 0 rfl ?_
      refine xj_iadd hC dX1_numbersBetween_91 ?_
      refine xj_goto (tgt := 97) hC dX1_numbersBetween_92 (by decide) ?_
      exact xj_iret hC hr (by decide) (by decide) dX1_numbersBetween_97 (Option.some.inj hf) rfl
  · refine xj_iconst (v := 0) hC dX1_numbersBetween_41 (by decide) ?_
    exact xj_iret hC hr (by decide) (by decide) dX1_numbersBetween_42 (Option.some.inj hf) rfl
