def fX3_init (w : xmW) (th : (Option Nat)) : Option xmW := (th.bind fun k4 => ((xmput w th 3 0 (xI (0 : Int32))).bind fun w1 => ((xmput w1 th 3 1 (xI (0 : Int32))).bind fun w2 => ((xmput w2 th 3 2 (xI (0 : Int32))).bind fun w3 => (some w3)))))
set_option maxHeartbeats 4000000 in
set_option maxRecDepth 100000 in
theorem mX3_init (l : Launch) (D : va_G) (ks : Nat → ClassId) (b : Nat) {w : xmW} {th : (Option Nat)} {wz : xmW} (hf : fX3_init w th = some wz) : xmM l yX3_init (Cond.code yX3_init cX3_init 1 none :: xmTs) 1 20 0 0 D ks b w [xR th] none wz := by
  unfold fX3_init at hf
  refine xmM.of (own := RX3) (lv0 := [(0, xR th)]) (by decide) rfl (Nat.le_of_ble_eq_true rfl) rfl ?_
  intro p e s m args below meth c hC hr hnm
  refine xj_aload_n hC dX3_init_0 rfl 0 rfl ?_
  obtain ⟨k4, hkk4, hf⟩ := xm_bind hf
  refine xj_objInit hC hkk4 xw_ml_X3_1 xw_ins_obj xw_cod_obj dX3_init_1 ⟨Nat.le_of_ble_eq_true rfl, Nat.le_of_ble_eq_true rfl⟩ ?_
  refine xj_aload_n hC dX3_init_4 rfl 0 rfl ?_
  refine xj_iconst (v := 0) hC dX3_init_5 (by decide) ?_
  refine xb_put hC 3 0 xcl_3 (by decide) xw_fl_X3_7 rfl (xmfit_i _) dX3_init_6 hf (fun w1 hf => ?_)
  refine xj_aload_n hC dX3_init_9 rfl 0 rfl ?_
  refine xj_iconst (v := 0) hC dX3_init_10 (by decide) ?_
  refine xb_put hC 3 1 xcl_3 (by decide) xw_fl_X3_13 rfl (xmfit_i _) dX3_init_11 hf (fun w2 hf => ?_)
  refine xj_aload_n hC dX3_init_14 rfl 0 rfl ?_
  refine xj_iconst (v := 0) hC dX3_init_15 (by decide) ?_
  refine xb_put hC 3 2 xcl_3 (by decide) xw_fl_X3_16 rfl (xmfit_i _) dX3_init_16 hf (fun w3 hf => ?_)
  exact xj_vret hC hr (by decide) (by decide) dX3_init_19 (Option.some.inj hf)
def fJ13_compare_74951 (w : xmW) (a1 : Int64) (a2 : Int64) : Option Int32 := (if 0 ≤ (lg_cmp a1 a2) then (some (if (lg_cmp a1 a2) = 0 then (0 : Int32) else (1 : Int32))) else (some (-1 : Int32)))
set_option maxHeartbeats 4000000 in
set_option maxRecDepth 100000 in
theorem mJ13_compare_74951 (l : Launch) (D : va_G) (ks : Nat → ClassId) (b : Nat) {w : xmW} {a1 : Int64} {a2 : Int64} {y : Int32} (hf : fJ13_compare_74951 w a1 a2 = some y) : xmM l yJ13_compare_74951 (Cond.code yJ13_compare_74951 cJ13_compare_74951 4 (some (FieldType.int)) :: xmTs) 0 0 0 0 D ks b w [xL a1, xL a2] (some (xI y)) w := by
  unfold fJ13_compare_74951 at hf
  refine xmM.of (own := RJ13) (lv0 := [(0, xL a1), (2, xL a2)]) (by decide) rfl (Nat.le_of_ble_eq_true rfl) rfl ?_
  intro p e s m args below meth c hC hr hnm
  refine xj_lload_n hC dJ13_compare_74951_0 rfl 0 rfl ?_
  refine xj_lload_n hC dJ13_compare_74951_1 rfl 1 rfl ?_
  refine xj_lcmp hC dJ13_compare_74951_2 ?_
  refine xb_if_ge (tgt := 10) hC dJ13_compare_74951_3 (by decide) hf (fun hf => ?_) (fun hf => ?_)
  · refine xj_lload_n hC dJ13_compare_74951_10 rfl 0 rfl ?_
    refine xj_lload_n hC dJ13_compare_74951_11 rfl 1 rfl ?_
    refine xj_lcmp hC dJ13_compare_74951_12 ?_
    refine xj_dia (cnd := (lg_cmp a1 a2) = 0) (x := 0) (y := 1) (pc2 := 21) (st2 := []) (fun hc hk => ?_) (fun hc hk => ?_) ?_
    · exact xj_if_ne (tgt := 20) hC dJ13_compare_74951_13 (by decide) (fun hn => absurd hc hn) (fun _ => xj_iconst (v := 0) hC dJ13_compare_74951_16 (by decide) (xj_goto (tgt := 21) hC dJ13_compare_74951_17 (by decide) hk))
    · exact xj_if_ne (tgt := 20) hC dJ13_compare_74951_13 (by decide) (fun _ => xj_iconst (v := 1) hC dJ13_compare_74951_20 (by decide) hk) (fun hn => absurd hn hc)
    exact xj_iret hC hr (by decide) (by decide) dJ13_compare_74951_21 (Option.some.inj hf) rfl
  · refine xj_iconst (v := -1) hC dJ13_compare_74951_6 (by decide) ?_
    refine xj_goto (tgt := 21) hC dJ13_compare_74951_7 (by decide) ?_
    exact xj_iret hC hr (by decide) (by decide) dJ13_compare_74951_21 (Option.some.inj hf) rfl
def fX3_clear (w : xmW) (th : (Option Nat)) : Option xmW := ((xmob w th 3).bind fun _ => ((xmput w th 3 0 (xI (0 : Int32))).bind fun w1 => ((xmput w1 th 3 1 (xI (0 : Int32))).bind fun w2 => ((xmput w2 th 3 2 (xI (0 : Int32))).bind fun w3 => (some w3)))))
set_option maxHeartbeats 4000000 in
set_option maxRecDepth 100000 in
theorem mX3_clear (l : Launch) (D : va_G) (ks : Nat → ClassId) (b : Nat) {w : xmW} {th : (Option Nat)} {wz : xmW} (hf : fX3_clear w th = some wz) : xmM l yX3_clear (Cond.code yX3_clear cX3_clear 1 none :: xmTs) 0 0 0 0 D ks b w [xR th] none wz := by
  unfold fX3_clear at hf
  obtain ⟨_, _, hf⟩ := xm_bind hf
  refine xmM.of (own := RX3) (lv0 := [(0, xR th)]) (by decide) rfl (Nat.le_of_ble_eq_true rfl) rfl ?_
  intro p e s m args below meth c hC hr hnm
  refine xj_aload_n hC dX3_clear_0 rfl 0 rfl ?_
  refine xj_iconst (v := 0) hC dX3_clear_1 (by decide) ?_
  refine xb_put hC 3 0 xcl_3 (by decide) xw_fl_X3_7 rfl (xmfit_i _) dX3_clear_2 hf (fun w1 hf => ?_)
  refine xj_aload_n hC dX3_clear_5 rfl 0 rfl ?_
  refine xj_iconst (v := 0) hC dX3_clear_6 (by decide) ?_
  refine xb_put hC 3 1 xcl_3 (by decide) xw_fl_X3_13 rfl (xmfit_i _) dX3_clear_7 hf (fun w2 hf => ?_)
  refine xj_aload_n hC dX3_clear_10 rfl 0 rfl ?_
  refine xj_iconst (v := 0) hC dX3_clear_11 (by decide) ?_
  refine xb_put hC 3 2 xcl_3 (by decide) xw_fl_X3_16 rfl (xmfit_i _) dX3_clear_12 hf (fun w3 hf => ?_)
  exact xj_vret hC hr (by decide) (by decide) dX3_clear_15 (Option.some.inj hf)
def fX3_add (w : xmW) (th : (Option Nat)) (a1 : (Option Nat)) : Option xmW := ((xmob w th 3).bind fun _ => ((xmgI w th 3 0).bind fun v1 => ((xmgI w a1 3 0).bind fun v2 => ((xmput w th 3 0 (xI (v1 + v2))).bind fun w3 => ((xmgI w3 th 3 1).bind fun v4 => ((xmgI w3 a1 3 1).bind fun v5 => ((xmput w3 th 3 1 (xI (v4 + v5))).bind fun w6 => ((xmgI w6 th 3 2).bind fun v7 => ((xmgI w6 a1 3 2).bind fun v8 => ((xmput w6 th 3 2 (xI (v7 + v8))).bind fun w9 => (some w9)))))))))))
set_option maxHeartbeats 4000000 in
set_option maxRecDepth 100000 in
theorem mX3_add (l : Launch) (D : va_G) (ks : Nat → ClassId) (b : Nat) {w : xmW} {th : (Option Nat)} {a1 : (Option Nat)} {wz : xmW} (hf : fX3_add w th a1 = some wz) : xmM l yX3_add (Cond.code yX3_add cX3_add 2 none :: xmTs) 0 0 0 0 D ks b w [xR th, xR a1] none wz := by
  unfold fX3_add at hf
  obtain ⟨_, _, hf⟩ := xm_bind hf
  refine xmM.of (own := RX3) (lv0 := [(0, xR th), (1, xR a1)]) (by decide) rfl (Nat.le_of_ble_eq_true rfl) rfl ?_
  intro p e s m args below meth c hC hr hnm
  refine xj_aload_n hC dX3_add_0 rfl 0 rfl ?_
  refine xj_dup hC dX3_add_1 rfl ?_
  refine xb_getI hC 3 0 xcl_3 (by decide) xw_fl_X3_7 dX3_add_2 hf (fun v1 hf => ?_)
  refine xj_aload_n hC dX3_add_5 rfl 1 rfl ?_
  refine xb_getI hC 3 0 xcl_3 (by decide) xw_fl_X3_7 dX3_add_6 hf (fun v2 hf => ?_)
  refine xj_iadd hC dX3_add_9 ?_
  refine xb_put hC 3 0 xcl_3 (by decide) xw_fl_X3_7 rfl (xmfit_i _) dX3_add_10 hf (fun w3 hf => ?_)
  refine xj_aload_n hC dX3_add_13 rfl 0 rfl ?_
  refine xj_dup hC dX3_add_14 rfl ?_
  refine xb_getI hC 3 1 xcl_3 (by decide) xw_fl_X3_13 dX3_add_15 hf (fun v4 hf => ?_)
  refine xj_aload_n hC dX3_add_18 rfl 1 rfl ?_
  refine xb_getI hC 3 1 xcl_3 (by decide) xw_fl_X3_13 dX3_add_19 hf (fun v5 hf => ?_)
  refine xj_iadd hC dX3_add_22 ?_
  refine xb_put hC 3 1 xcl_3 (by decide) xw_fl_X3_13 rfl (xmfit_i _) dX3_add_23 hf (fun w6 hf => ?_)
  refine xj_aload_n hC dX3_add_26 rfl 0 rfl ?_
  refine xj_dup hC dX3_add_27 rfl ?_
  refine xb_getI hC 3 2 xcl_3 (by decide) xw_fl_X3_16 dX3_add_28 hf (fun v7 hf => ?_)
  refine xj_aload_n hC dX3_add_31 rfl 1 rfl ?_
  refine xb_getI hC 3 2 xcl_3 (by decide) xw_fl_X3_16 dX3_add_32 hf (fun v8 hf => ?_)
  refine xj_iadd hC dX3_add_35 ?_
  refine xb_put hC 3 2 xcl_3 (by decide) xw_fl_X3_16 rfl (xmfit_i _) dX3_add_36 hf (fun w9 hf => ?_)
  exact xj_vret hC hr (by decide) (by decide) dX3_add_39 (Option.some.inj hf)
def fJ6_compare_7cf53 (w : xmW) (a1 : Int32) (a2 : Int32) : Option Int32 := (if a2 ≤ a1 then (some (if a1 = a2 then (0 : Int32) else (1 : Int32))) else (some (-1 : Int32)))
set_option maxHeartbeats 4000000 in
set_option maxRecDepth 100000 in
theorem mJ6_compare_7cf53 (l : Launch) (D : va_G) (ks : Nat → ClassId) (b : Nat) {w : xmW} {a1 : Int32} {a2 : Int32} {y : Int32} (hf : fJ6_compare_7cf53 w a1 a2 = some y) : xmM l yJ6_compare_7cf53 (Cond.code yJ6_compare_7cf53 cJ6_compare_7cf53 2 (some (FieldType.int)) :: xmTs) 0 0 0 0 D ks b w [xI a1, xI a2] (some (xI y)) w := by
  unfold fJ6_compare_7cf53 at hf
  refine xmM.of (own := RJ6) (lv0 := [(0, xI a1), (1, xI a2)]) (by decide) rfl (Nat.le_of_ble_eq_true rfl) rfl ?_
  intro p e s m args below meth c hC hr hnm
  refine xj_iload_n hC dJ6_compare_7cf53_0 rfl 0 rfl ?_
  refine xj_iload_n hC dJ6_compare_7cf53_1 rfl 1 rfl ?_
  refine xb_ic_ge (tgt := 9) hC dJ6_compare_7cf53_2 (by decide) hf (fun hf => ?_) (fun hf => ?_)
  · refine xj_iload_n hC dJ6_compare_7cf53_9 rfl 0 rfl ?_
    refine xj_iload_n hC dJ6_compare_7cf53_10 rfl 1 rfl ?_
    refine xj_dia (cnd := a1 = a2) (x := 0) (y := 1) (pc2 := 19) (st2 := []) (fun hc hk => ?_) (fun hc hk => ?_) ?_
    · exact xj_ic_ne (tgt := 18) hC dJ6_compare_7cf53_11 (by decide) (fun hn => absurd hc hn) (fun _ => xj_iconst (v := 0) hC dJ6_compare_7cf53_14 (by decide) (xj_goto (tgt := 19) hC dJ6_compare_7cf53_15 (by decide) hk))
    · exact xj_ic_ne (tgt := 18) hC dJ6_compare_7cf53_11 (by decide) (fun _ => xj_iconst (v := 1) hC dJ6_compare_7cf53_18 (by decide) hk) (fun hn => absurd hn hc)
    exact xj_iret hC hr (by decide) (by decide) dJ6_compare_7cf53_19 (Option.some.inj hf) rfl
  · refine xj_iconst (v := -1) hC dJ6_compare_7cf53_5 (by decide) ?_
    refine xj_goto (tgt := 19) hC dJ6_compare_7cf53_6 (by decide) ?_
    exact xj_iret hC hr (by decide) (by decide) dJ6_compare_7cf53_19 (Option.some.inj hf) rfl
