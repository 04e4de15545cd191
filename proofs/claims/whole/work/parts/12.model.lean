def fX5_init (w : xmW) (th : (Option Nat)) : Option xmW := (th.bind fun k27 => ((xmnai w 0 10).bind fun w1 => ((xmput w1 th 5 1 (xR (some w.length))).bind fun w2 => ((xmnai w2 0 10).bind fun w3 => ((xmput w3 th 5 2 (xR (some w2.length))).bind fun w4 => ((xmnai w4 0 10).bind fun w5 => ((xmput w5 th 5 3 (xR (some w4.length))).bind fun w6 => ((xmnai w6 0 10).bind fun w7 => ((xmput w7 th 5 4 (xR (some w6.length))).bind fun w8 => ((xmnai w8 1 10).bind fun w9 => ((xmput w9 th 5 5 (xR (some w8.length))).bind fun w10 => ((xmnai w10 0 10).bind fun w11 => ((xmput w11 th 5 6 (xR (some w10.length))).bind fun w12 => ((xmnai w12 0 4).bind fun w13 => ((xmist w13 (some w12.length) 0 (0 : Int32) (-1 : Int32)).bind fun w14 => ((xmist w14 (some w12.length) 0 (1 : Int32) (-1 : Int32)).bind fun w15 => ((xmist w15 (some w12.length) 0 (2 : Int32) (-1 : Int32)).bind fun w16 => ((xmist w16 (some w12.length) 0 (3 : Int32) (-1 : Int32)).bind fun w17 => ((xmput w17 th 5 7 (xR (some w12.length))).bind fun w18 => ((xmnai w18 0 4).bind fun w19 => ((xmput w19 th 5 8 (xR (some w18.length))).bind fun w20 => ((xmnai w20 0 64).bind fun w21 => ((xmput w21 th 5 9 (xR (some w20.length))).bind fun w22 => ((xmput w22 th 5 11 (xI (-1 : Int32))).bind fun w23 => ((xmnai w23 0 16).bind fun w24 => ((xmput w24 th 5 25 (xR (some w23.length))).bind fun w25 => ((xmput w25 th 5 0 (xI (0 : Int32))).bind fun w26 => (some w26))))))))))))))))))))))))))))
set_option maxHeartbeats 4000000 in
set_option maxRecDepth 100000 in
theorem mX5_init (l : Launch) (D : va_G) (ks : Nat → ClassId) (b : Nat) {w : xmW} {th : (Option Nat)} {wz : xmW} (hf : fX5_init w th = some wz) : xmM l yX5_init (Cond.code yX5_init cX5_init 1 none :: xmTs) 1 20 10 148 D ks b w [xR th] none wz := by
  unfold fX5_init at hf
  refine xmM.of (own := RX5) (lv0 := [(0, xR th)]) (by decide) rfl (Nat.le_of_ble_eq_true rfl) rfl ?_
  intro p e s m args below meth c hC hr hnm
  refine xj_aload_n hC dX5_init_0 rfl 0 rfl ?_
  obtain ⟨k27, hkk27, hf⟩ := xm_bind hf
  refine xj_objInit hC hkk27 xw_ml_X5_1 xw_ins_obj xw_cod_obj dX5_init_1 ⟨Nat.le_of_ble_eq_true rfl, Nat.le_of_ble_eq_true rfl⟩ ?_
  refine xj_aload_n hC dX5_init_4 rfl 0 rfl ?_
  refine xj_bipush (v := 10) hC dX5_init_5 (by decide) ?_
  refine xb_newarr hC (N := 10) 0 (by decide) xw_arr_int (by decide) (by decide) (by decide) (by decide) (by decide) dX5_init_7 hf (fun w1 hf => ?_)
  refine xb_putF hC 5 1 xcl_5 (by decide) xw_fl_X5_7 rfl hnm rfl (xmfit_a _ _) dX5_init_9 hf (fun w2 hf => ?_)
  refine xj_aload_n hC dX5_init_12 rfl 0 rfl ?_
  refine xj_bipush (v := 10) hC dX5_init_13 (by decide) ?_
  refine xb_newarr hC (N := 10) 0 (by decide) xw_arr_int (by decide) (by decide) (by decide) (by decide) (by decide) dX5_init_15 hf (fun w3 hf => ?_)
  refine xb_putF hC 5 2 xcl_5 (by decide) xw_fl_X5_13 rfl hnm rfl (xmfit_a _ _) dX5_init_17 hf (fun w4 hf => ?_)
  refine xj_aload_n hC dX5_init_20 rfl 0 rfl ?_
  refine xj_bipush (v := 10) hC dX5_init_21 (by decide) ?_
  refine xb_newarr hC (N := 10) 0 (by decide) xw_arr_int (by decide) (by decide) (by decide) (by decide) (by decide) dX5_init_23 hf (fun w5 hf => ?_)
  refine xb_putF hC 5 3 xcl_5 (by decide) xw_fl_X5_16 rfl hnm rfl (xmfit_a _ _) dX5_init_25 hf (fun w6 hf => ?_)
  refine xj_aload_n hC dX5_init_28 rfl 0 rfl ?_
  refine xj_bipush (v := 10) hC dX5_init_29 (by decide) ?_
  refine xb_newarr hC (N := 10) 0 (by decide) xw_arr_int (by decide) (by decide) (by decide) (by decide) (by decide) dX5_init_31 hf (fun w7 hf => ?_)
  refine xb_putF hC 5 4 xcl_5 (by decide) xw_fl_X5_19 rfl hnm rfl (xmfit_a _ _) dX5_init_33 hf (fun w8 hf => ?_)
  refine xj_aload_n hC dX5_init_36 rfl 0 rfl ?_
  refine xj_bipush (v := 10) hC dX5_init_37 (by decide) ?_
  refine xb_newarr hC (N := 10) 1 (by decide) xw_arr_boolean (by decide) (by decide) (by decide) (by decide) (by decide) dX5_init_39 hf (fun w9 hf => ?_)
  refine xb_putF hC 5 5 xcl_5 (by decide) xw_fl_X5_22 rfl hnm rfl (xmfit_a _ _) dX5_init_41 hf (fun w10 hf => ?_)
  refine xj_aload_n hC dX5_init_44 rfl 0 rfl ?_
  refine xj_bipush (v := 10) hC dX5_init_45 (by decide) ?_
  refine xb_newarr hC (N := 10) 0 (by decide) xw_arr_int (by decide) (by decide) (by decide) (by decide) (by decide) dX5_init_47 hf (fun w11 hf => ?_)
  refine xb_putF hC 5 6 xcl_5 (by decide) xw_fl_X5_26 rfl hnm rfl (xmfit_a _ _) dX5_init_49 hf (fun w12 hf => ?_)
  refine xj_aload_n hC dX5_init_52 rfl 0 rfl ?_
  refine xj_iconst (v := 4) hC dX5_init_53 (by decide) ?_
  refine xb_newarr hC (N := 4) 0 (by decide) xw_arr_int (by decide) (by decide) (by decide) (by decide) (by decide) dX5_init_54 hf (fun w13 hf => ?_)
  refine xj_dup hC dX5_init_56 rfl ?_
  refine xj_iconst (v := 0) hC dX5_init_57 (by decide) ?_
  refine xj_iconst (v := -1) hC dX5_init_58 (by decide) ?_
  refine xb_iast hC dX5_init_59 hf (fun w14 hf => ?_)
  refine xj_dup hC dX5_init_60 rfl ?_
  refine xj_iconst (v := 1) hC dX5_init_61 (by decide) ?_
  refine xj_iconst (v := -1) hC dX5_init_62 (by decide) ?_
  refine xb_iast hC dX5_init_63 hf (fun w15 hf => ?_)
  refine xj_dup hC dX5_init_64 rfl ?_
  refine xj_iconst (v := 2) hC dX5_init_65 (by decide) ?_
  refine xj_iconst (v := -1) hC dX5_init_66 (by decide) ?_
  refine xb_iast hC dX5_init_67 hf (fun w16 hf => ?_)
  refine xj_dup hC dX5_init_68 rfl ?_
  refine xj_iconst (v := 3) hC dX5_init_69 (by decide) ?_
  refine xj_iconst (v := -1) hC dX5_init_70 (by decide) ?_
  refine xb_iast hC dX5_init_71 hf (fun w17 hf => ?_)
  refine xb_putF hC 5 7 xcl_5 (by decide) xw_fl_X5_29 rfl hnm rfl (xmfit_a _ _) dX5_init_72 hf (fun w18 hf => ?_)
  refine xj_aload_n hC dX5_init_75 rfl 0 rfl ?_
  refine xj_iconst (v := 4) hC dX5_init_76 (by decide) ?_
  refine xb_newarr hC (N := 4) 0 (by decide) xw_arr_int (by decide) (by decide) (by decide) (by decide) (by decide) dX5_init_77 hf (fun w19 hf => ?_)
  refine xb_putF hC 5 8 xcl_5 (by decide) xw_fl_X5_32 rfl hnm rfl (xmfit_a _ _) dX5_init_79 hf (fun w20 hf => ?_)
  refine xj_aload_n hC dX5_init_82 rfl 0 rfl ?_
  refine xj_bipush (v := 64) hC dX5_init_83 (by decide) ?_
  refine xb_newarr hC (N := 64) 0 (by decide) xw_arr_int (by decide) (by decide) (by decide) (by decide) (by decide) dX5_init_85 hf (fun w21 hf => ?_)
  refine xb_putF hC 5 9 xcl_5 (by decide) xw_fl_X5_35 rfl hnm rfl (xmfit_a _ _) dX5_init_87 hf (fun w22 hf => ?_)
  refine xj_aload_n hC dX5_init_90 rfl 0 rfl ?_
  refine xj_iconst (v := -1) hC dX5_init_91 (by decide) ?_
  refine xb_put hC 5 11 xcl_5 (by decide) xw_fl_X5_38 rfl (xmfit_i _) dX5_init_92 hf (fun w23 hf => ?_)
  refine xj_aload_n hC dX5_init_95 rfl 0 rfl ?_
  refine xj_bipush (v := 16) hC dX5_init_96 (by decide) ?_
  refine xb_newarr hC (N := 16) 0 (by decide) xw_arr_int (by decide) (by decide) (by decide) (by decide) (by decide) dX5_init_98 hf (fun w24 hf => ?_)
  refine xb_putF hC 5 25 xcl_5 (by decide) xw_fl_X5_42 rfl hnm rfl (xmfit_a _ _) dX5_init_100 hf (fun w25 hf => ?_)
  refine xj_aload_n hC dX5_init_103 rfl 0 rfl ?_
  refine xj_iconst (v := 0) hC dX5_init_104 (by decide) ?_
  refine xb_put hC 5 0 xcl_5 (by decide) xw_fl_X5_45 rfl (xmfit_i _) dX5_init_105 hf (fun w26 hf => ?_)
  exact xj_vret hC hr (by decide) (by decide) dX5_init_108 (Option.some.inj hf)
def fX5_in (w : xmW) (a1 : Int64) (a2 : Int64) (a3 : Int64) : Option Int32 := (if (lg_cmp a1 a2) < 0 then (xmbz (0 : Int32)) else (xmbz (if 0 < (lg_cmp a1 a3) then (0 : Int32) else (1 : Int32))))
set_option maxHeartbeats 4000000 in
set_option maxRecDepth 100000 in
theorem mX5_in (l : Launch) (D : va_G) (ks : Nat → ClassId) (b : Nat) {w : xmW} {a1 : Int64} {a2 : Int64} {a3 : Int64} {y : Int32} (hf : fX5_in w a1 a2 a3 = some y) : xmM l yX5_in (Cond.code yX5_in cX5_in 6 (some (FieldType.boolean)) :: xmTs) 0 0 0 0 D ks b w [xL a1, xL a2, xL a3] (some (xI y)) w := by
  unfold fX5_in at hf
  refine xmM.of (own := RX5) (lv0 := [(0, xL a1), (2, xL a2), (4, xL a3)]) (by decide) rfl (Nat.le_of_ble_eq_true rfl) rfl ?_
  intro p e s m args below meth c hC hr hnm
  refine xj_lload_n hC dX5_in_0 rfl 0 rfl ?_
  refine xj_lload_n hC dX5_in_1 rfl 1 rfl ?_
  refine xj_lcmp hC dX5_in_2 ?_
  refine xb_if_lt (tgt := 17) hC dX5_in_3 (by decide) hf (fun hf => ?_) (fun hf => ?_)
  · refine xj_iconst (v := 0) hC dX5_in_17 (by decide) ?_
    exact xj_zret hC hr (by decide) (by decide) dX5_in_18 hf rfl
  · refine xj_lload_n hC dX5_in_6 rfl 0 rfl ?_
    refine xj_lload hC dX5_in_7 2 rfl ?_
    refine xj_lcmp hC dX5_in_9 ?_
    refine xj_dia (cnd := 0 < (lg_cmp a1 a3)) (x := 0) (y := 1) (pc2 := 18) (st2 := []) (fun hc hk => ?_) (fun hc hk => ?_) ?_
    · exact xj_if_gt (tgt := 17) hC dX5_in_10 (by decide) (fun _ => xj_iconst (v := 0) hC dX5_in_17 (by decide) hk) (fun hn => absurd hc hn)
    · exact xj_if_gt (tgt := 17) hC dX5_in_10 (by decide) (fun hn => absurd hn hc) (fun _ => xj_iconst (v := 1) hC dX5_in_13 (by decide) (xj_goto (tgt := 18) hC dX5_in_14 (by decide) hk))
    exact xj_zret hC hr (by decide) (by decide) dX5_in_18 hf rfl
def fX5_refused (w : xmW) (th : (Option Nat)) (a1 : Int32) : Option (Int32 × xmW) := ((xmob w th 5).bind fun _ => ((xmput w th 5 17 (xI a1)).bind fun w1 => (some (a1, w1))))
set_option maxHeartbeats 4000000 in
set_option maxRecDepth 100000 in
theorem mX5_refused (l : Launch) (D : va_G) (ks : Nat → ClassId) (b : Nat) {w : xmW} {th : (Option Nat)} {a1 : Int32} {y : Int32} {wz : xmW} (hf : fX5_refused w th a1 = some (y, wz)) : xmM l yX5_refused (Cond.code yX5_refused cX5_refused 2 (some (FieldType.int)) :: xmTs) 0 0 0 0 D ks b w [xR th, xI a1] (some (xI y)) wz := by
  unfold fX5_refused at hf
  obtain ⟨_, _, hf⟩ := xm_bind hf
  refine xmM.of (own := RX5) (lv0 := [(0, xR th), (1, xI a1)]) (by decide) rfl (Nat.le_of_ble_eq_true rfl) rfl ?_
  intro p e s m args below meth c hC hr hnm
  refine xj_aload_n hC dX5_refused_0 rfl 0 rfl ?_
  refine xj_iload_n hC dX5_refused_1 rfl 1 rfl ?_
  refine xb_put hC 5 17 xcl_5 (by decide) xw_fl_X5_48 rfl (xmfit_i _) dX5_refused_2 hf (fun w1 hf => ?_)
  refine xj_iload_n hC dX5_refused_5 rfl 1 rfl ?_
  obtain ⟨he, hw⟩ := Prod.mk.inj (Option.some.inj hf)
  exact xj_iret hC hr (by decide) (by decide) dX5_refused_6 he hw
def fX5_fine (w : xmW) (th : (Option Nat)) (a1 : Int32) : Option (Int32 × xmW) := ((xmob w th 5).bind fun _ => ((xmput w th 5 17 (xI (0 : Int32))).bind fun w1 => (some (a1, w1))))
set_option maxHeartbeats 4000000 in
set_option maxRecDepth 100000 in
theorem mX5_fine (l : Launch) (D : va_G) (ks : Nat → ClassId) (b : Nat) {w : xmW} {th : (Option Nat)} {a1 : Int32} {y : Int32} {wz : xmW} (hf : fX5_fine w th a1 = some (y, wz)) : xmM l yX5_fine (Cond.code yX5_fine cX5_fine 2 (some (FieldType.int)) :: xmTs) 0 0 0 0 D ks b w [xR th, xI a1] (some (xI y)) wz := by
  unfold fX5_fine at hf
  obtain ⟨_, _, hf⟩ := xm_bind hf
  refine xmM.of (own := RX5) (lv0 := [(0, xR th), (1, xI a1)]) (by decide) rfl (Nat.le_of_ble_eq_true rfl) rfl ?_
  intro p e s m args below meth c hC hr hnm
  refine xj_aload_n hC dX5_fine_0 rfl 0 rfl ?_
  refine xj_iconst (v := 0) hC dX5_fine_1 (by decide) ?_
  refine xb_put hC 5 17 xcl_5 (by decide) xw_fl_X5_48 rfl (xmfit_i _) dX5_fine_2 hf (fun w1 hf => ?_)
  refine xj_iload_n hC dX5_fine_5 rfl 1 rfl ?_
  obtain ⟨he, hw⟩ := Prod.mk.inj (Option.some.inj hf)
  exact xj_iret hC hr (by decide) (by decide) dX5_fine_6 he hw
def fX5_begins (w : xmW) (th : (Option Nat)) : Option xmW := ((xmob w th 5).bind fun _ => ((xmput w th 5 18 (xI (0 : Int32))).bind fun w1 => ((xmput w1 th 5 19 (xI (0 : Int32))).bind fun w2 => (some w2))))
set_option maxHeartbeats 4000000 in
set_option maxRecDepth 100000 in
theorem mX5_begins (l : Launch) (D : va_G) (ks : Nat → ClassId) (b : Nat) {w : xmW} {th : (Option Nat)} {wz : xmW} (hf : fX5_begins w th = some wz) : xmM l yX5_begins (Cond.code yX5_begins cX5_begins 1 none :: xmTs) 0 0 0 0 D ks b w [xR th] none wz := by
  unfold fX5_begins at hf
  obtain ⟨_, _, hf⟩ := xm_bind hf
  refine xmM.of (own := RX5) (lv0 := [(0, xR th)]) (by decide) rfl (Nat.le_of_ble_eq_true rfl) rfl ?_
  intro p e s m args below meth c hC hr hnm
  refine xj_aload_n hC dX5_begins_0 rfl 0 rfl ?_
  refine xj_iconst (v := 0) hC dX5_begins_1 (by decide) ?_
  refine xb_put hC 5 18 xcl_5 (by decide) xw_fl_X5_51 rfl (xmfit_i _) dX5_begins_2 hf (fun w1 hf => ?_)
  refine xj_aload_n hC dX5_begins_5 rfl 0 rfl ?_
  refine xj_iconst (v := 0) hC dX5_begins_6 (by decide) ?_
  refine xb_put hC 5 19 xcl_5 (by decide) xw_fl_X5_54 rfl (xmfit_i _) dX5_begins_7 hf (fun w2 hf => ?_)
  exact xj_vret hC hr (by decide) (by decide) dX5_begins_10 (Option.some.inj hf)
def fX5_ends (w : xmW) (th : (Option Nat)) (a1 : Int32) : Option (Int32 × xmW) := ((xmob w th 5).bind fun _ => (if 0 ≤ a1 then ((xmgI w th 5 14).bind fun v1 => ((xmgI w th 5 18).bind fun v2 => ((xmput w th 5 14 (xI (v1 + v2))).bind fun w3 => ((xmgI w3 th 5 15).bind fun v4 => ((xmgI w3 th 5 19).bind fun v5 => ((xmput w3 th 5 15 (xI (v4 + v5))).bind fun w6 => (xmb2 (fX5_fine w6 (th) (a1)) fun v8 w9 => (some (v8, w9))))))))) else (xmb2 (fX5_refused w (th) (a1)) fun v11 w12 => (some (v11, w12)))))
set_option maxHeartbeats 4000000 in
set_option maxRecDepth 100000 in
theorem mX5_ends (l : Launch) (D : va_G) (ks : Nat → ClassId) (b : Nat) {w : xmW} {th : (Option Nat)} {a1 : Int32} {y : Int32} {wz : xmW} (hf : fX5_ends w th a1 = some (y, wz)) : xmM l yX5_ends (Cond.code yX5_ends cX5_ends 2 (some (FieldType.int)) :: xmTs) 1 21 0 0 D ks b w [xR th, xI a1] (some (xI y)) wz := by
  unfold fX5_ends at hf
  obtain ⟨_, _, hf⟩ := xm_bind hf
  refine xmM.of (own := RX5) (lv0 := [(0, xR th), (1, xI a1)]) (by decide) rfl (Nat.le_of_ble_eq_true rfl) rfl ?_
  intro p e s m args below meth c hC hr hnm
  refine xj_iload_n hC dX5_ends_0 rfl 1 rfl ?_
  refine xb_if_ge (tgt := 10) hC dX5_ends_1 (by decide) hf (fun hf => ?_) (fun hf => ?_)
  · refine xj_aload_n hC dX5_ends_10 rfl 0 rfl ?_
    refine xj_dup hC dX5_ends_11 rfl ?_
    refine xb_getI hC 5 14 xcl_5 (by decide) xw_fl_X5_61 dX5_ends_12 hf (fun v1 hf => ?_)
    refine xj_aload_n hC dX5_ends_15 rfl 0 rfl ?_
    refine xb_getI hC 5 18 xcl_5 (by decide) xw_fl_X5_51 dX5_ends_16 hf (fun v2 hf => ?_)
    refine xj_iadd hC dX5_ends_19 ?_
    refine xb_put hC 5 14 xcl_5 (by decide) xw_fl_X5_61 rfl (xmfit_i _) dX5_ends_20 hf (fun w3 hf => ?_)
    refine xj_aload_n hC dX5_ends_23 rfl 0 rfl ?_
    refine xj_dup hC dX5_ends_24 rfl ?_
    refine xb_getI hC 5 15 xcl_5 (by decide) xw_fl_X5_64 dX5_ends_25 hf (fun v4 hf => ?_)
    refine xj_aload_n hC dX5_ends_28 rfl 0 rfl ?_
    refine xb_getI hC 5 19 xcl_5 (by decide) xw_fl_X5_54 dX5_ends_29 hf (fun v5 hf => ?_)
    refine xj_iadd hC dX5_ends_32 ?_
    refine xb_put hC 5 15 xcl_5 (by decide) xw_fl_X5_64 rfl (xmfit_i _) dX5_ends_33 hf (fun w6 hf => ?_)
    refine xj_aload_n hC dX5_ends_36 rfl 0 rfl ?_
    refine xj_iload_n hC dX5_ends_37 rfl 1 rfl ?_
    obtain ⟨v8, w9, hc7, hf⟩ := xm_b2 hf
    obtain ⟨_, hob, _⟩ := xm_bind hc7
    refine xj_reti (xr_V hC (mX5_fine l D ks b hc7) hob rfl xw_cod_X5_fine xw_ini_X5 xw_ins_X5_fine xw_sel_X5_fine xw_ml_X5_67 xds_X5_fine ⟨Nat.le_of_ble_eq_true rfl, Nat.le_of_ble_eq_true rfl⟩ rfl rfl (Nat.le_of_ble_eq_true rfl) ⟨Nat.le_of_ble_eq_true rfl, Nat.le_of_ble_eq_true rfl⟩ dX5_ends_38) ?_
    obtain ⟨he, hw⟩ := Prod.mk.inj (Option.some.inj hf)
    exact xj_iret hC hr (by decide) (by decide) dX5_ends_41 he hw
  · refine xj_aload_n hC dX5_ends_4 rfl 0 rfl ?_
    refine xj_iload_n hC dX5_ends_5 rfl 1 rfl ?_
    obtain ⟨v11, w12, hc10, hf⟩ := xm_b2 hf
    obtain ⟨_, hob, _⟩ := xm_bind hc10
    refine xj_reti (xr_V hC (mX5_refused l D ks b hc10) hob rfl xw_cod_X5_refused xw_ini_X5 xw_ins_X5_refused xw_sel_X5_refused xw_ml_X5_57 xds_X5_refused ⟨Nat.le_of_ble_eq_true rfl, Nat.le_of_ble_eq_true rfl⟩ rfl rfl (Nat.le_of_ble_eq_true rfl) ⟨Nat.le_of_ble_eq_true rfl, Nat.le_of_ble_eq_true rfl⟩ dX5_ends_6) ?_
    obtain ⟨he, hw⟩ := Prod.mk.inj (Option.some.inj hf)
    exact xj_iret hC hr (by decide) (by decide) dX5_ends_9 he hw
def fX5_isFormat (w : xmW) (th : (Option Nat)) (a1 : Int32) : Option Int32 := ((xmob w th 5).bind fun _ => ((xmgI w th 5 0).bind fun v1 => ((fX5_in w ((a1).toInt64) ((0 : Int64)) (((v1 - (1 : Int32))).toInt64)).bind fun v3 => (xmbz v3))))
set_option maxHeartbeats 4000000 in
set_option maxRecDepth 100000 in
theorem mX5_isFormat (l : Launch) (D : va_G) (ks : Nat → ClassId) (b : Nat) {w : xmW} {th : (Option Nat)} {a1 : Int32} {y : Int32} (hf : fX5_isFormat w th a1 = some y) : xmM l yX5_isFormat (Cond.code yX5_isFormat cX5_isFormat 2 (some (FieldType.boolean)) :: xmTs) 1 25 0 0 D ks b w [xR th, xI a1] (some (xI y)) w := by
  unfold fX5_isFormat at hf
  obtain ⟨_, _, hf⟩ := xm_bind hf
  refine xmM.of (own := RX5) (lv0 := [(0, xR th), (1, xI a1)]) (by decide) rfl (Nat.le_of_ble_eq_true rfl) rfl ?_
  intro p e s m args below meth c hC hr hnm
  refine xj_iload_n hC dX5_isFormat_0 rfl 1 rfl ?_
  refine xj_i2l hC dX5_isFormat_1 ?_
  refine xj_lconst (v := 0) hC dX5_isFormat_2 (by decide) ?_
  refine xj_aload_n hC dX5_isFormat_3 rfl 0 rfl ?_
  refine xb_getI hC 5 0 xcl_5 (by decide) xw_fl_X5_45 dX5_isFormat_4 hf (fun v1 hf => ?_)
  refine xj_iconst (v := 1) hC dX5_isFormat_7 (by decide) ?_
  refine xj_isub hC dX5_isFormat_8 ?_
  refine xj_i2l hC dX5_isFormat_9 ?_
  obtain ⟨v3, hc2, hf⟩ := xm_bind hf
  refine xj_reti (xr_S hC (mX5_in l D ks b hc2) xw_cod_X5_in xw_ini_X5 xw_sta_X5_in xw_ml_X5_70 xds_X5_in ⟨Nat.le_of_ble_eq_true rfl, Nat.le_of_ble_eq_true rfl⟩ rfl rfl (Nat.le_of_ble_eq_true rfl) ⟨Nat.le_of_ble_eq_true rfl, Nat.le_of_ble_eq_true rfl⟩ dX5_isFormat_10) ?_
  exact xj_zret hC hr (by decide) (by decide) dX5_isFormat_13 hf rfl
def fX5_bits (w : xmW) (th : (Option Nat)) (a1 : Int32) : Option Int32 := ((xmob w th 5).bind fun _ => ((xmgR w th 5 1).bind fun v1 => ((xmild w v1 0 a1).bind fun v2 => ((xmgR w th 5 2).bind fun v3 => ((xmild w v3 0 a1).bind fun v4 => ((xmgR w th 5 3).bind fun v5 => ((xmild w v5 0 a1).bind fun v6 => (some ((v2 + v4) + v6)))))))))
set_option maxHeartbeats 4000000 in
set_option maxRecDepth 100000 in
theorem mX5_bits (l : Launch) (D : va_G) (ks : Nat → ClassId) (b : Nat) {w : xmW} {th : (Option Nat)} {a1 : Int32} {y : Int32} (hf : fX5_bits w th a1 = some y) : xmM l yX5_bits (Cond.code yX5_bits cX5_bits 2 (some (FieldType.int)) :: xmTs) 0 0 0 0 D ks b w [xR th, xI a1] (some (xI y)) w := by
  unfold fX5_bits at hf
  obtain ⟨_, _, hf⟩ := xm_bind hf
  refine xmM.of (own := RX5) (lv0 := [(0, xR th), (1, xI a1)]) (by decide) rfl (Nat.le_of_ble_eq_true rfl) rfl ?_
  intro p e s m args below meth c hC hr hnm
  refine xj_aload_n hC dX5_bits_0 rfl 0 rfl ?_
  refine xb_getR hC 5 1 xcl_5 (by decide) xw_fl_X5_7 dX5_bits_1 hf (fun v1 hf => ?_)
  refine xj_iload_n hC dX5_bits_4 rfl 1 rfl ?_
  refine xb_iald hC dX5_bits_5 hf (fun v2 hf => ?_)
  refine xj_aload_n hC dX5_bits_6 rfl 0 rfl ?_
  refine xb_getR hC 5 2 xcl_5 (by decide) xw_fl_X5_13 dX5_bits_7 hf (fun v3 hf => ?_)
  refine xj_iload_n hC dX5_bits_10 rfl 1 rfl ?_
  refine xb_iald hC dX5_bits_11 hf (fun v4 hf => ?_)
  refine xj_iadd hC dX5_bits_12 ?_
  refine xj_aload_n hC dX5_bits_13 rfl 0 rfl ?_
  refine xb_getR hC 5 3 xcl_5 (by decide) xw_fl_X5_16 dX5_bits_14 hf (fun v5 hf => ?_)
  refine xj_iload_n hC dX5_bits_17 rfl 1 rfl ?_
  refine xb_iald hC dX5_bits_18 hf (fun v6 hf => ?_)
  refine xj_iadd hC dX5_bits_19 ?_
  exact xj_iret hC hr (by decide) (by decide) dX5_bits_20 (Option.some.inj hf) rfl
def fX5_isCode (w : xmW) (th : (Option Nat)) (a1 : Int32) (a2 : Int32) : Option Int32 := ((xmob w th 5).bind fun _ => ((fX5_bits w (th) (a1)).bind fun v2 => ((fX5_in w ((a2).toInt64) ((0 : Int64)) (((((1 : Int32) <<< (v2 &&& 31)) - (1 : Int32))).toInt64)).bind fun v4 => (xmbz v4))))
set_option maxHeartbeats 4000000 in
set_option maxRecDepth 100000 in
theorem mX5_isCode (l : Launch) (D : va_G) (ks : Nat → ClassId) (b : Nat) {w : xmW} {th : (Option Nat)} {a1 : Int32} {a2 : Int32} {y : Int32} (hf : fX5_isCode w th a1 a2 = some y) : xmM l yX5_isCode (Cond.code yX5_isCode cX5_isCode 3 (some (FieldType.boolean)) :: xmTs) 1 25 0 0 D ks b w [xR th, xI a1, xI a2] (some (xI y)) w := by
  unfold fX5_isCode at hf
  obtain ⟨_, _, hf⟩ := xm_bind hf
  refine xmM.of (own := RX5) (lv0 := [(0, xR th), (1, xI a1), (2, xI a2)]) (by decide) rfl (Nat.le_of_ble_eq_true rfl) rfl ?_
  intro p e s m args below meth c hC hr hnm
  refine xj_iload_n hC dX5_isCode_0 rfl 2 rfl ?_
  refine xj_i2l hC dX5_isCode_1 ?_
  refine xj_lconst (v := 0) hC dX5_isCode_2 (by decide) ?_
  refine xj_iconst (v := 1) hC dX5_isCode_3 (by decide) ?_
  refine xj_aload_n hC dX5_isCode_4 rfl 0 rfl ?_
  refine xj_iload_n hC dX5_isCode_5 rfl 1 rfl ?_
  obtain ⟨v2, hc1, hf⟩ := xm_bind hf
  obtain ⟨_, hob, _⟩ := xm_bind hc1
  refine xj_reti (xr_V hC (mX5_bits l D ks b hc1) hob rfl xw_cod_X5_bits xw_ini_X5 xw_ins_X5_bits xw_sel_X5_bits xw_ml_X5_74 xds_X5_bits ⟨Nat.le_of_ble_eq_true rfl, Nat.le_of_ble_eq_true rfl⟩ rfl rfl (Nat.le_of_ble_eq_true rfl) ⟨Nat.le_of_ble_eq_true rfl, Nat.le_of_ble_eq_true rfl⟩ dX5_isCode_6) ?_
  refine xj_ishl hC dX5_isCode_9 ?_
  refine xj_iconst (v := 1) hC dX5_isCode_10 (by decide) ?_
  refine xj_isub hC dX5_isCode_11 ?_
  refine xj_i2l hC dX5_isCode_12 ?_
  obtain ⟨v4, hc3, hf⟩ := xm_bind hf
  refine xj_reti (xr_S hC (mX5_in l D ks b hc3) xw_cod_X5_in xw_ini_X5 xw_sta_X5_in xw_ml_X5_70 xds_X5_in ⟨Nat.le_of_ble_eq_true rfl, Nat.le_of_ble_eq_true rfl⟩ rfl rfl (Nat.le_of_ble_eq_true rfl) ⟨Nat.le_of_ble_eq_true rfl, Nat.le_of_ble_eq_true rfl⟩ dX5_isCode_13) ?_
  exact xj_zret hC hr (by decide) (by decide) dX5_isCode_16 hf rfl
def fX5_signBit (w : xmW) (th : (Option Nat)) (a1 : Int32) : Option Int32 := ((xmob w th 5).bind fun _ => ((xmgR w th 5 2).bind fun v1 => ((xmild w v1 0 a1).bind fun v2 => ((xmgR w th 5 3).bind fun v3 => ((xmild w v3 0 a1).bind fun v4 => (some ((1 : Int32) <<< ((v2 + v4) &&& 31))))))))
set_option maxHeartbeats 4000000 in
set_option maxRecDepth 100000 in
theorem mX5_signBit (l : Launch) (D : va_G) (ks : Nat → ClassId) (b : Nat) {w : xmW} {th : (Option Nat)} {a1 : Int32} {y : Int32} (hf : fX5_signBit w th a1 = some y) : xmM l yX5_signBit (Cond.code yX5_signBit cX5_signBit 2 (some (FieldType.int)) :: xmTs) 0 0 0 0 D ks b w [xR th, xI a1] (some (xI y)) w := by
  unfold fX5_signBit at hf
  obtain ⟨_, _, hf⟩ := xm_bind hf
  refine xmM.of (own := RX5) (lv0 := [(0, xR th), (1, xI a1)]) (by decide) rfl (Nat.le_of_ble_eq_true rfl) rfl ?_
  intro p e s m args below meth c hC hr hnm
  refine xj_iconst (v := 1) hC dX5_signBit_0 (by decide) ?_
  refine xj_aload_n hC dX5_signBit_1 rfl 0 rfl ?_
  refine xb_getR hC 5 2 xcl_5 (by decide) xw_fl_X5_13 dX5_signBit_2 hf (fun v1 hf => ?_)
  refine xj_iload_n hC dX5_signBit_5 rfl 1 rfl ?_
  refine xb_iald hC dX5_signBit_6 hf (fun v2 hf => ?_)
  refine xj_aload_n hC dX5_signBit_7 rfl 0 rfl ?_
  refine xb_getR hC 5 3 xcl_5 (by decide) xw_fl_X5_16 dX5_signBit_8 hf (fun v3 hf => ?_)
  refine xj_iload_n hC dX5_signBit_11 rfl 1 rfl ?_
  refine xb_iald hC dX5_signBit_12 hf (fun v4 hf => ?_)
  refine xj_iadd hC dX5_signBit_13 ?_
  refine xj_ishl hC dX5_signBit_14 ?_
  exact xj_iret hC hr (by decide) (by decide) dX5_signBit_15 (Option.some.inj hf) rfl
def fX5_isMinus (w : xmW) (th : (Option Nat)) (a1 : Int32) (a2 : Int32) : Option Int32 := ((xmob w th 5).bind fun _ => ((xmgR w th 5 1).bind fun v1 => ((xmild w v1 0 a1).bind fun v2 => (if v2 = (1 : Int32) then ((fX5_signBit w (th) (a1)).bind fun v4 => (xmbz (if (a2 &&& v4) = 0 then (0 : Int32) else (1 : Int32)))) else (xmbz (0 : Int32))))))
set_option maxHeartbeats 4000000 in
set_option maxRecDepth 100000 in
theorem mX5_isMinus (l : Launch) (D : va_G) (ks : Nat → ClassId) (b : Nat) {w : xmW} {th : (Option Nat)} {a1 : Int32} {a2 : Int32} {y : Int32} (hf : fX5_isMinus w th a1 a2 = some y) : xmM l yX5_isMinus (Cond.code yX5_isMinus cX5_isMinus 3 (some (FieldType.boolean)) :: xmTs) 1 21 0 0 D ks b w [xR th, xI a1, xI a2] (some (xI y)) w := by
  unfold fX5_isMinus at hf
  obtain ⟨_, _, hf⟩ := xm_bind hf
  refine xmM.of (own := RX5) (lv0 := [(0, xR th), (1, xI a1), (2, xI a2)]) (by decide) rfl (Nat.le_of_ble_eq_true rfl) rfl ?_
  intro p e s m args below meth c hC hr hnm
  refine xj_aload_n hC dX5_isMinus_0 rfl 0 rfl ?_
  refine xb_getR hC 5 1 xcl_5 (by decide) xw_fl_X5_7 dX5_isMinus_1 hf (fun v1 hf => ?_)
  refine xj_iload_n hC dX5_isMinus_4 rfl 1 rfl ?_
  refine xb_iald hC dX5_isMinus_5 hf (fun v2 hf => ?_)
  refine xj_iconst (v := 1) hC dX5_isMinus_6 (by decide) ?_
  refine xb_ic_ne (tgt := 24) hC dX5_isMinus_7 (by decide) hf (fun hf => ?_) (fun hf => ?_)
  · refine xj_iconst (v := 0) hC dX5_isMinus_24 (by decide) ?_
    exact xj_zret hC hr (by decide) (by decide) dX5_isMinus_25 hf rfl
  · refine xj_iload_n hC dX5_isMinus_10 rfl 2 rfl ?_
    refine xj_aload_n hC dX5_isMinus_11 rfl 0 rfl ?_
    refine xj_iload_n hC dX5_isMinus_12 rfl 1 rfl ?_
    obtain ⟨v4, hc3, hf⟩ := xm_bind hf
    obtain ⟨_, hob, _⟩ := xm_bind hc3
    refine xj_reti (xr_V hC (mX5_signBit l D ks b hc3) hob rfl xw_cod_X5_signBit xw_ini_X5 xw_ins_X5_signBit xw_sel_X5_signBit xw_ml_X5_77 xds_X5_signBit ⟨Nat.le_of_ble_eq_true rfl, Nat.le_of_ble_eq_true rfl⟩ rfl rfl (Nat.le_of_ble_eq_true rfl) ⟨Nat.le_of_ble_eq_true rfl, Nat.le_of_ble_eq_true rfl⟩ dX5_isMinus_13) ?_
    refine xj_iand hC dX5_isMinus_16 ?_
    refine xj_dia (cnd := (a2 &&& v4) = 0) (x := 0) (y := 1) (pc2 := 25) (st2 := []) (fun hc hk => ?_) (fun hc hk => ?_) ?_
    · exact xj_if_eq (tgt := 24) hC dX5_isMinus_17 (by decide) (fun _ => xj_iconst (v := 0) hC dX5_isMinus_24 (by decide) hk) (fun hn => absurd hc hn)
    · exact xj_if_eq (tgt := 24) hC dX5_isMinus_17 (by decide) (fun hn => absurd hn hc) (fun _ => xj_iconst (v := 1) hC dX5_isMinus_20 (by decide) (xj_goto (tgt := 25) hC dX5_isMinus_21 (by decide) hk))
    exact xj_zret hC hr (by decide) (by decide) dX5_isMinus_25 hf rfl
def fX5_plain (w : xmW) (th : (Option Nat)) (a1 : Int32) (a2 : Int32) : Option Int32 := ((xmob w th 5).bind fun _ => ((fX5_signBit w (th) (a1)).bind fun v2 => (some (a2 &&& (v2 - (1 : Int32))))))
set_option maxHeartbeats 4000000 in
set_option maxRecDepth 100000 in
theorem mX5_plain (l : Launch) (D : va_G) (ks : Nat → ClassId) (b : Nat) {w : xmW} {th : (Option Nat)} {a1 : Int32} {a2 : Int32} {y : Int32} (hf : fX5_plain w th a1 a2 = some y) : xmM l yX5_plain (Cond.code yX5_plain cX5_plain 3 (some (FieldType.int)) :: xmTs) 1 21 0 0 D ks b w [xR th, xI a1, xI a2] (some (xI y)) w := by
  unfold fX5_plain at hf
  obtain ⟨_, _, hf⟩ := xm_bind hf
  refine xmM.of (own := RX5) (lv0 := [(0, xR th), (1, xI a1), (2, xI a2)]) (by decide) rfl (Nat.le_of_ble_eq_true rfl) rfl ?_
  intro p e s m args below meth c hC hr hnm
  refine xj_iload_n hC dX5_plain_0 rfl 2 rfl ?_
  refine xj_aload_n hC dX5_plain_1 rfl 0 rfl ?_
  refine xj_iload_n hC dX5_plain_2 rfl 1 rfl ?_
  obtain ⟨v2, hc1, hf⟩ := xm_bind hf
  obtain ⟨_, hob, _⟩ := xm_bind hc1
  refine xj_reti (xr_V hC (mX5_signBit l D ks b hc1) hob rfl xw_cod_X5_signBit xw_ini_X5 xw_ins_X5_signBit xw_sel_X5_signBit xw_ml_X5_77 xds_X5_signBit ⟨Nat.le_of_ble_eq_true rfl, Nat.le_of_ble_eq_true rfl⟩ rfl rfl (Nat.le_of_ble_eq_true rfl) ⟨Nat.le_of_ble_eq_true rfl, Nat.le_of_ble_eq_true rfl⟩ dX5_plain_3) ?_
  refine xj_iconst (v := 1) hC dX5_plain_6 (by decide) ?_
  refine xj_isub hC dX5_plain_7 ?_
  refine xj_iand hC dX5_plain_8 ?_
  exact xj_iret hC hr (by decide) (by decide) dX5_plain_9 (Option.some.inj hf) rfl
def fX5_signed (w : xmW) (th : (Option Nat)) (a1 : Int32) (a2 : Int32) (a3 : Int32) : Option Int32 := ((xmob w th 5).bind fun _ => ((xmgR w th 5 1).bind fun v1 => ((xmild w v1 0 a1).bind fun v2 => (if v2 = (1 : Int32) then (if a3 = 0 then (some a2) else ((fX5_signBit w (th) (a1)).bind fun v4 => (some (a2 ||| v4)))) else (some a2)))))
set_option maxHeartbeats 4000000 in
set_option maxRecDepth 100000 in
theorem mX5_signed (l : Launch) (D : va_G) (ks : Nat → ClassId) (b : Nat) {w : xmW} {th : (Option Nat)} {a1 : Int32} {a2 : Int32} {a3 : Int32} {y : Int32} (hf : fX5_signed w th a1 a2 a3 = some y) : xmM l yX5_signed (Cond.code yX5_signed cX5_signed 4 (some (FieldType.int)) :: xmTs) 1 21 0 0 D ks b w [xR th, xI a1, xI a2, xI a3] (some (xI y)) w := by
  unfold fX5_signed at hf
  obtain ⟨_, _, hf⟩ := xm_bind hf
  refine xmM.of (own := RX5) (lv0 := [(0, xR th), (1, xI a1), (2, xI a2), (3, xI a3)]) (by decide) rfl (Nat.le_of_ble_eq_true rfl) rfl ?_
  intro p e s m args below meth c hC hr hnm
  refine xj_aload_n hC dX5_signed_0 rfl 0 rfl ?_
  refine xb_getR hC 5 1 xcl_5 (by decide) xw_fl_X5_7 dX5_signed_1 hf (fun v1 hf => ?_)
  refine xj_iload_n hC dX5_signed_4 rfl 1 rfl ?_
  refine xb_iald hC dX5_signed_5 hf (fun v2 hf => ?_)
  refine xj_iconst (v := 1) hC dX5_signed_6 (by decide) ?_
  refine xb_ic_ne (tgt := 24) hC dX5_signed_7 (by decide) hf (fun hf => ?_) (fun hf => ?_)
  · refine xj_iload_n hC dX5_signed_24 rfl 2 rfl ?_
    exact xj_iret hC hr (by decide) (by decide) dX5_signed_25 (Option.some.inj hf) rfl
  · refine xj_iload_n hC dX5_signed_10 rfl 3 rfl ?_
    refine xb_if_eq (tgt := 24) hC dX5_signed_11 (by decide) hf (fun hf => ?_) (fun hf => ?_)
    · refine xj_iload_n hC dX5_signed_24 rfl 2 rfl ?_
      exact xj_iret hC hr (by decide) (by decide) dX5_signed_25 (Option.some.inj hf) rfl
    · refine xj_iload_n hC dX5_signed_14 rfl 2 rfl ?_
      refine xj_aload_n hC dX5_signed_15 rfl 0 rfl ?_
      refine xj_iload_n hC dX5_signed_16 rfl 1 rfl ?_
      obtain ⟨v4, hc3, hf⟩ := xm_bind hf
      obtain ⟨_, hob, _⟩ := xm_bind hc3
      refine xj_reti (xr_V hC (mX5_signBit l D ks b hc3) hob rfl xw_cod_X5_signBit xw_ini_X5 xw_ins_X5_signBit xw_sel_X5_signBit xw_ml_X5_77 xds_X5_signBit ⟨Nat.le_of_ble_eq_true rfl, Nat.le_of_ble_eq_true rfl⟩ rfl rfl (Nat.le_of_ble_eq_true rfl) ⟨Nat.le_of_ble_eq_true rfl, Nat.le_of_ble_eq_true rfl⟩ dX5_signed_17) ?_
      refine xj_ior hC dX5_signed_20 ?_
      refine xj_goto (tgt := 25) hC dX5_signed_21 (by decide) ?_
      exact xj_iret hC hr (by decide) (by decide) dX5_signed_25 (Option.some.inj hf) rfl
def fX5_allOnes (w : xmW) (th : (Option Nat)) (a1 : Int32) : Option Int32 := ((xmob w th 5).bind fun _ => ((xmgR w th 5 2).bind fun v1 => ((xmild w v1 0 a1).bind fun v2 => (some (((1 : Int32) <<< (v2 &&& 31)) - (1 : Int32))))))
set_option maxHeartbeats 4000000 in
set_option maxRecDepth 100000 in
theorem mX5_allOnes (l : Launch) (D : va_G) (ks : Nat → ClassId) (b : Nat) {w : xmW} {th : (Option Nat)} {a1 : Int32} {y : Int32} (hf : fX5_allOnes w th a1 = some y) : xmM l yX5_allOnes (Cond.code yX5_allOnes cX5_allOnes 2 (some (FieldType.int)) :: xmTs) 0 0 0 0 D ks b w [xR th, xI a1] (some (xI y)) w := by
  unfold fX5_allOnes at hf
  obtain ⟨_, _, hf⟩ := xm_bind hf
  refine xmM.of (own := RX5) (lv0 := [(0, xR th), (1, xI a1)]) (by decide) rfl (Nat.le_of_ble_eq_true rfl) rfl ?_
  intro p e s m args below meth c hC hr hnm
  refine xj_iconst (v := 1) hC dX5_allOnes_0 (by decide) ?_
  refine xj_aload_n hC dX5_allOnes_1 rfl 0 rfl ?_
  refine xb_getR hC 5 2 xcl_5 (by decide) xw_fl_X5_13 dX5_allOnes_2 hf (fun v1 hf => ?_)
  refine xj_iload_n hC dX5_allOnes_5 rfl 1 rfl ?_
  refine xb_iald hC dX5_allOnes_6 hf (fun v2 hf => ?_)
  refine xj_ishl hC dX5_allOnes_7 ?_
  refine xj_iconst (v := 1) hC dX5_allOnes_8 (by decide) ?_
  refine xj_isub hC dX5_allOnes_9 ?_
  exact xj_iret hC hr (by decide) (by decide) dX5_allOnes_10 (Option.some.inj hf) rfl
def fX5_kindOf_L85 (w : xmW) (p0 : (Option Nat)) (p1 : Int32) (p2 : Int32) (p3 : Int32) : Option Int32 := ((fX5_plain w (p0) (p1) (p2)).bind fun v18 => (if v18 = 0 then (some (0 : Int32)) else (if p3 = 0 then ((xmgR w p0 5 5).bind fun v19 => ((xmild w v19 1 p1).bind fun v20 => (some (if v20 = 0 then (2 : Int32) else (1 : Int32))))) else (some (2 : Int32)))))
set_option maxHeartbeats 4000000 in
set_option maxRecDepth 100000 in
theorem lX5_kindOf_L85 {p : Program} {l : Launch} {e : Env} {s : State} {m : MethodId} {args : Array Value} {below : List Frame} {meth : Method} {c : Code} {D : va_G} {ks : Nat → ClassId} {b : Nat} (hC : xmC p s m args meth c D ks b 5 cX5_kindOf RX5) (hr : meth.sig.returnType = (some (FieldType.int))) {y : Int32} (w : xmW) (p0 : (Option Nat)) (p1 : Int32) (p2 : Int32) (p3 : Int32) (hf : fX5_kindOf_L85 w p0 p1 p2 p3 = some y) : xmJ p l e ({ frames := 2, cells := 0, slots := 0, locals := 43 } : Room) s m args below meth c D ks b 5 (MQ below (xmQ D ks b (some (xI y)) w) args s 0 0 (xmA b)) w 0 0 85 [(0, xR p0), (1, xI p1), (2, xI p2), (3, xI p3)] [] := by
  unfold fX5_kindOf_L85 at hf
  refine xj_aload_n hC dX5_kindOf_85 rfl 0 rfl ?_
  refine xj_iload_n hC dX5_kindOf_86 rfl 1 rfl ?_
  refine xj_iload_n hC dX5_kindOf_87 rfl 2 rfl ?_
  obtain ⟨v18, hc17, hf⟩ := xm_bind hf
  obtain ⟨_, hob, _⟩ := xm_bind hc17
  refine xj_reti (xr_V hC (mX5_plain l D ks b hc17) hob rfl xw_cod_X5_plain xw_ini_X5 xw_ins_X5_plain xw_sel_X5_plain xw_ml_X5_80 xds_X5_plain ⟨Nat.le_of_ble_eq_true rfl, Nat.le_of_ble_eq_true rfl⟩ rfl rfl (Nat.le_of_ble_eq_true rfl) ⟨Nat.le_of_ble_eq_true rfl, Nat.le_of_ble_eq_true rfl⟩ dX5_kindOf_88) ?_
  refine xb_if_ne (tgt := 96) hC dX5_kindOf_91 (by decide) hf (fun hf => ?_) (fun hf => ?_)
  · refine xj_iload_n hC dX5_kindOf_96 rfl 3 rfl ?_
    refine xb_if_ne (tgt := 113) hC dX5_kindOf_97 (by decide) hf (fun hf => ?_) (fun hf => ?_)
    · refine xj_iconst (v := 2) hC dX5_kindOf_113 (by decide) ?_
      exact xj_iret hC hr (by decide) (by decide) dX5_kindOf_114 (Option.some.inj hf) rfl
    · refine xj_aload_n hC dX5_kindOf_100 rfl 0 rfl ?_
      refine xb_getR hC 5 5 xcl_5 (by decide) xw_fl_X5_22 dX5_kindOf_101 hf (fun v19 hf => ?_)
      refine xj_iload_n hC dX5_kindOf_104 rfl 1 rfl ?_
      refine xb_zald hC dX5_kindOf_105 hf (fun v20 hf => ?_)
      refine xj_dia (cnd := v20 = 0) (x := 2) (y := 1) (pc2 := 114) (st2 := []) (fun hc hk => ?_) (fun hc hk => ?_) ?_
      · exact xj_if_eq (tgt := 113) hC dX5_kindOf_106 (by decide) (fun _ => xj_iconst (v := 2) hC dX5_kindOf_113 (by decide) hk) (fun hn => absurd hc hn)
      · exact xj_if_eq (tgt := 113) hC dX5_kindOf_106 (by decide) (fun hn => absurd hn hc) (fun _ => xj_iconst (v := 1) hC dX5_kindOf_109 (by decide) (xj_goto (tgt := 114) hC dX5_kindOf_110 (by decide) hk))
      exact xj_iret hC hr (by decide) (by decide) dX5_kindOf_114 (Option.some.inj hf) rfl
  · refine xj_iconst (v := 0) hC dX5_kindOf_94 (by decide) ?_
    exact xj_iret hC hr (by decide) (by decide) dX5_kindOf_95 (Option.some.inj hf) rfl
def fX5_kindOf_L57 (w : xmW) (p0 : (Option Nat)) (p1 : Int32) (p2 : Int32) (p3 : Int32) : Option Int32 := ((xmgR w p0 5 6).bind fun v11 => ((xmild w v11 0 p1).bind fun v12 => (if v12 = (1 : Int32) then ((fX5_plain w (p0) (p1) (p2)).bind fun v14 => ((fX5_signBit w (p0) (p1)).bind fun v16 => (if v14 = (v16 - (1 : Int32)) then (some (4 : Int32)) else (fX5_kindOf_L85 w (p0) (p1) (p2) (p3) )))) else (fX5_kindOf_L85 w (p0) (p1) (p2) (p3) ))))
set_option maxHeartbeats 4000000 in
set_option maxRecDepth 100000 in
theorem lX5_kindOf_L57 {p : Program} {l : Launch} {e : Env} {s : State} {m : MethodId} {args : Array Value} {below : List Frame} {meth : Method} {c : Code} {D : va_G} {ks : Nat → ClassId} {b : Nat} (hC : xmC p s m args meth c D ks b 5 cX5_kindOf RX5) (hr : meth.sig.returnType = (some (FieldType.int))) {y : Int32} (w : xmW) (p0 : (Option Nat)) (p1 : Int32) (p2 : Int32) (p3 : Int32) (hf : fX5_kindOf_L57 w p0 p1 p2 p3 = some y) : xmJ p l e ({ frames := 2, cells := 0, slots := 0, locals := 43 } : Room) s m args below meth c D ks b 5 (MQ below (xmQ D ks b (some (xI y)) w) args s 0 0 (xmA b)) w 0 0 57 [(0, xR p0), (1, xI p1), (2, xI p2), (3, xI p3)] [] := by
  unfold fX5_kindOf_L57 at hf
  refine xj_aload_n hC dX5_kindOf_57 rfl 0 rfl ?_
  refine xb_getR hC 5 6 xcl_5 (by decide) xw_fl_X5_26 dX5_kindOf_58 hf (fun v11 hf => ?_)
  refine xj_iload_n hC dX5_kindOf_61 rfl 1 rfl ?_
  refine xb_iald hC dX5_kindOf_62 hf (fun v12 hf => ?_)
  refine xj_iconst (v := 1) hC dX5_kindOf_63 (by decide) ?_
  refine xb_ic_ne (tgt := 85) hC dX5_kindOf_64 (by decide) hf (fun hf => ?_) (fun hf => ?_)
  · exact lX5_kindOf_L85 hC hr  w (p0) (p1) (p2) (p3)  hf
  · refine xj_aload_n hC dX5_kindOf_67 rfl 0 rfl ?_
    refine xj_iload_n hC dX5_kindOf_68 rfl 1 rfl ?_
    refine xj_iload_n hC dX5_kindOf_69 rfl 2 rfl ?_
    obtain ⟨v14, hc13, hf⟩ := xm_bind hf
    obtain ⟨_, hob, _⟩ := xm_bind hc13
    refine xj_reti (xr_V hC (mX5_plain l D ks b hc13) hob rfl xw_cod_X5_plain xw_ini_X5 xw_ins_X5_plain xw_sel_X5_plain xw_ml_X5_80 xds_X5_plain ⟨Nat.le_of_ble_eq_true rfl, Nat.le_of_ble_eq_true rfl⟩ rfl rfl (Nat.le_of_ble_eq_true rfl) ⟨Nat.le_of_ble_eq_true rfl, Nat.le_of_ble_eq_true rfl⟩ dX5_kindOf_70) ?_
    refine xj_aload_n hC dX5_kindOf_73 rfl 0 rfl ?_
    refine xj_iload_n hC dX5_kindOf_74 rfl 1 rfl ?_
    obtain ⟨v16, hc15, hf⟩ := xm_bind hf
    obtain ⟨_, hob, _⟩ := xm_bind hc15
    refine xj_reti (xr_V hC (mX5_signBit l D ks b hc15) hob rfl xw_cod_X5_signBit xw_ini_X5 xw_ins_X5_signBit xw_sel_X5_signBit xw_ml_X5_77 xds_X5_signBit ⟨Nat.le_of_ble_eq_true rfl, Nat.le_of_ble_eq_true rfl⟩ rfl rfl (Nat.le_of_ble_eq_true rfl) ⟨Nat.le_of_ble_eq_true rfl, Nat.le_of_ble_eq_true rfl⟩ dX5_kindOf_75) ?_
    refine xj_iconst (v := 1) hC dX5_kindOf_78 (by decide) ?_
    refine xj_isub hC dX5_kindOf_79 ?_
    refine xb_ic_ne (tgt := 85) hC dX5_kindOf_80 (by decide) hf (fun hf => ?_) (fun hf => ?_)
    · exact lX5_kindOf_L85 hC hr  w (p0) (p1) (p2) (p3)  hf
    · refine xj_iconst (v := 4) hC dX5_kindOf_83 (by decide) ?_
      exact xj_iret hC hr (by decide) (by decide) dX5_kindOf_84 (Option.some.inj hf) rfl
def fX5_kindOf (w : xmW) (th : (Option Nat)) (a1 : Int32) (a2 : Int32) : Option Int32 := ((xmob w th 5).bind fun _ => ((fX5_plain w (th) (a1) (a2)).bind fun v2 => ((xmgR w th 5 3).bind fun v3 => ((xmild w v3 0 a1).bind fun v4 => ((xmgR w th 5 3).bind fun v5 => ((xmild w v5 0 a1).bind fun v6 => ((xmgR w th 5 6).bind fun v7 => ((xmild w v7 0 a1).bind fun v8 => (if v8 = 0 then ((fX5_allOnes w (th) (a1)).bind fun v10 => (if (v2 >>> (v4 &&& 31)) = v10 then (some (if (a2 &&& (((1 : Int32) <<< (v6 &&& 31)) - (1 : Int32))) = 0 then (3 : Int32) else (4 : Int32))) else (fX5_kindOf_L57 w (th) (a1) (a2) ((v2 >>> (v4 &&& 31))) ))) else (fX5_kindOf_L57 w (th) (a1) (a2) ((v2 >>> (v4 &&& 31))) ))))))))))
set_option maxHeartbeats 4000000 in
set_option maxRecDepth 100000 in
theorem mX5_kindOf (l : Launch) (D : va_G) (ks : Nat → ClassId) (b : Nat) {w : xmW} {th : (Option Nat)} {a1 : Int32} {a2 : Int32} {y : Int32} (hf : fX5_kindOf w th a1 a2 = some y) : xmM l yX5_kindOf (Cond.code yX5_kindOf cX5_kindOf 5 (some (FieldType.int)) :: xmTs) 2 43 0 0 D ks b w [xR th, xI a1, xI a2] (some (xI y)) w := by
  unfold fX5_kindOf at hf
  obtain ⟨_, _, hf⟩ := xm_bind hf
  refine xmM.of (own := RX5) (lv0 := [(0, xR th), (1, xI a1), (2, xI a2)]) (by decide) rfl (Nat.le_of_ble_eq_true rfl) rfl ?_
  intro p e s m args below meth c hC hr hnm
  refine xj_aload_n hC dX5_kindOf_0 rfl 0 rfl ?_
  refine xj_iload_n hC dX5_kindOf_1 rfl 1 rfl ?_
  refine xj_iload_n hC dX5_kindOf_2 rfl 2 rfl ?_
  obtain ⟨v2, hc1, hf⟩ := xm_bind hf
  obtain ⟨_, hob, _⟩ := xm_bind hc1
  refine xj_reti (xr_V hC (mX5_plain l D ks b hc1) hob rfl xw_cod_X5_plain xw_ini_X5 xw_ins_X5_plain xw_sel_X5_plain xw_ml_X5_80 xds_X5_plain ⟨Nat.le_of_ble_eq_true rfl, Nat.le_of_ble_eq_true rfl⟩ rfl rfl (Nat.le_of_ble_eq_true rfl) ⟨Nat.le_of_ble_eq_true rfl, Nat.le_of_ble_eq_true rfl⟩ dX5_kindOf_3) ?_
  refine xj_aload_n hC dX5_kindOf_6 rfl 0 rfl ?_
  refine xb_getR hC 5 3 xcl_5 (by decide) xw_fl_X5_16 dX5_kindOf_7 hf (fun v3 hf => ?_)
  refine xj_iload_n hC dX5_kindOf_10 rfl 1 rfl ?_
  refine xb_iald hC dX5_kindOf_11 hf (fun v4 hf => ?_)
  refine xj_ishr hC dX5_kindOf_12 ?_
  refine xj_istore_n (lv' := [(3, xI (v2 >>> (v4 &&& 31))), (0, xR th), (1, xI a1), (2, xI a2)]) hC dX5_kindOf_13 rfl (by decide) rfl ?_
  refine xj_iload_n hC dX5_kindOf_14 rfl 3 rfl ?_
  refine xj_iconst (v := 1) hC dX5_kindOf_15 (by decide) ?_
  refine xj_aload_n hC dX5_kindOf_16 rfl 1 rfl ?_
  refine xb_getR hC 5 3 xcl_5 (by decide) xw_fl_X5_16 dX5_kindOf_17 hf (fun v5 hf => ?_)
  refine xj_iload_n hC dX5_kindOf_20 rfl 2 rfl ?_
  refine xb_iald hC dX5_kindOf_21 hf (fun v6 hf => ?_)
  refine xj_ishl hC dX5_kindOf_22 ?_
  refine xj_iconst (v := 1) hC dX5_kindOf_23 (by decide) ?_
  refine xj_isub hC dX5_kindOf_24 ?_
  refine xj_iand hC dX5_kindOf_25 ?_
  refine xj_istore (lv' := [(4, xI (a2 &&& (((1 : Int32) <<< (v6 &&& 31)) - (1 : Int32)))), (3, xI (v2 >>> (v4 &&& 31))), (0, xR th), (1, xI a1), (2, xI a2)]) hC dX5_kindOf_26 (by decide) rfl ?_
  refine xj_aload_n hC dX5_kindOf_28 rfl 2 rfl ?_
  refine xb_getR hC 5 6 xcl_5 (by decide) xw_fl_X5_26 dX5_kindOf_29 hf (fun v7 hf => ?_)
  refine xj_iload_n hC dX5_kindOf_32 rfl 3 rfl ?_
  refine xb_iald hC dX5_kindOf_33 hf (fun v8 hf => ?_)
  refine xb_if_ne (tgt := 57) hC dX5_kindOf_34 (by decide) hf (fun hf => ?_) (fun hf => ?_)
  · refine xj_lv [2, 3, 4, 1] rfl ?_
    exact lX5_kindOf_L57 hC hr  w (th) (a1) (a2) ((v2 >>> (v4 &&& 31)))  hf
  · refine xj_iload_n hC dX5_kindOf_37 rfl 1 rfl ?_
    refine xj_aload_n hC dX5_kindOf_38 rfl 2 rfl ?_
    refine xj_iload_n hC dX5_kindOf_39 rfl 3 rfl ?_
    obtain ⟨v10, hc9, hf⟩ := xm_bind hf
    obtain ⟨_, hob, _⟩ := xm_bind hc9
    refine xj_reti (xr_V hC (mX5_allOnes l D ks b hc9) hob rfl xw_cod_X5_allOnes xw_ini_X5 xw_ins_X5_allOnes xw_sel_X5_allOnes xw_ml_X5_84 xds_X5_allOnes ⟨Nat.le_of_ble_eq_true rfl, Nat.le_of_ble_eq_true rfl⟩ rfl rfl (Nat.le_of_ble_eq_true rfl) ⟨Nat.le_of_ble_eq_true rfl, Nat.le_of_ble_eq_true rfl⟩ dX5_kindOf_40) ?_
    refine xb_ic_ne (tgt := 57) hC dX5_kindOf_43 (by decide) hf (fun hf => ?_) (fun hf => ?_)
    · refine xj_lv [2, 3, 4, 1] rfl ?_
      exact lX5_kindOf_L57 hC hr  w (th) (a1) (a2) ((v2 >>> (v4 &&& 31)))  hf
    · refine xj_iload hC dX5_kindOf_46 0 rfl ?_
      refine xj_dia (cnd := (a2 &&& (((1 : Int32) <<< (v6 &&& 31)) - (1 : Int32))) = 0) (x := 3) (y := 4) (pc2 := 56) (st2 := []) (fun hc hk => ?_) (fun hc hk => ?_) ?_
      · exact xj_if_ne (tgt := 55) hC dX5_kindOf_48 (by decide) (fun hn => absurd hc hn) (fun _ => xj_iconst (v := 3) hC dX5_kindOf_51 (by decide) (xj_goto (tgt := 56) hC dX5_kindOf_52 (by decide) hk))
      · exact xj_if_ne (tgt := 55) hC dX5_kindOf_48 (by decide) (fun _ => xj_iconst (v := 4) hC dX5_kindOf_55 (by decide) hk) (fun hn => absurd hn hc)
      exact xj_iret hC hr (by decide) (by decide) dX5_kindOf_56 (Option.some.inj hf) rfl
def fX5_isNumber (w : xmW) (th : (Option Nat)) (a1 : Int32) (a2 : Int32) : Option Int32 := ((xmob w th 5).bind fun _ => ((fX5_kindOf w (th) (a1) (a2)).bind fun v2 => (xmbz (if (3 : Int32) ≤ v2 then (0 : Int32) else (1 : Int32)))))
set_option maxHeartbeats 4000000 in
set_option maxRecDepth 100000 in
theorem mX5_isNumber (l : Launch) (D : va_G) (ks : Nat → ClassId) (b : Nat) {w : xmW} {th : (Option Nat)} {a1 : Int32} {a2 : Int32} {y : Int32} (hf : fX5_isNumber w th a1 a2 = some y) : xmM l yX5_isNumber (Cond.code yX5_isNumber cX5_isNumber 3 (some (FieldType.boolean)) :: xmTs) 3 67 0 0 D ks b w [xR th, xI a1, xI a2] (some (xI y)) w := by
  unfold fX5_isNumber at hf
  obtain ⟨_, _, hf⟩ := xm_bind hf
  refine xmM.of (own := RX5) (lv0 := [(0, xR th), (1, xI a1), (2, xI a2)]) (by decide) rfl (Nat.le_of_ble_eq_true rfl) rfl ?_
  intro p e s m args below meth c hC hr hnm
  refine xj_aload_n hC dX5_isNumber_0 rfl 0 rfl ?_
  refine xj_iload_n hC dX5_isNumber_1 rfl 1 rfl ?_
  refine xj_iload_n hC dX5_isNumber_2 rfl 2 rfl ?_
  obtain ⟨v2, hc1, hf⟩ := xm_bind hf
  obtain ⟨_, hob, _⟩ := xm_bind hc1
  refine xj_reti (xr_V hC (mX5_kindOf l D ks b hc1) hob rfl xw_cod_X5_kindOf xw_ini_X5 xw_ins_X5_kindOf xw_sel_X5_kindOf xw_ml_X5_87 xds_X5_kindOf ⟨Nat.le_of_ble_eq_true rfl, Nat.le_of_ble_eq_true rfl⟩ rfl rfl (Nat.le_of_ble_eq_true rfl) ⟨Nat.le_of_ble_eq_true rfl, Nat.le_of_ble_eq_true rfl⟩ dX5_isNumber_3) ?_
  refine xj_iconst (v := 3) hC dX5_isNumber_6 (by decide) ?_
  refine xj_dia (cnd := (3 : Int32) ≤ v2) (x := 0) (y := 1) (pc2 := 15) (st2 := []) (fun hc hk => ?_) (fun hc hk => ?_) ?_
  · exact xj_ic_ge (tgt := 14) hC dX5_isNumber_7 (by decide) (fun _ => xj_iconst (v := 0) hC dX5_isNumber_14 (by decide) hk) (fun hn => absurd hc hn)
  · exact xj_ic_ge (tgt := 14) hC dX5_isNumber_7 (by decide) (fun hn => absurd hn hc) (fun _ => xj_iconst (v := 1) hC dX5_isNumber_10 (by decide) (xj_goto (tgt := 15) hC dX5_isNumber_11 (by decide) hk))
  exact xj_zret hC hr (by decide) (by decide) dX5_isNumber_15 hf rfl
def fX5_size_L52 (w : xmW) (p0 : (Option Nat)) (p1 : Int32) (p3 : Int32) (p4 : Int64) : Option Int64 := ((xmgR w p0 5 3).bind fun v7 => ((xmild w v7 0 p1).bind fun v8 => (some ((((1 : Int64) <<< ((v8).toInt64 &&& 63)) + p4) <<< ((p3).toInt64 &&& 63)))))
set_option maxHeartbeats 4000000 in
set_option maxRecDepth 100000 in
theorem lX5_size_L52 {p : Program} {l : Launch} {e : Env} {s : State} {m : MethodId} {args : Array Value} {below : List Frame} {meth : Method} {c : Code} {D : va_G} {ks : Nat → ClassId} {b : Nat} (hC : xmC p s m args meth c D ks b 6 cX5_size RX5) (hr : meth.sig.returnType = (some (FieldType.long))) {y : Int64} (w : xmW) (p0 : (Option Nat)) (p1 : Int32) (p3 : Int32) (p4 : Int64) (hf : fX5_size_L52 w p0 p1 p3 p4 = some y) : xmJ p l e ({ frames := 0, cells := 0, slots := 0, locals := 0 } : Room) s m args below meth c D ks b 6 (MQ below (xmQ D ks b (some (xL y)) w) args s 0 0 (xmA b)) w 0 0 52 [(0, xR p0), (1, xI p1), (3, xI p3), (4, xL p4)] [] := by
  unfold fX5_size_L52 at hf
  refine xj_lconst (v := 1) hC dX5_size_52 (by decide) ?_
  refine xj_aload_n hC dX5_size_53 rfl 0 rfl ?_
  refine xb_getR hC 5 3 xcl_5 (by decide) xw_fl_X5_16 dX5_size_54 hf (fun v7 hf => ?_)
  refine xj_iload_n hC dX5_size_57 rfl 1 rfl ?_
  refine xb_iald hC dX5_size_58 hf (fun v8 hf => ?_)
  refine xj_lshl hC dX5_size_59 ?_
  refine xj_lload hC dX5_size_60 3 rfl ?_
  refine xj_ladd hC dX5_size_62 ?_
  refine xj_iload_n hC dX5_size_63 rfl 2 rfl ?_
  refine xj_lshl hC dX5_size_64 ?_
  exact xj_lret hC hr (by decide) (by decide) dX5_size_65 (Option.some.inj hf) rfl
def fX5_size (w : xmW) (th : (Option Nat)) (a1 : Int32) (a2 : Int32) : Option Int64 := ((xmob w th 5).bind fun _ => ((xmgR w th 5 3).bind fun v1 => ((xmild w v1 0 a1).bind fun v2 => ((xmgR w th 5 3).bind fun v3 => ((xmild w v3 0 a1).bind fun v4 => (if a2 = 0 then (some (0 : Int64)) else (if (a2 >>> (v2 &&& 31)) = 0 then ((xmgR w th 5 5).bind fun v5 => ((xmild w v5 1 a1).bind fun v6 => (if v6 = 0 then (fX5_size_L52 w (th) (a1) ((a2 >>> (v2 &&& 31))) (((a2 &&& (((1 : Int32) <<< (v4 &&& 31)) - (1 : Int32)))).toInt64) ) else (some ((2 : Int64) * ((a2 &&& (((1 : Int32) <<< (v4 &&& 31)) - (1 : Int32)))).toInt64))))) else (fX5_size_L52 w (th) (a1) ((a2 >>> (v2 &&& 31))) (((a2 &&& (((1 : Int32) <<< (v4 &&& 31)) - (1 : Int32)))).toInt64) ))))))))
set_option maxHeartbeats 4000000 in
set_option maxRecDepth 100000 in
theorem mX5_size (l : Launch) (D : va_G) (ks : Nat → ClassId) (b : Nat) {w : xmW} {th : (Option Nat)} {a1 : Int32} {a2 : Int32} {y : Int64} (hf : fX5_size w th a1 a2 = some y) : xmM l yX5_size (Cond.code yX5_size cX5_size 6 (some (FieldType.long)) :: xmTs) 0 0 0 0 D ks b w [xR th, xI a1, xI a2] (some (xL y)) w := by
  unfold fX5_size at hf
  obtain ⟨_, _, hf⟩ := xm_bind hf
  refine xmM.of (own := RX5) (lv0 := [(0, xR th), (1, xI a1), (2, xI a2)]) (by decide) rfl (Nat.le_of_ble_eq_true rfl) rfl ?_
  intro p e s m args below meth c hC hr hnm
  refine xj_iload_n hC dX5_size_0 rfl 2 rfl ?_
  refine xj_aload_n hC dX5_size_1 rfl 0 rfl ?_
  refine xb_getR hC 5 3 xcl_5 (by decide) xw_fl_X5_16 dX5_size_2 hf (fun v1 hf => ?_)
  refine xj_iload_n hC dX5_size_5 rfl 1 rfl ?_
  refine xb_iald hC dX5_size_6 hf (fun v2 hf => ?_)
  refine xj_ishr hC dX5_size_7 ?_
  refine xj_istore_n (lv' := [(3, xI (a2 >>> (v2 &&& 31))), (0, xR th), (1, xI a1), (2, xI a2)]) hC dX5_size_8 rfl (by decide) rfl ?_
  refine xj_iload_n hC dX5_size_9 rfl 3 rfl ?_
  refine xj_iconst (v := 1) hC dX5_size_10 (by decide) ?_
  refine xj_aload_n hC dX5_size_11 rfl 1 rfl ?_
  refine xb_getR hC 5 3 xcl_5 (by decide) xw_fl_X5_16 dX5_size_12 hf (fun v3 hf => ?_)
  refine xj_iload_n hC dX5_size_15 rfl 2 rfl ?_
  refine xb_iald hC dX5_size_16 hf (fun v4 hf => ?_)
  refine xj_ishl hC dX5_size_17 ?_
  refine xj_iconst (v := 1) hC dX5_size_18 (by decide) ?_
  refine xj_isub hC dX5_size_19 ?_
  refine xj_iand hC dX5_size_20 ?_
  refine xj_i2l hC dX5_size_21 ?_
  refine xj_lstore (lv' := [(4, xL ((a2 &&& (((1 : Int32) <<< (v4 &&& 31)) - (1 : Int32)))).toInt64), (3, xI (a2 >>> (v2 &&& 31))), (0, xR th), (1, xI a1), (2, xI a2)]) hC dX5_size_22 (by decide) rfl ?_
  refine xj_iload_n hC dX5_size_24 rfl 4 rfl ?_
  refine xb_if_ne (tgt := 30) hC dX5_size_25 (by decide) hf (fun hf => ?_) (fun hf => ?_)
  · refine xj_iload_n hC dX5_size_30 rfl 1 rfl ?_
    refine xb_if_ne (tgt := 52) hC dX5_size_31 (by decide) hf (fun hf => ?_) (fun hf => ?_)
    · refine xj_lv [2, 3, 1, 0] rfl ?_
      exact lX5_size_L52 hC hr  w (th) (a1) ((a2 >>> (v2 &&& 31))) (((a2 &&& (((1 : Int32) <<< (v4 &&& 31)) - (1 : Int32)))).toInt64)  hf
    · refine xj_aload_n hC dX5_size_34 rfl 2 rfl ?_
      refine xb_getR hC 5 5 xcl_5 (by decide) xw_fl_X5_22 dX5_size_35 hf (fun v5 hf => ?_)
      refine xj_iload_n hC dX5_size_38 rfl 3 rfl ?_
      refine xb_zald hC dX5_size_39 hf (fun v6 hf => ?_)
      refine xb_if_eq (tgt := 52) hC dX5_size_40 (by decide) hf (fun hf => ?_) (fun hf => ?_)
      · refine xj_lv [2, 3, 1, 0] rfl ?_
        exact lX5_size_L52 hC hr  w (th) (a1) ((a2 >>> (v2 &&& 31))) (((a2 &&& (((1 : Int32) <<< (v4 &&& 31)) - (1 : Int32)))).toInt64)  hf
      · refine xj_ldc2 hC xw_cst_X5_90 dX5_size_43 ?_
        refine xj_lload hC dX5_size_46 0 rfl ?_
        refine xj_lmul hC dX5_size_48 ?_
        refine xj_goto (tgt := 65) hC dX5_size_49 (by decide) ?_
        exact xj_lret hC hr (by decide) (by decide) dX5_size_65 (Option.some.inj hf) rfl
  · refine xj_lconst (v := 0) hC dX5_size_28 (by decide) ?_
    exact xj_lret hC hr (by decide) (by decide) dX5_size_29 (Option.some.inj hf) rfl
def fX5_unitsOf (w : xmW) (th : (Option Nat)) (a1 : Int32) (a2 : Int32) : Option Int64 := ((xmob w th 5).bind fun _ => ((fX5_plain w (th) (a1) (a2)).bind fun v2 => ((fX5_size w (th) (a1) (v2)).bind fun v4 => ((fX5_isMinus w (th) (a1) (a2)).bind fun v6 => (if v6 = 0 then (some v4) else (some (-v4)))))))
set_option maxHeartbeats 4000000 in
set_option maxRecDepth 100000 in
theorem mX5_unitsOf (l : Launch) (D : va_G) (ks : Nat → ClassId) (b : Nat) {w : xmW} {th : (Option Nat)} {a1 : Int32} {a2 : Int32} {y : Int64} (hf : fX5_unitsOf w th a1 a2 = some y) : xmM l yX5_unitsOf (Cond.code yX5_unitsOf cX5_unitsOf 5 (some (FieldType.long)) :: xmTs) 2 43 0 0 D ks b w [xR th, xI a1, xI a2] (some (xL y)) w := by
  unfold fX5_unitsOf at hf
  obtain ⟨_, _, hf⟩ := xm_bind hf
  refine xmM.of (own := RX5) (lv0 := [(0, xR th), (1, xI a1), (2, xI a2)]) (by decide) rfl (Nat.le_of_ble_eq_true rfl) rfl ?_
  intro p e s m args below meth c hC hr hnm
  refine xj_aload_n hC dX5_unitsOf_0 rfl 0 rfl ?_
  refine xj_iload_n hC dX5_unitsOf_1 rfl 1 rfl ?_
  refine xj_aload_n hC dX5_unitsOf_2 rfl 0 rfl ?_
  refine xj_iload_n hC dX5_unitsOf_3 rfl 1 rfl ?_
  refine xj_iload_n hC dX5_unitsOf_4 rfl 2 rfl ?_
  obtain ⟨v2, hc1, hf⟩ := xm_bind hf
  obtain ⟨_, hob, _⟩ := xm_bind hc1
  refine xj_reti (xr_V hC (mX5_plain l D ks b hc1) hob rfl xw_cod_X5_plain xw_ini_X5 xw_ins_X5_plain xw_sel_X5_plain xw_ml_X5_80 xds_X5_plain ⟨Nat.le_of_ble_eq_true rfl, Nat.le_of_ble_eq_true rfl⟩ rfl rfl (Nat.le_of_ble_eq_true rfl) ⟨Nat.le_of_ble_eq_true rfl, Nat.le_of_ble_eq_true rfl⟩ dX5_unitsOf_5) ?_
  obtain ⟨v4, hc3, hf⟩ := xm_bind hf
  obtain ⟨_, hob, _⟩ := xm_bind hc3
  refine xj_retl (xr_V hC (mX5_size l D ks b hc3) hob rfl xw_cod_X5_size xw_ini_X5 xw_ins_X5_size xw_sel_X5_size xw_ml_X5_92 xds_X5_size ⟨Nat.le_of_ble_eq_true rfl, Nat.le_of_ble_eq_true rfl⟩ rfl rfl (Nat.le_of_ble_eq_true rfl) ⟨Nat.le_of_ble_eq_true rfl, Nat.le_of_ble_eq_true rfl⟩ dX5_unitsOf_8) ?_
  refine xj_lstore_n (lv' := [(3, xL v4), (0, xR th), (1, xI a1), (2, xI a2)]) hC dX5_unitsOf_11 rfl (by decide) rfl ?_
  refine xj_aload_n hC dX5_unitsOf_12 rfl 1 rfl ?_
  refine xj_iload_n hC dX5_unitsOf_13 rfl 2 rfl ?_
  refine xj_iload_n hC dX5_unitsOf_14 rfl 3 rfl ?_
  obtain ⟨v6, hc5, hf⟩ := xm_bind hf
  obtain ⟨_, hob, _⟩ := xm_bind hc5
  refine xj_reti (xr_V hC (mX5_isMinus l D ks b hc5) hob rfl xw_cod_X5_isMinus xw_ini_X5 xw_ins_X5_isMinus xw_sel_X5_isMinus xw_ml_X5_96 xds_X5_isMinus ⟨Nat.le_of_ble_eq_true rfl, Nat.le_of_ble_eq_true rfl⟩ rfl rfl (Nat.le_of_ble_eq_true rfl) ⟨Nat.le_of_ble_eq_true rfl, Nat.le_of_ble_eq_true rfl⟩ dX5_unitsOf_15) ?_
  refine xb_if_eq (tgt := 26) hC dX5_unitsOf_18 (by decide) hf (fun hf => ?_) (fun hf => ?_)
  · refine xj_lload_n hC dX5_unitsOf_26 rfl 0 rfl ?_
    exact xj_lret hC hr (by decide) (by decide) dX5_unitsOf_27 (Option.some.inj hf) rfl
  · refine xj_lload_n hC dX5_unitsOf_21 rfl 0 rfl ?_
    refine xj_lneg hC dX5_unitsOf_22 ?_
    refine xj_goto (tgt := 27) hC dX5_unitsOf_23 (by decide) ?_
    exact xj_lret hC hr (by decide) (by decide) dX5_unitsOf_27 (Option.some.inj hf) rfl
def fX5_great (w : xmW) (th : (Option Nat)) (a1 : Int32) : Option Int32 := ((xmob w th 5).bind fun _ => ((xmgR w th 5 6).bind fun v1 => ((xmild w v1 0 a1).bind fun v2 => (if v2 = 0 then ((fX5_allOnes w (th) (a1)).bind fun v8 => ((xmgR w th 5 3).bind fun v9 => ((xmild w v9 0 a1).bind fun v10 => (some ((v8 <<< (v10 &&& 31)) - (1 : Int32)))))) else ((fX5_signBit w (th) (a1)).bind fun v4 => ((xmgR w th 5 6).bind fun v5 => ((xmild w v5 0 a1).bind fun v6 => (some (v4 - (if v6 = (1 : Int32) then (2 : Int32) else (1 : Int32)))))))))))
set_option maxHeartbeats 4000000 in
set_option maxRecDepth 100000 in
theorem mX5_great (l : Launch) (D : va_G) (ks : Nat → ClassId) (b : Nat) {w : xmW} {th : (Option Nat)} {a1 : Int32} {y : Int32} (hf : fX5_great w th a1 = some y) : xmM l yX5_great (Cond.code yX5_great cX5_great 2 (some (FieldType.int)) :: xmTs) 1 21 0 0 D ks b w [xR th, xI a1] (some (xI y)) w := by
  unfold fX5_great at hf
  obtain ⟨_, _, hf⟩ := xm_bind hf
  refine xmM.of (own := RX5) (lv0 := [(0, xR th), (1, xI a1)]) (by decide) rfl (Nat.le_of_ble_eq_true rfl) rfl ?_
  intro p e s m args below meth c hC hr hnm
  refine xj_aload_n hC dX5_great_0 rfl 0 rfl ?_
  refine xb_getR hC 5 6 xcl_5 (by decide) xw_fl_X5_26 dX5_great_1 hf (fun v1 hf => ?_)
  refine xj_iload_n hC dX5_great_4 rfl 1 rfl ?_
  refine xb_iald hC dX5_great_5 hf (fun v2 hf => ?_)
  refine xb_if_ne (tgt := 26) hC dX5_great_6 (by decide) hf (fun hf => ?_) (fun hf => ?_)
  · refine xj_aload_n hC dX5_great_26 rfl 0 rfl ?_
    refine xj_iload_n hC dX5_great_27 rfl 1 rfl ?_
    obtain ⟨v4, hc3, hf⟩ := xm_bind hf
    obtain ⟨_, hob, _⟩ := xm_bind hc3
    refine xj_reti (xr_V hC (mX5_signBit l D ks b hc3) hob rfl xw_cod_X5_signBit xw_ini_X5 xw_ins_X5_signBit xw_sel_X5_signBit xw_ml_X5_77 xds_X5_signBit ⟨Nat.le_of_ble_eq_true rfl, Nat.le_of_ble_eq_true rfl⟩ rfl rfl (Nat.le_of_ble_eq_true rfl) ⟨Nat.le_of_ble_eq_true rfl, Nat.le_of_ble_eq_true rfl⟩ dX5_great_28) ?_
    refine xj_aload_n hC dX5_great_31 rfl 0 rfl ?_
    refine xb_getR hC 5 6 xcl_5 (by decide) xw_fl_X5_26 dX5_great_32 hf (fun v5 hf => ?_)
    refine xj_iload_n hC dX5_great_35 rfl 1 rfl ?_
    refine xb_iald hC dX5_great_36 hf (fun v6 hf => ?_)
    refine xj_iconst (v := 1) hC dX5_great_37 (by decide) ?_
    refine xj_dia (cnd := v6 = (1 : Int32)) (x := 2) (y := 1) (pc2 := 46) (st2 := [xI v4]) (fun hc hk => ?_) (fun hc hk => ?_) ?_
    · exact xj_ic_ne (tgt := 45) hC dX5_great_38 (by decide) (fun hn => absurd hc hn) (fun _ => xj_iconst (v := 2) hC dX5_great_41 (by decide) (xj_goto (tgt := 46) hC dX5_great_42 (by decide) hk))
    · exact xj_ic_ne (tgt := 45) hC dX5_great_38 (by decide) (fun _ => xj_iconst (v := 1) hC dX5_great_45 (by decide) hk) (fun hn => absurd hn hc)
    refine xj_isub hC dX5_great_46 ?_
    exact xj_iret hC hr (by decide) (by decide) dX5_great_47 (Option.some.inj hf) rfl
  · refine xj_aload_n hC dX5_great_9 rfl 0 rfl ?_
    refine xj_iload_n hC dX5_great_10 rfl 1 rfl ?_
    obtain ⟨v8, hc7, hf⟩ := xm_bind hf
    obtain ⟨_, hob, _⟩ := xm_bind hc7
    refine xj_reti (xr_V hC (mX5_allOnes l D ks b hc7) hob rfl xw_cod_X5_allOnes xw_ini_X5 xw_ins_X5_allOnes xw_sel_X5_allOnes xw_ml_X5_84 xds_X5_allOnes ⟨Nat.le_of_ble_eq_true rfl, Nat.le_of_ble_eq_true rfl⟩ rfl rfl (Nat.le_of_ble_eq_true rfl) ⟨Nat.le_of_ble_eq_true rfl, Nat.le_of_ble_eq_true rfl⟩ dX5_great_11) ?_
    refine xj_aload_n hC dX5_great_14 rfl 0 rfl ?_
    refine xb_getR hC 5 3 xcl_5 (by decide) xw_fl_X5_16 dX5_great_15 hf (fun v9 hf => ?_)
    refine xj_iload_n hC dX5_great_18 rfl 1 rfl ?_
    refine xb_iald hC dX5_great_19 hf (fun v10 hf => ?_)
    refine xj_ishl hC dX5_great_20 ?_
    refine xj_iconst (v := 1) hC dX5_great_21 (by decide) ?_
    refine xj_isub hC dX5_great_22 ?_
    refine xj_goto (tgt := 47) hC dX5_great_23 (by decide) ?_
    exact xj_iret hC hr (by decide) (by decide) dX5_great_47 (Option.some.inj hf) rfl
def fX5_last (w : xmW) (th : (Option Nat)) (a1 : Int32) : Option Int32 := ((xmob w th 5).bind fun _ => ((fX5_great w (th) (a1)).bind fun v2 => (if v2 ≤ 0 then (some (0 : Int32)) else ((fX5_great w (th) (a1)).bind fun v4 => (some (v4 - (1 : Int32)))))))
set_option maxHeartbeats 4000000 in
set_option maxRecDepth 100000 in
theorem mX5_last (l : Launch) (D : va_G) (ks : Nat → ClassId) (b : Nat) {w : xmW} {th : (Option Nat)} {a1 : Int32} {y : Int32} (hf : fX5_last w th a1 = some y) : xmM l yX5_last (Cond.code yX5_last cX5_last 2 (some (FieldType.int)) :: xmTs) 2 42 0 0 D ks b w [xR th, xI a1] (some (xI y)) w := by
  unfold fX5_last at hf
  obtain ⟨_, _, hf⟩ := xm_bind hf
  refine xmM.of (own := RX5) (lv0 := [(0, xR th), (1, xI a1)]) (by decide) rfl (Nat.le_of_ble_eq_true rfl) rfl ?_
  intro p e s m args below meth c hC hr hnm
  refine xj_aload_n hC dX5_last_0 rfl 0 rfl ?_
  refine xj_iload_n hC dX5_last_1 rfl 1 rfl ?_
  obtain ⟨v2, hc1, hf⟩ := xm_bind hf
  obtain ⟨_, hob, _⟩ := xm_bind hc1
  refine xj_reti (xr_V hC (mX5_great l D ks b hc1) hob rfl xw_cod_X5_great xw_ini_X5 xw_ins_X5_great xw_sel_X5_great xw_ml_X5_100 xds_X5_great ⟨Nat.le_of_ble_eq_true rfl, Nat.le_of_ble_eq_true rfl⟩ rfl rfl (Nat.le_of_ble_eq_true rfl) ⟨Nat.le_of_ble_eq_true rfl, Nat.le_of_ble_eq_true rfl⟩ dX5_last_2) ?_
  refine xb_if_le (tgt := 18) hC dX5_last_5 (by decide) hf (fun hf => ?_) (fun hf => ?_)
  · refine xj_iconst (v := 0) hC dX5_last_18 (by decide) ?_
    exact xj_iret hC hr (by decide) (by decide) dX5_last_19 (Option.some.inj hf) rfl
  · refine xj_aload_n hC dX5_last_8 rfl 0 rfl ?_
    refine xj_iload_n hC dX5_last_9 rfl 1 rfl ?_
    obtain ⟨v4, hc3, hf⟩ := xm_bind hf
    obtain ⟨_, hob, _⟩ := xm_bind hc3
    refine xj_reti (xr_V hC (mX5_great l D ks b hc3) hob rfl xw_cod_X5_great xw_ini_X5 xw_ins_X5_great xw_sel_X5_great xw_ml_X5_100 xds_X5_great ⟨Nat.le_of_ble_eq_true rfl, Nat.le_of_ble_eq_true rfl⟩ rfl rfl (Nat.le_of_ble_eq_true rfl) ⟨Nat.le_of_ble_eq_true rfl, Nat.le_of_ble_eq_true rfl⟩ dX5_last_10) ?_
    refine xj_iconst (v := 1) hC dX5_last_13 (by decide) ?_
    refine xj_isub hC dX5_last_14 ?_
    refine xj_goto (tgt := 19) hC dX5_last_15 (by decide) ?_
    exact xj_iret hC hr (by decide) (by decide) dX5_last_19 (Option.some.inj hf) rfl
def fX5_noneOf (w : xmW) (th : (Option Nat)) (a1 : Int32) : Option Int32 := ((xmob w th 5).bind fun _ => ((xmgR w th 5 6).bind fun v1 => ((xmild w v1 0 a1).bind fun v2 => (if v2 = 0 then ((xmgR w th 5 3).bind fun v7 => ((xmild w v7 0 a1).bind fun v8 => (if v8 = 0 then (some (-9 : Int32)) else ((fX5_allOnes w (th) (a1)).bind fun v10 => ((xmgR w th 5 3).bind fun v11 => ((xmild w v11 0 a1).bind fun v12 => ((xmgR w th 5 3).bind fun v13 => ((xmild w v13 0 a1).bind fun v14 => (some ((v10 <<< (v12 &&& 31)) ||| ((1 : Int32) <<< ((v14 - (1 : Int32)) &&& 31)))))))))))) else ((xmgR w th 5 6).bind fun v3 => ((xmild w v3 0 a1).bind fun v4 => (if v4 = (1 : Int32) then ((fX5_signBit w (th) (a1)).bind fun v6 => (some (v6 - (1 : Int32)))) else (some (-9 : Int32)))))))))
set_option maxHeartbeats 4000000 in
set_option maxRecDepth 100000 in
theorem mX5_noneOf (l : Launch) (D : va_G) (ks : Nat → ClassId) (b : Nat) {w : xmW} {th : (Option Nat)} {a1 : Int32} {y : Int32} (hf : fX5_noneOf w th a1 = some y) : xmM l yX5_noneOf (Cond.code yX5_noneOf cX5_noneOf 2 (some (FieldType.int)) :: xmTs) 1 21 0 0 D ks b w [xR th, xI a1] (some (xI y)) w := by
  unfold fX5_noneOf at hf
  obtain ⟨_, _, hf⟩ := xm_bind hf
  refine xmM.of (own := RX5) (lv0 := [(0, xR th), (1, xI a1)]) (by decide) rfl (Nat.le_of_ble_eq_true rfl) rfl ?_
  intro p e s m args below meth c hC hr hnm
  refine xj_aload_n hC dX5_noneOf_0 rfl 0 rfl ?_
  refine xb_getR hC 5 6 xcl_5 (by decide) xw_fl_X5_26 dX5_noneOf_1 hf (fun v1 hf => ?_)
  refine xj_iload_n hC dX5_noneOf_4 rfl 1 rfl ?_
  refine xb_iald hC dX5_noneOf_5 hf (fun v2 hf => ?_)
  refine xb_if_ne (tgt := 47) hC dX5_noneOf_6 (by decide) hf (fun hf => ?_) (fun hf => ?_)
  · refine xj_aload_n hC dX5_noneOf_47 rfl 0 rfl ?_
    refine xb_getR hC 5 6 xcl_5 (by decide) xw_fl_X5_26 dX5_noneOf_48 hf (fun v3 hf => ?_)
    refine xj_iload_n hC dX5_noneOf_51 rfl 1 rfl ?_
    refine xb_iald hC dX5_noneOf_52 hf (fun v4 hf => ?_)
    refine xj_iconst (v := 1) hC dX5_noneOf_53 (by decide) ?_
    refine xb_ic_ne (tgt := 67) hC dX5_noneOf_54 (by decide) hf (fun hf => ?_) (fun hf => ?_)
    · refine xj_bipush (v := -9) hC dX5_noneOf_67 (by decide) ?_
      exact xj_iret hC hr (by decide) (by decide) dX5_noneOf_69 (Option.some.inj hf) rfl
    · refine xj_aload_n hC dX5_noneOf_57 rfl 0 rfl ?_
      refine xj_iload_n hC dX5_noneOf_58 rfl 1 rfl ?_
      obtain ⟨v6, hc5, hf⟩ := xm_bind hf
      obtain ⟨_, hob, _⟩ := xm_bind hc5
      refine xj_reti (xr_V hC (mX5_signBit l D ks b hc5) hob rfl xw_cod_X5_signBit xw_ini_X5 xw_ins_X5_signBit xw_sel_X5_signBit xw_ml_X5_77 xds_X5_signBit ⟨Nat.le_of_ble_eq_true rfl, Nat.le_of_ble_eq_true rfl⟩ rfl rfl (Nat.le_of_ble_eq_true rfl) ⟨Nat.le_of_ble_eq_true rfl, Nat.le_of_ble_eq_true rfl⟩ dX5_noneOf_59) ?_
      refine xj_iconst (v := 1) hC dX5_noneOf_62 (by decide) ?_
      refine xj_isub hC dX5_noneOf_63 ?_
      refine xj_goto (tgt := 69) hC dX5_noneOf_64 (by decide) ?_
      exact xj_iret hC hr (by decide) (by decide) dX5_noneOf_69 (Option.some.inj hf) rfl
  · refine xj_aload_n hC dX5_noneOf_9 rfl 0 rfl ?_
    refine xb_getR hC 5 3 xcl_5 (by decide) xw_fl_X5_16 dX5_noneOf_10 hf (fun v7 hf => ?_)
    refine xj_iload_n hC dX5_noneOf_13 rfl 1 rfl ?_
    refine xb_iald hC dX5_noneOf_14 hf (fun v8 hf => ?_)
    refine xb_if_ne (tgt := 23) hC dX5_noneOf_15 (by decide) hf (fun hf => ?_) (fun hf => ?_)
    · refine xj_aload_n hC dX5_noneOf_23 rfl 0 rfl ?_
      refine xj_iload_n hC dX5_noneOf_24 rfl 1 rfl ?_
      obtain ⟨v10, hc9, hf⟩ := xm_bind hf
      obtain ⟨_, hob, _⟩ := xm_bind hc9
      refine xj_reti (xr_V hC (mX5_allOnes l D ks b hc9) hob rfl xw_cod_X5_allOnes xw_ini_X5 xw_ins_X5_allOnes xw_sel_X5_allOnes xw_ml_X5_84 xds_X5_allOnes ⟨Nat.le_of_ble_eq_true rfl, Nat.le_of_ble_eq_true rfl⟩ rfl rfl (Nat.le_of_ble_eq_true rfl) ⟨Nat.le_of_ble_eq_true rfl, Nat.le_of_ble_eq_true rfl⟩ dX5_noneOf_25) ?_
      refine xj_aload_n hC dX5_noneOf_28 rfl 0 rfl ?_
      refine xb_getR hC 5 3 xcl_5 (by decide) xw_fl_X5_16 dX5_noneOf_29 hf (fun v11 hf => ?_)
      refine xj_iload_n hC dX5_noneOf_32 rfl 1 rfl ?_
      refine xb_iald hC dX5_noneOf_33 hf (fun v12 hf => ?_)
      refine xj_ishl hC dX5_noneOf_34 ?_
      refine xj_iconst (v := 1) hC dX5_noneOf_35 (by decide) ?_
      refine xj_aload_n hC dX5_noneOf_36 rfl 0 rfl ?_
      refine xb_getR hC 5 3 xcl_5 (by decide) xw_fl_X5_16 dX5_noneOf_37 hf (fun v13 hf => ?_)
      refine xj_iload_n hC dX5_noneOf_40 rfl 1 rfl ?_
      refine xb_iald hC dX5_noneOf_41 hf (fun v14 hf => ?_)
      refine xj_iconst (v := 1) hC dX5_noneOf_42 (by decide) ?_
      refine xj_isub hC dX5_noneOf_43 ?_
      refine xj_ishl hC dX5_noneOf_44 ?_
      refine xj_ior hC dX5_noneOf_45 ?_
      exact xj_iret hC hr (by decide) (by decide) dX5_noneOf_46 (Option.some.inj hf) rfl
    · refine xj_bipush (v := -9) hC dX5_noneOf_18 (by decide) ?_
      refine xj_goto (tgt := 46) hC dX5_noneOf_20 (by decide) ?_
      exact xj_iret hC hr (by decide) (by decide) dX5_noneOf_46 (Option.some.inj hf) rfl
def fX5_endless (w : xmW) (th : (Option Nat)) (a1 : Int32) : Option Int32 := ((xmob w th 5).bind fun _ => ((xmgR w th 5 6).bind fun v1 => ((xmild w v1 0 a1).bind fun v2 => (if v2 = 0 then ((fX5_allOnes w (th) (a1)).bind fun v4 => ((xmgR w th 5 3).bind fun v5 => ((xmild w v5 0 a1).bind fun v6 => (some (v4 <<< (v6 &&& 31)))))) else (some (-9 : Int32))))))
set_option maxHeartbeats 4000000 in
set_option maxRecDepth 100000 in
theorem mX5_endless (l : Launch) (D : va_G) (ks : Nat → ClassId) (b : Nat) {w : xmW} {th : (Option Nat)} {a1 : Int32} {y : Int32} (hf : fX5_endless w th a1 = some y) : xmM l yX5_endless (Cond.code yX5_endless cX5_endless 2 (some (FieldType.int)) :: xmTs) 1 21 0 0 D ks b w [xR th, xI a1] (some (xI y)) w := by
  unfold fX5_endless at hf
  obtain ⟨_, _, hf⟩ := xm_bind hf
  refine xmM.of (own := RX5) (lv0 := [(0, xR th), (1, xI a1)]) (by decide) rfl (Nat.le_of_ble_eq_true rfl) rfl ?_
  intro p e s m args below meth c hC hr hnm
  refine xj_aload_n hC dX5_endless_0 rfl 0 rfl ?_
  refine xb_getR hC 5 6 xcl_5 (by decide) xw_fl_X5_26 dX5_endless_1 hf (fun v1 hf => ?_)
  refine xj_iload_n hC dX5_endless_4 rfl 1 rfl ?_
  refine xb_iald hC dX5_endless_5 hf (fun v2 hf => ?_)
  refine xb_if_ne (tgt := 24) hC dX5_endless_6 (by decide) hf (fun hf => ?_) (fun hf => ?_)
  · refine xj_bipush (v := -9) hC dX5_endless_24 (by decide) ?_
    exact xj_iret hC hr (by decide) (by decide) dX5_endless_26 (Option.some.inj hf) rfl
  · refine xj_aload_n hC dX5_endless_9 rfl 0 rfl ?_
    refine xj_iload_n hC dX5_endless_10 rfl 1 rfl ?_
    obtain ⟨v4, hc3, hf⟩ := xm_bind hf
    obtain ⟨_, hob, _⟩ := xm_bind hc3
    refine xj_reti (xr_V hC (mX5_allOnes l D ks b hc3) hob rfl xw_cod_X5_allOnes xw_ini_X5 xw_ins_X5_allOnes xw_sel_X5_allOnes xw_ml_X5_84 xds_X5_allOnes ⟨Nat.le_of_ble_eq_true rfl, Nat.le_of_ble_eq_true rfl⟩ rfl rfl (Nat.le_of_ble_eq_true rfl) ⟨Nat.le_of_ble_eq_true rfl, Nat.le_of_ble_eq_true rfl⟩ dX5_endless_11) ?_
    refine xj_aload_n hC dX5_endless_14 rfl 0 rfl ?_
    refine xb_getR hC 5 3 xcl_5 (by decide) xw_fl_X5_16 dX5_endless_15 hf (fun v5 hf => ?_)
    refine xj_iload_n hC dX5_endless_18 rfl 1 rfl ?_
    refine xb_iald hC dX5_endless_19 hf (fun v6 hf => ?_)
    refine xj_ishl hC dX5_endless_20 ?_
    refine xj_goto (tgt := 26) hC dX5_endless_21 (by decide) ?_
    exact xj_iret hC hr (by decide) (by decide) dX5_endless_26 (Option.some.inj hf) rfl
def fX5_scale (w : xmW) (th : (Option Nat)) (a1 : Int32) : Option Int32 := ((xmob w th 5).bind fun _ => ((xmgR w th 5 4).bind fun v1 => ((xmild w v1 0 a1).bind fun v2 => ((xmgR w th 5 3).bind fun v3 => ((xmild w v3 0 a1).bind fun v4 => (some (v2 + v4)))))))
set_option maxHeartbeats 4000000 in
set_option maxRecDepth 100000 in
theorem mX5_scale (l : Launch) (D : va_G) (ks : Nat → ClassId) (b : Nat) {w : xmW} {th : (Option Nat)} {a1 : Int32} {y : Int32} (hf : fX5_scale w th a1 = some y) : xmM l yX5_scale (Cond.code yX5_scale cX5_scale 2 (some (FieldType.int)) :: xmTs) 0 0 0 0 D ks b w [xR th, xI a1] (some (xI y)) w := by
  unfold fX5_scale at hf
  obtain ⟨_, _, hf⟩ := xm_bind hf
  refine xmM.of (own := RX5) (lv0 := [(0, xR th), (1, xI a1)]) (by decide) rfl (Nat.le_of_ble_eq_true rfl) rfl ?_
  intro p e s m args below meth c hC hr hnm
  refine xj_aload_n hC dX5_scale_0 rfl 0 rfl ?_
  refine xb_getR hC 5 4 xcl_5 (by decide) xw_fl_X5_19 dX5_scale_1 hf (fun v1 hf => ?_)
  refine xj_iload_n hC dX5_scale_4 rfl 1 rfl ?_
  refine xb_iald hC dX5_scale_5 hf (fun v2 hf => ?_)
  refine xj_aload_n hC dX5_scale_6 rfl 0 rfl ?_
  refine xb_getR hC 5 3 xcl_5 (by decide) xw_fl_X5_16 dX5_scale_7 hf (fun v3 hf => ?_)
  refine xj_iload_n hC dX5_scale_10 rfl 1 rfl ?_
  refine xb_iald hC dX5_scale_11 hf (fun v4 hf => ?_)
  refine xj_iadd hC dX5_scale_12 ?_
  exact xj_iret hC hr (by decide) (by decide) dX5_scale_13 (Option.some.inj hf) rfl
def fX5_format_L78 : Nat → xmW → (Option Nat) → Int32 → Int32 → Int32 → Int32 → Int32 → Int32 → Int32 → Option (Int32 × xmW)
  | 0, _, _, _, _, _, _, _, _, _ => none
  | n + 1, w, p0, p1, p2, p3, p4, p5, p6, p7 => ((xmgI w p0 5 0).bind fun v29 => (if v29 ≤ p7 then ((xmgI w p0 5 0).bind fun v30 => (if v30 = (10 : Int32) then (xmb2 (fX5_refused w (p0) ((-3 : Int32))) fun v56 w57 => (some (v56, w57))) else ((xmgR w p0 5 1).bind fun v31 => ((xmgI w p0 5 0).bind fun v32 => ((xmist w v31 0 v32 p1).bind fun w33 => ((xmgR w33 p0 5 2).bind fun v34 => ((xmgI w33 p0 5 0).bind fun v35 => ((xmist w33 v34 0 v35 p2).bind fun w36 => ((xmgR w36 p0 5 3).bind fun v37 => ((xmgI w36 p0 5 0).bind fun v38 => ((xmist w36 v37 0 v38 p3).bind fun w39 => ((xmgR w39 p0 5 4).bind fun v40 => ((xmgI w39 p0 5 0).bind fun v41 => ((xmist w39 v40 0 v41 p4).bind fun w42 => ((xmgR w42 p0 5 5).bind fun v43 => ((xmgI w42 p0 5 0).bind fun v44 => ((xmist w42 v43 1 v44 (vp_nar .boolean p5)).bind fun w45 => ((xmgR w45 p0 5 6).bind fun v46 => ((xmgI w45 p0 5 0).bind fun v47 => ((xmist w45 v46 0 v47 p6).bind fun w48 => ((xmgI w48 p0 5 0).bind fun v49 => ((xmput w48 p0 5 0 (xI (v49 + (1 : Int32)))).bind fun w50 => ((xmgI w50 p0 5 0).bind fun v51 => (xmb2 (fX5_fine w50 (p0) ((v51 - (1 : Int32)))) fun v53 w54 => (some (v53, w54)))))))))))))))))))))))))) else ((xmgR w p0 5 1).bind fun v58 => ((xmild w v58 0 p7).bind fun v59 => (if v59 = p1 then ((xmgR w p0 5 2).bind fun v60 => ((xmild w v60 0 p7).bind fun v61 => (if v61 = p2 then ((xmgR w p0 5 3).bind fun v62 => ((xmild w v62 0 p7).bind fun v63 => (if v63 = p3 then ((xmgR w p0 5 4).bind fun v64 => ((xmild w v64 0 p7).bind fun v65 => (if v65 = p4 then ((xmgR w p0 5 5).bind fun v66 => ((xmild w v66 1 p7).bind fun v67 => (if v67 = p5 then ((xmgR w p0 5 6).bind fun v68 => ((xmild w v68 0 p7).bind fun v69 => (if v69 = p6 then (xmb2 (fX5_fine w (p0) (p7)) fun v71 w72 => (some (v71, w72))) else (fX5_format_L78 n w (p0) (p1) (p2) (p3) (p4) (p5) (p6) ((p7 + (1 : Int32))) )))) else (fX5_format_L78 n w (p0) (p1) (p2) (p3) (p4) (p5) (p6) ((p7 + (1 : Int32))) )))) else (fX5_format_L78 n w (p0) (p1) (p2) (p3) (p4) (p5) (p6) ((p7 + (1 : Int32))) )))) else (fX5_format_L78 n w (p0) (p1) (p2) (p3) (p4) (p5) (p6) ((p7 + (1 : Int32))) )))) else (fX5_format_L78 n w (p0) (p1) (p2) (p3) (p4) (p5) (p6) ((p7 + (1 : Int32))) )))) else (fX5_format_L78 n w (p0) (p1) (p2) (p3) (p4) (p5) (p6) ((p7 + (1 : Int32))) ))))))
set_option maxHeartbeats 4000000 in
set_option maxRecDepth 100000 in
theorem lX5_format_L78 {p : Program} {l : Launch} {e : Env} {s : State} {m : MethodId} {args : Array Value} {below : List Frame} {meth : Method} {c : Code} {D : va_G} {ks : Nat → ClassId} {b : Nat} (hC : xmC p s m args meth c D ks b 8 cX5_format RX5) (hr : meth.sig.returnType = (some (FieldType.int))) {y : Int32} {wz : xmW} : ∀ (n : Nat) (w : xmW) (p0 : (Option Nat)) (p1 : Int32) (p2 : Int32) (p3 : Int32) (p4 : Int32) (p5 : Int32) (p6 : Int32) (p7 : Int32), fX5_format_L78 n w p0 p1 p2 p3 p4 p5 p6 p7 = some (y, wz) → xmJ p l e ({ frames := 1, cells := 0, slots := 0, locals := 25 } : Room) s m args below meth c D ks b 8 (MQ below (xmQ D ks b (some (xI y)) wz) args s 0 0 (xmA b)) w 0 0 78 [(0, xR p0), (1, xI p1), (2, xI p2), (3, xI p3), (4, xI p4), (5, xI p5), (6, xI p6), (7, xI p7)] [] := by
  intro n
  induction n with
  | zero => intro w p0 p1 p2 p3 p4 p5 p6 p7 hf; simp [fX5_format_L78] at hf
  | succ n ih =>
    intro w p0 p1 p2 p3 p4 p5 p6 p7 hf
    rw [fX5_format_L78] at hf
    refine xj_iload hC dX5_format_78 7 rfl ?_
    refine xj_aload_n hC dX5_format_80 rfl 0 rfl ?_
    refine xb_getI hC 5 0 xcl_5 (by decide) xw_fl_X5_45 dX5_format_81 hf (fun v29 hf => ?_)
    refine xb_ic_ge (tgt := 169) hC dX5_format_84 (by decide) hf (fun hf => ?_) (fun hf => ?_)
    · refine xj_aload_n hC dX5_format_169 rfl 0 rfl ?_
      refine xb_getI hC 5 0 xcl_5 (by decide) xw_fl_X5_45 dX5_format_170 hf (fun v30 hf => ?_)
      refine xj_bipush (v := 10) hC dX5_format_173 (by decide) ?_
      refine xb_ic_ne (tgt := 185) hC dX5_format_175 (by decide) hf (fun hf => ?_) (fun hf => ?_)
      · refine xj_aload_n hC dX5_format_185 rfl 0 rfl ?_
        refine xb_getR hC 5 1 xcl_5 (by decide) xw_fl_X5_7 dX5_format_186 hf (fun v31 hf => ?_)
        refine xj_aload_n hC dX5_format_189 rfl 0 rfl ?_
        refine xb_getI hC 5 0 xcl_5 (by decide) xw_fl_X5_45 dX5_format_190 hf (fun v32 hf => ?_)
        refine xj_iload_n hC dX5_format_193 rfl 1 rfl ?_
        refine xb_iast hC dX5_format_194 hf (fun w33 hf => ?_)
        refine xj_aload_n hC dX5_format_195 rfl 0 rfl ?_
        refine xb_getR hC 5 2 xcl_5 (by decide) xw_fl_X5_13 dX5_format_196 hf (fun v34 hf => ?_)
        refine xj_aload_n hC dX5_format_199 rfl 0 rfl ?_
        refine xb_getI hC 5 0 xcl_5 (by decide) xw_fl_X5_45 dX5_format_200 hf (fun v35 hf => ?_)
        refine xj_iload_n hC dX5_format_203 rfl 2 rfl ?_
        refine xb_iast hC dX5_format_204 hf (fun w36 hf => ?_)
        refine xj_aload_n hC dX5_format_205 rfl 0 rfl ?_
        refine xb_getR hC 5 3 xcl_5 (by decide) xw_fl_X5_16 dX5_format_206 hf (fun v37 hf => ?_)
        refine xj_aload_n hC dX5_format_209 rfl 0 rfl ?_
        refine xb_getI hC 5 0 xcl_5 (by decide) xw_fl_X5_45 dX5_format_210 hf (fun v38 hf => ?_)
        refine xj_iload_n hC dX5_format_213 rfl 3 rfl ?_
        refine xb_iast hC dX5_format_214 hf (fun w39 hf => ?_)
        refine xj_aload_n hC dX5_format_215 rfl 0 rfl ?_
        refine xb_getR hC 5 4 xcl_5 (by decide) xw_fl_X5_19 dX5_format_216 hf (fun v40 hf => ?_)
        refine xj_aload_n hC dX5_format_219 rfl 0 rfl ?_
        refine xb_getI hC 5 0 xcl_5 (by decide) xw_fl_X5_45 dX5_format_220 hf (fun v41 hf => ?_)
        refine xj_iload hC dX5_format_223 4 rfl ?_
        refine xb_iast hC dX5_format_225 hf (fun w42 hf => ?_)
        refine xj_aload_n hC dX5_format_226 rfl 0 rfl ?_
        refine xb_getR hC 5 5 xcl_5 (by decide) xw_fl_X5_22 dX5_format_227 hf (fun v43 hf => ?_)
        refine xj_aload_n hC dX5_format_230 rfl 0 rfl ?_
        refine xb_getI hC 5 0 xcl_5 (by decide) xw_fl_X5_45 dX5_format_231 hf (fun v44 hf => ?_)
        refine xj_iload hC dX5_format_234 5 rfl ?_
        refine xb_zast hC dX5_format_236 hf (fun w45 hf => ?_)
        refine xj_aload_n hC dX5_format_237 rfl 0 rfl ?_
        refine xb_getR hC 5 6 xcl_5 (by decide) xw_fl_X5_26 dX5_format_238 hf (fun v46 hf => ?_)
        refine xj_aload_n hC dX5_format_241 rfl 0 rfl ?_
        refine xb_getI hC 5 0 xcl_5 (by decide) xw_fl_X5_45 dX5_format_242 hf (fun v47 hf => ?_)
        refine xj_iload hC dX5_format_245 6 rfl ?_
        refine xb_iast hC dX5_format_247 hf (fun w48 hf => ?_)
        refine xj_aload_n hC dX5_format_248 rfl 0 rfl ?_
        refine xj_dup hC dX5_format_249 rfl ?_
        refine xb_getI hC 5 0 xcl_5 (by decide) xw_fl_X5_45 dX5_format_250 hf (fun v49 hf => ?_)
        refine xj_iconst (v := 1) hC dX5_format_253 (by decide) ?_
        refine xj_iadd hC dX5_format_254 ?_
        refine xb_put hC 5 0 xcl_5 (by decide) xw_fl_X5_45 rfl (xmfit_i _) dX5_format_255 hf (fun w50 hf => ?_)
        refine xj_aload_n hC dX5_format_258 rfl 0 rfl ?_
        refine xj_aload_n hC dX5_format_259 rfl 0 rfl ?_
        refine xb_getI hC 5 0 xcl_5 (by decide) xw_fl_X5_45 dX5_format_260 hf (fun v51 hf => ?_)
        refine xj_iconst (v := 1) hC dX5_format_263 (by decide) ?_
        refine xj_isub hC dX5_format_264 ?_
        obtain ⟨v53, w54, hc52, hf⟩ := xm_b2 hf
        obtain ⟨_, hob, _⟩ := xm_bind hc52
        refine xj_reti (xr_V hC (mX5_fine l D ks b hc52) hob rfl xw_cod_X5_fine xw_ini_X5 xw_ins_X5_fine xw_sel_X5_fine xw_ml_X5_67 xds_X5_fine ⟨Nat.le_of_ble_eq_true rfl, Nat.le_of_ble_eq_true rfl⟩ rfl rfl (Nat.le_of_ble_eq_true rfl) ⟨Nat.le_of_ble_eq_true rfl, Nat.le_of_ble_eq_true rfl⟩ dX5_format_265) ?_
        obtain ⟨he, hw⟩ := Prod.mk.inj (Option.some.inj hf)
        exact xj_iret hC hr (by decide) (by decide) dX5_format_268 he hw
      · refine xj_aload_n hC dX5_format_178 rfl 0 rfl ?_
        refine xj_bipush (v := -3) hC dX5_format_179 (by decide) ?_
        obtain ⟨v56, w57, hc55, hf⟩ := xm_b2 hf
        obtain ⟨_, hob, _⟩ := xm_bind hc55
        refine xj_reti (xr_V hC (mX5_refused l D ks b hc55) hob rfl xw_cod_X5_refused xw_ini_X5 xw_ins_X5_refused xw_sel_X5_refused xw_ml_X5_57 xds_X5_refused ⟨Nat.le_of_ble_eq_true rfl, Nat.le_of_ble_eq_true rfl⟩ rfl rfl (Nat.le_of_ble_eq_true rfl) ⟨Nat.le_of_ble_eq_true rfl, Nat.le_of_ble_eq_true rfl⟩ dX5_format_181) ?_
        obtain ⟨he, hw⟩ := Prod.mk.inj (Option.some.inj hf)
        exact xj_iret hC hr (by decide) (by decide) dX5_format_184 he hw
    · refine xj_aload_n hC dX5_format_87 rfl 0 rfl ?_
      refine xb_getR hC 5 1 xcl_5 (by decide) xw_fl_X5_7 dX5_format_88 hf (fun v58 hf => ?_)
      refine xj_iload hC dX5_format_91 7 rfl ?_
      refine xb_iald hC dX5_format_93 hf (fun v59 hf => ?_)
      refine xj_iload_n hC dX5_format_94 rfl 1 rfl ?_
      refine xb_ic_ne (tgt := 163) hC dX5_format_95 (by decide) hf (fun hf => ?_) (fun hf => ?_)
      · refine xj_iinc (v := (p7 + (1 : Int32))) (lv' := [(7, xI (p7 + (1 : Int32))), (0, xR p0), (1, xI p1), (2, xI p2), (3, xI p3), (4, xI p4), (5, xI p5), (6, xI p6)]) hC dX5_format_163 7 rfl rfl (by decide) rfl ?_
        refine xj_goto (tgt := 78) hC dX5_format_166 (by decide) ?_
        refine xj_lv [1, 2, 3, 4, 5, 6, 7, 0] rfl ?_
        exact ih w (p0) (p1) (p2) (p3) (p4) (p5) (p6) ((p7 + (1 : Int32)))  hf
      · refine xj_aload_n hC dX5_format_98 rfl 0 rfl ?_
        refine xb_getR hC 5 2 xcl_5 (by decide) xw_fl_X5_13 dX5_format_99 hf (fun v60 hf => ?_)
        refine xj_iload hC dX5_format_102 7 rfl ?_
        refine xb_iald hC dX5_format_104 hf (fun v61 hf => ?_)
        refine xj_iload_n hC dX5_format_105 rfl 2 rfl ?_
        refine xb_ic_ne (tgt := 163) hC dX5_format_106 (by decide) hf (fun hf => ?_) (fun hf => ?_)
        · refine xj_iinc (v := (p7 + (1 : Int32))) (lv' := [(7, xI (p7 + (1 : Int32))), (0, xR p0), (1, xI p1), (2, xI p2), (3, xI p3), (4, xI p4), (5, xI p5), (6, xI p6)]) hC dX5_format_163 7 rfl rfl (by decide) rfl ?_
          refine xj_goto (tgt := 78) hC dX5_format_166 (by decide) ?_
          refine xj_lv [1, 2, 3, 4, 5, 6, 7, 0] rfl ?_
          exact ih w (p0) (p1) (p2) (p3) (p4) (p5) (p6) ((p7 + (1 : Int32)))  hf
        · refine xj_aload_n hC dX5_format_109 rfl 0 rfl ?_
          refine xb_getR hC 5 3 xcl_5 (by decide) xw_fl_X5_16 dX5_format_110 hf (fun v62 hf => ?_)
          refine xj_iload hC dX5_format_113 7 rfl ?_
          refine xb_iald hC dX5_format_115 hf (fun v63 hf => ?_)
          refine xj_iload_n hC dX5_format_116 rfl 3 rfl ?_
          refine xb_ic_ne (tgt := 163) hC dX5_format_117 (by decide) hf (fun hf => ?_) (fun hf => ?_)
          · refine xj_iinc (v := (p7 + (1 : Int32))) (lv' := [(7, xI (p7 + (1 : Int32))), (0, xR p0), (1, xI p1), (2, xI p2), (3, xI p3), (4, xI p4), (5, xI p5), (6, xI p6)]) hC dX5_format_163 7 rfl rfl (by decide) rfl ?_
            refine xj_goto (tgt := 78) hC dX5_format_166 (by decide) ?_
            refine xj_lv [1, 2, 3, 4, 5, 6, 7, 0] rfl ?_
            exact ih w (p0) (p1) (p2) (p3) (p4) (p5) (p6) ((p7 + (1 : Int32)))  hf
          · refine xj_aload_n hC dX5_format_120 rfl 0 rfl ?_
            refine xb_getR hC 5 4 xcl_5 (by decide) xw_fl_X5_19 dX5_format_121 hf (fun v64 hf => ?_)
            refine xj_iload hC dX5_format_124 7 rfl ?_
            refine xb_iald hC dX5_format_126 hf (fun v65 hf => ?_)
            refine xj_iload hC dX5_format_127 4 rfl ?_
            refine xb_ic_ne (tgt := 163) hC dX5_format_129 (by decide) hf (fun hf => ?_) (fun hf => ?_)
            · refine xj_iinc (v := (p7 + (1 : Int32))) (lv' := [(7, xI (p7 + (1 : Int32))), (0, xR p0), (1, xI p1), (2, xI p2), (3, xI p3), (4, xI p4), (5, xI p5), (6, xI p6)]) hC dX5_format_163 7 rfl rfl (by decide) rfl ?_
              refine xj_goto (tgt := 78) hC dX5_format_166 (by decide) ?_
              refine xj_lv [1, 2, 3, 4, 5, 6, 7, 0] rfl ?_
              exact ih w (p0) (p1) (p2) (p3) (p4) (p5) (p6) ((p7 + (1 : Int32)))  hf
            · refine xj_aload_n hC dX5_format_132 rfl 0 rfl ?_
              refine xb_getR hC 5 5 xcl_5 (by decide) xw_fl_X5_22 dX5_format_133 hf (fun v66 hf => ?_)
              refine xj_iload hC dX5_format_136 7 rfl ?_
              refine xb_zald hC dX5_format_138 hf (fun v67 hf => ?_)
              refine xj_iload hC dX5_format_139 5 rfl ?_
              refine xb_ic_ne (tgt := 163) hC dX5_format_141 (by decide) hf (fun hf => ?_) (fun hf => ?_)
              · refine xj_iinc (v := (p7 + (1 : Int32))) (lv' := [(7, xI (p7 + (1 : Int32))), (0, xR p0), (1, xI p1), (2, xI p2), (3, xI p3), (4, xI p4), (5, xI p5), (6, xI p6)]) hC dX5_format_163 7 rfl rfl (by decide) rfl ?_
                refine xj_goto (tgt := 78) hC dX5_format_166 (by decide) ?_
                refine xj_lv [1, 2, 3, 4, 5, 6, 7, 0] rfl ?_
                exact ih w (p0) (p1) (p2) (p3) (p4) (p5) (p6) ((p7 + (1 : Int32)))  hf
              · refine xj_aload_n hC dX5_format_144 rfl 0 rfl ?_
                refine xb_getR hC 5 6 xcl_5 (by decide) xw_fl_X5_26 dX5_format_145 hf (fun v68 hf => ?_)
                refine xj_iload hC dX5_format_148 7 rfl ?_
                refine xb_iald hC dX5_format_150 hf (fun v69 hf => ?_)
                refine xj_iload hC dX5_format_151 6 rfl ?_
                refine xb_ic_ne (tgt := 163) hC dX5_format_153 (by decide) hf (fun hf => ?_) (fun hf => ?_)
                · refine xj_iinc (v := (p7 + (1 : Int32))) (lv' := [(7, xI (p7 + (1 : Int32))), (0, xR p0), (1, xI p1), (2, xI p2), (3, xI p3), (4, xI p4), (5, xI p5), (6, xI p6)]) hC dX5_format_163 7 rfl rfl (by decide) rfl ?_
                  refine xj_goto (tgt := 78) hC dX5_format_166 (by decide) ?_
                  refine xj_lv [1, 2, 3, 4, 5, 6, 7, 0] rfl ?_
                  exact ih w (p0) (p1) (p2) (p3) (p4) (p5) (p6) ((p7 + (1 : Int32)))  hf
                · refine xj_aload_n hC dX5_format_156 rfl 0 rfl ?_
                  refine xj_iload hC dX5_format_157 7 rfl ?_
                  obtain ⟨v71, w72, hc70, hf⟩ := xm_b2 hf
                  obtain ⟨_, hob, _⟩ := xm_bind hc70
                  refine xj_reti (xr_V hC (mX5_fine l D ks b hc70) hob rfl xw_cod_X5_fine xw_ini_X5 xw_ins_X5_fine xw_sel_X5_fine xw_ml_X5_67 xds_X5_fine ⟨Nat.le_of_ble_eq_true rfl, Nat.le_of_ble_eq_true rfl⟩ rfl rfl (Nat.le_of_ble_eq_true rfl) ⟨Nat.le_of_ble_eq_true rfl, Nat.le_of_ble_eq_true rfl⟩ dX5_format_159) ?_
                  obtain ⟨he, hw⟩ := Prod.mk.inj (Option.some.inj hf)
                  exact xj_iret hC hr (by decide) (by decide) dX5_format_162 he hw
def fX5_format (w : xmW) (th : (Option Nat)) (a1 : Int32) (a2 : Int32) (a3 : Int32) (a4 : Int32) (a5 : Int32) (a6 : Int32) : Option (Int32 × xmW) := ((xmob w th 5).bind fun _ => ((fX5_in w ((a1).toInt64) ((0 : Int64)) ((1 : Int64))).bind fun v2 => (if v2 = 0 then (xmb2 (fX5_refused w (th) ((-1 : Int32))) fun v4 w5 => (some (v4, w5))) else ((fX5_in w ((a2).toInt64) ((1 : Int64)) ((4 : Int64))).bind fun v7 => (if v7 = 0 then (xmb2 (fX5_refused w (th) ((-1 : Int32))) fun v9 w10 => (some (v9, w10))) else ((fX5_in w ((a3).toInt64) ((0 : Int64)) ((5 : Int64))).bind fun v12 => (if v12 = 0 then (xmb2 (fX5_refused w (th) ((-1 : Int32))) fun v14 w15 => (some (v14, w15))) else ((fX5_in w ((a4).toInt64) ((0 : Int64)) ((15 : Int64))).bind fun v17 => (if v17 = 0 then (xmb2 (fX5_refused w (th) ((-1 : Int32))) fun v19 w20 => (some (v19, w20))) else ((fX5_in w ((a6).toInt64) ((0 : Int64)) ((2 : Int64))).bind fun v22 => (if v22 = 0 then (xmb2 (fX5_refused w (th) ((-1 : Int32))) fun v24 w25 => (some (v24, w25))) else (if (3 : Int32) ≤ ((a1 + a2) + a3) then (fX5_format_L78 xmN w (th) (a1) (a2) (a3) (a4) (a5) (a6) ((0 : Int32)) ) else (xmb2 (fX5_refused w (th) ((-1 : Int32))) fun v27 w28 => (some (v27, w28)))))))))))))))
set_option maxHeartbeats 4000000 in
set_option maxRecDepth 100000 in
theorem mX5_format (l : Launch) (D : va_G) (ks : Nat → ClassId) (b : Nat) {w : xmW} {th : (Option Nat)} {a1 : Int32} {a2 : Int32} {a3 : Int32} {a4 : Int32} {a5 : Int32} {a6 : Int32} {y : Int32} {wz : xmW} (hf : fX5_format w th a1 a2 a3 a4 a5 a6 = some (y, wz)) : xmM l yX5_format (Cond.code yX5_format cX5_format 8 (some (FieldType.int)) :: xmTs) 1 25 0 0 D ks b w [xR th, xI a1, xI a2, xI a3, xI a4, xI a5, xI a6] (some (xI y)) wz := by
  unfold fX5_format at hf
  obtain ⟨_, _, hf⟩ := xm_bind hf
  refine xmM.of (own := RX5) (lv0 := [(0, xR th), (1, xI a1), (2, xI a2), (3, xI a3), (4, xI a4), (5, xI a5), (6, xI a6)]) (by decide) rfl (Nat.le_of_ble_eq_true rfl) rfl ?_
  intro p e s m args below meth c hC hr hnm
  refine xj_iload_n hC dX5_format_0 rfl 1 rfl ?_
  refine xj_i2l hC dX5_format_1 ?_
  refine xj_lconst (v := 0) hC dX5_format_2 (by decide) ?_
  refine xj_lconst (v := 1) hC dX5_format_3 (by decide) ?_
  obtain ⟨v2, hc1, hf⟩ := xm_bind hf
  refine xj_reti (xr_S hC (mX5_in l D ks b hc1) xw_cod_X5_in xw_ini_X5 xw_sta_X5_in xw_ml_X5_70 xds_X5_in ⟨Nat.le_of_ble_eq_true rfl, Nat.le_of_ble_eq_true rfl⟩ rfl rfl (Nat.le_of_ble_eq_true rfl) ⟨Nat.le_of_ble_eq_true rfl, Nat.le_of_ble_eq_true rfl⟩ dX5_format_4) ?_
  refine xb_if_eq (tgt := 69) hC dX5_format_7 (by decide) hf (fun hf => ?_) (fun hf => ?_)
  · refine xj_aload_n hC dX5_format_69 rfl 0 rfl ?_
    refine xj_iconst (v := -1) hC dX5_format_70 (by decide) ?_
    obtain ⟨v4, w5, hc3, hf⟩ := xm_b2 hf
    obtain ⟨_, hob, _⟩ := xm_bind hc3
    refine xj_reti (xr_V hC (mX5_refused l D ks b hc3) hob rfl xw_cod_X5_refused xw_ini_X5 xw_ins_X5_refused xw_sel_X5_refused xw_ml_X5_57 xds_X5_refused ⟨Nat.le_of_ble_eq_true rfl, Nat.le_of_ble_eq_true rfl⟩ rfl rfl (Nat.le_of_ble_eq_true rfl) ⟨Nat.le_of_ble_eq_true rfl, Nat.le_of_ble_eq_true rfl⟩ dX5_format_71) ?_
    obtain ⟨he, hw⟩ := Prod.mk.inj (Option.some.inj hf)
    exact xj_iret hC hr (by decide) (by decide) dX5_format_74 he hw
  · refine xj_iload_n hC dX5_format_10 rfl 2 rfl ?_
    refine xj_i2l hC dX5_format_11 ?_
    refine xj_lconst (v := 1) hC dX5_format_12 (by decide) ?_
    refine xj_ldc2 hC xw_cst_X5_103 dX5_format_13 ?_
    obtain ⟨v7, hc6, hf⟩ := xm_bind hf
    refine xj_reti (xr_S hC (mX5_in l D ks b hc6) xw_cod_X5_in xw_ini_X5 xw_sta_X5_in xw_ml_X5_70 xds_X5_in ⟨Nat.le_of_ble_eq_true rfl, Nat.le_of_ble_eq_true rfl⟩ rfl rfl (Nat.le_of_ble_eq_true rfl) ⟨Nat.le_of_ble_eq_true rfl, Nat.le_of_ble_eq_true rfl⟩ dX5_format_16) ?_
    refine xb_if_eq (tgt := 69) hC dX5_format_19 (by decide) hf (fun hf => ?_) (fun hf => ?_)
    · refine xj_aload_n hC dX5_format_69 rfl 0 rfl ?_
      refine xj_iconst (v := -1) hC dX5_format_70 (by decide) ?_
      obtain ⟨v9, w10, hc8, hf⟩ := xm_b2 hf
      obtain ⟨_, hob, _⟩ := xm_bind hc8
      refine xj_reti (xr_V hC (mX5_refused l D ks b hc8) hob rfl xw_cod_X5_refused xw_ini_X5 xw_ins_X5_refused xw_sel_X5_refused xw_ml_X5_57 xds_X5_refused ⟨Nat.le_of_ble_eq_true rfl, Nat.le_of_ble_eq_true rfl⟩ rfl rfl (Nat.le_of_ble_eq_true rfl) ⟨Nat.le_of_ble_eq_true rfl, Nat.le_of_ble_eq_true rfl⟩ dX5_format_71) ?_
      obtain ⟨he, hw⟩ := Prod.mk.inj (Option.some.inj hf)
      exact xj_iret hC hr (by decide) (by decide) dX5_format_74 he hw
    · refine xj_iload_n hC dX5_format_22 rfl 3 rfl ?_
      refine xj_i2l hC dX5_format_23 ?_
      refine xj_lconst (v := 0) hC dX5_format_24 (by decide) ?_
      refine xj_ldc2 hC xw_cst_X5_105 dX5_format_25 ?_
      obtain ⟨v12, hc11, hf⟩ := xm_bind hf
      refine xj_reti (xr_S hC (mX5_in l D ks b hc11) xw_cod_X5_in xw_ini_X5 xw_sta_X5_in xw_ml_X5_70 xds_X5_in ⟨Nat.le_of_ble_eq_true rfl, Nat.le_of_ble_eq_true rfl⟩ rfl rfl (Nat.le_of_ble_eq_true rfl) ⟨Nat.le_of_ble_eq_true rfl, Nat.le_of_ble_eq_true rfl⟩ dX5_format_28) ?_
      refine xb_if_eq (tgt := 69) hC dX5_format_31 (by decide) hf (fun hf => ?_) (fun hf => ?_)
      · refine xj_aload_n hC dX5_format_69 rfl 0 rfl ?_
        refine xj_iconst (v := -1) hC dX5_format_70 (by decide) ?_
        obtain ⟨v14, w15, hc13, hf⟩ := xm_b2 hf
        obtain ⟨_, hob, _⟩ := xm_bind hc13
        refine xj_reti (xr_V hC (mX5_refused l D ks b hc13) hob rfl xw_cod_X5_refused xw_ini_X5 xw_ins_X5_refused xw_sel_X5_refused xw_ml_X5_57 xds_X5_refused ⟨Nat.le_of_ble_eq_true rfl, Nat.le_of_ble_eq_true rfl⟩ rfl rfl (Nat.le_of_ble_eq_true rfl) ⟨Nat.le_of_ble_eq_true rfl, Nat.le_of_ble_eq_true rfl⟩ dX5_format_71) ?_
        obtain ⟨he, hw⟩ := Prod.mk.inj (Option.some.inj hf)
        exact xj_iret hC hr (by decide) (by decide) dX5_format_74 he hw
      · refine xj_iload hC dX5_format_34 4 rfl ?_
        refine xj_i2l hC dX5_format_36 ?_
        refine xj_lconst (v := 0) hC dX5_format_37 (by decide) ?_
        refine xj_ldc2 hC xw_cst_X5_107 dX5_format_38 ?_
        obtain ⟨v17, hc16, hf⟩ := xm_bind hf
        refine xj_reti (xr_S hC (mX5_in l D ks b hc16) xw_cod_X5_in xw_ini_X5 xw_sta_X5_in xw_ml_X5_70 xds_X5_in ⟨Nat.le_of_ble_eq_true rfl, Nat.le_of_ble_eq_true rfl⟩ rfl rfl (Nat.le_of_ble_eq_true rfl) ⟨Nat.le_of_ble_eq_true rfl, Nat.le_of_ble_eq_true rfl⟩ dX5_format_41) ?_
        refine xb_if_eq (tgt := 69) hC dX5_format_44 (by decide) hf (fun hf => ?_) (fun hf => ?_)
        · refine xj_aload_n hC dX5_format_69 rfl 0 rfl ?_
          refine xj_iconst (v := -1) hC dX5_format_70 (by decide) ?_
          obtain ⟨v19, w20, hc18, hf⟩ := xm_b2 hf
          obtain ⟨_, hob, _⟩ := xm_bind hc18
          refine xj_reti (xr_V hC (mX5_refused l D ks b hc18) hob rfl xw_cod_X5_refused xw_ini_X5 xw_ins_X5_refused xw_sel_X5_refused xw_ml_X5_57 xds_X5_refused ⟨Nat.le_of_ble_eq_true rfl, Nat.le_of_ble_eq_true rfl⟩ rfl rfl (Nat.le_of_ble_eq_true rfl) ⟨Nat.le_of_ble_eq_true rfl, Nat.le_of_ble_eq_true rfl⟩ dX5_format_71) ?_
          obtain ⟨he, hw⟩ := Prod.mk.inj (Option.some.inj hf)
          exact xj_iret hC hr (by decide) (by decide) dX5_format_74 he hw
        · refine xj_iload hC dX5_format_47 6 rfl ?_
          refine xj_i2l hC dX5_format_49 ?_
          refine xj_lconst (v := 0) hC dX5_format_50 (by decide) ?_
          refine xj_ldc2 hC xw_cst_X5_90 dX5_format_51 ?_
          obtain ⟨v22, hc21, hf⟩ := xm_bind hf
          refine xj_reti (xr_S hC (mX5_in l D ks b hc21) xw_cod_X5_in xw_ini_X5 xw_sta_X5_in xw_ml_X5_70 xds_X5_in ⟨Nat.le_of_ble_eq_true rfl, Nat.le_of_ble_eq_true rfl⟩ rfl rfl (Nat.le_of_ble_eq_true rfl) ⟨Nat.le_of_ble_eq_true rfl, Nat.le_of_ble_eq_true rfl⟩ dX5_format_54) ?_
          refine xb_if_eq (tgt := 69) hC dX5_format_57 (by decide) hf (fun hf => ?_) (fun hf => ?_)
          · refine xj_aload_n hC dX5_format_69 rfl 0 rfl ?_
            refine xj_iconst (v := -1) hC dX5_format_70 (by decide) ?_
            obtain ⟨v24, w25, hc23, hf⟩ := xm_b2 hf
            obtain ⟨_, hob, _⟩ := xm_bind hc23
            refine xj_reti (xr_V hC (mX5_refused l D ks b hc23) hob rfl xw_cod_X5_refused xw_ini_X5 xw_ins_X5_refused xw_sel_X5_refused xw_ml_X5_57 xds_X5_refused ⟨Nat.le_of_ble_eq_true rfl, Nat.le_of_ble_eq_true rfl⟩ rfl rfl (Nat.le_of_ble_eq_true rfl) ⟨Nat.le_of_ble_eq_true rfl, Nat.le_of_ble_eq_true rfl⟩ dX5_format_71) ?_
            obtain ⟨he, hw⟩ := Prod.mk.inj (Option.some.inj hf)
            exact xj_iret hC hr (by decide) (by decide) dX5_format_74 he hw
          · refine xj_iload_n hC dX5_format_60 rfl 1 rfl ?_
            refine xj_iload_n hC dX5_format_61 rfl 2 rfl ?_
            refine xj_iadd hC dX5_format_62 ?_
            refine xj_iload_n hC dX5_format_63 rfl 3 rfl ?_
            refine xj_iadd hC dX5_format_64 ?_
            refine xj_iconst (v := 3) hC dX5_format_65 (by decide) ?_
            refine xb_ic_ge (tgt := 75) hC dX5_format_66 (by decide) hf (fun hf => ?_) (fun hf => ?_)
            · refine xj_iconst (v := 0) hC dX5_format_75 (by decide) ?_
              refine xj_istore (lv' := [(7, xI (0 : Int32)), (0, xR th), (1, xI a1), (2, xI a2), (3, xI a3), (4, xI a4), (5, xI a5), (6, xI a6)]) hC dX5_format_76 (by decide) rfl ?_
              refine xj_lv [1, 2, 3, 4, 5, 6, 7, 0] rfl ?_
              exact lX5_format_L78 hC hr  xmN w (th) (a1) (a2) (a3) (a4) (a5) (a6) ((0 : Int32))  hf
            · refine xj_aload_n hC dX5_format_69 rfl 0 rfl ?_
              refine xj_iconst (v := -1) hC dX5_format_70 (by decide) ?_
              obtain ⟨v27, w28, hc26, hf⟩ := xm_b2 hf
              obtain ⟨_, hob, _⟩ := xm_bind hc26
              refine xj_reti (xr_V hC (mX5_refused l D ks b hc26) hob rfl xw_cod_X5_refused xw_ini_X5 xw_ins_X5_refused xw_sel_X5_refused xw_ml_X5_57 xds_X5_refused ⟨Nat.le_of_ble_eq_true rfl, Nat.le_of_ble_eq_true rfl⟩ rfl rfl (Nat.le_of_ble_eq_true rfl) ⟨Nat.le_of_ble_eq_true rfl, Nat.le_of_ble_eq_true rfl⟩ dX5_format_71) ?_
              obtain ⟨he, hw⟩ := Prod.mk.inj (Option.some.inj hf)
              exact xj_iret hC hr (by decide) (by decide) dX5_format_74 he hw
def fX5_about_L121 : Nat → xmW → (Option Nat) → Int32 → Int32 → Int32 → Option (Int32 × xmW)
  | 0, _, _, _, _, _ => none
  | n + 1, w, p0, p1, p3, p4 => ((fX5_bits w (p0) (p1)).bind fun v48 => (if ((1 : Int32) <<< (v48 &&& 31)) ≤ p4 then (xmb2 (fX5_fine w (p0) (p3)) fun v50 w51 => (some (v50, w51))) else ((fX5_isNumber w (p0) (p1) (p4)).bind fun v53 => (fX5_about_L121 n w (p0) (p1) ((p3 + (if v53 = 0 then (0 : Int32) else (1 : Int32)))) ((p4 + (1 : Int32))) ))))
set_option maxHeartbeats 4000000 in
set_option maxRecDepth 100000 in
theorem lX5_about_L121 {p : Program} {l : Launch} {e : Env} {s : State} {m : MethodId} {args : Array Value} {below : List Frame} {meth : Method} {c : Code} {D : va_G} {ks : Nat → ClassId} {b : Nat} (hC : xmC p s m args meth c D ks b 5 cX5_about RX5) (hr : meth.sig.returnType = (some (FieldType.int))) {y : Int32} {wz : xmW} : ∀ (n : Nat) (w : xmW) (p0 : (Option Nat)) (p1 : Int32) (p3 : Int32) (p4 : Int32), fX5_about_L121 n w p0 p1 p3 p4 = some (y, wz) → xmJ p l e ({ frames := 4, cells := 0, slots := 0, locals := 89 } : Room) s m args below meth c D ks b 5 (MQ below (xmQ D ks b (some (xI y)) wz) args s 0 0 (xmA b)) w 0 0 121 [(0, xR p0), (1, xI p1), (3, xI p3), (4, xI p4)] [] := by
  intro n
  induction n with
  | zero => intro w p0 p1 p3 p4 hf; simp [fX5_about_L121] at hf
  | succ n ih =>
    intro w p0 p1 p3 p4 hf
    rw [fX5_about_L121] at hf
    refine xj_iload hC dX5_about_121 3 rfl ?_
    refine xj_iconst (v := 1) hC dX5_about_123 (by decide) ?_
    refine xj_aload_n hC dX5_about_124 rfl 0 rfl ?_
    refine xj_iload_n hC dX5_about_125 rfl 1 rfl ?_
    obtain ⟨v48, hc47, hf⟩ := xm_bind hf
    obtain ⟨_, hob, _⟩ := xm_bind hc47
    refine xj_reti (xr_V hC (mX5_bits l D ks b hc47) hob rfl xw_cod_X5_bits xw_ini_X5 xw_ins_X5_bits xw_sel_X5_bits xw_ml_X5_74 xds_X5_bits ⟨Nat.le_of_ble_eq_true rfl, Nat.le_of_ble_eq_true rfl⟩ rfl rfl (Nat.le_of_ble_eq_true rfl) ⟨Nat.le_of_ble_eq_true rfl, Nat.le_of_ble_eq_true rfl⟩ dX5_about_126) ?_
    refine xj_ishl hC dX5_about_129 ?_
    refine xb_ic_ge (tgt := 157) hC dX5_about_130 (by decide) hf (fun hf => ?_) (fun hf => ?_)
    · refine xj_aload_n hC dX5_about_157 rfl 0 rfl ?_
      refine xj_iload_n hC dX5_about_158 rfl 2 rfl ?_
      obtain ⟨v50, w51, hc49, hf⟩ := xm_b2 hf
      obtain ⟨_, hob, _⟩ := xm_bind hc49
      refine xj_reti (xr_V hC (mX5_fine l D ks b hc49) hob rfl xw_cod_X5_fine xw_ini_X5 xw_ins_X5_fine xw_sel_X5_fine xw_ml_X5_67 xds_X5_fine ⟨Nat.le_of_ble_eq_true rfl, Nat.le_of_ble_eq_true rfl⟩ rfl rfl (Nat.le_of_ble_eq_true rfl) ⟨Nat.le_of_ble_eq_true rfl, Nat.le_of_ble_eq_true rfl⟩ dX5_about_159) ?_
      obtain ⟨he, hw⟩ := Prod.mk.inj (Option.some.inj hf)
      exact xj_iret hC hr (by decide) (by decide) dX5_about_162 he hw
    · refine xj_iload_n hC dX5_about_133 rfl 2 rfl ?_
      refine xj_aload_n hC dX5_about_134 rfl 0 rfl ?_
      refine xj_iload_n hC dX5_about_135 rfl 1 rfl ?_
      refine xj_iload hC dX5_about_136 3 rfl ?_
      obtain ⟨v53, hc52, hf⟩ := xm_bind hf
      obtain ⟨_, hob, _⟩ := xm_bind hc52
      refine xj_reti (xr_V hC (mX5_isNumber l D ks b hc52) hob rfl xw_cod_X5_isNumber xw_ini_X5 xw_ins_X5_isNumber xw_sel_X5_isNumber xw_ml_X5_124 xds_X5_isNumber ⟨Nat.le_of_ble_eq_true rfl, Nat.le_of_ble_eq_true rfl⟩ rfl rfl (Nat.le_of_ble_eq_true rfl) ⟨Nat.le_of_ble_eq_true rfl, Nat.le_of_ble_eq_true rfl⟩ dX5_about_138) ?_
      refine xj_dia (cnd := v53 = 0) (x := 0) (y := 1) (pc2 := 149) (st2 := [xI p3]) (fun hc hk => ?_) (fun hc hk => ?_) ?_
      · exact xj_if_eq (tgt := 148) hC dX5_about_141 (by decide) (fun _ => xj_iconst (v := 0) hC dX5_about_148 (by decide) hk) (fun hn => absurd hc hn)
      · exact xj_if_eq (tgt := 148) hC dX5_about_141 (by decide) (fun hn => absurd hn hc) (fun _ => xj_iconst (v := 1) hC dX5_about_144 (by decide) (xj_goto (tgt := 149) hC dX5_about_145 (by decide) hk))
      refine xj_iadd hC dX5_about_149 ?_
      refine xj_istore_n (lv' := [(3, xI (p3 + (if v53 = 0 then (0 : Int32) else (1 : Int32)))), (0, xR p0), (1, xI p1), (4, xI p4)]) hC dX5_about_150 rfl (by decide) rfl ?_
      refine xj_iinc (v := (p4 + (1 : Int32))) (lv' := [(4, xI (p4 + (1 : Int32))), (3, xI (p3 + (if v53 = 0 then (0 : Int32) else (1 : Int32)))), (0, xR p0), (1, xI p1)]) hC dX5_about_151 3 rfl rfl (by decide) rfl ?_
      refine xj_goto (tgt := 121) hC dX5_about_154 (by decide) ?_
      refine xj_lv [2, 3, 1, 0] rfl ?_
      exact ih w (p0) (p1) ((p3 + (if v53 = 0 then (0 : Int32) else (1 : Int32)))) ((p4 + (1 : Int32)))  hf
def fX5_about (w : xmW) (th : (Option Nat)) (a1 : Int32) (a2 : Int32) : Option (Int32 × xmW) := ((xmob w th 5).bind fun _ => ((fX5_isFormat w (th) (a1)).bind fun v2 => (if v2 = 0 then (xmb2 (fX5_refused w (th) ((-1 : Int32))) fun v4 w5 => (some (v4, w5))) else ((fX5_in w ((a2).toInt64) ((0 : Int64)) ((6 : Int64))).bind fun v7 => (if v7 = 0 then (xmb2 (fX5_refused w (th) ((-1 : Int32))) fun v45 w46 => (some (v45, w46))) else (if a2 = (0 : Int32) then ((fX5_bits w (th) (a1)).bind fun v10 => (xmb2 (fX5_fine w (th) (v10)) fun v12 w13 => (some (v12, w13)))) else (if a2 = (1 : Int32) then ((fX5_great w (th) (a1)).bind fun v16 => (xmb2 (fX5_fine w (th) (v16)) fun v18 w19 => (some (v18, w19)))) else (if a2 = (2 : Int32) then ((fX5_last w (th) (a1)).bind fun v22 => (xmb2 (fX5_fine w (th) (v22)) fun v24 w25 => (some (v24, w25)))) else (if a2 = (3 : Int32) then ((fX5_noneOf w (th) (a1)).bind fun v28 => (xmb2 (fX5_fine w (th) (v28)) fun v30 w31 => (some (v30, w31)))) else (if a2 = (4 : Int32) then ((fX5_endless w (th) (a1)).bind fun v34 => (xmb2 (fX5_fine w (th) (v34)) fun v36 w37 => (some (v36, w37)))) else (if a2 = (5 : Int32) then (fX5_about_L121 xmN w (th) (a1) ((0 : Int32)) ((0 : Int32)) ) else ((fX5_scale w (th) (a1)).bind fun v40 => (xmb2 (fX5_fine w (th) (v40)) fun v42 w43 => (some (v42, w43)))))))))))))))
set_option maxHeartbeats 4000000 in
set_option maxRecDepth 100000 in
theorem mX5_about (l : Launch) (D : va_G) (ks : Nat → ClassId) (b : Nat) {w : xmW} {th : (Option Nat)} {a1 : Int32} {a2 : Int32} {y : Int32} {wz : xmW} (hf : fX5_about w th a1 a2 = some (y, wz)) : xmM l yX5_about (Cond.code yX5_about cX5_about 5 (some (FieldType.int)) :: xmTs) 4 89 0 0 D ks b w [xR th, xI a1, xI a2] (some (xI y)) wz := by
  unfold fX5_about at hf
  obtain ⟨_, _, hf⟩ := xm_bind hf
  refine xmM.of (own := RX5) (lv0 := [(0, xR th), (1, xI a1), (2, xI a2)]) (by decide) rfl (Nat.le_of_ble_eq_true rfl) rfl ?_
  intro p e s m args below meth c hC hr hnm
  refine xj_aload_n hC dX5_about_0 rfl 0 rfl ?_
  refine xj_iload_n hC dX5_about_1 rfl 1 rfl ?_
  obtain ⟨v2, hc1, hf⟩ := xm_bind hf
  obtain ⟨_, hob, _⟩ := xm_bind hc1
  refine xj_reti (xr_V hC (mX5_isFormat l D ks b hc1) hob rfl xw_cod_X5_isFormat xw_ini_X5 xw_ins_X5_isFormat xw_sel_X5_isFormat xw_ml_X5_109 xds_X5_isFormat ⟨Nat.le_of_ble_eq_true rfl, Nat.le_of_ble_eq_true rfl⟩ rfl rfl (Nat.le_of_ble_eq_true rfl) ⟨Nat.le_of_ble_eq_true rfl, Nat.le_of_ble_eq_true rfl⟩ dX5_about_2) ?_
  refine xb_if_eq (tgt := 20) hC dX5_about_5 (by decide) hf (fun hf => ?_) (fun hf => ?_)
  · refine xj_aload_n hC dX5_about_20 rfl 0 rfl ?_
    refine xj_iconst (v := -1) hC dX5_about_21 (by decide) ?_
    obtain ⟨v4, w5, hc3, hf⟩ := xm_b2 hf
    obtain ⟨_, hob, _⟩ := xm_bind hc3
    refine xj_reti (xr_V hC (mX5_refused l D ks b hc3) hob rfl xw_cod_X5_refused xw_ini_X5 xw_ins_X5_refused xw_sel_X5_refused xw_ml_X5_57 xds_X5_refused ⟨Nat.le_of_ble_eq_true rfl, Nat.le_of_ble_eq_true rfl⟩ rfl rfl (Nat.le_of_ble_eq_true rfl) ⟨Nat.le_of_ble_eq_true rfl, Nat.le_of_ble_eq_true rfl⟩ dX5_about_22) ?_
    obtain ⟨he, hw⟩ := Prod.mk.inj (Option.some.inj hf)
    exact xj_iret hC hr (by decide) (by decide) dX5_about_25 he hw
  · refine xj_iload_n hC dX5_about_8 rfl 2 rfl ?_
    refine xj_i2l hC dX5_about_9 ?_
    refine xj_lconst (v := 0) hC dX5_about_10 (by decide) ?_
    refine xj_ldc2 hC xw_cst_X5_113 dX5_about_11 ?_
    obtain ⟨v7, hc6, hf⟩ := xm_bind hf
    refine xj_reti (xr_S hC (mX5_in l D ks b hc6) xw_cod_X5_in xw_ini_X5 xw_sta_X5_in xw_ml_X5_70 xds_X5_in ⟨Nat.le_of_ble_eq_true rfl, Nat.le_of_ble_eq_true rfl⟩ rfl rfl (Nat.le_of_ble_eq_true rfl) ⟨Nat.le_of_ble_eq_true rfl, Nat.le_of_ble_eq_true rfl⟩ dX5_about_14) ?_
    refine xb_if_ne (tgt := 26) hC dX5_about_17 (by decide) hf (fun hf => ?_) (fun hf => ?_)
    · refine xj_iconst (v := 0) hC dX5_about_26 (by decide) ?_
      refine xj_istore_n (lv' := [(3, xI (0 : Int32)), (0, xR th), (1, xI a1), (2, xI a2)]) hC dX5_about_27 rfl (by decide) rfl ?_
      refine xj_iload_n hC dX5_about_28 rfl 3 rfl ?_
      refine xb_case hf (fun hx hf => ?_) (fun hn8 hf => ?_)
      · refine xj_tableIn (tgt := 68) hC (39) dX5_about_29 hx (by decide) (by decide) (by decide) (by decide) ?_
        refine xj_aload_n hC dX5_about_68 rfl 1 rfl ?_
        refine xj_aload_n hC dX5_about_69 rfl 1 rfl ?_
        refine xj_iload_n hC dX5_about_70 rfl 2 rfl ?_
        obtain ⟨v10, hc9, hf⟩ := xm_bind hf
        obtain ⟨_, hob, _⟩ := xm_bind hc9
        refine xj_reti (xr_V hC (mX5_bits l D ks b hc9) hob rfl xw_cod_X5_bits xw_ini_X5 xw_ins_X5_bits xw_sel_X5_bits xw_ml_X5_74 xds_X5_bits ⟨Nat.le_of_ble_eq_true rfl, Nat.le_of_ble_eq_true rfl⟩ rfl rfl (Nat.le_of_ble_eq_true rfl) ⟨Nat.le_of_ble_eq_true rfl, Nat.le_of_ble_eq_true rfl⟩ dX5_about_71) ?_
        obtain ⟨v12, w13, hc11, hf⟩ := xm_b2 hf
        obtain ⟨_, hob, _⟩ := xm_bind hc11
        refine xj_reti (xr_V hC (mX5_fine l D ks b hc11) hob rfl xw_cod_X5_fine xw_ini_X5 xw_ins_X5_fine xw_sel_X5_fine xw_ml_X5_67 xds_X5_fine ⟨Nat.le_of_ble_eq_true rfl, Nat.le_of_ble_eq_true rfl⟩ rfl rfl (Nat.le_of_ble_eq_true rfl) ⟨Nat.le_of_ble_eq_true rfl, Nat.le_of_ble_eq_true rfl⟩ dX5_about_74) ?_
        obtain ⟨he, hw⟩ := Prod.mk.inj (Option.some.inj hf)
        exact xj_iret hC hr (by decide) (by decide) dX5_about_77 he hw
      · refine xb_case hf (fun hx hf => ?_) (fun hn14 hf => ?_)
        · refine xj_tableIn (tgt := 78) hC (49) dX5_about_29 hx (by decide) (by decide) (by decide) (by decide) ?_
          refine xj_aload_n hC dX5_about_78 rfl 1 rfl ?_
          refine xj_aload_n hC dX5_about_79 rfl 1 rfl ?_
          refine xj_iload_n hC dX5_about_80 rfl 2 rfl ?_
          obtain ⟨v16, hc15, hf⟩ := xm_bind hf
          obtain ⟨_, hob, _⟩ := xm_bind hc15
          refine xj_reti (xr_V hC (mX5_great l D ks b hc15) hob rfl xw_cod_X5_great xw_ini_X5 xw_ins_X5_great xw_sel_X5_great xw_ml_X5_100 xds_X5_great ⟨Nat.le_of_ble_eq_true rfl, Nat.le_of_ble_eq_true rfl⟩ rfl rfl (Nat.le_of_ble_eq_true rfl) ⟨Nat.le_of_ble_eq_true rfl, Nat.le_of_ble_eq_true rfl⟩ dX5_about_81) ?_
          obtain ⟨v18, w19, hc17, hf⟩ := xm_b2 hf
          obtain ⟨_, hob, _⟩ := xm_bind hc17
          refine xj_reti (xr_V hC (mX5_fine l D ks b hc17) hob rfl xw_cod_X5_fine xw_ini_X5 xw_ins_X5_fine xw_sel_X5_fine xw_ml_X5_67 xds_X5_fine ⟨Nat.le_of_ble_eq_true rfl, Nat.le_of_ble_eq_true rfl⟩ rfl rfl (Nat.le_of_ble_eq_true rfl) ⟨Nat.le_of_ble_eq_true rfl, Nat.le_of_ble_eq_true rfl⟩ dX5_about_84) ?_
          obtain ⟨he, hw⟩ := Prod.mk.inj (Option.some.inj hf)
          exact xj_iret hC hr (by decide) (by decide) dX5_about_87 he hw
        · refine xb_case hf (fun hx hf => ?_) (fun hn20 hf => ?_)
          · refine xj_tableIn (tgt := 88) hC (59) dX5_about_29 hx (by decide) (by decide) (by decide) (by decide) ?_
            refine xj_aload_n hC dX5_about_88 rfl 1 rfl ?_
            refine xj_aload_n hC dX5_about_89 rfl 1 rfl ?_
            refine xj_iload_n hC dX5_about_90 rfl 2 rfl ?_
            obtain ⟨v22, hc21, hf⟩ := xm_bind hf
            obtain ⟨_, hob, _⟩ := xm_bind hc21
            refine xj_reti (xr_V hC (mX5_last l D ks b hc21) hob rfl xw_cod_X5_last xw_ini_X5 xw_ins_X5_last xw_sel_X5_last xw_ml_X5_115 xds_X5_last ⟨Nat.le_of_ble_eq_true rfl, Nat.le_of_ble_eq_true rfl⟩ rfl rfl (Nat.le_of_ble_eq_true rfl) ⟨Nat.le_of_ble_eq_true rfl, Nat.le_of_ble_eq_true rfl⟩ dX5_about_91) ?_
            obtain ⟨v24, w25, hc23, hf⟩ := xm_b2 hf
            obtain ⟨_, hob, _⟩ := xm_bind hc23
            refine xj_reti (xr_V hC (mX5_fine l D ks b hc23) hob rfl xw_cod_X5_fine xw_ini_X5 xw_ins_X5_fine xw_sel_X5_fine xw_ml_X5_67 xds_X5_fine ⟨Nat.le_of_ble_eq_true rfl, Nat.le_of_ble_eq_true rfl⟩ rfl rfl (Nat.le_of_ble_eq_true rfl) ⟨Nat.le_of_ble_eq_true rfl, Nat.le_of_ble_eq_true rfl⟩ dX5_about_94) ?_
            obtain ⟨he, hw⟩ := Prod.mk.inj (Option.some.inj hf)
            exact xj_iret hC hr (by decide) (by decide) dX5_about_97 he hw
          · refine xb_case hf (fun hx hf => ?_) (fun hn26 hf => ?_)
            · refine xj_tableIn (tgt := 98) hC (69) dX5_about_29 hx (by decide) (by decide) (by decide) (by decide) ?_
              refine xj_aload_n hC dX5_about_98 rfl 1 rfl ?_
              refine xj_aload_n hC dX5_about_99 rfl 1 rfl ?_
              refine xj_iload_n hC dX5_about_100 rfl 2 rfl ?_
              obtain ⟨v28, hc27, hf⟩ := xm_bind hf
              obtain ⟨_, hob, _⟩ := xm_bind hc27
              refine xj_reti (xr_V hC (mX5_noneOf l D ks b hc27) hob rfl xw_cod_X5_noneOf xw_ini_X5 xw_ins_X5_noneOf xw_sel_X5_noneOf xw_ml_X5_118 xds_X5_noneOf ⟨Nat.le_of_ble_eq_true rfl, Nat.le_of_ble_eq_true rfl⟩ rfl rfl (Nat.le_of_ble_eq_true rfl) ⟨Nat.le_of_ble_eq_true rfl, Nat.le_of_ble_eq_true rfl⟩ dX5_about_101) ?_
              obtain ⟨v30, w31, hc29, hf⟩ := xm_b2 hf
              obtain ⟨_, hob, _⟩ := xm_bind hc29
              refine xj_reti (xr_V hC (mX5_fine l D ks b hc29) hob rfl xw_cod_X5_fine xw_ini_X5 xw_ins_X5_fine xw_sel_X5_fine xw_ml_X5_67 xds_X5_fine ⟨Nat.le_of_ble_eq_true rfl, Nat.le_of_ble_eq_true rfl⟩ rfl rfl (Nat.le_of_ble_eq_true rfl) ⟨Nat.le_of_ble_eq_true rfl, Nat.le_of_ble_eq_true rfl⟩ dX5_about_104) ?_
              obtain ⟨he, hw⟩ := Prod.mk.inj (Option.some.inj hf)
              exact xj_iret hC hr (by decide) (by decide) dX5_about_107 he hw
            · refine xb_case hf (fun hx hf => ?_) (fun hn32 hf => ?_)
              · refine xj_tableIn (tgt := 108) hC (79) dX5_about_29 hx (by decide) (by decide) (by decide) (by decide) ?_
                refine xj_aload_n hC dX5_about_108 rfl 1 rfl ?_
                refine xj_aload_n hC dX5_about_109 rfl 1 rfl ?_
                refine xj_iload_n hC dX5_about_110 rfl 2 rfl ?_
                obtain ⟨v34, hc33, hf⟩ := xm_bind hf
                obtain ⟨_, hob, _⟩ := xm_bind hc33
                refine xj_reti (xr_V hC (mX5_endless l D ks b hc33) hob rfl xw_cod_X5_endless xw_ini_X5 xw_ins_X5_endless xw_sel_X5_endless xw_ml_X5_121 xds_X5_endless ⟨Nat.le_of_ble_eq_true rfl, Nat.le_of_ble_eq_true rfl⟩ rfl rfl (Nat.le_of_ble_eq_true rfl) ⟨Nat.le_of_ble_eq_true rfl, Nat.le_of_ble_eq_true rfl⟩ dX5_about_111) ?_
                obtain ⟨v36, w37, hc35, hf⟩ := xm_b2 hf
                obtain ⟨_, hob, _⟩ := xm_bind hc35
                refine xj_reti (xr_V hC (mX5_fine l D ks b hc35) hob rfl xw_cod_X5_fine xw_ini_X5 xw_ins_X5_fine xw_sel_X5_fine xw_ml_X5_67 xds_X5_fine ⟨Nat.le_of_ble_eq_true rfl, Nat.le_of_ble_eq_true rfl⟩ rfl rfl (Nat.le_of_ble_eq_true rfl) ⟨Nat.le_of_ble_eq_true rfl, Nat.le_of_ble_eq_true rfl⟩ dX5_about_114) ?_
                obtain ⟨he, hw⟩ := Prod.mk.inj (Option.some.inj hf)
                exact xj_iret hC hr (by decide) (by decide) dX5_about_117 he hw
              · refine xb_case hf (fun hx hf => ?_) (fun hn38 hf => ?_)
                · refine xj_tableIn (tgt := 118) hC (89) dX5_about_29 hx (by decide) (by decide) (by decide) (by decide) ?_
                  refine xj_iconst (v := 0) hC dX5_about_118 (by decide) ?_
                  refine xj_istore (lv' := [(4, xI (0 : Int32)), (3, xI (0 : Int32)), (0, xR th), (1, xI a1), (2, xI a2)]) hC dX5_about_119 (by decide) rfl ?_
                  refine xj_lv [2, 3, 1, 0] rfl ?_
                  exact lX5_about_L121 hC hr  xmN w (th) (a1) ((0 : Int32)) ((0 : Int32))  hf
                · have hx0 := lv_neT hn8 (a := 0) (by decide)
                  have hx1 := lv_neT hn14 (a := 1) (by decide)
                  have hx2 := lv_neT hn20 (a := 2) (by decide)
                  have hx3 := lv_neT hn26 (a := 3) (by decide)
                  have hx4 := lv_neT hn32 (a := 4) (by decide)
                  have hx5 := lv_neT hn38 (a := 5) (by decide)
                  refine xj_tableOut (tgt := 163) hC dX5_about_29 (by omega) (by decide) ?_
                  refine xj_aload_n hC dX5_about_163 rfl 1 rfl ?_
                  refine xj_aload_n hC dX5_about_164 rfl 1 rfl ?_
                  refine xj_iload_n hC dX5_about_165 rfl 2 rfl ?_
                  obtain ⟨v40, hc39, hf⟩ := xm_bind hf
                  obtain ⟨_, hob, _⟩ := xm_bind hc39
                  refine xj_reti (xr_V hC (mX5_scale l D ks b hc39) hob rfl xw_cod_X5_scale xw_ini_X5 xw_ins_X5_scale xw_sel_X5_scale xw_ml_X5_127 xds_X5_scale ⟨Nat.le_of_ble_eq_true rfl, Nat.le_of_ble_eq_true rfl⟩ rfl rfl (Nat.le_of_ble_eq_true rfl) ⟨Nat.le_of_ble_eq_true rfl, Nat.le_of_ble_eq_true rfl⟩ dX5_about_166) ?_
                  obtain ⟨v42, w43, hc41, hf⟩ := xm_b2 hf
                  obtain ⟨_, hob, _⟩ := xm_bind hc41
                  refine xj_reti (xr_V hC (mX5_fine l D ks b hc41) hob rfl xw_cod_X5_fine xw_ini_X5 xw_ins_X5_fine xw_sel_X5_fine xw_ml_X5_67 xds_X5_fine ⟨Nat.le_of_ble_eq_true rfl, Nat.le_of_ble_eq_true rfl⟩ rfl rfl (Nat.le_of_ble_eq_true rfl) ⟨Nat.le_of_ble_eq_true rfl, Nat.le_of_ble_eq_true rfl⟩ dX5_about_169) ?_
                  obtain ⟨he, hw⟩ := Prod.mk.inj (Option.some.inj hf)
                  exact xj_iret hC hr (by decide) (by decide) dX5_about_172 he hw
    · refine xj_aload_n hC dX5_about_20 rfl 0 rfl ?_
      refine xj_iconst (v := -1) hC dX5_about_21 (by decide) ?_
      obtain ⟨v45, w46, hc44, hf⟩ := xm_b2 hf
      obtain ⟨_, hob, _⟩ := xm_bind hc44
      refine xj_reti (xr_V hC (mX5_refused l D ks b hc44) hob rfl xw_cod_X5_refused xw_ini_X5 xw_ins_X5_refused xw_sel_X5_refused xw_ml_X5_57 xds_X5_refused ⟨Nat.le_of_ble_eq_true rfl, Nat.le_of_ble_eq_true rfl⟩ rfl rfl (Nat.le_of_ble_eq_true rfl) ⟨Nat.le_of_ble_eq_true rfl, Nat.le_of_ble_eq_true rfl⟩ dX5_about_22) ?_
      obtain ⟨he, hw⟩ := Prod.mk.inj (Option.some.inj hf)
      exact xj_iret hC hr (by decide) (by decide) dX5_about_25 he hw
def fX5_kind (w : xmW) (th : (Option Nat)) (a1 : Int32) (a2 : Int32) (a3 : Int32) : Option (Int32 × xmW) := ((xmob w th 5).bind fun _ => ((fX5_isFormat w (th) (a1)).bind fun v2 => (if v2 = 0 then (xmb2 (fX5_refused w (th) ((-1 : Int32))) fun v4 w5 => (some (v4, w5))) else ((fX5_isCode w (th) (a1) (a2)).bind fun v7 => (if v7 = 0 then (xmb2 (fX5_refused w (th) ((-1 : Int32))) fun v9 w10 => (some (v9, w10))) else ((fX5_in w ((a3).toInt64) ((0 : Int64)) ((1 : Int64))).bind fun v12 => (if v12 = 0 then (xmb2 (fX5_refused w (th) ((-1 : Int32))) fun v24 w25 => (some (v24, w25))) else (if a3 = 0 then ((fX5_kindOf w (th) (a1) (a2)).bind fun v19 => (xmb2 (fX5_fine w (th) (v19)) fun v21 w22 => (some (v21, w22)))) else ((fX5_isMinus w (th) (a1) (a2)).bind fun v14 => (xmb2 (fX5_fine w (th) ((if v14 = 0 then (0 : Int32) else (1 : Int32)))) fun v16 w17 => (some (v16, w17))))))))))))
set_option maxHeartbeats 4000000 in
set_option maxRecDepth 100000 in
theorem mX5_kind (l : Launch) (D : va_G) (ks : Nat → ClassId) (b : Nat) {w : xmW} {th : (Option Nat)} {a1 : Int32} {a2 : Int32} {a3 : Int32} {y : Int32} {wz : xmW} (hf : fX5_kind w th a1 a2 a3 = some (y, wz)) : xmM l yX5_kind (Cond.code yX5_kind cX5_kind 4 (some (FieldType.int)) :: xmTs) 3 67 0 0 D ks b w [xR th, xI a1, xI a2, xI a3] (some (xI y)) wz := by
  unfold fX5_kind at hf
  obtain ⟨_, _, hf⟩ := xm_bind hf
  refine xmM.of (own := RX5) (lv0 := [(0, xR th), (1, xI a1), (2, xI a2), (3, xI a3)]) (by decide) rfl (Nat.le_of_ble_eq_true rfl) rfl ?_
  intro p e s m args below meth c hC hr hnm
  refine xj_aload_n hC dX5_kind_0 rfl 0 rfl ?_
  refine xj_iload_n hC dX5_kind_1 rfl 1 rfl ?_
  obtain ⟨v2, hc1, hf⟩ := xm_bind hf
  obtain ⟨_, hob, _⟩ := xm_bind hc1
  refine xj_reti (xr_V hC (mX5_isFormat l D ks b hc1) hob rfl xw_cod_X5_isFormat xw_ini_X5 xw_ins_X5_isFormat xw_sel_X5_isFormat xw_ml_X5_109 xds_X5_isFormat ⟨Nat.le_of_ble_eq_true rfl, Nat.le_of_ble_eq_true rfl⟩ rfl rfl (Nat.le_of_ble_eq_true rfl) ⟨Nat.le_of_ble_eq_true rfl, Nat.le_of_ble_eq_true rfl⟩ dX5_kind_2) ?_
  refine xb_if_eq (tgt := 27) hC dX5_kind_5 (by decide) hf (fun hf => ?_) (fun hf => ?_)
  · refine xj_aload_n hC dX5_kind_27 rfl 0 rfl ?_
    refine xj_iconst (v := -1) hC dX5_kind_28 (by decide) ?_
    obtain ⟨v4, w5, hc3, hf⟩ := xm_b2 hf
    obtain ⟨_, hob, _⟩ := xm_bind hc3
    refine xj_reti (xr_V hC (mX5_refused l D ks b hc3) hob rfl xw_cod_X5_refused xw_ini_X5 xw_ins_X5_refused xw_sel_X5_refused xw_ml_X5_57 xds_X5_refused ⟨Nat.le_of_ble_eq_true rfl, Nat.le_of_ble_eq_true rfl⟩ rfl rfl (Nat.le_of_ble_eq_true rfl) ⟨Nat.le_of_ble_eq_true rfl, Nat.le_of_ble_eq_true rfl⟩ dX5_kind_29) ?_
    obtain ⟨he, hw⟩ := Prod.mk.inj (Option.some.inj hf)
    exact xj_iret hC hr (by decide) (by decide) dX5_kind_32 he hw
  · refine xj_aload_n hC dX5_kind_8 rfl 0 rfl ?_
    refine xj_iload_n hC dX5_kind_9 rfl 1 rfl ?_
    refine xj_iload_n hC dX5_kind_10 rfl 2 rfl ?_
    obtain ⟨v7, hc6, hf⟩ := xm_bind hf
    obtain ⟨_, hob, _⟩ := xm_bind hc6
    refine xj_reti (xr_V hC (mX5_isCode l D ks b hc6) hob rfl xw_cod_X5_isCode xw_ini_X5 xw_ins_X5_isCode xw_sel_X5_isCode xw_ml_X5_130 xds_X5_isCode ⟨Nat.le_of_ble_eq_true rfl, Nat.le_of_ble_eq_true rfl⟩ rfl rfl (Nat.le_of_ble_eq_true rfl) ⟨Nat.le_of_ble_eq_true rfl, Nat.le_of_ble_eq_true rfl⟩ dX5_kind_11) ?_
    refine xb_if_eq (tgt := 27) hC dX5_kind_14 (by decide) hf (fun hf => ?_) (fun hf => ?_)
    · refine xj_aload_n hC dX5_kind_27 rfl 0 rfl ?_
      refine xj_iconst (v := -1) hC dX5_kind_28 (by decide) ?_
      obtain ⟨v9, w10, hc8, hf⟩ := xm_b2 hf
      obtain ⟨_, hob, _⟩ := xm_bind hc8
      refine xj_reti (xr_V hC (mX5_refused l D ks b hc8) hob rfl xw_cod_X5_refused xw_ini_X5 xw_ins_X5_refused xw_sel_X5_refused xw_ml_X5_57 xds_X5_refused ⟨Nat.le_of_ble_eq_true rfl, Nat.le_of_ble_eq_true rfl⟩ rfl rfl (Nat.le_of_ble_eq_true rfl) ⟨Nat.le_of_ble_eq_true rfl, Nat.le_of_ble_eq_true rfl⟩ dX5_kind_29) ?_
      obtain ⟨he, hw⟩ := Prod.mk.inj (Option.some.inj hf)
      exact xj_iret hC hr (by decide) (by decide) dX5_kind_32 he hw
    · refine xj_iload_n hC dX5_kind_17 rfl 3 rfl ?_
      refine xj_i2l hC dX5_kind_18 ?_
      refine xj_lconst (v := 0) hC dX5_kind_19 (by decide) ?_
      refine xj_lconst (v := 1) hC dX5_kind_20 (by decide) ?_
      obtain ⟨v12, hc11, hf⟩ := xm_bind hf
      refine xj_reti (xr_S hC (mX5_in l D ks b hc11) xw_cod_X5_in xw_ini_X5 xw_sta_X5_in xw_ml_X5_70 xds_X5_in ⟨Nat.le_of_ble_eq_true rfl, Nat.le_of_ble_eq_true rfl⟩ rfl rfl (Nat.le_of_ble_eq_true rfl) ⟨Nat.le_of_ble_eq_true rfl, Nat.le_of_ble_eq_true rfl⟩ dX5_kind_21) ?_
      refine xb_if_ne (tgt := 33) hC dX5_kind_24 (by decide) hf (fun hf => ?_) (fun hf => ?_)
      · refine xj_aload_n hC dX5_kind_33 rfl 0 rfl ?_
        refine xj_iload_n hC dX5_kind_34 rfl 3 rfl ?_
        refine xb_if_ne (tgt := 47) hC dX5_kind_35 (by decide) hf (fun hf => ?_) (fun hf => ?_)
        · refine xj_aload_n hC dX5_kind_47 rfl 0 rfl ?_
          refine xj_iload_n hC dX5_kind_48 rfl 1 rfl ?_
          refine xj_iload_n hC dX5_kind_49 rfl 2 rfl ?_
          obtain ⟨v14, hc13, hf⟩ := xm_bind hf
          obtain ⟨_, hob, _⟩ := xm_bind hc13
          refine xj_reti (xr_V hC (mX5_isMinus l D ks b hc13) hob rfl xw_cod_X5_isMinus xw_ini_X5 xw_ins_X5_isMinus xw_sel_X5_isMinus xw_ml_X5_96 xds_X5_isMinus ⟨Nat.le_of_ble_eq_true rfl, Nat.le_of_ble_eq_true rfl⟩ rfl rfl (Nat.le_of_ble_eq_true rfl) ⟨Nat.le_of_ble_eq_true rfl, Nat.le_of_ble_eq_true rfl⟩ dX5_kind_50) ?_
          refine xj_dia (cnd := v14 = 0) (x := 0) (y := 1) (pc2 := 61) (st2 := [xR th]) (fun hc hk => ?_) (fun hc hk => ?_) ?_
          · exact xj_if_eq (tgt := 60) hC dX5_kind_53 (by decide) (fun _ => xj_iconst (v := 0) hC dX5_kind_60 (by decide) hk) (fun hn => absurd hc hn)
          · exact xj_if_eq (tgt := 60) hC dX5_kind_53 (by decide) (fun hn => absurd hn hc) (fun _ => xj_iconst (v := 1) hC dX5_kind_56 (by decide) (xj_goto (tgt := 61) hC dX5_kind_57 (by decide) hk))
          obtain ⟨v16, w17, hc15, hf⟩ := xm_b2 hf
          obtain ⟨_, hob, _⟩ := xm_bind hc15
          refine xj_reti (xr_V hC (mX5_fine l D ks b hc15) hob rfl xw_cod_X5_fine xw_ini_X5 xw_ins_X5_fine xw_sel_X5_fine xw_ml_X5_67 xds_X5_fine ⟨Nat.le_of_ble_eq_true rfl, Nat.le_of_ble_eq_true rfl⟩ rfl rfl (Nat.le_of_ble_eq_true rfl) ⟨Nat.le_of_ble_eq_true rfl, Nat.le_of_ble_eq_true rfl⟩ dX5_kind_61) ?_
          obtain ⟨he, hw⟩ := Prod.mk.inj (Option.some.inj hf)
          exact xj_iret hC hr (by decide) (by decide) dX5_kind_64 he hw
        · refine xj_aload_n hC dX5_kind_38 rfl 0 rfl ?_
          refine xj_iload_n hC dX5_kind_39 rfl 1 rfl ?_
          refine xj_iload_n hC dX5_kind_40 rfl 2 rfl ?_
          obtain ⟨v19, hc18, hf⟩ := xm_bind hf
          obtain ⟨_, hob, _⟩ := xm_bind hc18
          refine xj_reti (xr_V hC (mX5_kindOf l D ks b hc18) hob rfl xw_cod_X5_kindOf xw_ini_X5 xw_ins_X5_kindOf xw_sel_X5_kindOf xw_ml_X5_87 xds_X5_kindOf ⟨Nat.le_of_ble_eq_true rfl, Nat.le_of_ble_eq_true rfl⟩ rfl rfl (Nat.le_of_ble_eq_true rfl) ⟨Nat.le_of_ble_eq_true rfl, Nat.le_of_ble_eq_true rfl⟩ dX5_kind_41) ?_
          refine xj_goto (tgt := 61) hC dX5_kind_44 (by decide) ?_
          obtain ⟨v21, w22, hc20, hf⟩ := xm_b2 hf
          obtain ⟨_, hob, _⟩ := xm_bind hc20
          refine xj_reti (xr_V hC (mX5_fine l D ks b hc20) hob rfl xw_cod_X5_fine xw_ini_X5 xw_ins_X5_fine xw_sel_X5_fine xw_ml_X5_67 xds_X5_fine ⟨Nat.le_of_ble_eq_true rfl, Nat.le_of_ble_eq_true rfl⟩ rfl rfl (Nat.le_of_ble_eq_true rfl) ⟨Nat.le_of_ble_eq_true rfl, Nat.le_of_ble_eq_true rfl⟩ dX5_kind_61) ?_
          obtain ⟨he, hw⟩ := Prod.mk.inj (Option.some.inj hf)
          exact xj_iret hC hr (by decide) (by decide) dX5_kind_64 he hw
      · refine xj_aload_n hC dX5_kind_27 rfl 0 rfl ?_
        refine xj_iconst (v := -1) hC dX5_kind_28 (by decide) ?_
        obtain ⟨v24, w25, hc23, hf⟩ := xm_b2 hf
        obtain ⟨_, hob, _⟩ := xm_bind hc23
        refine xj_reti (xr_V hC (mX5_refused l D ks b hc23) hob rfl xw_cod_X5_refused xw_ini_X5 xw_ins_X5_refused xw_sel_X5_refused xw_ml_X5_57 xds_X5_refused ⟨Nat.le_of_ble_eq_true rfl, Nat.le_of_ble_eq_true rfl⟩ rfl rfl (Nat.le_of_ble_eq_true rfl) ⟨Nat.le_of_ble_eq_true rfl, Nat.le_of_ble_eq_true rfl⟩ dX5_kind_29) ?_
        obtain ⟨he, hw⟩ := Prod.mk.inj (Option.some.inj hf)
        exact xj_iret hC hr (by decide) (by decide) dX5_kind_32 he hw
def fX5_units (w : xmW) (th : (Option Nat)) (a1 : Int32) (a2 : Int32) : Option (Int64 × xmW) := ((xmob w th 5).bind fun _ => ((fX5_isFormat w (th) (a1)).bind fun v2 => (if v2 = 0 then (xmb2 (fX5_refused w (th) ((-1 : Int32))) fun v4 w5 => (some ((-9223372036854775808 : Int64), w5))) else ((fX5_isCode w (th) (a1) (a2)).bind fun v7 => (if v7 = 0 then (xmb2 (fX5_refused w (th) ((-1 : Int32))) fun v14 w15 => (some ((-9223372036854775808 : Int64), w15))) else ((xmput w th 5 17 (xI (0 : Int32))).bind fun w8 => ((fX5_isNumber w8 (th) (a1) (a2)).bind fun v10 => (if v10 = 0 then (some ((-9223372036854775808 : Int64), w8)) else ((fX5_unitsOf w8 (th) (a1) (a2)).bind fun v12 => (some (v12, w8)))))))))))
set_option maxHeartbeats 4000000 in
set_option maxRecDepth 100000 in
theorem mX5_units (l : Launch) (D : va_G) (ks : Nat → ClassId) (b : Nat) {w : xmW} {th : (Option Nat)} {a1 : Int32} {a2 : Int32} {y : Int64} {wz : xmW} (hf : fX5_units w th a1 a2 = some (y, wz)) : xmM l yX5_units (Cond.code yX5_units cX5_units 4 (some (FieldType.long)) :: xmTs) 4 89 0 0 D ks b w [xR th, xI a1, xI a2] (some (xL y)) wz := by
  unfold fX5_units at hf
  obtain ⟨_, _, hf⟩ := xm_bind hf
  refine xmM.of (own := RX5) (lv0 := [(0, xR th), (1, xI a1), (2, xI a2)]) (by decide) rfl (Nat.le_of_ble_eq_true rfl) rfl ?_
  intro p e s m args below meth c hC hr hnm
  refine xj_aload_n hC dX5_units_0 rfl 0 rfl ?_
  refine xj_iload_n hC dX5_units_1 rfl 1 rfl ?_
  obtain ⟨v2, hc1, hf⟩ := xm_bind hf
  obtain ⟨_, hob, _⟩ := xm_bind hc1
  refine xj_reti (xr_V hC (mX5_isFormat l D ks b hc1) hob rfl xw_cod_X5_isFormat xw_ini_X5 xw_ins_X5_isFormat xw_sel_X5_isFormat xw_ml_X5_109 xds_X5_isFormat ⟨Nat.le_of_ble_eq_true rfl, Nat.le_of_ble_eq_true rfl⟩ rfl rfl (Nat.le_of_ble_eq_true rfl) ⟨Nat.le_of_ble_eq_true rfl, Nat.le_of_ble_eq_true rfl⟩ dX5_units_2) ?_
  refine xb_if_eq (tgt := 17) hC dX5_units_5 (by decide) hf (fun hf => ?_) (fun hf => ?_)
  · refine xj_aload_n hC dX5_units_17 rfl 0 rfl ?_
    refine xj_iconst (v := -1) hC dX5_units_18 (by decide) ?_
    obtain ⟨v4, w5, hc3, hf⟩ := xm_b2 hf
    obtain ⟨_, hob, _⟩ := xm_bind hc3
    refine xj_reti (xr_V hC (mX5_refused l D ks b hc3) hob rfl xw_cod_X5_refused xw_ini_X5 xw_ins_X5_refused xw_sel_X5_refused xw_ml_X5_57 xds_X5_refused ⟨Nat.le_of_ble_eq_true rfl, Nat.le_of_ble_eq_true rfl⟩ rfl rfl (Nat.le_of_ble_eq_true rfl) ⟨Nat.le_of_ble_eq_true rfl, Nat.le_of_ble_eq_true rfl⟩ dX5_units_19) ?_
    refine xj_istore_n (lv' := [(3, xI v4), (0, xR th), (1, xI a1), (2, xI a2)]) hC dX5_units_22 rfl (by decide) rfl ?_
    refine xj_ldc2 hC xw_cst_X5_133 dX5_units_23 ?_
    obtain ⟨he, hw⟩ := Prod.mk.inj (Option.some.inj hf)
    exact xj_lret hC hr (by decide) (by decide) dX5_units_26 he hw
  · refine xj_aload_n hC dX5_units_8 rfl 0 rfl ?_
    refine xj_iload_n hC dX5_units_9 rfl 1 rfl ?_
    refine xj_iload_n hC dX5_units_10 rfl 2 rfl ?_
    obtain ⟨v7, hc6, hf⟩ := xm_bind hf
    obtain ⟨_, hob, _⟩ := xm_bind hc6
    refine xj_reti (xr_V hC (mX5_isCode l D ks b hc6) hob rfl xw_cod_X5_isCode xw_ini_X5 xw_ins_X5_isCode xw_sel_X5_isCode xw_ml_X5_130 xds_X5_isCode ⟨Nat.le_of_ble_eq_true rfl, Nat.le_of_ble_eq_true rfl⟩ rfl rfl (Nat.le_of_ble_eq_true rfl) ⟨Nat.le_of_ble_eq_true rfl, Nat.le_of_ble_eq_true rfl⟩ dX5_units_11) ?_
    refine xb_if_ne (tgt := 27) hC dX5_units_14 (by decide) hf (fun hf => ?_) (fun hf => ?_)
    · refine xj_aload_n hC dX5_units_27 rfl 0 rfl ?_
      refine xj_iconst (v := 0) hC dX5_units_28 (by decide) ?_
      refine xb_put hC 5 17 xcl_5 (by decide) xw_fl_X5_48 rfl (xmfit_i _) dX5_units_29 hf (fun w8 hf => ?_)
      refine xj_aload_n hC dX5_units_32 rfl 0 rfl ?_
      refine xj_iload_n hC dX5_units_33 rfl 1 rfl ?_
      refine xj_iload_n hC dX5_units_34 rfl 2 rfl ?_
      obtain ⟨v10, hc9, hf⟩ := xm_bind hf
      obtain ⟨_, hob, _⟩ := xm_bind hc9
      refine xj_reti (xr_V hC (mX5_isNumber l D ks b hc9) hob rfl xw_cod_X5_isNumber xw_ini_X5 xw_ins_X5_isNumber xw_sel_X5_isNumber xw_ml_X5_124 xds_X5_isNumber ⟨Nat.le_of_ble_eq_true rfl, Nat.le_of_ble_eq_true rfl⟩ rfl rfl (Nat.le_of_ble_eq_true rfl) ⟨Nat.le_of_ble_eq_true rfl, Nat.le_of_ble_eq_true rfl⟩ dX5_units_35) ?_
      refine xb_if_eq (tgt := 50) hC dX5_units_38 (by decide) hf (fun hf => ?_) (fun hf => ?_)
      · refine xj_ldc2 hC xw_cst_X5_133 dX5_units_50 ?_
        obtain ⟨he, hw⟩ := Prod.mk.inj (Option.some.inj hf)
        exact xj_lret hC hr (by decide) (by decide) dX5_units_53 he hw
      · refine xj_aload_n hC dX5_units_41 rfl 0 rfl ?_
        refine xj_iload_n hC dX5_units_42 rfl 1 rfl ?_
        refine xj_iload_n hC dX5_units_43 rfl 2 rfl ?_
        obtain ⟨v12, hc11, hf⟩ := xm_bind hf
        obtain ⟨_, hob, _⟩ := xm_bind hc11
        refine xj_retl (xr_V hC (mX5_unitsOf l D ks b hc11) hob rfl xw_cod_X5_unitsOf xw_ini_X5 xw_ins_X5_unitsOf xw_sel_X5_unitsOf xw_ml_X5_135 xds_X5_unitsOf ⟨Nat.le_of_ble_eq_true rfl, Nat.le_of_ble_eq_true rfl⟩ rfl rfl (Nat.le_of_ble_eq_true rfl) ⟨Nat.le_of_ble_eq_true rfl, Nat.le_of_ble_eq_true rfl⟩ dX5_units_44) ?_
        refine xj_goto (tgt := 53) hC dX5_units_47 (by decide) ?_
        obtain ⟨he, hw⟩ := Prod.mk.inj (Option.some.inj hf)
        exact xj_lret hC hr (by decide) (by decide) dX5_units_53 he hw
    · refine xj_aload_n hC dX5_units_17 rfl 0 rfl ?_
      refine xj_iconst (v := -1) hC dX5_units_18 (by decide) ?_
      obtain ⟨v14, w15, hc13, hf⟩ := xm_b2 hf
      obtain ⟨_, hob, _⟩ := xm_bind hc13
      refine xj_reti (xr_V hC (mX5_refused l D ks b hc13) hob rfl xw_cod_X5_refused xw_ini_X5 xw_ins_X5_refused xw_sel_X5_refused xw_ml_X5_57 xds_X5_refused ⟨Nat.le_of_ble_eq_true rfl, Nat.le_of_ble_eq_true rfl⟩ rfl rfl (Nat.le_of_ble_eq_true rfl) ⟨Nat.le_of_ble_eq_true rfl, Nat.le_of_ble_eq_true rfl⟩ dX5_units_19) ?_
      refine xj_istore_n (lv' := [(3, xI v14), (0, xR th), (1, xI a1), (2, xI a2)]) hC dX5_units_22 rfl (by decide) rfl ?_
      refine xj_ldc2 hC xw_cst_X5_133 dX5_units_23 ?_
      obtain ⟨he, hw⟩ := Prod.mk.inj (Option.some.inj hf)
      exact xj_lret hC hr (by decide) (by decide) dX5_units_26 he hw
def fX5_twiceBeside_L46 (w : xmW) (p3 : Int64) (s0 : Int64) : Option Int32 := (if 0 ≤ (lg_cmp p3 s0) then (some (if (lg_cmp p3 s0) ≤ 0 then (0 : Int32) else (1 : Int32))) else (some (-1 : Int32)))
set_option maxHeartbeats 4000000 in
set_option maxRecDepth 100000 in
theorem lX5_twiceBeside_L46 {p : Program} {l : Launch} {e : Env} {s : State} {m : MethodId} {args : Array Value} {below : List Frame} {meth : Method} {c : Code} {D : va_G} {ks : Nat → ClassId} {b : Nat} (hC : xmC p s m args meth c D ks b 7 cX5_twiceBeside RX5) (hr : meth.sig.returnType = (some (FieldType.int))) {y : Int32} (w : xmW) (p3 : Int64) (s0 : Int64) (hf : fX5_twiceBeside_L46 w p3 s0 = some y) : xmJ p l e ({ frames := 0, cells := 0, slots := 0, locals := 0 } : Room) s m args below meth c D ks b 7 (MQ below (xmQ D ks b (some (xI y)) w) args s 0 0 (xmA b)) w 0 0 46 [(3, xL p3)] [xL s0] := by
  unfold fX5_twiceBeside_L46 at hf
  refine xj_lstore (lv' := [(5, xL s0), (3, xL p3)]) hC dX5_twiceBeside_46 (by decide) rfl ?_
  refine xj_lload_n hC dX5_twiceBeside_48 rfl 1 rfl ?_
  refine xj_lload hC dX5_twiceBeside_49 0 rfl ?_
  refine xj_lcmp hC dX5_twiceBeside_51 ?_
  refine xb_if_ge (tgt := 59) hC dX5_twiceBeside_52 (by decide) hf (fun hf => ?_) (fun hf => ?_)
  · refine xj_lload_n hC dX5_twiceBeside_59 rfl 1 rfl ?_
    refine xj_lload hC dX5_twiceBeside_60 0 rfl ?_
    refine xj_lcmp hC dX5_twiceBeside_62 ?_
    refine xj_dia (cnd := (lg_cmp p3 s0) ≤ 0) (x := 0) (y := 1) (pc2 := 71) (st2 := []) (fun hc hk => ?_) (fun hc hk => ?_) ?_
    · exact xj_if_le (tgt := 70) hC dX5_twiceBeside_63 (by decide) (fun _ => xj_iconst (v := 0) hC dX5_twiceBeside_70 (by decide) hk) (fun hn => absurd hc hn)
    · exact xj_if_le (tgt := 70) hC dX5_twiceBeside_63 (by decide) (fun hn => absurd hn hc) (fun _ => xj_iconst (v := 1) hC dX5_twiceBeside_66 (by decide) (xj_goto (tgt := 71) hC dX5_twiceBeside_67 (by decide) hk))
    exact xj_iret hC hr (by decide) (by decide) dX5_twiceBeside_71 (Option.some.inj hf) rfl
  · refine xj_iconst (v := -1) hC dX5_twiceBeside_55 (by decide) ?_
    refine xj_goto (tgt := 71) hC dX5_twiceBeside_56 (by decide) ?_
    exact xj_iret hC hr (by decide) (by decide) dX5_twiceBeside_71 (Option.some.inj hf) rfl
def fX5_twiceBeside_L26 (w : xmW) (p0 : (Option Nat)) (p1 : Int64) (s0 : Int64) : Option Int32 := ((xmgI w p0 5 20).bind fun v4 => (if v4 = 0 then ((xmgL w p0 5 22).bind fun v5 => (fX5_twiceBeside_L46 w (s0) ((p1 * v5)))) else (fX5_twiceBeside_L46 w (s0) ((p1 * p1)))))
set_option maxHeartbeats 4000000 in
set_option maxRecDepth 100000 in
theorem lX5_twiceBeside_L26 {p : Program} {l : Launch} {e : Env} {s : State} {m : MethodId} {args : Array Value} {below : List Frame} {meth : Method} {c : Code} {D : va_G} {ks : Nat → ClassId} {b : Nat} (hC : xmC p s m args meth c D ks b 7 cX5_twiceBeside RX5) (hr : meth.sig.returnType = (some (FieldType.int))) {y : Int32} (w : xmW) (p0 : (Option Nat)) (p1 : Int64) (s0 : Int64) (hf : fX5_twiceBeside_L26 w p0 p1 s0 = some y) : xmJ p l e ({ frames := 0, cells := 0, slots := 0, locals := 0 } : Room) s m args below meth c D ks b 7 (MQ below (xmQ D ks b (some (xI y)) w) args s 0 0 (xmA b)) w 0 0 26 [(0, xR p0), (1, xL p1)] [xL s0] := by
  unfold fX5_twiceBeside_L26 at hf
  refine xj_lstore_n (lv' := [(3, xL s0), (0, xR p0), (1, xL p1)]) hC dX5_twiceBeside_26 rfl (by decide) rfl ?_
  refine xj_aload_n hC dX5_twiceBeside_27 rfl 1 rfl ?_
  refine xb_getI hC 5 20 xcl_5 (by decide) xw_fl_X5_138 dX5_twiceBeside_28 hf (fun v4 hf => ?_)
  refine xb_if_eq (tgt := 40) hC dX5_twiceBeside_31 (by decide) hf (fun hf => ?_) (fun hf => ?_)
  · refine xj_lload_n hC dX5_twiceBeside_40 rfl 2 rfl ?_
    refine xj_aload_n hC dX5_twiceBeside_41 rfl 1 rfl ?_
    refine xb_getL hC 5 22 xcl_5 (by decide) xw_fl_X5_146 dX5_twiceBeside_42 hf (fun v5 hf => ?_)
    refine xj_lmul hC dX5_twiceBeside_45 ?_
    refine xj_lv [0] rfl ?_
    exact lX5_twiceBeside_L46 hC hr  w (s0) ((p1 * v5)) hf
  · refine xj_lload_n hC dX5_twiceBeside_34 rfl 2 rfl ?_
    refine xj_lload_n hC dX5_twiceBeside_35 rfl 2 rfl ?_
    refine xj_lmul hC dX5_twiceBeside_36 ?_
    refine xj_goto (tgt := 46) hC dX5_twiceBeside_37 (by decide) ?_
    refine xj_lv [0] rfl ?_
    exact lX5_twiceBeside_L46 hC hr  w (s0) ((p1 * p1)) hf
def fX5_twiceBeside (w : xmW) (th : (Option Nat)) (a1 : Int64) : Option Int32 := ((xmob w th 5).bind fun _ => ((xmgI w th 5 20).bind fun v1 => (if v1 = 0 then ((xmgL w th 5 21).bind fun v2 => (fX5_twiceBeside_L26 w (th) (a1) (((2 : Int64) * v2)))) else ((xmgL w th 5 21).bind fun v3 => (fX5_twiceBeside_L26 w (th) (a1) (((4 : Int64) * v3)))))))
set_option maxHeartbeats 4000000 in
set_option maxRecDepth 100000 in
theorem mX5_twiceBeside (l : Launch) (D : va_G) (ks : Nat → ClassId) (b : Nat) {w : xmW} {th : (Option Nat)} {a1 : Int64} {y : Int32} (hf : fX5_twiceBeside w th a1 = some y) : xmM l yX5_twiceBeside (Cond.code yX5_twiceBeside cX5_twiceBeside 7 (some (FieldType.int)) :: xmTs) 0 0 0 0 D ks b w [xR th, xL a1] (some (xI y)) w := by
  unfold fX5_twiceBeside at hf
  obtain ⟨_, _, hf⟩ := xm_bind hf
  refine xmM.of (own := RX5) (lv0 := [(0, xR th), (1, xL a1)]) (by decide) rfl (Nat.le_of_ble_eq_true rfl) rfl ?_
  intro p e s m args below meth c hC hr hnm
  refine xj_aload_n hC dX5_twiceBeside_0 rfl 0 rfl ?_
  refine xb_getI hC 5 20 xcl_5 (by decide) xw_fl_X5_138 dX5_twiceBeside_1 hf (fun v1 hf => ?_)
  refine xb_if_eq (tgt := 18) hC dX5_twiceBeside_4 (by decide) hf (fun hf => ?_) (fun hf => ?_)
  · refine xj_ldc2 hC xw_cst_X5_90 dX5_twiceBeside_18 ?_
    refine xj_aload_n hC dX5_twiceBeside_21 rfl 0 rfl ?_
    refine xb_getL hC 5 21 xcl_5 (by decide) xw_fl_X5_142 dX5_twiceBeside_22 hf (fun v2 hf => ?_)
    refine xj_lmul hC dX5_twiceBeside_25 ?_
    exact lX5_twiceBeside_L26 hC hr  w (th) (a1) (((2 : Int64) * v2)) hf
  · refine xj_ldc2 hC xw_cst_X5_103 dX5_twiceBeside_7 ?_
    refine xj_aload_n hC dX5_twiceBeside_10 rfl 0 rfl ?_
    refine xb_getL hC 5 21 xcl_5 (by decide) xw_fl_X5_142 dX5_twiceBeside_11 hf (fun v3 hf => ?_)
    refine xj_lmul hC dX5_twiceBeside_14 ?_
    refine xj_goto (tgt := 26) hC dX5_twiceBeside_15 (by decide) ?_
    exact lX5_twiceBeside_L26 hC hr  w (th) (a1) (((4 : Int64) * v3)) hf
def fX5_beyond (w : xmW) (th : (Option Nat)) (a1 : Int32) (a2 : Int32) : Option Int32 := ((xmob w th 5).bind fun _ => ((xmgR w th 5 6).bind fun v1 => ((xmild w v1 0 a1).bind fun v2 => (if v2 = 0 then ((fX5_endless w (th) (a1)).bind fun v12 => ((fX5_signed w (th) (a1) (v12) (a2)).bind fun v14 => (some v14))) else ((xmgR w th 5 6).bind fun v3 => ((xmild w v3 0 a1).bind fun v4 => (if v4 = (1 : Int32) then ((fX5_noneOf w (th) (a1)).bind fun v10 => (some v10)) else ((fX5_great w (th) (a1)).bind fun v6 => ((fX5_signed w (th) (a1) (v6) (a2)).bind fun v8 => (some v8))))))))))
set_option maxHeartbeats 4000000 in
set_option maxRecDepth 100000 in
theorem mX5_beyond (l : Launch) (D : va_G) (ks : Nat → ClassId) (b : Nat) {w : xmW} {th : (Option Nat)} {a1 : Int32} {a2 : Int32} {y : Int32} (hf : fX5_beyond w th a1 a2 = some y) : xmM l yX5_beyond (Cond.code yX5_beyond cX5_beyond 3 (some (FieldType.int)) :: xmTs) 2 44 0 0 D ks b w [xR th, xI a1, xI a2] (some (xI y)) w := by
  unfold fX5_beyond at hf
  obtain ⟨_, _, hf⟩ := xm_bind hf
  refine xmM.of (own := RX5) (lv0 := [(0, xR th), (1, xI a1), (2, xI a2)]) (by decide) rfl (Nat.le_of_ble_eq_true rfl) rfl ?_
  intro p e s m args below meth c hC hr hnm
  refine xj_aload_n hC dX5_beyond_0 rfl 0 rfl ?_
  refine xb_getR hC 5 6 xcl_5 (by decide) xw_fl_X5_26 dX5_beyond_1 hf (fun v1 hf => ?_)
  refine xj_iload_n hC dX5_beyond_4 rfl 1 rfl ?_
  refine xb_iald hC dX5_beyond_5 hf (fun v2 hf => ?_)
  refine xb_if_ne (tgt := 21) hC dX5_beyond_6 (by decide) hf (fun hf => ?_) (fun hf => ?_)
  · refine xj_aload_n hC dX5_beyond_21 rfl 0 rfl ?_
    refine xb_getR hC 5 6 xcl_5 (by decide) xw_fl_X5_26 dX5_beyond_22 hf (fun v3 hf => ?_)
    refine xj_iload_n hC dX5_beyond_25 rfl 1 rfl ?_
    refine xb_iald hC dX5_beyond_26 hf (fun v4 hf => ?_)
    refine xj_iconst (v := 1) hC dX5_beyond_27 (by decide) ?_
    refine xb_ic_ne (tgt := 39) hC dX5_beyond_28 (by decide) hf (fun hf => ?_) (fun hf => ?_)
    · refine xj_aload_n hC dX5_beyond_39 rfl 0 rfl ?_
      refine xj_iload_n hC dX5_beyond_40 rfl 1 rfl ?_
      refine xj_aload_n hC dX5_beyond_41 rfl 0 rfl ?_
      refine xj_iload_n hC dX5_beyond_42 rfl 1 rfl ?_
      obtain ⟨v6, hc5, hf⟩ := xm_bind hf
      obtain ⟨_, hob, _⟩ := xm_bind hc5
      refine xj_reti (xr_V hC (mX5_great l D ks b hc5) hob rfl xw_cod_X5_great xw_ini_X5 xw_ins_X5_great xw_sel_X5_great xw_ml_X5_100 xds_X5_great ⟨Nat.le_of_ble_eq_true rfl, Nat.le_of_ble_eq_true rfl⟩ rfl rfl (Nat.le_of_ble_eq_true rfl) ⟨Nat.le_of_ble_eq_true rfl, Nat.le_of_ble_eq_true rfl⟩ dX5_beyond_43) ?_
      refine xj_iload_n hC dX5_beyond_46 rfl 2 rfl ?_
      obtain ⟨v8, hc7, hf⟩ := xm_bind hf
      obtain ⟨_, hob, _⟩ := xm_bind hc7
      refine xj_reti (xr_V hC (mX5_signed l D ks b hc7) hob rfl xw_cod_X5_signed xw_ini_X5 xw_ins_X5_signed xw_sel_X5_signed xw_ml_X5_149 xds_X5_signed ⟨Nat.le_of_ble_eq_true rfl, Nat.le_of_ble_eq_true rfl⟩ rfl rfl (Nat.le_of_ble_eq_true rfl) ⟨Nat.le_of_ble_eq_true rfl, Nat.le_of_ble_eq_true rfl⟩ dX5_beyond_47) ?_
      exact xj_iret hC hr (by decide) (by decide) dX5_beyond_50 (Option.some.inj hf) rfl
    · refine xj_aload_n hC dX5_beyond_31 rfl 0 rfl ?_
      refine xj_iload_n hC dX5_beyond_32 rfl 1 rfl ?_
      obtain ⟨v10, hc9, hf⟩ := xm_bind hf
      obtain ⟨_, hob, _⟩ := xm_bind hc9
      refine xj_reti (xr_V hC (mX5_noneOf l D ks b hc9) hob rfl xw_cod_X5_noneOf xw_ini_X5 xw_ins_X5_noneOf xw_sel_X5_noneOf xw_ml_X5_118 xds_X5_noneOf ⟨Nat.le_of_ble_eq_true rfl, Nat.le_of_ble_eq_true rfl⟩ rfl rfl (Nat.le_of_ble_eq_true rfl) ⟨Nat.le_of_ble_eq_true rfl, Nat.le_of_ble_eq_true rfl⟩ dX5_beyond_33) ?_
      refine xj_goto (tgt := 50) hC dX5_beyond_36 (by decide) ?_
      exact xj_iret hC hr (by decide) (by decide) dX5_beyond_50 (Option.some.inj hf) rfl
  · refine xj_aload_n hC dX5_beyond_9 rfl 0 rfl ?_
    refine xj_iload_n hC dX5_beyond_10 rfl 1 rfl ?_
    refine xj_aload_n hC dX5_beyond_11 rfl 0 rfl ?_
    refine xj_iload_n hC dX5_beyond_12 rfl 1 rfl ?_
    obtain ⟨v12, hc11, hf⟩ := xm_bind hf
    obtain ⟨_, hob, _⟩ := xm_bind hc11
    refine xj_reti (xr_V hC (mX5_endless l D ks b hc11) hob rfl xw_cod_X5_endless xw_ini_X5 xw_ins_X5_endless xw_sel_X5_endless xw_ml_X5_121 xds_X5_endless ⟨Nat.le_of_ble_eq_true rfl, Nat.le_of_ble_eq_true rfl⟩ rfl rfl (Nat.le_of_ble_eq_true rfl) ⟨Nat.le_of_ble_eq_true rfl, Nat.le_of_ble_eq_true rfl⟩ dX5_beyond_13) ?_
    refine xj_iload_n hC dX5_beyond_16 rfl 2 rfl ?_
    obtain ⟨v14, hc13, hf⟩ := xm_bind hf
    obtain ⟨_, hob, _⟩ := xm_bind hc13
    refine xj_reti (xr_V hC (mX5_signed l D ks b hc13) hob rfl xw_cod_X5_signed xw_ini_X5 xw_ins_X5_signed xw_sel_X5_signed xw_ml_X5_149 xds_X5_signed ⟨Nat.le_of_ble_eq_true rfl, Nat.le_of_ble_eq_true rfl⟩ rfl rfl (Nat.le_of_ble_eq_true rfl) ⟨Nat.le_of_ble_eq_true rfl, Nat.le_of_ble_eq_true rfl⟩ dX5_beyond_17) ?_
    exact xj_iret hC hr (by decide) (by decide) dX5_beyond_20 (Option.some.inj hf) rfl
def fX5_roundedAbove_L130 (w : xmW) (p0 : (Option Nat)) (p1 : Int32) (p2 : Int32) (p6 : Int32) : Option (Int32 × xmW) := (if p6 = 0 then ((fX5_great w (p0) (p1)).bind fun v18 => ((fX5_signed w (p0) (p1) (v18) (p2)).bind fun v20 => (some (v20, w)))) else ((fX5_beyond w (p0) (p1) (p2)).bind fun v22 => (some (v22, w))))
set_option maxHeartbeats 4000000 in
set_option maxRecDepth 100000 in
theorem lX5_roundedAbove_L130 {p : Program} {l : Launch} {e : Env} {s : State} {m : MethodId} {args : Array Value} {below : List Frame} {meth : Method} {c : Code} {D : va_G} {ks : Nat → ClassId} {b : Nat} (hC : xmC p s m args meth c D ks b 7 cX5_roundedAbove RX5) (hr : meth.sig.returnType = (some (FieldType.int))) {y : Int32} {wz : xmW} (w : xmW) (p0 : (Option Nat)) (p1 : Int32) (p2 : Int32) (p6 : Int32) (hf : fX5_roundedAbove_L130 w p0 p1 p2 p6 = some (y, wz)) : xmJ p l e ({ frames := 3, cells := 0, slots := 0, locals := 66 } : Room) s m args below meth c D ks b 7 (MQ below (xmQ D ks b (some (xI y)) wz) args s 0 0 (xmA b)) w 0 0 130 [(0, xR p0), (1, xI p1), (2, xI p2), (6, xI p6)] [] := by
  unfold fX5_roundedAbove_L130 at hf
  refine xj_iload hC dX5_roundedAbove_130 3 rfl ?_
  refine xb_if_eq (tgt := 144) hC dX5_roundedAbove_132 (by decide) hf (fun hf => ?_) (fun hf => ?_)
  · refine xj_aload_n hC dX5_roundedAbove_144 rfl 0 rfl ?_
    refine xj_iload_n hC dX5_roundedAbove_145 rfl 1 rfl ?_
    refine xj_aload_n hC dX5_roundedAbove_146 rfl 0 rfl ?_
    refine xj_iload_n hC dX5_roundedAbove_147 rfl 1 rfl ?_
    obtain ⟨v18, hc17, hf⟩ := xm_bind hf
    obtain ⟨_, hob, _⟩ := xm_bind hc17
    refine xj_reti (xr_V hC (mX5_great l D ks b hc17) hob rfl xw_cod_X5_great xw_ini_X5 xw_ins_X5_great xw_sel_X5_great xw_ml_X5_100 xds_X5_great ⟨Nat.le_of_ble_eq_true rfl, Nat.le_of_ble_eq_true rfl⟩ rfl rfl (Nat.le_of_ble_eq_true rfl) ⟨Nat.le_of_ble_eq_true rfl, Nat.le_of_ble_eq_true rfl⟩ dX5_roundedAbove_148) ?_
    refine xj_iload_n hC dX5_roundedAbove_151 rfl 2 rfl ?_
    obtain ⟨v20, hc19, hf⟩ := xm_bind hf
    obtain ⟨_, hob, _⟩ := xm_bind hc19
    refine xj_reti (xr_V hC (mX5_signed l D ks b hc19) hob rfl xw_cod_X5_signed xw_ini_X5 xw_ins_X5_signed xw_sel_X5_signed xw_ml_X5_149 xds_X5_signed ⟨Nat.le_of_ble_eq_true rfl, Nat.le_of_ble_eq_true rfl⟩ rfl rfl (Nat.le_of_ble_eq_true rfl) ⟨Nat.le_of_ble_eq_true rfl, Nat.le_of_ble_eq_true rfl⟩ dX5_roundedAbove_152) ?_
    obtain ⟨he, hw⟩ := Prod.mk.inj (Option.some.inj hf)
    exact xj_iret hC hr (by decide) (by decide) dX5_roundedAbove_155 he hw
  · refine xj_aload_n hC dX5_roundedAbove_135 rfl 0 rfl ?_
    refine xj_iload_n hC dX5_roundedAbove_136 rfl 1 rfl ?_
    refine xj_iload_n hC dX5_roundedAbove_137 rfl 2 rfl ?_
    obtain ⟨v22, hc21, hf⟩ := xm_bind hf
    obtain ⟨_, hob, _⟩ := xm_bind hc21
    refine xj_reti (xr_V hC (mX5_beyond l D ks b hc21) hob rfl xw_cod_X5_beyond xw_ini_X5 xw_ins_X5_beyond xw_sel_X5_beyond xw_ml_X5_159 xds_X5_beyond ⟨Nat.le_of_ble_eq_true rfl, Nat.le_of_ble_eq_true rfl⟩ rfl rfl (Nat.le_of_ble_eq_true rfl) ⟨Nat.le_of_ble_eq_true rfl, Nat.le_of_ble_eq_true rfl⟩ dX5_roundedAbove_138) ?_
    refine xj_goto (tgt := 155) hC dX5_roundedAbove_141 (by decide) ?_
    obtain ⟨he, hw⟩ := Prod.mk.inj (Option.some.inj hf)
    exact xj_iret hC hr (by decide) (by decide) dX5_roundedAbove_155 he hw
def fX5_roundedAbove_L44 (w : xmW) (p0 : (Option Nat)) (p1 : Int32) (p2 : Int32) (p4 : Int64) : Option (Int32 × xmW) := ((fX5_last w (p0) (p1)).bind fun v12 => ((fX5_size w (p0) (p1) (v12)).bind fun v14 => ((fX5_twiceBeside w (p0) ((((3 : Int64) * p4) - v14))).bind fun v16 => (fX5_roundedAbove_L130 w (p0) (p1) (p2) ((if v16 < 0 then (0 : Int32) else (1 : Int32))) ))))
set_option maxHeartbeats 4000000 in
set_option maxRecDepth 100000 in
theorem lX5_roundedAbove_L44 {p : Program} {l : Launch} {e : Env} {s : State} {m : MethodId} {args : Array Value} {below : List Frame} {meth : Method} {c : Code} {D : va_G} {ks : Nat → ClassId} {b : Nat} (hC : xmC p s m args meth c D ks b 7 cX5_roundedAbove RX5) (hr : meth.sig.returnType = (some (FieldType.int))) {y : Int32} {wz : xmW} (w : xmW) (p0 : (Option Nat)) (p1 : Int32) (p2 : Int32) (p4 : Int64) (hf : fX5_roundedAbove_L44 w p0 p1 p2 p4 = some (y, wz)) : xmJ p l e ({ frames := 3, cells := 0, slots := 0, locals := 66 } : Room) s m args below meth c D ks b 7 (MQ below (xmQ D ks b (some (xI y)) wz) args s 0 0 (xmA b)) w 0 0 44 [(0, xR p0), (1, xI p1), (2, xI p2), (4, xL p4)] [] := by
  unfold fX5_roundedAbove_L44 at hf
  refine xj_aload_n hC dX5_roundedAbove_44 rfl 0 rfl ?_
  refine xj_ldc2 hC xw_cst_X5_153 dX5_roundedAbove_45 ?_
  refine xj_lload hC dX5_roundedAbove_48 3 rfl ?_
  refine xj_lmul hC dX5_roundedAbove_50 ?_
  refine xj_aload_n hC dX5_roundedAbove_51 rfl 0 rfl ?_
  refine xj_iload_n hC dX5_roundedAbove_52 rfl 1 rfl ?_
  refine xj_aload_n hC dX5_roundedAbove_53 rfl 0 rfl ?_
  refine xj_iload_n hC dX5_roundedAbove_54 rfl 1 rfl ?_
  obtain ⟨v12, hc11, hf⟩ := xm_bind hf
  obtain ⟨_, hob, _⟩ := xm_bind hc11
  refine xj_reti (xr_V hC (mX5_last l D ks b hc11) hob rfl xw_cod_X5_last xw_ini_X5 xw_ins_X5_last xw_sel_X5_last xw_ml_X5_115 xds_X5_last ⟨Nat.le_of_ble_eq_true rfl, Nat.le_of_ble_eq_true rfl⟩ rfl rfl (Nat.le_of_ble_eq_true rfl) ⟨Nat.le_of_ble_eq_true rfl, Nat.le_of_ble_eq_true rfl⟩ dX5_roundedAbove_55) ?_
  obtain ⟨v14, hc13, hf⟩ := xm_bind hf
  obtain ⟨_, hob, _⟩ := xm_bind hc13
  refine xj_retl (xr_V hC (mX5_size l D ks b hc13) hob rfl xw_cod_X5_size xw_ini_X5 xw_ins_X5_size xw_sel_X5_size xw_ml_X5_92 xds_X5_size ⟨Nat.le_of_ble_eq_true rfl, Nat.le_of_ble_eq_true rfl⟩ rfl rfl (Nat.le_of_ble_eq_true rfl) ⟨Nat.le_of_ble_eq_true rfl, Nat.le_of_ble_eq_true rfl⟩ dX5_roundedAbove_58) ?_
  refine xj_lsub hC dX5_roundedAbove_61 ?_
  obtain ⟨v16, hc15, hf⟩ := xm_bind hf
  obtain ⟨_, hob, _⟩ := xm_bind hc15
  refine xj_reti (xr_V hC (mX5_twiceBeside l D ks b hc15) hob rfl xw_cod_X5_twiceBeside xw_ini_X5 xw_ins_X5_twiceBeside xw_sel_X5_twiceBeside xw_ml_X5_155 xds_X5_twiceBeside ⟨Nat.le_of_ble_eq_true rfl, Nat.le_of_ble_eq_true rfl⟩ rfl rfl (Nat.le_of_ble_eq_true rfl) ⟨Nat.le_of_ble_eq_true rfl, Nat.le_of_ble_eq_true rfl⟩ dX5_roundedAbove_62) ?_
  refine xj_dia (cnd := v16 < 0) (x := 0) (y := 1) (pc2 := 73) (st2 := []) (fun hc hk => ?_) (fun hc hk => ?_) ?_
  · exact xj_if_lt (tgt := 72) hC dX5_roundedAbove_65 (by decide) (fun _ => xj_iconst (v := 0) hC dX5_roundedAbove_72 (by decide) hk) (fun hn => absurd hc hn)
  · exact xj_if_lt (tgt := 72) hC dX5_roundedAbove_65 (by decide) (fun hn => absurd hn hc) (fun _ => xj_iconst (v := 1) hC dX5_roundedAbove_68 (by decide) (xj_goto (tgt := 73) hC dX5_roundedAbove_69 (by decide) hk))
  refine xj_istore (lv' := [(6, xI (if v16 < 0 then (0 : Int32) else (1 : Int32))), (0, xR p0), (1, xI p1), (2, xI p2), (4, xL p4)]) hC dX5_roundedAbove_73 (by decide) rfl ?_
  refine xj_goto (tgt := 130) hC dX5_roundedAbove_75 (by decide) ?_
  refine xj_lv [1, 2, 3, 0] rfl ?_
  exact lX5_roundedAbove_L130 hC hr  w (p0) (p1) (p2) ((if v16 < 0 then (0 : Int32) else (1 : Int32)))  hf
def fX5_roundedAbove (w : xmW) (th : (Option Nat)) (a1 : Int32) (a2 : Int32) (a3 : Int32) : Option (Int32 × xmW) := ((xmob w th 5).bind fun _ => ((xmgI w th 5 18).bind fun v1 => ((xmput w th 5 18 (xI (v1 + (1 : Int32)))).bind fun w2 => ((xmgI w2 th 5 19).bind fun v3 => ((xmput w2 th 5 19 (xI (v3 + (1 : Int32)))).bind fun w4 => ((fX5_great w4 (th) (a1)).bind fun v6 => ((fX5_size w4 (th) (a1) (v6)).bind fun v8 => (if a3 = 0 then (fX5_roundedAbove_L44 w4 (th) (a1) (a2) (v8) ) else (if a3 = (1 : Int32) then (fX5_roundedAbove_L44 w4 (th) (a1) (a2) (v8) ) else (if a3 = (3 : Int32) then (fX5_roundedAbove_L130 w4 (th) (a1) (a2) (a2) ) else (if a3 = (4 : Int32) then (fX5_roundedAbove_L130 w4 (th) (a1) (a2) ((if a2 = 0 then (1 : Int32) else (0 : Int32))) ) else (if a3 = (2 : Int32) then (fX5_roundedAbove_L130 w4 (th) (a1) (a2) ((0 : Int32)) ) else ((fX5_great w4 (th) (a1)).bind fun v10 => (fX5_roundedAbove_L130 w4 (th) (a1) (a2) ((if (v10 &&& (1 : Int32)) = 0 then (1 : Int32) else (0 : Int32))) ))))))))))))))
set_option maxHeartbeats 4000000 in
set_option maxRecDepth 100000 in
theorem mX5_roundedAbove (l : Launch) (D : va_G) (ks : Nat → ClassId) (b : Nat) {w : xmW} {th : (Option Nat)} {a1 : Int32} {a2 : Int32} {a3 : Int32} {y : Int32} {wz : xmW} (hf : fX5_roundedAbove w th a1 a2 a3 = some (y, wz)) : xmM l yX5_roundedAbove (Cond.code yX5_roundedAbove cX5_roundedAbove 7 (some (FieldType.int)) :: xmTs) 3 66 0 0 D ks b w [xR th, xI a1, xI a2, xI a3] (some (xI y)) wz := by
  unfold fX5_roundedAbove at hf
  obtain ⟨_, _, hf⟩ := xm_bind hf
  refine xmM.of (own := RX5) (lv0 := [(0, xR th), (1, xI a1), (2, xI a2), (3, xI a3)]) (by decide) rfl (Nat.le_of_ble_eq_true rfl) rfl ?_
  intro p e s m args below meth c hC hr hnm
  refine xj_aload_n hC dX5_roundedAbove_0 rfl 0 rfl ?_
  refine xj_dup hC dX5_roundedAbove_1 rfl ?_
  refine xb_getI hC 5 18 xcl_5 (by decide) xw_fl_X5_51 dX5_roundedAbove_2 hf (fun v1 hf => ?_)
  refine xj_iconst (v := 1) hC dX5_roundedAbove_5 (by decide) ?_
  refine xj_iadd hC dX5_roundedAbove_6 ?_
  refine xb_put hC 5 18 xcl_5 (by decide) xw_fl_X5_51 rfl (xmfit_i _) dX5_roundedAbove_7 hf (fun w2 hf => ?_)
  refine xj_aload_n hC dX5_roundedAbove_10 rfl 0 rfl ?_
  refine xj_dup hC dX5_roundedAbove_11 rfl ?_
  refine xb_getI hC 5 19 xcl_5 (by decide) xw_fl_X5_54 dX5_roundedAbove_12 hf (fun v3 hf => ?_)
  refine xj_iconst (v := 1) hC dX5_roundedAbove_15 (by decide) ?_
  refine xj_iadd hC dX5_roundedAbove_16 ?_
  refine xb_put hC 5 19 xcl_5 (by decide) xw_fl_X5_54 rfl (xmfit_i _) dX5_roundedAbove_17 hf (fun w4 hf => ?_)
  refine xj_aload_n hC dX5_roundedAbove_20 rfl 0 rfl ?_
  refine xj_iload_n hC dX5_roundedAbove_21 rfl 1 rfl ?_
  refine xj_aload_n hC dX5_roundedAbove_22 rfl 0 rfl ?_
  refine xj_iload_n hC dX5_roundedAbove_23 rfl 1 rfl ?_
  obtain ⟨v6, hc5, hf⟩ := xm_bind hf
  obtain ⟨_, hob, _⟩ := xm_bind hc5
  refine xj_reti (xr_V hC (mX5_great l D ks b hc5) hob rfl xw_cod_X5_great xw_ini_X5 xw_ins_X5_great xw_sel_X5_great xw_ml_X5_100 xds_X5_great ⟨Nat.le_of_ble_eq_true rfl, Nat.le_of_ble_eq_true rfl⟩ rfl rfl (Nat.le_of_ble_eq_true rfl) ⟨Nat.le_of_ble_eq_true rfl, Nat.le_of_ble_eq_true rfl⟩ dX5_roundedAbove_24) ?_
  obtain ⟨v8, hc7, hf⟩ := xm_bind hf
  obtain ⟨_, hob, _⟩ := xm_bind hc7
  refine xj_retl (xr_V hC (mX5_size l D ks b hc7) hob rfl xw_cod_X5_size xw_ini_X5 xw_ins_X5_size xw_sel_X5_size xw_ml_X5_92 xds_X5_size ⟨Nat.le_of_ble_eq_true rfl, Nat.le_of_ble_eq_true rfl⟩ rfl rfl (Nat.le_of_ble_eq_true rfl) ⟨Nat.le_of_ble_eq_true rfl, Nat.le_of_ble_eq_true rfl⟩ dX5_roundedAbove_27) ?_
  refine xj_lstore (lv' := [(4, xL v8), (0, xR th), (1, xI a1), (2, xI a2), (3, xI a3)]) hC dX5_roundedAbove_30 (by decide) rfl ?_
  refine xj_iconst (v := 0) hC dX5_roundedAbove_32 (by decide) ?_
  refine xj_istore (lv' := [(6, xI (0 : Int32)), (4, xL v8), (0, xR th), (1, xI a1), (2, xI a2), (3, xI a3)]) hC dX5_roundedAbove_33 (by decide) rfl ?_
  refine xj_iload_n hC dX5_roundedAbove_35 rfl 5 rfl ?_
  refine xb_if_eq (tgt := 44) hC dX5_roundedAbove_36 (by decide) hf (fun hf => ?_) (fun hf => ?_)
  · refine xj_lv [2, 3, 4, 1] rfl ?_
    exact lX5_roundedAbove_L44 hC hr  w4 (th) (a1) (a2) (v8)  hf
  · refine xj_iload_n hC dX5_roundedAbove_39 rfl 5 rfl ?_
    refine xj_iconst (v := 1) hC dX5_roundedAbove_40 (by decide) ?_
    refine xb_ic_ne (tgt := 78) hC dX5_roundedAbove_41 (by decide) hf (fun hf => ?_) (fun hf => ?_)
    · refine xj_iload_n hC dX5_roundedAbove_78 rfl 5 rfl ?_
      refine xj_iconst (v := 3) hC dX5_roundedAbove_79 (by decide) ?_
      refine xb_ic_ne (tgt := 89) hC dX5_roundedAbove_80 (by decide) hf (fun hf => ?_) (fun hf => ?_)
      · refine xj_iload_n hC dX5_roundedAbove_89 rfl 5 rfl ?_
        refine xj_iconst (v := 4) hC dX5_roundedAbove_90 (by decide) ?_
        refine xb_ic_ne (tgt := 108) hC dX5_roundedAbove_91 (by decide) hf (fun hf => ?_) (fun hf => ?_)
        · refine xj_iload_n hC dX5_roundedAbove_108 rfl 5 rfl ?_
          refine xj_iconst (v := 2) hC dX5_roundedAbove_109 (by decide) ?_
          refine xb_ic_eq (tgt := 130) hC dX5_roundedAbove_110 (by decide) hf (fun hf => ?_) (fun hf => ?_)
          · refine xj_lv [2, 3, 4, 0] rfl ?_
            exact lX5_roundedAbove_L130 hC hr  w4 (th) (a1) (a2) ((0 : Int32))  hf
          · refine xj_aload_n hC dX5_roundedAbove_113 rfl 2 rfl ?_
            refine xj_iload_n hC dX5_roundedAbove_114 rfl 3 rfl ?_
            obtain ⟨v10, hc9, hf⟩ := xm_bind hf
            obtain ⟨_, hob, _⟩ := xm_bind hc9
            refine xj_reti (xr_V hC (mX5_great l D ks b hc9) hob rfl xw_cod_X5_great xw_ini_X5 xw_ins_X5_great xw_sel_X5_great xw_ml_X5_100 xds_X5_great ⟨Nat.le_of_ble_eq_true rfl, Nat.le_of_ble_eq_true rfl⟩ rfl rfl (Nat.le_of_ble_eq_true rfl) ⟨Nat.le_of_ble_eq_true rfl, Nat.le_of_ble_eq_true rfl⟩ dX5_roundedAbove_115) ?_
            refine xj_iconst (v := 1) hC dX5_roundedAbove_118 (by decide) ?_
            refine xj_iand hC dX5_roundedAbove_119 ?_
            refine xj_dia (cnd := (v10 &&& (1 : Int32)) = 0) (x := 1) (y := 0) (pc2 := 128) (st2 := []) (fun hc hk => ?_) (fun hc hk => ?_) ?_
            · exact xj_if_ne (tgt := 127) hC dX5_roundedAbove_120 (by decide) (fun hn => absurd hc hn) (fun _ => xj_iconst (v := 1) hC dX5_roundedAbove_123 (by decide) (xj_goto (tgt := 128) hC dX5_roundedAbove_124 (by decide) hk))
            · exact xj_if_ne (tgt := 127) hC dX5_roundedAbove_120 (by decide) (fun _ => xj_iconst (v := 0) hC dX5_roundedAbove_127 (by decide) hk) (fun hn => absurd hn hc)
            refine xj_istore (lv' := [(6, xI (if (v10 &&& (1 : Int32)) = 0 then (1 : Int32) else (0 : Int32))), (4, xL v8), (0, xR th), (1, xI a1), (2, xI a2), (3, xI a3)]) hC dX5_roundedAbove_128 (by decide) rfl ?_
            refine xj_lv [2, 3, 4, 0] rfl ?_
            exact lX5_roundedAbove_L130 hC hr  w4 (th) (a1) (a2) ((if (v10 &&& (1 : Int32)) = 0 then (1 : Int32) else (0 : Int32)))  hf
        · refine xj_iload_n hC dX5_roundedAbove_94 rfl 4 rfl ?_
          refine xj_dia (cnd := a2 = 0) (x := 1) (y := 0) (pc2 := 103) (st2 := []) (fun hc hk => ?_) (fun hc hk => ?_) ?_
          · exact xj_if_ne (tgt := 102) hC dX5_roundedAbove_95 (by decide) (fun hn => absurd hc hn) (fun _ => xj_iconst (v := 1) hC dX5_roundedAbove_98 (by decide) (xj_goto (tgt := 103) hC dX5_roundedAbove_99 (by decide) hk))
          · exact xj_if_ne (tgt := 102) hC dX5_roundedAbove_95 (by decide) (fun _ => xj_iconst (v := 0) hC dX5_roundedAbove_102 (by decide) hk) (fun hn => absurd hn hc)
          refine xj_istore (lv' := [(6, xI (if a2 = 0 then (1 : Int32) else (0 : Int32))), (4, xL v8), (0, xR th), (1, xI a1), (2, xI a2), (3, xI a3)]) hC dX5_roundedAbove_103 (by decide) rfl ?_
          refine xj_goto (tgt := 130) hC dX5_roundedAbove_105 (by decide) ?_
          refine xj_lv [2, 3, 4, 0] rfl ?_
          exact lX5_roundedAbove_L130 hC hr  w4 (th) (a1) (a2) ((if a2 = 0 then (1 : Int32) else (0 : Int32)))  hf
      · refine xj_iload_n hC dX5_roundedAbove_83 rfl 4 rfl ?_
        refine xj_istore (lv' := [(6, xI a2), (4, xL v8), (0, xR th), (1, xI a1), (2, xI a2), (3, xI a3)]) hC dX5_roundedAbove_84 (by decide) rfl ?_
        refine xj_goto (tgt := 130) hC dX5_roundedAbove_86 (by decide) ?_
        refine xj_lv [2, 3, 4, 0] rfl ?_
        exact lX5_roundedAbove_L130 hC hr  w4 (th) (a1) (a2) (a2)  hf
    · refine xj_lv [2, 3, 4, 1] rfl ?_
      exact lX5_roundedAbove_L44 hC hr  w4 (th) (a1) (a2) (v8)  hf
def fX5_rounded_L213 (w : xmW) (p0 : (Option Nat)) (p1 : Int32) (p2 : Int32) (p6 : Int32) : Option (Int32 × xmW) := ((fX5_signed w (p0) (p1) (p6) (p2)).bind fun v56 => (some (v56, w)))
set_option maxHeartbeats 4000000 in
set_option maxRecDepth 100000 in
theorem lX5_rounded_L213 {p : Program} {l : Launch} {e : Env} {s : State} {m : MethodId} {args : Array Value} {below : List Frame} {meth : Method} {c : Code} {D : va_G} {ks : Nat → ClassId} {b : Nat} (hC : xmC p s m args meth c D ks b 9 cX5_rounded RX5) (hr : meth.sig.returnType = (some (FieldType.int))) {y : Int32} {wz : xmW} (w : xmW) (p0 : (Option Nat)) (p1 : Int32) (p2 : Int32) (p6 : Int32) (hf : fX5_rounded_L213 w p0 p1 p2 p6 = some (y, wz)) : xmJ p l e ({ frames := 4, cells := 0, slots := 0, locals := 92 } : Room) s m args below meth c D ks b 9 (MQ below (xmQ D ks b (some (xI y)) wz) args s 0 0 (xmA b)) w 0 0 213 [(0, xR p0), (1, xI p1), (2, xI p2), (6, xI p6)] [] := by
  unfold fX5_rounded_L213 at hf
  refine xj_iload hC dX5_rounded_213 3 rfl ?_
  refine xj_goto (tgt := 220) hC dX5_rounded_215 (by decide) ?_
  refine xj_istore (lv' := [(8, xI p6), (0, xR p0), (1, xI p1), (2, xI p2), (6, xI p6)]) hC dX5_rounded_220 (by decide) rfl ?_
  refine xj_goto (tgt := 294) hC dX5_rounded_222 (by decide) ?_
  refine xj_aload_n hC dX5_rounded_294 rfl 1 rfl ?_
  refine xj_iload_n hC dX5_rounded_295 rfl 2 rfl ?_
  refine xj_iload hC dX5_rounded_296 0 rfl ?_
  refine xj_iload_n hC dX5_rounded_298 rfl 3 rfl ?_
  obtain ⟨v56, hc55, hf⟩ := xm_bind hf
  obtain ⟨_, hob, _⟩ := xm_bind hc55
  refine xj_reti (xr_V hC (mX5_signed l D ks b hc55) hob rfl xw_cod_X5_signed xw_ini_X5 xw_ins_X5_signed xw_sel_X5_signed xw_ml_X5_149 xds_X5_signed ⟨Nat.le_of_ble_eq_true rfl, Nat.le_of_ble_eq_true rfl⟩ rfl rfl (Nat.le_of_ble_eq_true rfl) ⟨Nat.le_of_ble_eq_true rfl, Nat.le_of_ble_eq_true rfl⟩ dX5_rounded_299) ?_
  obtain ⟨he, hw⟩ := Prod.mk.inj (Option.some.inj hf)
  exact xj_iret hC hr (by decide) (by decide) dX5_rounded_302 he hw
def fX5_rounded_L218 (w : xmW) (p0 : (Option Nat)) (p1 : Int32) (p2 : Int32) (p5 : Int32) : Option (Int32 × xmW) := ((fX5_signed w (p0) (p1) (p5) (p2)).bind fun v58 => (some (v58, w)))
set_option maxHeartbeats 4000000 in
set_option maxRecDepth 100000 in
theorem lX5_rounded_L218 {p : Program} {l : Launch} {e : Env} {s : State} {m : MethodId} {args : Array Value} {below : List Frame} {meth : Method} {c : Code} {D : va_G} {ks : Nat → ClassId} {b : Nat} (hC : xmC p s m args meth c D ks b 9 cX5_rounded RX5) (hr : meth.sig.returnType = (some (FieldType.int))) {y : Int32} {wz : xmW} (w : xmW) (p0 : (Option Nat)) (p1 : Int32) (p2 : Int32) (p5 : Int32) (hf : fX5_rounded_L218 w p0 p1 p2 p5 = some (y, wz)) : xmJ p l e ({ frames := 4, cells := 0, slots := 0, locals := 92 } : Room) s m args below meth c D ks b 9 (MQ below (xmQ D ks b (some (xI y)) wz) args s 0 0 (xmA b)) w 0 0 218 [(0, xR p0), (1, xI p1), (2, xI p2), (5, xI p5)] [] := by
  unfold fX5_rounded_L218 at hf
  refine xj_iload hC dX5_rounded_218 3 rfl ?_
  refine xj_istore (lv' := [(8, xI p5), (0, xR p0), (1, xI p1), (2, xI p2), (5, xI p5)]) hC dX5_rounded_220 (by decide) rfl ?_
  refine xj_goto (tgt := 294) hC dX5_rounded_222 (by decide) ?_
  refine xj_aload_n hC dX5_rounded_294 rfl 1 rfl ?_
  refine xj_iload_n hC dX5_rounded_295 rfl 2 rfl ?_
  refine xj_iload hC dX5_rounded_296 0 rfl ?_
  refine xj_iload_n hC dX5_rounded_298 rfl 3 rfl ?_
  obtain ⟨v58, hc57, hf⟩ := xm_bind hf
  obtain ⟨_, hob, _⟩ := xm_bind hc57
  refine xj_reti (xr_V hC (mX5_signed l D ks b hc57) hob rfl xw_cod_X5_signed xw_ini_X5 xw_ins_X5_signed xw_sel_X5_signed xw_ml_X5_149 xds_X5_signed ⟨Nat.le_of_ble_eq_true rfl, Nat.le_of_ble_eq_true rfl⟩ rfl rfl (Nat.le_of_ble_eq_true rfl) ⟨Nat.le_of_ble_eq_true rfl, Nat.le_of_ble_eq_true rfl⟩ dX5_rounded_299) ?_
  obtain ⟨he, hw⟩ := Prod.mk.inj (Option.some.inj hf)
  exact xj_iret hC hr (by decide) (by decide) dX5_rounded_302 he hw
def fX5_rounded_L94 (w : xmW) (p0 : (Option Nat)) (p1 : Int32) (p2 : Int32) (p3 : Int32) (p5 : Int32) : Option (Int32 × xmW) := ((fX5_size w (p0) (p1) (p5)).bind fun v19 => ((fX5_twiceBeside w (p0) (((2 : Int64) * v19))).bind fun v21 => (if v21 = 0 then ((fX5_signed w (p0) (p1) (p5) (p2)).bind fun v54 => (some (v54, w))) else ((xmgI w p0 5 18).bind fun v22 => ((xmput w p0 5 18 (xI (v22 + (1 : Int32)))).bind fun w23 => ((fX5_size w23 (p0) (p1) (p5)).bind fun v25 => ((fX5_size w23 (p0) (p1) ((p5 + (1 : Int32)))).bind fun v27 => ((fX5_twiceBeside w23 (p0) ((v25 + v27))).bind fun v29 => (if p3 = (0 : Int32) then (if 0 < v29 then (fX5_rounded_L213 w23 (p0) (p1) (p2) ((p5 + (1 : Int32))) ) else (if v29 = 0 then (if ((p5 + (1 : Int32)) &&& (1 : Int32)) = 0 then (fX5_rounded_L213 w23 (p0) (p1) (p2) ((p5 + (1 : Int32))) ) else (fX5_rounded_L218 w23 (p0) (p1) (p2) (p5) )) else (fX5_rounded_L218 w23 (p0) (p1) (p2) (p5) ))) else (if p3 = (1 : Int32) then (if v29 < 0 then ((fX5_signed w23 (p0) (p1) (p5) (p2)).bind fun v33 => (some (v33, w23))) else ((fX5_signed w23 (p0) (p1) ((p5 + (1 : Int32))) (p2)).bind fun v35 => (some (v35, w23)))) else (if p3 = (2 : Int32) then ((fX5_signed w23 (p0) (p1) (p5) (p2)).bind fun v38 => (some (v38, w23))) else (if p3 = (3 : Int32) then (if p2 = 0 then ((fX5_signed w23 (p0) (p1) (p5) (p2)).bind fun v41 => (some (v41, w23))) else ((fX5_signed w23 (p0) (p1) ((p5 + (1 : Int32))) (p2)).bind fun v43 => (some (v43, w23)))) else (if p3 = (4 : Int32) then (if p2 = 0 then ((fX5_signed w23 (p0) (p1) ((p5 + (1 : Int32))) (p2)).bind fun v46 => (some (v46, w23))) else ((fX5_signed w23 (p0) (p1) (p5) (p2)).bind fun v48 => (some (v48, w23)))) else (if ((p5 + (1 : Int32)) &&& (1 : Int32)) = (1 : Int32) then ((fX5_signed w23 (p0) (p1) ((p5 + (1 : Int32))) (p2)).bind fun v52 => (some (v52, w23))) else ((fX5_signed w23 (p0) (p1) (p5) (p2)).bind fun v50 => (some (v50, w23)))))))))))))))))
set_option maxHeartbeats 4000000 in
set_option maxRecDepth 100000 in
theorem lX5_rounded_L94 {p : Program} {l : Launch} {e : Env} {s : State} {m : MethodId} {args : Array Value} {below : List Frame} {meth : Method} {c : Code} {D : va_G} {ks : Nat → ClassId} {b : Nat} (hC : xmC p s m args meth c D ks b 9 cX5_rounded RX5) (hr : meth.sig.returnType = (some (FieldType.int))) {y : Int32} {wz : xmW} (w : xmW) (p0 : (Option Nat)) (p1 : Int32) (p2 : Int32) (p3 : Int32) (p5 : Int32) (hf : fX5_rounded_L94 w p0 p1 p2 p3 p5 = some (y, wz)) : xmJ p l e ({ frames := 4, cells := 0, slots := 0, locals := 92 } : Room) s m args below meth c D ks b 9 (MQ below (xmQ D ks b (some (xI y)) wz) args s 0 0 (xmA b)) w 0 0 94 [(0, xR p0), (1, xI p1), (2, xI p2), (3, xI p3), (5, xI p5)] [] := by
  unfold fX5_rounded_L94 at hf
  refine xj_aload_n hC dX5_rounded_94 rfl 0 rfl ?_
  refine xj_ldc2 hC xw_cst_X5_90 dX5_rounded_95 ?_
  refine xj_aload_n hC dX5_rounded_98 rfl 0 rfl ?_
  refine xj_iload_n hC dX5_rounded_99 rfl 1 rfl ?_
  refine xj_iload hC dX5_rounded_100 4 rfl ?_
  obtain ⟨v19, hc18, hf⟩ := xm_bind hf
  obtain ⟨_, hob, _⟩ := xm_bind hc18
  refine xj_retl (xr_V hC (mX5_size l D ks b hc18) hob rfl xw_cod_X5_size xw_ini_X5 xw_ins_X5_size xw_sel_X5_size xw_ml_X5_92 xds_X5_size ⟨Nat.le_of_ble_eq_true rfl, Nat.le_of_ble_eq_true rfl⟩ rfl rfl (Nat.le_of_ble_eq_true rfl) ⟨Nat.le_of_ble_eq_true rfl, Nat.le_of_ble_eq_true rfl⟩ dX5_rounded_102) ?_
  refine xj_lmul hC dX5_rounded_105 ?_
  obtain ⟨v21, hc20, hf⟩ := xm_bind hf
  obtain ⟨_, hob, _⟩ := xm_bind hc20
  refine xj_reti (xr_V hC (mX5_twiceBeside l D ks b hc20) hob rfl xw_cod_X5_twiceBeside xw_ini_X5 xw_ins_X5_twiceBeside xw_sel_X5_twiceBeside xw_ml_X5_155 xds_X5_twiceBeside ⟨Nat.le_of_ble_eq_true rfl, Nat.le_of_ble_eq_true rfl⟩ rfl rfl (Nat.le_of_ble_eq_true rfl) ⟨Nat.le_of_ble_eq_true rfl, Nat.le_of_ble_eq_true rfl⟩ dX5_rounded_106) ?_
  refine xb_if_ne (tgt := 121) hC dX5_rounded_109 (by decide) hf (fun hf => ?_) (fun hf => ?_)
  · refine xj_aload_n hC dX5_rounded_121 rfl 0 rfl ?_
    refine xj_dup hC dX5_rounded_122 rfl ?_
    refine xb_getI hC 5 18 xcl_5 (by decide) xw_fl_X5_51 dX5_rounded_123 hf (fun v22 hf => ?_)
    refine xj_iconst (v := 1) hC dX5_rounded_126 (by decide) ?_
    refine xj_iadd hC dX5_rounded_127 ?_
    refine xb_put hC 5 18 xcl_5 (by decide) xw_fl_X5_51 rfl (xmfit_i _) dX5_rounded_128 hf (fun w23 hf => ?_)
    refine xj_iload hC dX5_rounded_131 4 rfl ?_
    refine xj_iconst (v := 1) hC dX5_rounded_133 (by decide) ?_
    refine xj_iadd hC dX5_rounded_134 ?_
    refine xj_istore (lv' := [(6, xI (p5 + (1 : Int32))), (0, xR p0), (1, xI p1), (2, xI p2), (3, xI p3), (5, xI p5)]) hC dX5_rounded_135 (by decide) rfl ?_
    refine xj_aload_n hC dX5_rounded_137 rfl 1 rfl ?_
    refine xj_aload_n hC dX5_rounded_138 rfl 1 rfl ?_
    refine xj_iload_n hC dX5_rounded_139 rfl 2 rfl ?_
    refine xj_iload hC dX5_rounded_140 5 rfl ?_
    obtain ⟨v25, hc24, hf⟩ := xm_bind hf
    obtain ⟨_, hob, _⟩ := xm_bind hc24
    refine xj_retl (xr_V hC (mX5_size l D ks b hc24) hob rfl xw_cod_X5_size xw_ini_X5 xw_ins_X5_size xw_sel_X5_size xw_ml_X5_92 xds_X5_size ⟨Nat.le_of_ble_eq_true rfl, Nat.le_of_ble_eq_true rfl⟩ rfl rfl (Nat.le_of_ble_eq_true rfl) ⟨Nat.le_of_ble_eq_true rfl, Nat.le_of_ble_eq_true rfl⟩ dX5_rounded_142) ?_
    refine xj_aload_n hC dX5_rounded_145 rfl 1 rfl ?_
    refine xj_iload_n hC dX5_rounded_146 rfl 2 rfl ?_
    refine xj_iload hC dX5_rounded_147 0 rfl ?_
    obtain ⟨v27, hc26, hf⟩ := xm_bind hf
    obtain ⟨_, hob, _⟩ := xm_bind hc26
    refine xj_retl (xr_V hC (mX5_size l D ks b hc26) hob rfl xw_cod_X5_size xw_ini_X5 xw_ins_X5_size xw_sel_X5_size xw_ml_X5_92 xds_X5_size ⟨Nat.le_of_ble_eq_true rfl, Nat.le_of_ble_eq_true rfl⟩ rfl rfl (Nat.le_of_ble_eq_true rfl) ⟨Nat.le_of_ble_eq_true rfl, Nat.le_of_ble_eq_true rfl⟩ dX5_rounded_149) ?_
    refine xj_ladd hC dX5_rounded_152 ?_
    obtain ⟨v29, hc28, hf⟩ := xm_bind hf
    obtain ⟨_, hob, _⟩ := xm_bind hc28
    refine xj_reti (xr_V hC (mX5_twiceBeside l D ks b hc28) hob rfl xw_cod_X5_twiceBeside xw_ini_X5 xw_ins_X5_twiceBeside xw_sel_X5_twiceBeside xw_ml_X5_155 xds_X5_twiceBeside ⟨Nat.le_of_ble_eq_true rfl, Nat.le_of_ble_eq_true rfl⟩ rfl rfl (Nat.le_of_ble_eq_true rfl) ⟨Nat.le_of_ble_eq_true rfl, Nat.le_of_ble_eq_true rfl⟩ dX5_rounded_153) ?_
    refine xj_istore (lv' := [(7, xI v29), (6, xI (p5 + (1 : Int32))), (0, xR p0), (1, xI p1), (2, xI p2), (3, xI p3), (5, xI p5)]) hC dX5_rounded_156 (by decide) rfl ?_
    refine xj_iload hC dX5_rounded_158 6 rfl ?_
    refine xj_istore (lv' := [(8, xI p5), (7, xI v29), (6, xI (p5 + (1 : Int32))), (0, xR p0), (1, xI p1), (2, xI p2), (3, xI p3), (5, xI p5)]) hC dX5_rounded_160 (by decide) rfl ?_
    refine xj_iload_n hC dX5_rounded_162 rfl 6 rfl ?_
    refine xb_case hf (fun hx hf => ?_) (fun hn30 hf => ?_)
    · refine xj_tableIn (tgt := 196) hC (33) dX5_rounded_163 hx (by decide) (by decide) (by decide) (by decide) ?_
      refine xj_iload hC dX5_rounded_196 1 rfl ?_
      refine xb_if_gt (tgt := 213) hC dX5_rounded_198 (by decide) hf (fun hf => ?_) (fun hf => ?_)
      · refine xj_lv [3, 4, 5, 2] rfl ?_
        exact lX5_rounded_L213 hC hr  w23 (p0) (p1) (p2) ((p5 + (1 : Int32)))  hf
      · refine xj_iload hC dX5_rounded_201 1 rfl ?_
        refine xb_if_ne (tgt := 218) hC dX5_rounded_203 (by decide) hf (fun hf => ?_) (fun hf => ?_)
        · refine xj_lv [3, 4, 5, 7] rfl ?_
          exact lX5_rounded_L218 hC hr  w23 (p0) (p1) (p2) (p5)  hf
        · refine xj_iload hC dX5_rounded_206 2 rfl ?_
          refine xj_iconst (v := 1) hC dX5_rounded_208 (by decide) ?_
          refine xj_iand hC dX5_rounded_209 ?_
          refine xb_if_ne (tgt := 218) hC dX5_rounded_210 (by decide) hf (fun hf => ?_) (fun hf => ?_)
          · refine xj_lv [3, 4, 5, 7] rfl ?_
            exact lX5_rounded_L218 hC hr  w23 (p0) (p1) (p2) (p5)  hf
          · refine xj_lv [3, 4, 5, 2] rfl ?_
            exact lX5_rounded_L213 hC hr  w23 (p0) (p1) (p2) ((p5 + (1 : Int32)))  hf
    · refine xb_case hf (fun hx hf => ?_) (fun hn31 hf => ?_)
      · refine xj_tableIn (tgt := 225) hC (62) dX5_rounded_163 hx (by decide) (by decide) (by decide) (by decide) ?_
        refine xj_iload hC dX5_rounded_225 1 rfl ?_
        refine xb_if_lt (tgt := 235) hC dX5_rounded_227 (by decide) hf (fun hf => ?_) (fun hf => ?_)
        · refine xj_iload hC dX5_rounded_235 7 rfl ?_
          refine xj_istore (lv' := [(8, xI p5), (7, xI v29), (6, xI (p5 + (1 : Int32))), (0, xR p0), (1, xI p1), (2, xI p2), (3, xI p3), (5, xI p5)]) hC dX5_rounded_237 (by decide) rfl ?_
          refine xj_goto (tgt := 294) hC dX5_rounded_239 (by decide) ?_
          refine xj_aload_n hC dX5_rounded_294 rfl 3 rfl ?_
          refine xj_iload_n hC dX5_rounded_295 rfl 4 rfl ?_
          refine xj_iload hC dX5_rounded_296 0 rfl ?_
          refine xj_iload_n hC dX5_rounded_298 rfl 5 rfl ?_
          obtain ⟨v33, hc32, hf⟩ := xm_bind hf
          obtain ⟨_, hob, _⟩ := xm_bind hc32
          refine xj_reti (xr_V hC (mX5_signed l D ks b hc32) hob rfl xw_cod_X5_signed xw_ini_X5 xw_ins_X5_signed xw_sel_X5_signed xw_ml_X5_149 xds_X5_signed ⟨Nat.le_of_ble_eq_true rfl, Nat.le_of_ble_eq_true rfl⟩ rfl rfl (Nat.le_of_ble_eq_true rfl) ⟨Nat.le_of_ble_eq_true rfl, Nat.le_of_ble_eq_true rfl⟩ dX5_rounded_299) ?_
          obtain ⟨he, hw⟩ := Prod.mk.inj (Option.some.inj hf)
          exact xj_iret hC hr (by decide) (by decide) dX5_rounded_302 he hw
        · refine xj_iload hC dX5_rounded_230 2 rfl ?_
          refine xj_goto (tgt := 237) hC dX5_rounded_232 (by decide) ?_
          refine xj_istore (lv' := [(8, xI (p5 + (1 : Int32))), (7, xI v29), (6, xI (p5 + (1 : Int32))), (0, xR p0), (1, xI p1), (2, xI p2), (3, xI p3), (5, xI p5)]) hC dX5_rounded_237 (by decide) rfl ?_
          refine xj_goto (tgt := 294) hC dX5_rounded_239 (by decide) ?_
          refine xj_aload_n hC dX5_rounded_294 rfl 3 rfl ?_
          refine xj_iload_n hC dX5_rounded_295 rfl 4 rfl ?_
          refine xj_iload hC dX5_rounded_296 0 rfl ?_
          refine xj_iload_n hC dX5_rounded_298 rfl 5 rfl ?_
          obtain ⟨v35, hc34, hf⟩ := xm_bind hf
          obtain ⟨_, hob, _⟩ := xm_bind hc34
          refine xj_reti (xr_V hC (mX5_signed l D ks b hc34) hob rfl xw_cod_X5_signed xw_ini_X5 xw_ins_X5_signed xw_sel_X5_signed xw_ml_X5_149 xds_X5_signed ⟨Nat.le_of_ble_eq_true rfl, Nat.le_of_ble_eq_true rfl⟩ rfl rfl (Nat.le_of_ble_eq_true rfl) ⟨Nat.le_of_ble_eq_true rfl, Nat.le_of_ble_eq_true rfl⟩ dX5_rounded_299) ?_
          obtain ⟨he, hw⟩ := Prod.mk.inj (Option.some.inj hf)
          exact xj_iret hC hr (by decide) (by decide) dX5_rounded_302 he hw
      · refine xb_case hf (fun hx hf => ?_) (fun hn36 hf => ?_)
        · refine xj_tableIn (tgt := 242) hC (79) dX5_rounded_163 hx (by decide) (by decide) (by decide) (by decide) ?_
          refine xj_goto (tgt := 294) hC dX5_rounded_242 (by decide) ?_
          refine xj_aload_n hC dX5_rounded_294 rfl 3 rfl ?_
          refine xj_iload_n hC dX5_rounded_295 rfl 4 rfl ?_
          refine xj_iload hC dX5_rounded_296 0 rfl ?_
          refine xj_iload_n hC dX5_rounded_298 rfl 5 rfl ?_
          obtain ⟨v38, hc37, hf⟩ := xm_bind hf
          obtain ⟨_, hob, _⟩ := xm_bind hc37
          refine xj_reti (xr_V hC (mX5_signed l D ks b hc37) hob rfl xw_cod_X5_signed xw_ini_X5 xw_ins_X5_signed xw_sel_X5_signed xw_ml_X5_149 xds_X5_signed ⟨Nat.le_of_ble_eq_true rfl, Nat.le_of_ble_eq_true rfl⟩ rfl rfl (Nat.le_of_ble_eq_true rfl) ⟨Nat.le_of_ble_eq_true rfl, Nat.le_of_ble_eq_true rfl⟩ dX5_rounded_299) ?_
          obtain ⟨he, hw⟩ := Prod.mk.inj (Option.some.inj hf)
          exact xj_iret hC hr (by decide) (by decide) dX5_rounded_302 he hw
        · refine xb_case hf (fun hx hf => ?_) (fun hn39 hf => ?_)
          · refine xj_tableIn (tgt := 245) hC (82) dX5_rounded_163 hx (by decide) (by decide) (by decide) (by decide) ?_
            refine xj_iload_n hC dX5_rounded_245 rfl 5 rfl ?_
            refine xb_if_eq (tgt := 254) hC dX5_rounded_246 (by decide) hf (fun hf => ?_) (fun hf => ?_)
            · refine xj_iload hC dX5_rounded_254 7 rfl ?_
              refine xj_istore (lv' := [(8, xI p5), (7, xI v29), (6, xI (p5 + (1 : Int32))), (0, xR p0), (1, xI p1), (2, xI p2), (3, xI p3), (5, xI p5)]) hC dX5_rounded_256 (by decide) rfl ?_
              refine xj_goto (tgt := 294) hC dX5_rounded_258 (by decide) ?_
              refine xj_aload_n hC dX5_rounded_294 rfl 3 rfl ?_
              refine xj_iload_n hC dX5_rounded_295 rfl 4 rfl ?_
              refine xj_iload hC dX5_rounded_296 0 rfl ?_
              refine xj_iload_n hC dX5_rounded_298 rfl 5 rfl ?_
              obtain ⟨v41, hc40, hf⟩ := xm_bind hf
              obtain ⟨_, hob, _⟩ := xm_bind hc40
              refine xj_reti (xr_V hC (mX5_signed l D ks b hc40) hob rfl xw_cod_X5_signed xw_ini_X5 xw_ins_X5_signed xw_sel_X5_signed xw_ml_X5_149 xds_X5_signed ⟨Nat.le_of_ble_eq_true rfl, Nat.le_of_ble_eq_true rfl⟩ rfl rfl (Nat.le_of_ble_eq_true rfl) ⟨Nat.le_of_ble_eq_true rfl, Nat.le_of_ble_eq_true rfl⟩ dX5_rounded_299) ?_
              obtain ⟨he, hw⟩ := Prod.mk.inj (Option.some.inj hf)
              exact xj_iret hC hr (by decide) (by decide) dX5_rounded_302 he hw
            · refine xj_iload hC dX5_rounded_249 2 rfl ?_
              refine xj_goto (tgt := 256) hC dX5_rounded_251 (by decide) ?_
              refine xj_istore (lv' := [(8, xI (p5 + (1 : Int32))), (7, xI v29), (6, xI (p5 + (1 : Int32))), (0, xR p0), (1, xI p1), (2, xI p2), (3, xI p3), (5, xI p5)]) hC dX5_rounded_256 (by decide) rfl ?_
              refine xj_goto (tgt := 294) hC dX5_rounded_258 (by decide) ?_
              refine xj_aload_n hC dX5_rounded_294 rfl 3 rfl ?_
              refine xj_iload_n hC dX5_rounded_295 rfl 4 rfl ?_
              refine xj_iload hC dX5_rounded_296 0 rfl ?_
              refine xj_iload_n hC dX5_rounded_298 rfl 5 rfl ?_
              obtain ⟨v43, hc42, hf⟩ := xm_bind hf
              obtain ⟨_, hob, _⟩ := xm_bind hc42
              refine xj_reti (xr_V hC (mX5_signed l D ks b hc42) hob rfl xw_cod_X5_signed xw_ini_X5 xw_ins_X5_signed xw_sel_X5_signed xw_ml_X5_149 xds_X5_signed ⟨Nat.le_of_ble_eq_true rfl, Nat.le_of_ble_eq_true rfl⟩ rfl rfl (Nat.le_of_ble_eq_true rfl) ⟨Nat.le_of_ble_eq_true rfl, Nat.le_of_ble_eq_true rfl⟩ dX5_rounded_299) ?_
              obtain ⟨he, hw⟩ := Prod.mk.inj (Option.some.inj hf)
              exact xj_iret hC hr (by decide) (by decide) dX5_rounded_302 he hw
          · refine xb_case hf (fun hx hf => ?_) (fun hn44 hf => ?_)
            · refine xj_tableIn (tgt := 261) hC (98) dX5_rounded_163 hx (by decide) (by decide) (by decide) (by decide) ?_
              refine xj_iload_n hC dX5_rounded_261 rfl 5 rfl ?_
              refine xb_if_eq (tgt := 270) hC dX5_rounded_262 (by decide) hf (fun hf => ?_) (fun hf => ?_)
              · refine xj_iload hC dX5_rounded_270 2 rfl ?_
                refine xj_istore (lv' := [(8, xI (p5 + (1 : Int32))), (7, xI v29), (6, xI (p5 + (1 : Int32))), (0, xR p0), (1, xI p1), (2, xI p2), (3, xI p3), (5, xI p5)]) hC dX5_rounded_272 (by decide) rfl ?_
                refine xj_goto (tgt := 294) hC dX5_rounded_274 (by decide) ?_
                refine xj_aload_n hC dX5_rounded_294 rfl 3 rfl ?_
                refine xj_iload_n hC dX5_rounded_295 rfl 4 rfl ?_
                refine xj_iload hC dX5_rounded_296 0 rfl ?_
                refine xj_iload_n hC dX5_rounded_298 rfl 5 rfl ?_
                obtain ⟨v46, hc45, hf⟩ := xm_bind hf
                obtain ⟨_, hob, _⟩ := xm_bind hc45
                refine xj_reti (xr_V hC (mX5_signed l D ks b hc45) hob rfl xw_cod_X5_signed xw_ini_X5 xw_ins_X5_signed xw_sel_X5_signed xw_ml_X5_149 xds_X5_signed ⟨Nat.le_of_ble_eq_true rfl, Nat.le_of_ble_eq_true rfl⟩ rfl rfl (Nat.le_of_ble_eq_true rfl) ⟨Nat.le_of_ble_eq_true rfl, Nat.le_of_ble_eq_true rfl⟩ dX5_rounded_299) ?_
                obtain ⟨he, hw⟩ := Prod.mk.inj (Option.some.inj hf)
                exact xj_iret hC hr (by decide) (by decide) dX5_rounded_302 he hw
              · refine xj_iload hC dX5_rounded_265 7 rfl ?_
                refine xj_goto (tgt := 272) hC dX5_rounded_267 (by decide) ?_
                refine xj_istore (lv' := [(8, xI p5), (7, xI v29), (6, xI (p5 + (1 : Int32))), (0, xR p0), (1, xI p1), (2, xI p2), (3, xI p3), (5, xI p5)]) hC dX5_rounded_272 (by decide) rfl ?_
                refine xj_goto (tgt := 294) hC dX5_rounded_274 (by decide) ?_
                refine xj_aload_n hC dX5_rounded_294 rfl 3 rfl ?_
                refine xj_iload_n hC dX5_rounded_295 rfl 4 rfl ?_
                refine xj_iload hC dX5_rounded_296 0 rfl ?_
                refine xj_iload_n hC dX5_rounded_298 rfl 5 rfl ?_
                obtain ⟨v48, hc47, hf⟩ := xm_bind hf
                obtain ⟨_, hob, _⟩ := xm_bind hc47
                refine xj_reti (xr_V hC (mX5_signed l D ks b hc47) hob rfl xw_cod_X5_signed xw_ini_X5 xw_ins_X5_signed xw_sel_X5_signed xw_ml_X5_149 xds_X5_signed ⟨Nat.le_of_ble_eq_true rfl, Nat.le_of_ble_eq_true rfl⟩ rfl rfl (Nat.le_of_ble_eq_true rfl) ⟨Nat.le_of_ble_eq_true rfl, Nat.le_of_ble_eq_true rfl⟩ dX5_rounded_299) ?_
                obtain ⟨he, hw⟩ := Prod.mk.inj (Option.some.inj hf)
                exact xj_iret hC hr (by decide) (by decide) dX5_rounded_302 he hw
            · have hx0 := lv_neT hn30 (a := 0) (by decide)
              have hx1 := lv_neT hn31 (a := 1) (by decide)
              have hx2 := lv_neT hn36 (a := 2) (by decide)
              have hx3 := lv_neT hn39 (a := 3) (by decide)
              have hx4 := lv_neT hn44 (a := 4) (by decide)
              refine xj_tableOut (tgt := 277) hC dX5_rounded_163 (by omega) (by decide) ?_
              refine xj_iload hC dX5_rounded_277 2 rfl ?_
              refine xj_iconst (v := 1) hC dX5_rounded_279 (by decide) ?_
              refine xj_iand hC dX5_rounded_280 ?_
              refine xj_iconst (v := 1) hC dX5_rounded_281 (by decide) ?_
              refine xb_ic_ne (tgt := 290) hC dX5_rounded_282 (by decide) hf (fun hf => ?_) (fun hf => ?_)
              · refine xj_iload hC dX5_rounded_290 7 rfl ?_
                refine xj_istore (lv' := [(8, xI p5), (7, xI v29), (6, xI (p5 + (1 : Int32))), (0, xR p0), (1, xI p1), (2, xI p2), (3, xI p3), (5, xI p5)]) hC dX5_rounded_292 (by decide) rfl ?_
                refine xj_aload_n hC dX5_rounded_294 rfl 3 rfl ?_
                refine xj_iload_n hC dX5_rounded_295 rfl 4 rfl ?_
                refine xj_iload hC dX5_rounded_296 0 rfl ?_
                refine xj_iload_n hC dX5_rounded_298 rfl 5 rfl ?_
                obtain ⟨v50, hc49, hf⟩ := xm_bind hf
                obtain ⟨_, hob, _⟩ := xm_bind hc49
                refine xj_reti (xr_V hC (mX5_signed l D ks b hc49) hob rfl xw_cod_X5_signed xw_ini_X5 xw_ins_X5_signed xw_sel_X5_signed xw_ml_X5_149 xds_X5_signed ⟨Nat.le_of_ble_eq_true rfl, Nat.le_of_ble_eq_true rfl⟩ rfl rfl (Nat.le_of_ble_eq_true rfl) ⟨Nat.le_of_ble_eq_true rfl, Nat.le_of_ble_eq_true rfl⟩ dX5_rounded_299) ?_
                obtain ⟨he, hw⟩ := Prod.mk.inj (Option.some.inj hf)
                exact xj_iret hC hr (by decide) (by decide) dX5_rounded_302 he hw
              · refine xj_iload hC dX5_rounded_285 2 rfl ?_
                refine xj_goto (tgt := 292) hC dX5_rounded_287 (by decide) ?_
                refine xj_istore (lv' := [(8, xI (p5 + (1 : Int32))), (7, xI v29), (6, xI (p5 + (1 : Int32))), (0, xR p0), (1, xI p1), (2, xI p2), (3, xI p3), (5, xI p5)]) hC dX5_rounded_292 (by decide) rfl ?_
                refine xj_aload_n hC dX5_rounded_294 rfl 3 rfl ?_
                refine xj_iload_n hC dX5_rounded_295 rfl 4 rfl ?_
                refine xj_iload hC dX5_rounded_296 0 rfl ?_
                refine xj_iload_n hC dX5_rounded_298 rfl 5 rfl ?_
                obtain ⟨v52, hc51, hf⟩ := xm_bind hf
                obtain ⟨_, hob, _⟩ := xm_bind hc51
                refine xj_reti (xr_V hC (mX5_signed l D ks b hc51) hob rfl xw_cod_X5_signed xw_ini_X5 xw_ins_X5_signed xw_sel_X5_signed xw_ml_X5_149 xds_X5_signed ⟨Nat.le_of_ble_eq_true rfl, Nat.le_of_ble_eq_true rfl⟩ rfl rfl (Nat.le_of_ble_eq_true rfl) ⟨Nat.le_of_ble_eq_true rfl, Nat.le_of_ble_eq_true rfl⟩ dX5_rounded_299) ?_
                obtain ⟨he, hw⟩ := Prod.mk.inj (Option.some.inj hf)
                exact xj_iret hC hr (by decide) (by decide) dX5_rounded_302 he hw
  · refine xj_aload_n hC dX5_rounded_112 rfl 0 rfl ?_
    refine xj_iload_n hC dX5_rounded_113 rfl 1 rfl ?_
    refine xj_iload hC dX5_rounded_114 4 rfl ?_
    refine xj_iload_n hC dX5_rounded_116 rfl 2 rfl ?_
    obtain ⟨v54, hc53, hf⟩ := xm_bind hf
    obtain ⟨_, hob, _⟩ := xm_bind hc53
    refine xj_reti (xr_V hC (mX5_signed l D ks b hc53) hob rfl xw_cod_X5_signed xw_ini_X5 xw_ins_X5_signed xw_sel_X5_signed xw_ml_X5_149 xds_X5_signed ⟨Nat.le_of_ble_eq_true rfl, Nat.le_of_ble_eq_true rfl⟩ rfl rfl (Nat.le_of_ble_eq_true rfl) ⟨Nat.le_of_ble_eq_true rfl, Nat.le_of_ble_eq_true rfl⟩ dX5_rounded_117) ?_
    obtain ⟨he, hw⟩ := Prod.mk.inj (Option.some.inj hf)
    exact xj_iret hC hr (by decide) (by decide) dX5_rounded_120 he hw
def fX5_rounded_L61 : Nat → xmW → (Option Nat) → Int32 → Int32 → Int32 → Int32 → Int32 → Option (Int32 × xmW)
  | 0, _, _, _, _, _, _, _ => none
  | n + 1, w, p0, p1, p2, p3, p4, p5 => (if p4 ≤ p5 then (fX5_rounded_L94 w (p0) (p1) (p2) (p3) (p5) ) else ((fX5_size w (p0) (p1) ((p5 + (1 : Int32)))).bind fun v15 => ((fX5_twiceBeside w (p0) (((2 : Int64) * v15))).bind fun v17 => (if v17 < 0 then (fX5_rounded_L94 w (p0) (p1) (p2) (p3) (p5) ) else (fX5_rounded_L61 n w (p0) (p1) (p2) (p3) (p4) ((p5 + (1 : Int32))) )))))
set_option maxHeartbeats 4000000 in
set_option maxRecDepth 100000 in
theorem lX5_rounded_L61 {p : Program} {l : Launch} {e : Env} {s : State} {m : MethodId} {args : Array Value} {below : List Frame} {meth : Method} {c : Code} {D : va_G} {ks : Nat → ClassId} {b : Nat} (hC : xmC p s m args meth c D ks b 9 cX5_rounded RX5) (hr : meth.sig.returnType = (some (FieldType.int))) {y : Int32} {wz : xmW} : ∀ (n : Nat) (w : xmW) (p0 : (Option Nat)) (p1 : Int32) (p2 : Int32) (p3 : Int32) (p4 : Int32) (p5 : Int32), fX5_rounded_L61 n w p0 p1 p2 p3 p4 p5 = some (y, wz) → xmJ p l e ({ frames := 4, cells := 0, slots := 0, locals := 92 } : Room) s m args below meth c D ks b 9 (MQ below (xmQ D ks b (some (xI y)) wz) args s 0 0 (xmA b)) w 0 0 61 [(0, xR p0), (1, xI p1), (2, xI p2), (3, xI p3), (4, xI p4), (5, xI p5)] [] := by
  intro n
  induction n with
  | zero => intro w p0 p1 p2 p3 p4 p5 hf; simp [fX5_rounded_L61] at hf
  | succ n ih =>
    intro w p0 p1 p2 p3 p4 p5 hf
    rw [fX5_rounded_L61] at hf
    refine xj_iload hC dX5_rounded_61 5 rfl ?_
    refine xj_iload hC dX5_rounded_63 4 rfl ?_
    refine xb_ic_ge (tgt := 94) hC dX5_rounded_65 (by decide) hf (fun hf => ?_) (fun hf => ?_)
    · refine xj_lv [0, 1, 2, 3, 5] rfl ?_
      exact lX5_rounded_L94 hC hr  w (p0) (p1) (p2) (p3) (p5)  hf
    · refine xj_aload_n hC dX5_rounded_68 rfl 0 rfl ?_
      refine xj_ldc2 hC xw_cst_X5_90 dX5_rounded_69 ?_
      refine xj_aload_n hC dX5_rounded_72 rfl 0 rfl ?_
      refine xj_iload_n hC dX5_rounded_73 rfl 1 rfl ?_
      refine xj_iload hC dX5_rounded_74 5 rfl ?_
      refine xj_iconst (v := 1) hC dX5_rounded_76 (by decide) ?_
      refine xj_iadd hC dX5_rounded_77 ?_
      obtain ⟨v15, hc14, hf⟩ := xm_bind hf
      obtain ⟨_, hob, _⟩ := xm_bind hc14
      refine xj_retl (xr_V hC (mX5_size l D ks b hc14) hob rfl xw_cod_X5_size xw_ini_X5 xw_ins_X5_size xw_sel_X5_size xw_ml_X5_92 xds_X5_size ⟨Nat.le_of_ble_eq_true rfl, Nat.le_of_ble_eq_true rfl⟩ rfl rfl (Nat.le_of_ble_eq_true rfl) ⟨Nat.le_of_ble_eq_true rfl, Nat.le_of_ble_eq_true rfl⟩ dX5_rounded_78) ?_
      refine xj_lmul hC dX5_rounded_81 ?_
      obtain ⟨v17, hc16, hf⟩ := xm_bind hf
      obtain ⟨_, hob, _⟩ := xm_bind hc16
      refine xj_reti (xr_V hC (mX5_twiceBeside l D ks b hc16) hob rfl xw_cod_X5_twiceBeside xw_ini_X5 xw_ins_X5_twiceBeside xw_sel_X5_twiceBeside xw_ml_X5_155 xds_X5_twiceBeside ⟨Nat.le_of_ble_eq_true rfl, Nat.le_of_ble_eq_true rfl⟩ rfl rfl (Nat.le_of_ble_eq_true rfl) ⟨Nat.le_of_ble_eq_true rfl, Nat.le_of_ble_eq_true rfl⟩ dX5_rounded_82) ?_
      refine xb_if_lt (tgt := 94) hC dX5_rounded_85 (by decide) hf (fun hf => ?_) (fun hf => ?_)
      · refine xj_lv [0, 1, 2, 3, 5] rfl ?_
        exact lX5_rounded_L94 hC hr  w (p0) (p1) (p2) (p3) (p5)  hf
      · refine xj_iinc (v := (p5 + (1 : Int32))) (lv' := [(5, xI (p5 + (1 : Int32))), (0, xR p0), (1, xI p1), (2, xI p2), (3, xI p3), (4, xI p4)]) hC dX5_rounded_88 5 rfl rfl (by decide) rfl ?_
        refine xj_goto (tgt := 61) hC dX5_rounded_91 (by decide) ?_
        refine xj_lv [1, 2, 3, 4, 5, 0] rfl ?_
        exact ih w (p0) (p1) (p2) (p3) (p4) ((p5 + (1 : Int32)))  hf
def fX5_rounded_L25 (w : xmW) (p0 : (Option Nat)) (p1 : Int32) (p2 : Int32) (p3 : Int32) : Option (Int32 × xmW) := ((fX5_great w (p0) (p1)).bind fun v6 => ((fX5_size w (p0) (p1) (v6)).bind fun v8 => ((fX5_twiceBeside w (p0) (((2 : Int64) * v8))).bind fun v10 => (if v10 ≤ 0 then (fX5_rounded_L61 xmN w (p0) (p1) (p2) (p3) (v6) ((0 : Int32)) ) else (xmb2 (fX5_roundedAbove w (p0) (p1) (p2) (p3)) fun v12 w13 => (some (v12, w13)))))))
set_option maxHeartbeats 4000000 in
set_option maxRecDepth 100000 in
theorem lX5_rounded_L25 {p : Program} {l : Launch} {e : Env} {s : State} {m : MethodId} {args : Array Value} {below : List Frame} {meth : Method} {c : Code} {D : va_G} {ks : Nat → ClassId} {b : Nat} (hC : xmC p s m args meth c D ks b 9 cX5_rounded RX5) (hr : meth.sig.returnType = (some (FieldType.int))) {y : Int32} {wz : xmW} (w : xmW) (p0 : (Option Nat)) (p1 : Int32) (p2 : Int32) (p3 : Int32) (hf : fX5_rounded_L25 w p0 p1 p2 p3 = some (y, wz)) : xmJ p l e ({ frames := 4, cells := 0, slots := 0, locals := 92 } : Room) s m args below meth c D ks b 9 (MQ below (xmQ D ks b (some (xI y)) wz) args s 0 0 (xmA b)) w 0 0 25 [(0, xR p0), (1, xI p1), (2, xI p2), (3, xI p3)] [] := by
  unfold fX5_rounded_L25 at hf
  refine xj_aload_n hC dX5_rounded_25 rfl 0 rfl ?_
  refine xj_iload_n hC dX5_rounded_26 rfl 1 rfl ?_
  obtain ⟨v6, hc5, hf⟩ := xm_bind hf
  obtain ⟨_, hob, _⟩ := xm_bind hc5
  refine xj_reti (xr_V hC (mX5_great l D ks b hc5) hob rfl xw_cod_X5_great xw_ini_X5 xw_ins_X5_great xw_sel_X5_great xw_ml_X5_100 xds_X5_great ⟨Nat.le_of_ble_eq_true rfl, Nat.le_of_ble_eq_true rfl⟩ rfl rfl (Nat.le_of_ble_eq_true rfl) ⟨Nat.le_of_ble_eq_true rfl, Nat.le_of_ble_eq_true rfl⟩ dX5_rounded_27) ?_
  refine xj_istore (lv' := [(4, xI v6), (0, xR p0), (1, xI p1), (2, xI p2), (3, xI p3)]) hC dX5_rounded_30 (by decide) rfl ?_
  refine xj_aload_n hC dX5_rounded_32 rfl 1 rfl ?_
  refine xj_ldc2 hC xw_cst_X5_90 dX5_rounded_33 ?_
  refine xj_aload_n hC dX5_rounded_36 rfl 1 rfl ?_
  refine xj_iload_n hC dX5_rounded_37 rfl 2 rfl ?_
  refine xj_iload hC dX5_rounded_38 0 rfl ?_
  obtain ⟨v8, hc7, hf⟩ := xm_bind hf
  obtain ⟨_, hob, _⟩ := xm_bind hc7
  refine xj_retl (xr_V hC (mX5_size l D ks b hc7) hob rfl xw_cod_X5_size xw_ini_X5 xw_ins_X5_size xw_sel_X5_size xw_ml_X5_92 xds_X5_size ⟨Nat.le_of_ble_eq_true rfl, Nat.le_of_ble_eq_true rfl⟩ rfl rfl (Nat.le_of_ble_eq_true rfl) ⟨Nat.le_of_ble_eq_true rfl, Nat.le_of_ble_eq_true rfl⟩ dX5_rounded_40) ?_
  refine xj_lmul hC dX5_rounded_43 ?_
  obtain ⟨v10, hc9, hf⟩ := xm_bind hf
  obtain ⟨_, hob, _⟩ := xm_bind hc9
  refine xj_reti (xr_V hC (mX5_twiceBeside l D ks b hc9) hob rfl xw_cod_X5_twiceBeside xw_ini_X5 xw_ins_X5_twiceBeside xw_sel_X5_twiceBeside xw_ml_X5_155 xds_X5_twiceBeside ⟨Nat.le_of_ble_eq_true rfl, Nat.le_of_ble_eq_true rfl⟩ rfl rfl (Nat.le_of_ble_eq_true rfl) ⟨Nat.le_of_ble_eq_true rfl, Nat.le_of_ble_eq_true rfl⟩ dX5_rounded_44) ?_
  refine xb_if_le (tgt := 58) hC dX5_rounded_47 (by decide) hf (fun hf => ?_) (fun hf => ?_)
  · refine xj_iconst (v := 0) hC dX5_rounded_58 (by decide) ?_
    refine xj_istore (lv' := [(5, xI (0 : Int32)), (4, xI v6), (0, xR p0), (1, xI p1), (2, xI p2), (3, xI p3)]) hC dX5_rounded_59 (by decide) rfl ?_
    refine xj_lv [2, 3, 4, 5, 1, 0] rfl ?_
    exact lX5_rounded_L61 hC hr  xmN w (p0) (p1) (p2) (p3) (v6) ((0 : Int32))  hf
  · refine xj_aload_n hC dX5_rounded_50 rfl 1 rfl ?_
    refine xj_iload_n hC dX5_rounded_51 rfl 2 rfl ?_
    refine xj_iload_n hC dX5_rounded_52 rfl 3 rfl ?_
    refine xj_iload_n hC dX5_rounded_53 rfl 4 rfl ?_
    obtain ⟨v12, w13, hc11, hf⟩ := xm_b2 hf
    obtain ⟨_, hob, _⟩ := xm_bind hc11
    refine xj_reti (xr_V hC (mX5_roundedAbove l D ks b hc11) hob rfl xw_cod_X5_roundedAbove xw_ini_X5 xw_ins_X5_roundedAbove xw_sel_X5_roundedAbove xw_ml_X5_163 xds_X5_roundedAbove ⟨Nat.le_of_ble_eq_true rfl, Nat.le_of_ble_eq_true rfl⟩ rfl rfl (Nat.le_of_ble_eq_true rfl) ⟨Nat.le_of_ble_eq_true rfl, Nat.le_of_ble_eq_true rfl⟩ dX5_rounded_54) ?_
    obtain ⟨he, hw⟩ := Prod.mk.inj (Option.some.inj hf)
    exact xj_iret hC hr (by decide) (by decide) dX5_rounded_57 he hw
def fX5_rounded (w : xmW) (th : (Option Nat)) (a1 : Int32) (a2 : Int32) (a3 : Int32) : Option (Int32 × xmW) := ((xmob w th 5).bind fun _ => (if a2 = 0 then (fX5_rounded_L25 w (th) (a1) (a2) (a3) ) else ((xmgR w th 5 1).bind fun v1 => ((xmild w v1 0 a1).bind fun v2 => (if v2 = 0 then ((xmgI w th 5 18).bind fun v3 => ((xmput w th 5 18 (xI (v3 + (1 : Int32)))).bind fun w4 => (some ((0 : Int32), w4)))) else (fX5_rounded_L25 w (th) (a1) (a2) (a3) ))))))
set_option maxHeartbeats 4000000 in
set_option maxRecDepth 100000 in
theorem mX5_rounded (l : Launch) (D : va_G) (ks : Nat → ClassId) (b : Nat) {w : xmW} {th : (Option Nat)} {a1 : Int32} {a2 : Int32} {a3 : Int32} {y : Int32} {wz : xmW} (hf : fX5_rounded w th a1 a2 a3 = some (y, wz)) : xmM l yX5_rounded (Cond.code yX5_rounded cX5_rounded 9 (some (FieldType.int)) :: xmTs) 4 92 0 0 D ks b w [xR th, xI a1, xI a2, xI a3] (some (xI y)) wz := by
  unfold fX5_rounded at hf
  obtain ⟨_, _, hf⟩ := xm_bind hf
  refine xmM.of (own := RX5) (lv0 := [(0, xR th), (1, xI a1), (2, xI a2), (3, xI a3)]) (by decide) rfl (Nat.le_of_ble_eq_true rfl) rfl ?_
  intro p e s m args below meth c hC hr hnm
  refine xj_iload_n hC dX5_rounded_0 rfl 2 rfl ?_
  refine xb_if_eq (tgt := 25) hC dX5_rounded_1 (by decide) hf (fun hf => ?_) (fun hf => ?_)
  · exact lX5_rounded_L25 hC hr  w (th) (a1) (a2) (a3)  hf
  · refine xj_aload_n hC dX5_rounded_4 rfl 0 rfl ?_
    refine xb_getR hC 5 1 xcl_5 (by decide) xw_fl_X5_7 dX5_rounded_5 hf (fun v1 hf => ?_)
    refine xj_iload_n hC dX5_rounded_8 rfl 1 rfl ?_
    refine xb_iald hC dX5_rounded_9 hf (fun v2 hf => ?_)
    refine xb_if_ne (tgt := 25) hC dX5_rounded_10 (by decide) hf (fun hf => ?_) (fun hf => ?_)
    · exact lX5_rounded_L25 hC hr  w (th) (a1) (a2) (a3)  hf
    · refine xj_aload_n hC dX5_rounded_13 rfl 0 rfl ?_
      refine xj_dup hC dX5_rounded_14 rfl ?_
      refine xb_getI hC 5 18 xcl_5 (by decide) xw_fl_X5_51 dX5_rounded_15 hf (fun v3 hf => ?_)
      refine xj_iconst (v := 1) hC dX5_rounded_18 (by decide) ?_
      refine xj_iadd hC dX5_rounded_19 ?_
      refine xb_put hC 5 18 xcl_5 (by decide) xw_fl_X5_51 rfl (xmfit_i _) dX5_rounded_20 hf (fun w4 hf => ?_)
      refine xj_iconst (v := 0) hC dX5_rounded_23 (by decide) ?_
      obtain ⟨he, hw⟩ := Prod.mk.inj (Option.some.inj hf)
      exact xj_iret hC hr (by decide) (by decide) dX5_rounded_24 he hw
def fX5_roundedFraction_L33 (w : xmW) (p0 : (Option Nat)) (p1 : Int32) (p2 : Int64) (p4 : Int64) (p6 : Int32) (s0 : Int64) (s1 : (Option Nat)) : Option (Int32 × xmW) := ((xmput w s1 5 21 (xL s0)).bind fun w4 => ((xmput w4 p0 5 22 (xL p4)).bind fun w5 => (xmb2 (fX5_rounded w5 (p0) (p1) ((if 0 ≤ (lg_cmp p2 (0 : Int64)) then (0 : Int32) else (1 : Int32))) (p6)) fun v7 w8 => (some (v7, w8)))))
set_option maxHeartbeats 4000000 in
set_option maxRecDepth 100000 in
theorem lX5_roundedFraction_L33 {p : Program} {l : Launch} {e : Env} {s : State} {m : MethodId} {args : Array Value} {below : List Frame} {meth : Method} {c : Code} {D : va_G} {ks : Nat → ClassId} {b : Nat} (hC : xmC p s m args meth c D ks b 8 cX5_roundedFraction RX5) (hr : meth.sig.returnType = (some (FieldType.int))) {y : Int32} {wz : xmW} (w : xmW) (p0 : (Option Nat)) (p1 : Int32) (p2 : Int64) (p4 : Int64) (p6 : Int32) (s0 : Int64) (s1 : (Option Nat)) (hf : fX5_roundedFraction_L33 w p0 p1 p2 p4 p6 s0 s1 = some (y, wz)) : xmJ p l e ({ frames := 5, cells := 0, slots := 0, locals := 120 } : Room) s m args below meth c D ks b 8 (MQ below (xmQ D ks b (some (xI y)) wz) args s 0 0 (xmA b)) w 0 0 33 [(0, xR p0), (1, xI p1), (2, xL p2), (4, xL p4), (6, xI p6)] [xL s0, xR s1] := by
  unfold fX5_roundedFraction_L33 at hf
  refine xb_put hC 5 21 xcl_5 (by decide) xw_fl_X5_142 rfl (xmfit_l _) dX5_roundedFraction_33 hf (fun w4 hf => ?_)
  refine xj_aload_n hC dX5_roundedFraction_36 rfl 0 rfl ?_
  refine xj_lload hC dX5_roundedFraction_37 3 rfl ?_
  refine xb_put hC 5 22 xcl_5 (by decide) xw_fl_X5_146 rfl (xmfit_l _) dX5_roundedFraction_39 hf (fun w5 hf => ?_)
  refine xj_aload_n hC dX5_roundedFraction_42 rfl 0 rfl ?_
  refine xj_iload_n hC dX5_roundedFraction_43 rfl 1 rfl ?_
  refine xj_lload_n hC dX5_roundedFraction_44 rfl 2 rfl ?_
  refine xj_lconst (v := 0) hC dX5_roundedFraction_45 (by decide) ?_
  refine xj_lcmp hC dX5_roundedFraction_46 ?_
  refine xj_dia (cnd := 0 ≤ (lg_cmp p2 (0 : Int64))) (x := 0) (y := 1) (pc2 := 55) (st2 := [xI p1, xR p0]) (fun hc hk => ?_) (fun hc hk => ?_) ?_
  · exact xj_if_ge (tgt := 54) hC dX5_roundedFraction_47 (by decide) (fun _ => xj_iconst (v := 0) hC dX5_roundedFraction_54 (by decide) hk) (fun hn => absurd hc hn)
  · exact xj_if_ge (tgt := 54) hC dX5_roundedFraction_47 (by decide) (fun hn => absurd hn hc) (fun _ => xj_iconst (v := 1) hC dX5_roundedFraction_50 (by decide) (xj_goto (tgt := 55) hC dX5_roundedFraction_51 (by decide) hk))
  refine xj_iload hC dX5_roundedFraction_55 4 rfl ?_
  obtain ⟨v7, w8, hc6, hf⟩ := xm_b2 hf
  obtain ⟨_, hob, _⟩ := xm_bind hc6
  refine xj_reti (xr_V hC (mX5_rounded l D ks b hc6) hob rfl xw_cod_X5_rounded xw_ini_X5 xw_ins_X5_rounded xw_sel_X5_rounded xw_ml_X5_167 xds_X5_rounded ⟨Nat.le_of_ble_eq_true rfl, Nat.le_of_ble_eq_true rfl⟩ rfl rfl (Nat.le_of_ble_eq_true rfl) ⟨Nat.le_of_ble_eq_true rfl, Nat.le_of_ble_eq_true rfl⟩ dX5_roundedFraction_57) ?_
  obtain ⟨he, hw⟩ := Prod.mk.inj (Option.some.inj hf)
  exact xj_iret hC hr (by decide) (by decide) dX5_roundedFraction_60 he hw
def fX5_roundedFraction (w : xmW) (th : (Option Nat)) (a1 : Int32) (a2 : Int64) (a3 : Int64) (a4 : Int32) (a5 : Int32) : Option (Int32 × xmW) := ((xmob w th 5).bind fun _ => (if (lg_cmp a2 (0 : Int64)) = 0 then ((fX5_signed w (th) (a1) ((0 : Int32)) (a5)).bind fun v3 => (some (v3, w))) else ((xmput w th 5 20 (xI (0 : Int32))).bind fun w1 => (if 0 ≤ (lg_cmp a2 (0 : Int64)) then (fX5_roundedFraction_L33 w1 (th) (a1) (a2) (a3) (a4) (a2) (th)) else (fX5_roundedFraction_L33 w1 (th) (a1) (a2) (a3) (a4) ((-a2)) (th))))))
set_option maxHeartbeats 4000000 in
set_option maxRecDepth 100000 in
theorem mX5_roundedFraction (l : Launch) (D : va_G) (ks : Nat → ClassId) (b : Nat) {w : xmW} {th : (Option Nat)} {a1 : Int32} {a2 : Int64} {a3 : Int64} {a4 : Int32} {a5 : Int32} {y : Int32} {wz : xmW} (hf : fX5_roundedFraction w th a1 a2 a3 a4 a5 = some (y, wz)) : xmM l yX5_roundedFraction (Cond.code yX5_roundedFraction cX5_roundedFraction 8 (some (FieldType.int)) :: xmTs) 5 120 0 0 D ks b w [xR th, xI a1, xL a2, xL a3, xI a4, xI a5] (some (xI y)) wz := by
  unfold fX5_roundedFraction at hf
  obtain ⟨_, _, hf⟩ := xm_bind hf
  refine xmM.of (own := RX5) (lv0 := [(0, xR th), (1, xI a1), (2, xL a2), (4, xL a3), (6, xI a4), (7, xI a5)]) (by decide) rfl (Nat.le_of_ble_eq_true rfl) rfl ?_
  intro p e s m args below meth c hC hr hnm
  refine xj_lload_n hC dX5_roundedFraction_0 rfl 2 rfl ?_
  refine xj_lconst (v := 0) hC dX5_roundedFraction_1 (by decide) ?_
  refine xj_lcmp hC dX5_roundedFraction_2 ?_
  refine xb_if_ne (tgt := 15) hC dX5_roundedFraction_3 (by decide) hf (fun hf => ?_) (fun hf => ?_)
  · refine xj_aload_n hC dX5_roundedFraction_15 rfl 0 rfl ?_
    refine xj_iconst (v := 0) hC dX5_roundedFraction_16 (by decide) ?_
    refine xb_put hC 5 20 xcl_5 (by decide) xw_fl_X5_138 rfl (xmfit_z (by decide)) dX5_roundedFraction_17 hf (fun w1 hf => ?_)
    refine xj_aload_n hC dX5_roundedFraction_20 rfl 0 rfl ?_
    refine xj_lload_n hC dX5_roundedFraction_21 rfl 2 rfl ?_
    refine xj_lconst (v := 0) hC dX5_roundedFraction_22 (by decide) ?_
    refine xj_lcmp hC dX5_roundedFraction_23 ?_
    refine xb_if_ge (tgt := 32) hC dX5_roundedFraction_24 (by decide) hf (fun hf => ?_) (fun hf => ?_)
    · refine xj_lload_n hC dX5_roundedFraction_32 rfl 2 rfl ?_
      refine xj_lv [0, 1, 2, 3, 4] rfl ?_
      exact lX5_roundedFraction_L33 hC hr  w1 (th) (a1) (a2) (a3) (a4) (a2) (th) hf
    · refine xj_lload_n hC dX5_roundedFraction_27 rfl 2 rfl ?_
      refine xj_lneg hC dX5_roundedFraction_28 ?_
      refine xj_goto (tgt := 33) hC dX5_roundedFraction_29 (by decide) ?_
      refine xj_lv [0, 1, 2, 3, 4] rfl ?_
      exact lX5_roundedFraction_L33 hC hr  w1 (th) (a1) (a2) (a3) (a4) ((-a2)) (th) hf
  · refine xj_aload_n hC dX5_roundedFraction_6 rfl 0 rfl ?_
    refine xj_iload_n hC dX5_roundedFraction_7 rfl 1 rfl ?_
    refine xj_iconst (v := 0) hC dX5_roundedFraction_8 (by decide) ?_
    refine xj_iload hC dX5_roundedFraction_9 5 rfl ?_
    obtain ⟨v3, hc2, hf⟩ := xm_bind hf
    obtain ⟨_, hob, _⟩ := xm_bind hc2
    refine xj_reti (xr_V hC (mX5_signed l D ks b hc2) hob rfl xw_cod_X5_signed xw_ini_X5 xw_ins_X5_signed xw_sel_X5_signed xw_ml_X5_149 xds_X5_signed ⟨Nat.le_of_ble_eq_true rfl, Nat.le_of_ble_eq_true rfl⟩ rfl rfl (Nat.le_of_ble_eq_true rfl) ⟨Nat.le_of_ble_eq_true rfl, Nat.le_of_ble_eq_true rfl⟩ dX5_roundedFraction_11) ?_
    obtain ⟨he, hw⟩ := Prod.mk.inj (Option.some.inj hf)
    exact xj_iret hC hr (by decide) (by decide) dX5_roundedFraction_14 he hw
def fX5_code (w : xmW) (th : (Option Nat)) (a1 : Int32) (a2 : Int64) (a3 : Int64) (a4 : Int32) : Option (Int32 × xmW) := ((xmob w th 5).bind fun _ => ((fX5_isFormat w (th) (a1)).bind fun v2 => (if v2 = 0 then (xmb2 (fX5_refused w (th) ((-1 : Int32))) fun v4 w5 => (some (v4, w5))) else ((fX5_in w (a2) ((-1099511627776 : Int64)) ((1099511627776 : Int64))).bind fun v7 => (if v7 = 0 then (xmb2 (fX5_refused w (th) ((-1 : Int32))) fun v9 w10 => (some (v9, w10))) else ((fX5_in w (a3) ((1 : Int64)) ((1048576 : Int64))).bind fun v12 => (if v12 = 0 then (xmb2 (fX5_refused w (th) ((-1 : Int32))) fun v14 w15 => (some (v14, w15))) else ((fX5_in w ((a4).toInt64) ((0 : Int64)) ((5 : Int64))).bind fun v17 => (if v17 = 0 then (xmb2 (fX5_refused w (th) ((-1 : Int32))) fun v29 w30 => (some (v29, w30))) else ((fX5_begins w (th) ).bind fun w19 => ((fX5_scale w19 (th) (a1)).bind fun v21 => (xmb2 (fX5_roundedFraction w19 (th) (a1) ((a2 <<< ((v21).toInt64 &&& 63))) (a3) (a4) ((0 : Int32))) fun v23 w24 => (xmb2 (fX5_ends w24 (th) (v23)) fun v26 w27 => (some (v26, w27)))))))))))))))
set_option maxHeartbeats 4000000 in
set_option maxRecDepth 100000 in
theorem mX5_code (l : Launch) (D : va_G) (ks : Nat → ClassId) (b : Nat) {w : xmW} {th : (Option Nat)} {a1 : Int32} {a2 : Int64} {a3 : Int64} {a4 : Int32} {y : Int32} {wz : xmW} (hf : fX5_code w th a1 a2 a3 a4 = some (y, wz)) : xmM l yX5_code (Cond.code yX5_code cX5_code 7 (some (FieldType.int)) :: xmTs) 6 147 0 0 D ks b w [xR th, xI a1, xL a2, xL a3, xI a4] (some (xI y)) wz := by
  unfold fX5_code at hf
  obtain ⟨_, _, hf⟩ := xm_bind hf
  refine xmM.of (own := RX5) (lv0 := [(0, xR th), (1, xI a1), (2, xL a2), (4, xL a3), (6, xI a4)]) (by decide) rfl (Nat.le_of_ble_eq_true rfl) rfl ?_
  intro p e s m args below meth c hC hr hnm
  refine xj_aload_n hC dX5_code_0 rfl 0 rfl ?_
  refine xj_iload_n hC dX5_code_1 rfl 1 rfl ?_
  obtain ⟨v2, hc1, hf⟩ := xm_bind hf
  obtain ⟨_, hob, _⟩ := xm_bind hc1
  refine xj_reti (xr_V hC (mX5_isFormat l D ks b hc1) hob rfl xw_cod_X5_isFormat xw_ini_X5 xw_ins_X5_isFormat xw_sel_X5_isFormat xw_ml_X5_109 xds_X5_isFormat ⟨Nat.le_of_ble_eq_true rfl, Nat.le_of_ble_eq_true rfl⟩ rfl rfl (Nat.le_of_ble_eq_true rfl) ⟨Nat.le_of_ble_eq_true rfl, Nat.le_of_ble_eq_true rfl⟩ dX5_code_2) ?_
  refine xb_if_eq (tgt := 46) hC dX5_code_5 (by decide) hf (fun hf => ?_) (fun hf => ?_)
  · refine xj_aload_n hC dX5_code_46 rfl 0 rfl ?_
    refine xj_iconst (v := -1) hC dX5_code_47 (by decide) ?_
    obtain ⟨v4, w5, hc3, hf⟩ := xm_b2 hf
    obtain ⟨_, hob, _⟩ := xm_bind hc3
    refine xj_reti (xr_V hC (mX5_refused l D ks b hc3) hob rfl xw_cod_X5_refused xw_ini_X5 xw_ins_X5_refused xw_sel_X5_refused xw_ml_X5_57 xds_X5_refused ⟨Nat.le_of_ble_eq_true rfl, Nat.le_of_ble_eq_true rfl⟩ rfl rfl (Nat.le_of_ble_eq_true rfl) ⟨Nat.le_of_ble_eq_true rfl, Nat.le_of_ble_eq_true rfl⟩ dX5_code_48) ?_
    obtain ⟨he, hw⟩ := Prod.mk.inj (Option.some.inj hf)
    exact xj_iret hC hr (by decide) (by decide) dX5_code_51 he hw
  · refine xj_lload_n hC dX5_code_8 rfl 2 rfl ?_
    refine xj_ldc2 hC xw_cst_X5_170 dX5_code_9 ?_
    refine xj_ldc2 hC xw_cst_X5_172 dX5_code_12 ?_
    obtain ⟨v7, hc6, hf⟩ := xm_bind hf
    refine xj_reti (xr_S hC (mX5_in l D ks b hc6) xw_cod_X5_in xw_ini_X5 xw_sta_X5_in xw_ml_X5_70 xds_X5_in ⟨Nat.le_of_ble_eq_true rfl, Nat.le_of_ble_eq_true rfl⟩ rfl rfl (Nat.le_of_ble_eq_true rfl) ⟨Nat.le_of_ble_eq_true rfl, Nat.le_of_ble_eq_true rfl⟩ dX5_code_15) ?_
    refine xb_if_eq (tgt := 46) hC dX5_code_18 (by decide) hf (fun hf => ?_) (fun hf => ?_)
    · refine xj_aload_n hC dX5_code_46 rfl 0 rfl ?_
      refine xj_iconst (v := -1) hC dX5_code_47 (by decide) ?_
      obtain ⟨v9, w10, hc8, hf⟩ := xm_b2 hf
      obtain ⟨_, hob, _⟩ := xm_bind hc8
      refine xj_reti (xr_V hC (mX5_refused l D ks b hc8) hob rfl xw_cod_X5_refused xw_ini_X5 xw_ins_X5_refused xw_sel_X5_refused xw_ml_X5_57 xds_X5_refused ⟨Nat.le_of_ble_eq_true rfl, Nat.le_of_ble_eq_true rfl⟩ rfl rfl (Nat.le_of_ble_eq_true rfl) ⟨Nat.le_of_ble_eq_true rfl, Nat.le_of_ble_eq_true rfl⟩ dX5_code_48) ?_
      obtain ⟨he, hw⟩ := Prod.mk.inj (Option.some.inj hf)
      exact xj_iret hC hr (by decide) (by decide) dX5_code_51 he hw
    · refine xj_lload hC dX5_code_21 3 rfl ?_
      refine xj_lconst (v := 1) hC dX5_code_23 (by decide) ?_
      refine xj_ldc2 hC xw_cst_X5_174 dX5_code_24 ?_
      obtain ⟨v12, hc11, hf⟩ := xm_bind hf
      refine xj_reti (xr_S hC (mX5_in l D ks b hc11) xw_cod_X5_in xw_ini_X5 xw_sta_X5_in xw_ml_X5_70 xds_X5_in ⟨Nat.le_of_ble_eq_true rfl, Nat.le_of_ble_eq_true rfl⟩ rfl rfl (Nat.le_of_ble_eq_true rfl) ⟨Nat.le_of_ble_eq_true rfl, Nat.le_of_ble_eq_true rfl⟩ dX5_code_27) ?_
      refine xb_if_eq (tgt := 46) hC dX5_code_30 (by decide) hf (fun hf => ?_) (fun hf => ?_)
      · refine xj_aload_n hC dX5_code_46 rfl 0 rfl ?_
        refine xj_iconst (v := -1) hC dX5_code_47 (by decide) ?_
        obtain ⟨v14, w15, hc13, hf⟩ := xm_b2 hf
        obtain ⟨_, hob, _⟩ := xm_bind hc13
        refine xj_reti (xr_V hC (mX5_refused l D ks b hc13) hob rfl xw_cod_X5_refused xw_ini_X5 xw_ins_X5_refused xw_sel_X5_refused xw_ml_X5_57 xds_X5_refused ⟨Nat.le_of_ble_eq_true rfl, Nat.le_of_ble_eq_true rfl⟩ rfl rfl (Nat.le_of_ble_eq_true rfl) ⟨Nat.le_of_ble_eq_true rfl, Nat.le_of_ble_eq_true rfl⟩ dX5_code_48) ?_
        obtain ⟨he, hw⟩ := Prod.mk.inj (Option.some.inj hf)
        exact xj_iret hC hr (by decide) (by decide) dX5_code_51 he hw
      · refine xj_iload hC dX5_code_33 4 rfl ?_
        refine xj_i2l hC dX5_code_35 ?_
        refine xj_lconst (v := 0) hC dX5_code_36 (by decide) ?_
        refine xj_ldc2 hC xw_cst_X5_105 dX5_code_37 ?_
        obtain ⟨v17, hc16, hf⟩ := xm_bind hf
        refine xj_reti (xr_S hC (mX5_in l D ks b hc16) xw_cod_X5_in xw_ini_X5 xw_sta_X5_in xw_ml_X5_70 xds_X5_in ⟨Nat.le_of_ble_eq_true rfl, Nat.le_of_ble_eq_true rfl⟩ rfl rfl (Nat.le_of_ble_eq_true rfl) ⟨Nat.le_of_ble_eq_true rfl, Nat.le_of_ble_eq_true rfl⟩ dX5_code_40) ?_
        refine xb_if_ne (tgt := 52) hC dX5_code_43 (by decide) hf (fun hf => ?_) (fun hf => ?_)
        · refine xj_aload_n hC dX5_code_52 rfl 0 rfl ?_
          obtain ⟨w19, hc18, hf⟩ := xm_bind hf
          obtain ⟨_, hob, _⟩ := xm_bind hc18
          refine xj_retv (xr_V hC (mX5_begins l D ks b hc18) hob rfl xw_cod_X5_begins xw_ini_X5 xw_ins_X5_begins xw_sel_X5_begins xw_ml_X5_176 xds_X5_begins ⟨Nat.le_of_ble_eq_true rfl, Nat.le_of_ble_eq_true rfl⟩ rfl rfl (Nat.le_of_ble_eq_true rfl) ⟨Nat.le_of_ble_eq_true rfl, Nat.le_of_ble_eq_true rfl⟩ dX5_code_53) ?_
          refine xj_aload_n hC dX5_code_56 rfl 0 rfl ?_
          refine xj_aload_n hC dX5_code_57 rfl 0 rfl ?_
          refine xj_iload_n hC dX5_code_58 rfl 1 rfl ?_
          refine xj_lload_n hC dX5_code_59 rfl 2 rfl ?_
          refine xj_aload_n hC dX5_code_60 rfl 0 rfl ?_
          refine xj_iload_n hC dX5_code_61 rfl 1 rfl ?_
          obtain ⟨v21, hc20, hf⟩ := xm_bind hf
          obtain ⟨_, hob, _⟩ := xm_bind hc20
          refine xj_reti (xr_V hC (mX5_scale l D ks b hc20) hob rfl xw_cod_X5_scale xw_ini_X5 xw_ins_X5_scale xw_sel_X5_scale xw_ml_X5_127 xds_X5_scale ⟨Nat.le_of_ble_eq_true rfl, Nat.le_of_ble_eq_true rfl⟩ rfl rfl (Nat.le_of_ble_eq_true rfl) ⟨Nat.le_of_ble_eq_true rfl, Nat.le_of_ble_eq_true rfl⟩ dX5_code_62) ?_
          refine xj_lshl hC dX5_code_65 ?_
          refine xj_lload hC dX5_code_66 3 rfl ?_
          refine xj_iload hC dX5_code_68 4 rfl ?_
          refine xj_iconst (v := 0) hC dX5_code_70 (by decide) ?_
          obtain ⟨v23, w24, hc22, hf⟩ := xm_b2 hf
          obtain ⟨_, hob, _⟩ := xm_bind hc22
          refine xj_reti (xr_V hC (mX5_roundedFraction l D ks b hc22) hob rfl xw_cod_X5_roundedFraction xw_ini_X5 xw_ins_X5_roundedFraction xw_sel_X5_roundedFraction xw_ml_X5_179 xds_X5_roundedFraction ⟨Nat.le_of_ble_eq_true rfl, Nat.le_of_ble_eq_true rfl⟩ rfl rfl (Nat.le_of_ble_eq_true rfl) ⟨Nat.le_of_ble_eq_true rfl, Nat.le_of_ble_eq_true rfl⟩ dX5_code_71) ?_
          obtain ⟨v26, w27, hc25, hf⟩ := xm_b2 hf
          obtain ⟨_, hob, _⟩ := xm_bind hc25
          refine xj_reti (xr_V hC (mX5_ends l D ks b hc25) hob rfl xw_cod_X5_ends xw_ini_X5 xw_ins_X5_ends xw_sel_X5_ends xw_ml_X5_183 xds_X5_ends ⟨Nat.le_of_ble_eq_true rfl, Nat.le_of_ble_eq_true rfl⟩ rfl rfl (Nat.le_of_ble_eq_true rfl) ⟨Nat.le_of_ble_eq_true rfl, Nat.le_of_ble_eq_true rfl⟩ dX5_code_74) ?_
          obtain ⟨he, hw⟩ := Prod.mk.inj (Option.some.inj hf)
          exact xj_iret hC hr (by decide) (by decide) dX5_code_77 he hw
        · refine xj_aload_n hC dX5_code_46 rfl 0 rfl ?_
          refine xj_iconst (v := -1) hC dX5_code_47 (by decide) ?_
          obtain ⟨v29, w30, hc28, hf⟩ := xm_b2 hf
          obtain ⟨_, hob, _⟩ := xm_bind hc28
          refine xj_reti (xr_V hC (mX5_refused l D ks b hc28) hob rfl xw_cod_X5_refused xw_ini_X5 xw_ins_X5_refused xw_sel_X5_refused xw_ml_X5_57 xds_X5_refused ⟨Nat.le_of_ble_eq_true rfl, Nat.le_of_ble_eq_true rfl⟩ rfl rfl (Nat.le_of_ble_eq_true rfl) ⟨Nat.le_of_ble_eq_true rfl, Nat.le_of_ble_eq_true rfl⟩ dX5_code_48) ?_
          obtain ⟨he, hw⟩ := Prod.mk.inj (Option.some.inj hf)
          exact xj_iret hC hr (by decide) (by decide) dX5_code_51 he hw
def fX5_invalidIn (w : xmW) (th : (Option Nat)) (a1 : Int32) : Option (Int32 × xmW) := ((xmob w th 5).bind fun _ => ((xmgI w th 5 16).bind fun v1 => ((xmput w th 5 16 (xI (v1 + (1 : Int32)))).bind fun w2 => ((fX5_noneOf w2 (th) (a1)).bind fun v4 => (if 0 ≤ v4 then ((fX5_noneOf w2 (th) (a1)).bind fun v6 => (some (v6, w2))) else (some ((-4 : Int32), w2)))))))
set_option maxHeartbeats 4000000 in
set_option maxRecDepth 100000 in
theorem mX5_invalidIn (l : Launch) (D : va_G) (ks : Nat → ClassId) (b : Nat) {w : xmW} {th : (Option Nat)} {a1 : Int32} {y : Int32} {wz : xmW} (hf : fX5_invalidIn w th a1 = some (y, wz)) : xmM l yX5_invalidIn (Cond.code yX5_invalidIn cX5_invalidIn 2 (some (FieldType.int)) :: xmTs) 2 42 0 0 D ks b w [xR th, xI a1] (some (xI y)) wz := by
  unfold fX5_invalidIn at hf
  obtain ⟨_, _, hf⟩ := xm_bind hf
  refine xmM.of (own := RX5) (lv0 := [(0, xR th), (1, xI a1)]) (by decide) rfl (Nat.le_of_ble_eq_true rfl) rfl ?_
  intro p e s m args below meth c hC hr hnm
  refine xj_aload_n hC dX5_invalidIn_0 rfl 0 rfl ?_
  refine xj_dup hC dX5_invalidIn_1 rfl ?_
  refine xb_getI hC 5 16 xcl_5 (by decide) xw_fl_X5_186 dX5_invalidIn_2 hf (fun v1 hf => ?_)
  refine xj_iconst (v := 1) hC dX5_invalidIn_5 (by decide) ?_
  refine xj_iadd hC dX5_invalidIn_6 ?_
  refine xb_put hC 5 16 xcl_5 (by decide) xw_fl_X5_186 rfl (xmfit_i _) dX5_invalidIn_7 hf (fun w2 hf => ?_)
  refine xj_aload_n hC dX5_invalidIn_10 rfl 0 rfl ?_
  refine xj_iload_n hC dX5_invalidIn_11 rfl 1 rfl ?_
  obtain ⟨v4, hc3, hf⟩ := xm_bind hf
  obtain ⟨_, hob, _⟩ := xm_bind hc3
  refine xj_reti (xr_V hC (mX5_noneOf l D ks b hc3) hob rfl xw_cod_X5_noneOf xw_ini_X5 xw_ins_X5_noneOf xw_sel_X5_noneOf xw_ml_X5_118 xds_X5_noneOf ⟨Nat.le_of_ble_eq_true rfl, Nat.le_of_ble_eq_true rfl⟩ rfl rfl (Nat.le_of_ble_eq_true rfl) ⟨Nat.le_of_ble_eq_true rfl, Nat.le_of_ble_eq_true rfl⟩ dX5_invalidIn_12) ?_
  refine xb_if_ge (tgt := 23) hC dX5_invalidIn_15 (by decide) hf (fun hf => ?_) (fun hf => ?_)
  · refine xj_aload_n hC dX5_invalidIn_23 rfl 0 rfl ?_
    refine xj_iload_n hC dX5_invalidIn_24 rfl 1 rfl ?_
    obtain ⟨v6, hc5, hf⟩ := xm_bind hf
    obtain ⟨_, hob, _⟩ := xm_bind hc5
    refine xj_reti (xr_V hC (mX5_noneOf l D ks b hc5) hob rfl xw_cod_X5_noneOf xw_ini_X5 xw_ins_X5_noneOf xw_sel_X5_noneOf xw_ml_X5_118 xds_X5_noneOf ⟨Nat.le_of_ble_eq_true rfl, Nat.le_of_ble_eq_true rfl⟩ rfl rfl (Nat.le_of_ble_eq_true rfl) ⟨Nat.le_of_ble_eq_true rfl, Nat.le_of_ble_eq_true rfl⟩ dX5_invalidIn_25) ?_
    obtain ⟨he, hw⟩ := Prod.mk.inj (Option.some.inj hf)
    exact xj_iret hC hr (by decide) (by decide) dX5_invalidIn_28 he hw
  · refine xj_bipush (v := -4) hC dX5_invalidIn_18 (by decide) ?_
    refine xj_goto (tgt := 28) hC dX5_invalidIn_20 (by decide) ?_
    obtain ⟨he, hw⟩ := Prod.mk.inj (Option.some.inj hf)
    exact xj_iret hC hr (by decide) (by decide) dX5_invalidIn_28 he hw
def fX5_crossed_L114 (w : xmW) (p4 : Int32) (p6 : Int32) (p7 : Int32) (s0 : Int64) (s1 : Int32) (s2 : (Option Nat)) : Option (Int32 × xmW) := (if 0 ≤ p7 then (xmb2 (fX5_roundedFraction w (s2) (s1) (s0) ((1 : Int64)) (p4) (p6)) fun v25 w26 => (some (v25, w26))) else (xmb2 (fX5_roundedFraction w (s2) (s1) (s0) (((1 : Int64) <<< (((-p7)).toInt64 &&& 63))) (p4) (p6)) fun v28 w29 => (some (v28, w29))))
set_option maxHeartbeats 4000000 in
set_option maxRecDepth 100000 in
theorem lX5_crossed_L114 {p : Program} {l : Launch} {e : Env} {s : State} {m : MethodId} {args : Array Value} {below : List Frame} {meth : Method} {c : Code} {D : va_G} {ks : Nat → ClassId} {b : Nat} (hC : xmC p s m args meth c D ks b 10 cX5_crossed RX5) (hr : meth.sig.returnType = (some (FieldType.int))) {y : Int32} {wz : xmW} (w : xmW) (p4 : Int32) (p6 : Int32) (p7 : Int32) (s0 : Int64) (s1 : Int32) (s2 : (Option Nat)) (hf : fX5_crossed_L114 w p4 p6 p7 s0 s1 s2 = some (y, wz)) : xmJ p l e ({ frames := 6, cells := 0, slots := 0, locals := 147 } : Room) s m args below meth c D ks b 10 (MQ below (xmQ D ks b (some (xI y)) wz) args s 0 0 (xmA b)) w 0 0 114 [(4, xI p4), (6, xI p6), (7, xI p7)] [xL s0, xI s1, xR s2] := by
  unfold fX5_crossed_L114 at hf
  refine xj_iload hC dX5_crossed_114 2 rfl ?_
  refine xb_if_ge (tgt := 127) hC dX5_crossed_116 (by decide) hf (fun hf => ?_) (fun hf => ?_)
  · refine xj_lconst (v := 1) hC dX5_crossed_127 (by decide) ?_
    refine xj_iload hC dX5_crossed_128 0 rfl ?_
    refine xj_iload hC dX5_crossed_130 1 rfl ?_
    obtain ⟨v25, w26, hc24, hf⟩ := xm_b2 hf
    obtain ⟨_, hob, _⟩ := xm_bind hc24
    refine xj_reti (xr_V hC (mX5_roundedFraction l D ks b hc24) hob rfl xw_cod_X5_roundedFraction xw_ini_X5 xw_ins_X5_roundedFraction xw_sel_X5_roundedFraction xw_ml_X5_179 xds_X5_roundedFraction ⟨Nat.le_of_ble_eq_true rfl, Nat.le_of_ble_eq_true rfl⟩ rfl rfl (Nat.le_of_ble_eq_true rfl) ⟨Nat.le_of_ble_eq_true rfl, Nat.le_of_ble_eq_true rfl⟩ dX5_crossed_132) ?_
    obtain ⟨he, hw⟩ := Prod.mk.inj (Option.some.inj hf)
    exact xj_iret hC hr (by decide) (by decide) dX5_crossed_135 he hw
  · refine xj_lconst (v := 1) hC dX5_crossed_119 (by decide) ?_
    refine xj_iload hC dX5_crossed_120 2 rfl ?_
    refine xj_ineg hC dX5_crossed_122 ?_
    refine xj_lshl hC dX5_crossed_123 ?_
    refine xj_goto (tgt := 128) hC dX5_crossed_124 (by decide) ?_
    refine xj_iload hC dX5_crossed_128 0 rfl ?_
    refine xj_iload hC dX5_crossed_130 1 rfl ?_
    obtain ⟨v28, w29, hc27, hf⟩ := xm_b2 hf
    obtain ⟨_, hob, _⟩ := xm_bind hc27
    refine xj_reti (xr_V hC (mX5_roundedFraction l D ks b hc27) hob rfl xw_cod_X5_roundedFraction xw_ini_X5 xw_ins_X5_roundedFraction xw_sel_X5_roundedFraction xw_ml_X5_179 xds_X5_roundedFraction ⟨Nat.le_of_ble_eq_true rfl, Nat.le_of_ble_eq_true rfl⟩ rfl rfl (Nat.le_of_ble_eq_true rfl) ⟨Nat.le_of_ble_eq_true rfl, Nat.le_of_ble_eq_true rfl⟩ dX5_crossed_132) ?_
    obtain ⟨he, hw⟩ := Prod.mk.inj (Option.some.inj hf)
    exact xj_iret hC hr (by decide) (by decide) dX5_crossed_135 he hw
def fX5_crossed (w : xmW) (th : (Option Nat)) (a1 : Int32) (a2 : Int32) (a3 : Int32) (a4 : Int32) : Option (Int32 × xmW) := ((xmob w th 5).bind fun _ => ((fX5_kindOf w (th) (a1) (a2)).bind fun v2 => ((fX5_isMinus w (th) (a1) (a2)).bind fun v4 => (if v2 = (4 : Int32) then ((fX5_noneOf w (th) (a3)).bind fun v18 => (if v18 < 0 then (xmb2 (fX5_invalidIn w (th) (a3)) fun v20 w21 => (some (v20, w21))) else ((fX5_noneOf w (th) (a3)).bind fun v23 => (some (v23, w))))) else (if v2 = (3 : Int32) then (if v4 = 0 then ((fX5_beyond w (th) (a3) (v4)).bind fun v12 => (some (v12, w))) else ((xmgR w th 5 1).bind fun v13 => ((xmild w v13 0 a3).bind fun v14 => (if v14 = 0 then (some ((0 : Int32), w)) else ((fX5_beyond w (th) (a3) (v4)).bind fun v16 => (some (v16, w))))))) else ((fX5_scale w (th) (a3)).bind fun v6 => ((fX5_scale w (th) (a1)).bind fun v8 => ((fX5_unitsOf w (th) (a1) (a2)).bind fun v10 => (if (v6 - v8) ≤ 0 then (fX5_crossed_L114 w (a4) (v4) ((v6 - v8)) (v10) (a3) (th)) else (fX5_crossed_L114 w (a4) (v4) ((v6 - v8)) ((v10 <<< (((v6 - v8)).toInt64 &&& 63))) (a3) (th)))))))))))
set_option maxHeartbeats 4000000 in
set_option maxRecDepth 100000 in
theorem mX5_crossed (l : Launch) (D : va_G) (ks : Nat → ClassId) (b : Nat) {w : xmW} {th : (Option Nat)} {a1 : Int32} {a2 : Int32} {a3 : Int32} {a4 : Int32} {y : Int32} {wz : xmW} (hf : fX5_crossed w th a1 a2 a3 a4 = some (y, wz)) : xmM l yX5_crossed (Cond.code yX5_crossed cX5_crossed 10 (some (FieldType.int)) :: xmTs) 6 147 0 0 D ks b w [xR th, xI a1, xI a2, xI a3, xI a4] (some (xI y)) wz := by
  unfold fX5_crossed at hf
  obtain ⟨_, _, hf⟩ := xm_bind hf
  refine xmM.of (own := RX5) (lv0 := [(0, xR th), (1, xI a1), (2, xI a2), (3, xI a3), (4, xI a4)]) (by decide) rfl (Nat.le_of_ble_eq_true rfl) rfl ?_
  intro p e s m args below meth c hC hr hnm
  refine xj_aload_n hC dX5_crossed_0 rfl 0 rfl ?_
  refine xj_iload_n hC dX5_crossed_1 rfl 1 rfl ?_
  refine xj_iload_n hC dX5_crossed_2 rfl 2 rfl ?_
  obtain ⟨v2, hc1, hf⟩ := xm_bind hf
  obtain ⟨_, hob, _⟩ := xm_bind hc1
  refine xj_reti (xr_V hC (mX5_kindOf l D ks b hc1) hob rfl xw_cod_X5_kindOf xw_ini_X5 xw_ins_X5_kindOf xw_sel_X5_kindOf xw_ml_X5_87 xds_X5_kindOf ⟨Nat.le_of_ble_eq_true rfl, Nat.le_of_ble_eq_true rfl⟩ rfl rfl (Nat.le_of_ble_eq_true rfl) ⟨Nat.le_of_ble_eq_true rfl, Nat.le_of_ble_eq_true rfl⟩ dX5_crossed_3) ?_
  refine xj_istore (lv' := [(5, xI v2), (0, xR th), (1, xI a1), (2, xI a2), (3, xI a3), (4, xI a4)]) hC dX5_crossed_6 (by decide) rfl ?_
  refine xj_aload_n hC dX5_crossed_8 rfl 1 rfl ?_
  refine xj_iload_n hC dX5_crossed_9 rfl 2 rfl ?_
  refine xj_iload_n hC dX5_crossed_10 rfl 3 rfl ?_
  obtain ⟨v4, hc3, hf⟩ := xm_bind hf
  obtain ⟨_, hob, _⟩ := xm_bind hc3
  refine xj_reti (xr_V hC (mX5_isMinus l D ks b hc3) hob rfl xw_cod_X5_isMinus xw_ini_X5 xw_ins_X5_isMinus xw_sel_X5_isMinus xw_ml_X5_96 xds_X5_isMinus ⟨Nat.le_of_ble_eq_true rfl, Nat.le_of_ble_eq_true rfl⟩ rfl rfl (Nat.le_of_ble_eq_true rfl) ⟨Nat.le_of_ble_eq_true rfl, Nat.le_of_ble_eq_true rfl⟩ dX5_crossed_11) ?_
  refine xj_istore (lv' := [(6, xI v4), (5, xI v2), (0, xR th), (1, xI a1), (2, xI a2), (3, xI a3), (4, xI a4)]) hC dX5_crossed_14 (by decide) rfl ?_
  refine xj_iload hC dX5_crossed_16 1 rfl ?_
  refine xj_iconst (v := 4) hC dX5_crossed_18 (by decide) ?_
  refine xb_ic_ne (tgt := 44) hC dX5_crossed_19 (by decide) hf (fun hf => ?_) (fun hf => ?_)
  · refine xj_iload hC dX5_crossed_44 1 rfl ?_
    refine xj_iconst (v := 3) hC dX5_crossed_46 (by decide) ?_
    refine xb_ic_ne (tgt := 76) hC dX5_crossed_47 (by decide) hf (fun hf => ?_) (fun hf => ?_)
    · refine xj_aload_n hC dX5_crossed_76 rfl 2 rfl ?_
      refine xj_iload_n hC dX5_crossed_77 rfl 5 rfl ?_
      obtain ⟨v6, hc5, hf⟩ := xm_bind hf
      obtain ⟨_, hob, _⟩ := xm_bind hc5
      refine xj_reti (xr_V hC (mX5_scale l D ks b hc5) hob rfl xw_cod_X5_scale xw_ini_X5 xw_ins_X5_scale xw_sel_X5_scale xw_ml_X5_127 xds_X5_scale ⟨Nat.le_of_ble_eq_true rfl, Nat.le_of_ble_eq_true rfl⟩ rfl rfl (Nat.le_of_ble_eq_true rfl) ⟨Nat.le_of_ble_eq_true rfl, Nat.le_of_ble_eq_true rfl⟩ dX5_crossed_78) ?_
      refine xj_aload_n hC dX5_crossed_81 rfl 2 rfl ?_
      refine xj_iload_n hC dX5_crossed_82 rfl 3 rfl ?_
      obtain ⟨v8, hc7, hf⟩ := xm_bind hf
      obtain ⟨_, hob, _⟩ := xm_bind hc7
      refine xj_reti (xr_V hC (mX5_scale l D ks b hc7) hob rfl xw_cod_X5_scale xw_ini_X5 xw_ins_X5_scale xw_sel_X5_scale xw_ml_X5_127 xds_X5_scale ⟨Nat.le_of_ble_eq_true rfl, Nat.le_of_ble_eq_true rfl⟩ rfl rfl (Nat.le_of_ble_eq_true rfl) ⟨Nat.le_of_ble_eq_true rfl, Nat.le_of_ble_eq_true rfl⟩ dX5_crossed_83) ?_
      refine xj_isub hC dX5_crossed_86 ?_
      refine xj_istore (lv' := [(7, xI (v6 - v8)), (6, xI v4), (5, xI v2), (0, xR th), (1, xI a1), (2, xI a2), (3, xI a3), (4, xI a4)]) hC dX5_crossed_87 (by decide) rfl ?_
      refine xj_aload_n hC dX5_crossed_89 rfl 3 rfl ?_
      refine xj_iload_n hC dX5_crossed_90 rfl 4 rfl ?_
      refine xj_iload_n hC dX5_crossed_91 rfl 5 rfl ?_
      obtain ⟨v10, hc9, hf⟩ := xm_bind hf
      obtain ⟨_, hob, _⟩ := xm_bind hc9
      refine xj_retl (xr_V hC (mX5_unitsOf l D ks b hc9) hob rfl xw_cod_X5_unitsOf xw_ini_X5 xw_ins_X5_unitsOf xw_sel_X5_unitsOf xw_ml_X5_135 xds_X5_unitsOf ⟨Nat.le_of_ble_eq_true rfl, Nat.le_of_ble_eq_true rfl⟩ rfl rfl (Nat.le_of_ble_eq_true rfl) ⟨Nat.le_of_ble_eq_true rfl, Nat.le_of_ble_eq_true rfl⟩ dX5_crossed_92) ?_
      refine xj_lstore (lv' := [(8, xL v10), (7, xI (v6 - v8)), (6, xI v4), (5, xI v2), (0, xR th), (1, xI a1), (2, xI a2), (3, xI a3), (4, xI a4)]) hC dX5_crossed_95 (by decide) rfl ?_
      refine xj_aload_n hC dX5_crossed_97 rfl 4 rfl ?_
      refine xj_iload_n hC dX5_crossed_98 rfl 7 rfl ?_
      refine xj_iload hC dX5_crossed_99 1 rfl ?_
      refine xb_if_le (tgt := 112) hC dX5_crossed_101 (by decide) hf (fun hf => ?_) (fun hf => ?_)
      · refine xj_lload hC dX5_crossed_112 0 rfl ?_
        refine xj_lv [8, 2, 1] rfl ?_
        exact lX5_crossed_L114 hC hr  w (a4) (v4) ((v6 - v8)) (v10) (a3) (th) hf
      · refine xj_lload hC dX5_crossed_104 0 rfl ?_
        refine xj_iload hC dX5_crossed_106 1 rfl ?_
        refine xj_lshl hC dX5_crossed_108 ?_
        refine xj_goto (tgt := 114) hC dX5_crossed_109 (by decide) ?_
        refine xj_lv [8, 2, 1] rfl ?_
        exact lX5_crossed_L114 hC hr  w (a4) (v4) ((v6 - v8)) ((v10 <<< (((v6 - v8)).toInt64 &&& 63))) (a3) (th) hf
    · refine xj_iload hC dX5_crossed_50 0 rfl ?_
      refine xb_if_eq (tgt := 68) hC dX5_crossed_52 (by decide) hf (fun hf => ?_) (fun hf => ?_)
      · refine xj_aload_n hC dX5_crossed_68 rfl 2 rfl ?_
        refine xj_iload_n hC dX5_crossed_69 rfl 5 rfl ?_
        refine xj_iload hC dX5_crossed_70 0 rfl ?_
        obtain ⟨v12, hc11, hf⟩ := xm_bind hf
        obtain ⟨_, hob, _⟩ := xm_bind hc11
        refine xj_reti (xr_V hC (mX5_beyond l D ks b hc11) hob rfl xw_cod_X5_beyond xw_ini_X5 xw_ins_X5_beyond xw_sel_X5_beyond xw_ml_X5_159 xds_X5_beyond ⟨Nat.le_of_ble_eq_true rfl, Nat.le_of_ble_eq_true rfl⟩ rfl rfl (Nat.le_of_ble_eq_true rfl) ⟨Nat.le_of_ble_eq_true rfl, Nat.le_of_ble_eq_true rfl⟩ dX5_crossed_72) ?_
        obtain ⟨he, hw⟩ := Prod.mk.inj (Option.some.inj hf)
        exact xj_iret hC hr (by decide) (by decide) dX5_crossed_75 he hw
      · refine xj_aload_n hC dX5_crossed_55 rfl 2 rfl ?_
        refine xb_getR hC 5 1 xcl_5 (by decide) xw_fl_X5_7 dX5_crossed_56 hf (fun v13 hf => ?_)
        refine xj_iload_n hC dX5_crossed_59 rfl 5 rfl ?_
        refine xb_iald hC dX5_crossed_60 hf (fun v14 hf => ?_)
        refine xb_if_ne (tgt := 68) hC dX5_crossed_61 (by decide) hf (fun hf => ?_) (fun hf => ?_)
        · refine xj_aload_n hC dX5_crossed_68 rfl 2 rfl ?_
          refine xj_iload_n hC dX5_crossed_69 rfl 5 rfl ?_
          refine xj_iload hC dX5_crossed_70 0 rfl ?_
          obtain ⟨v16, hc15, hf⟩ := xm_bind hf
          obtain ⟨_, hob, _⟩ := xm_bind hc15
          refine xj_reti (xr_V hC (mX5_beyond l D ks b hc15) hob rfl xw_cod_X5_beyond xw_ini_X5 xw_ins_X5_beyond xw_sel_X5_beyond xw_ml_X5_159 xds_X5_beyond ⟨Nat.le_of_ble_eq_true rfl, Nat.le_of_ble_eq_true rfl⟩ rfl rfl (Nat.le_of_ble_eq_true rfl) ⟨Nat.le_of_ble_eq_true rfl, Nat.le_of_ble_eq_true rfl⟩ dX5_crossed_72) ?_
          obtain ⟨he, hw⟩ := Prod.mk.inj (Option.some.inj hf)
          exact xj_iret hC hr (by decide) (by decide) dX5_crossed_75 he hw
        · refine xj_iconst (v := 0) hC dX5_crossed_64 (by decide) ?_
          refine xj_goto (tgt := 75) hC dX5_crossed_65 (by decide) ?_
          obtain ⟨he, hw⟩ := Prod.mk.inj (Option.some.inj hf)
          exact xj_iret hC hr (by decide) (by decide) dX5_crossed_75 he hw
  · refine xj_aload_n hC dX5_crossed_22 rfl 2 rfl ?_
    refine xj_iload_n hC dX5_crossed_23 rfl 5 rfl ?_
    obtain ⟨v18, hc17, hf⟩ := xm_bind hf
    obtain ⟨_, hob, _⟩ := xm_bind hc17
    refine xj_reti (xr_V hC (mX5_noneOf l D ks b hc17) hob rfl xw_cod_X5_noneOf xw_ini_X5 xw_ins_X5_noneOf xw_sel_X5_noneOf xw_ml_X5_118 xds_X5_noneOf ⟨Nat.le_of_ble_eq_true rfl, Nat.le_of_ble_eq_true rfl⟩ rfl rfl (Nat.le_of_ble_eq_true rfl) ⟨Nat.le_of_ble_eq_true rfl, Nat.le_of_ble_eq_true rfl⟩ dX5_crossed_24) ?_
    refine xb_if_lt (tgt := 38) hC dX5_crossed_27 (by decide) hf (fun hf => ?_) (fun hf => ?_)
    · refine xj_aload_n hC dX5_crossed_38 rfl 2 rfl ?_
      refine xj_iload_n hC dX5_crossed_39 rfl 5 rfl ?_
      obtain ⟨v20, w21, hc19, hf⟩ := xm_b2 hf
      obtain ⟨_, hob, _⟩ := xm_bind hc19
      refine xj_reti (xr_V hC (mX5_invalidIn l D ks b hc19) hob rfl xw_cod_X5_invalidIn xw_ini_X5 xw_ins_X5_invalidIn xw_sel_X5_invalidIn xw_ml_X5_189 xds_X5_invalidIn ⟨Nat.le_of_ble_eq_true rfl, Nat.le_of_ble_eq_true rfl⟩ rfl rfl (Nat.le_of_ble_eq_true rfl) ⟨Nat.le_of_ble_eq_true rfl, Nat.le_of_ble_eq_true rfl⟩ dX5_crossed_40) ?_
      obtain ⟨he, hw⟩ := Prod.mk.inj (Option.some.inj hf)
      exact xj_iret hC hr (by decide) (by decide) dX5_crossed_43 he hw
    · refine xj_aload_n hC dX5_crossed_30 rfl 2 rfl ?_
      refine xj_iload_n hC dX5_crossed_31 rfl 5 rfl ?_
      obtain ⟨v23, hc22, hf⟩ := xm_bind hf
      obtain ⟨_, hob, _⟩ := xm_bind hc22
      refine xj_reti (xr_V hC (mX5_noneOf l D ks b hc22) hob rfl xw_cod_X5_noneOf xw_ini_X5 xw_ins_X5_noneOf xw_sel_X5_noneOf xw_ml_X5_118 xds_X5_noneOf ⟨Nat.le_of_ble_eq_true rfl, Nat.le_of_ble_eq_true rfl⟩ rfl rfl (Nat.le_of_ble_eq_true rfl) ⟨Nat.le_of_ble_eq_true rfl, Nat.le_of_ble_eq_true rfl⟩ dX5_crossed_32) ?_
      refine xj_goto (tgt := 43) hC dX5_crossed_35 (by decide) ?_
      obtain ⟨he, hw⟩ := Prod.mk.inj (Option.some.inj hf)
      exact xj_iret hC hr (by decide) (by decide) dX5_crossed_43 he hw
def fX5_cross (w : xmW) (th : (Option Nat)) (a1 : Int32) (a2 : Int32) (a3 : Int32) (a4 : Int32) : Option (Int32 × xmW) := ((xmob w th 5).bind fun _ => ((fX5_isFormat w (th) (a1)).bind fun v2 => (if v2 = 0 then (xmb2 (fX5_refused w (th) ((-1 : Int32))) fun v4 w5 => (some (v4, w5))) else ((fX5_isCode w (th) (a1) (a2)).bind fun v7 => (if v7 = 0 then (xmb2 (fX5_refused w (th) ((-1 : Int32))) fun v9 w10 => (some (v9, w10))) else ((fX5_isFormat w (th) (a3)).bind fun v12 => (if v12 = 0 then (xmb2 (fX5_refused w (th) ((-1 : Int32))) fun v14 w15 => (some (v14, w15))) else ((fX5_in w ((a4).toInt64) ((0 : Int64)) ((5 : Int64))).bind fun v17 => (if v17 = 0 then (xmb2 (fX5_refused w (th) ((-1 : Int32))) fun v27 w28 => (some (v27, w28))) else ((fX5_begins w (th) ).bind fun w19 => (xmb2 (fX5_crossed w19 (th) (a1) (a2) (a3) (a4)) fun v21 w22 => (xmb2 (fX5_ends w22 (th) (v21)) fun v24 w25 => (some (v24, w25))))))))))))))
set_option maxHeartbeats 4000000 in
set_option maxRecDepth 100000 in
theorem mX5_cross (l : Launch) (D : va_G) (ks : Nat → ClassId) (b : Nat) {w : xmW} {th : (Option Nat)} {a1 : Int32} {a2 : Int32} {a3 : Int32} {a4 : Int32} {y : Int32} {wz : xmW} (hf : fX5_cross w th a1 a2 a3 a4 = some (y, wz)) : xmM l yX5_cross (Cond.code yX5_cross cX5_cross 5 (some (FieldType.int)) :: xmTs) 7 176 0 0 D ks b w [xR th, xI a1, xI a2, xI a3, xI a4] (some (xI y)) wz := by
  unfold fX5_cross at hf
  obtain ⟨_, _, hf⟩ := xm_bind hf
  refine xmM.of (own := RX5) (lv0 := [(0, xR th), (1, xI a1), (2, xI a2), (3, xI a3), (4, xI a4)]) (by decide) rfl (Nat.le_of_ble_eq_true rfl) rfl ?_
  intro p e s m args below meth c hC hr hnm
  refine xj_aload_n hC dX5_cross_0 rfl 0 rfl ?_
  refine xj_iload_n hC dX5_cross_1 rfl 1 rfl ?_
  obtain ⟨v2, hc1, hf⟩ := xm_bind hf
  obtain ⟨_, hob, _⟩ := xm_bind hc1
  refine xj_reti (xr_V hC (mX5_isFormat l D ks b hc1) hob rfl xw_cod_X5_isFormat xw_ini_X5 xw_ins_X5_isFormat xw_sel_X5_isFormat xw_ml_X5_109 xds_X5_isFormat ⟨Nat.le_of_ble_eq_true rfl, Nat.le_of_ble_eq_true rfl⟩ rfl rfl (Nat.le_of_ble_eq_true rfl) ⟨Nat.le_of_ble_eq_true rfl, Nat.le_of_ble_eq_true rfl⟩ dX5_cross_2) ?_
  refine xb_if_eq (tgt := 38) hC dX5_cross_5 (by decide) hf (fun hf => ?_) (fun hf => ?_)
  · refine xj_aload_n hC dX5_cross_38 rfl 0 rfl ?_
    refine xj_iconst (v := -1) hC dX5_cross_39 (by decide) ?_
    obtain ⟨v4, w5, hc3, hf⟩ := xm_b2 hf
    obtain ⟨_, hob, _⟩ := xm_bind hc3
    refine xj_reti (xr_V hC (mX5_refused l D ks b hc3) hob rfl xw_cod_X5_refused xw_ini_X5 xw_ins_X5_refused xw_sel_X5_refused xw_ml_X5_57 xds_X5_refused ⟨Nat.le_of_ble_eq_true rfl, Nat.le_of_ble_eq_true rfl⟩ rfl rfl (Nat.le_of_ble_eq_true rfl) ⟨Nat.le_of_ble_eq_true rfl, Nat.le_of_ble_eq_true rfl⟩ dX5_cross_40) ?_
    obtain ⟨he, hw⟩ := Prod.mk.inj (Option.some.inj hf)
    exact xj_iret hC hr (by decide) (by decide) dX5_cross_43 he hw
  · refine xj_aload_n hC dX5_cross_8 rfl 0 rfl ?_
    refine xj_iload_n hC dX5_cross_9 rfl 1 rfl ?_
    refine xj_iload_n hC dX5_cross_10 rfl 2 rfl ?_
    obtain ⟨v7, hc6, hf⟩ := xm_bind hf
    obtain ⟨_, hob, _⟩ := xm_bind hc6
    refine xj_reti (xr_V hC (mX5_isCode l D ks b hc6) hob rfl xw_cod_X5_isCode xw_ini_X5 xw_ins_X5_isCode xw_sel_X5_isCode xw_ml_X5_130 xds_X5_isCode ⟨Nat.le_of_ble_eq_true rfl, Nat.le_of_ble_eq_true rfl⟩ rfl rfl (Nat.le_of_ble_eq_true rfl) ⟨Nat.le_of_ble_eq_true rfl, Nat.le_of_ble_eq_true rfl⟩ dX5_cross_11) ?_
    refine xb_if_eq (tgt := 38) hC dX5_cross_14 (by decide) hf (fun hf => ?_) (fun hf => ?_)
    · refine xj_aload_n hC dX5_cross_38 rfl 0 rfl ?_
      refine xj_iconst (v := -1) hC dX5_cross_39 (by decide) ?_
      obtain ⟨v9, w10, hc8, hf⟩ := xm_b2 hf
      obtain ⟨_, hob, _⟩ := xm_bind hc8
      refine xj_reti (xr_V hC (mX5_refused l D ks b hc8) hob rfl xw_cod_X5_refused xw_ini_X5 xw_ins_X5_refused xw_sel_X5_refused xw_ml_X5_57 xds_X5_refused ⟨Nat.le_of_ble_eq_true rfl, Nat.le_of_ble_eq_true rfl⟩ rfl rfl (Nat.le_of_ble_eq_true rfl) ⟨Nat.le_of_ble_eq_true rfl, Nat.le_of_ble_eq_true rfl⟩ dX5_cross_40) ?_
      obtain ⟨he, hw⟩ := Prod.mk.inj (Option.some.inj hf)
      exact xj_iret hC hr (by decide) (by decide) dX5_cross_43 he hw
    · refine xj_aload_n hC dX5_cross_17 rfl 0 rfl ?_
      refine xj_iload_n hC dX5_cross_18 rfl 3 rfl ?_
      obtain ⟨v12, hc11, hf⟩ := xm_bind hf
      obtain ⟨_, hob, _⟩ := xm_bind hc11
      refine xj_reti (xr_V hC (mX5_isFormat l D ks b hc11) hob rfl xw_cod_X5_isFormat xw_ini_X5 xw_ins_X5_isFormat xw_sel_X5_isFormat xw_ml_X5_109 xds_X5_isFormat ⟨Nat.le_of_ble_eq_true rfl, Nat.le_of_ble_eq_true rfl⟩ rfl rfl (Nat.le_of_ble_eq_true rfl) ⟨Nat.le_of_ble_eq_true rfl, Nat.le_of_ble_eq_true rfl⟩ dX5_cross_19) ?_
      refine xb_if_eq (tgt := 38) hC dX5_cross_22 (by decide) hf (fun hf => ?_) (fun hf => ?_)
      · refine xj_aload_n hC dX5_cross_38 rfl 0 rfl ?_
        refine xj_iconst (v := -1) hC dX5_cross_39 (by decide) ?_
        obtain ⟨v14, w15, hc13, hf⟩ := xm_b2 hf
        obtain ⟨_, hob, _⟩ := xm_bind hc13
        refine xj_reti (xr_V hC (mX5_refused l D ks b hc13) hob rfl xw_cod_X5_refused xw_ini_X5 xw_ins_X5_refused xw_sel_X5_refused xw_ml_X5_57 xds_X5_refused ⟨Nat.le_of_ble_eq_true rfl, Nat.le_of_ble_eq_true rfl⟩ rfl rfl (Nat.le_of_ble_eq_true rfl) ⟨Nat.le_of_ble_eq_true rfl, Nat.le_of_ble_eq_true rfl⟩ dX5_cross_40) ?_
        obtain ⟨he, hw⟩ := Prod.mk.inj (Option.some.inj hf)
        exact xj_iret hC hr (by decide) (by decide) dX5_cross_43 he hw
      · refine xj_iload hC dX5_cross_25 4 rfl ?_
        refine xj_i2l hC dX5_cross_27 ?_
        refine xj_lconst (v := 0) hC dX5_cross_28 (by decide) ?_
        refine xj_ldc2 hC xw_cst_X5_105 dX5_cross_29 ?_
        obtain ⟨v17, hc16, hf⟩ := xm_bind hf
        refine xj_reti (xr_S hC (mX5_in l D ks b hc16) xw_cod_X5_in xw_ini_X5 xw_sta_X5_in xw_ml_X5_70 xds_X5_in ⟨Nat.le_of_ble_eq_true rfl, Nat.le_of_ble_eq_true rfl⟩ rfl rfl (Nat.le_of_ble_eq_true rfl) ⟨Nat.le_of_ble_eq_true rfl, Nat.le_of_ble_eq_true rfl⟩ dX5_cross_32) ?_
        refine xb_if_ne (tgt := 44) hC dX5_cross_35 (by decide) hf (fun hf => ?_) (fun hf => ?_)
        · refine xj_aload_n hC dX5_cross_44 rfl 0 rfl ?_
          obtain ⟨w19, hc18, hf⟩ := xm_bind hf
          obtain ⟨_, hob, _⟩ := xm_bind hc18
          refine xj_retv (xr_V hC (mX5_begins l D ks b hc18) hob rfl xw_cod_X5_begins xw_ini_X5 xw_ins_X5_begins xw_sel_X5_begins xw_ml_X5_176 xds_X5_begins ⟨Nat.le_of_ble_eq_true rfl, Nat.le_of_ble_eq_true rfl⟩ rfl rfl (Nat.le_of_ble_eq_true rfl) ⟨Nat.le_of_ble_eq_true rfl, Nat.le_of_ble_eq_true rfl⟩ dX5_cross_45) ?_
          refine xj_aload_n hC dX5_cross_48 rfl 0 rfl ?_
          refine xj_aload_n hC dX5_cross_49 rfl 0 rfl ?_
          refine xj_iload_n hC dX5_cross_50 rfl 1 rfl ?_
          refine xj_iload_n hC dX5_cross_51 rfl 2 rfl ?_
          refine xj_iload_n hC dX5_cross_52 rfl 3 rfl ?_
          refine xj_iload hC dX5_cross_53 4 rfl ?_
          obtain ⟨v21, w22, hc20, hf⟩ := xm_b2 hf
          obtain ⟨_, hob, _⟩ := xm_bind hc20
          refine xj_reti (xr_V hC (mX5_crossed l D ks b hc20) hob rfl xw_cod_X5_crossed xw_ini_X5 xw_ins_X5_crossed xw_sel_X5_crossed xw_ml_X5_192 xds_X5_crossed ⟨Nat.le_of_ble_eq_true rfl, Nat.le_of_ble_eq_true rfl⟩ rfl rfl (Nat.le_of_ble_eq_true rfl) ⟨Nat.le_of_ble_eq_true rfl, Nat.le_of_ble_eq_true rfl⟩ dX5_cross_55) ?_
          obtain ⟨v24, w25, hc23, hf⟩ := xm_b2 hf
          obtain ⟨_, hob, _⟩ := xm_bind hc23
          refine xj_reti (xr_V hC (mX5_ends l D ks b hc23) hob rfl xw_cod_X5_ends xw_ini_X5 xw_ins_X5_ends xw_sel_X5_ends xw_ml_X5_183 xds_X5_ends ⟨Nat.le_of_ble_eq_true rfl, Nat.le_of_ble_eq_true rfl⟩ rfl rfl (Nat.le_of_ble_eq_true rfl) ⟨Nat.le_of_ble_eq_true rfl, Nat.le_of_ble_eq_true rfl⟩ dX5_cross_58) ?_
          obtain ⟨he, hw⟩ := Prod.mk.inj (Option.some.inj hf)
          exact xj_iret hC hr (by decide) (by decide) dX5_cross_61 he hw
        · refine xj_aload_n hC dX5_cross_38 rfl 0 rfl ?_
          refine xj_iconst (v := -1) hC dX5_cross_39 (by decide) ?_
          obtain ⟨v27, w28, hc26, hf⟩ := xm_b2 hf
          obtain ⟨_, hob, _⟩ := xm_bind hc26
          refine xj_reti (xr_V hC (mX5_refused l D ks b hc26) hob rfl xw_cod_X5_refused xw_ini_X5 xw_ins_X5_refused xw_sel_X5_refused xw_ml_X5_57 xds_X5_refused ⟨Nat.le_of_ble_eq_true rfl, Nat.le_of_ble_eq_true rfl⟩ rfl rfl (Nat.le_of_ble_eq_true rfl) ⟨Nat.le_of_ble_eq_true rfl, Nat.le_of_ble_eq_true rfl⟩ dX5_cross_40) ?_
          obtain ⟨he, hw⟩ := Prod.mk.inj (Option.some.inj hf)
          exact xj_iret hC hr (by decide) (by decide) dX5_cross_43 he hw
def fX5_beside_L76 (w : xmW) (p4 : Int64) (s0 : Int64) : Option Int32 := (if 0 ≤ (lg_cmp p4 s0) then (some (if (lg_cmp p4 s0) ≤ 0 then (0 : Int32) else (1 : Int32))) else (some (-1 : Int32)))
set_option maxHeartbeats 4000000 in
set_option maxRecDepth 100000 in
theorem lX5_beside_L76 {p : Program} {l : Launch} {e : Env} {s : State} {m : MethodId} {args : Array Value} {below : List Frame} {meth : Method} {c : Code} {D : va_G} {ks : Nat → ClassId} {b : Nat} (hC : xmC p s m args meth c D ks b 8 cX5_beside RX5) (hr : meth.sig.returnType = (some (FieldType.int))) {y : Int32} (w : xmW) (p4 : Int64) (s0 : Int64) (hf : fX5_beside_L76 w p4 s0 = some y) : xmJ p l e ({ frames := 3, cells := 0, slots := 0, locals := 67 } : Room) s m args below meth c D ks b 8 (MQ below (xmQ D ks b (some (xI y)) w) args s 0 0 (xmA b)) w 0 0 76 [(4, xL p4)] [xL s0] := by
  unfold fX5_beside_L76 at hf
  refine xj_lstore (lv' := [(6, xL s0), (4, xL p4)]) hC dX5_beside_76 (by decide) rfl ?_
  refine xj_lload hC dX5_beside_78 1 rfl ?_
  refine xj_lload hC dX5_beside_80 0 rfl ?_
  refine xj_lcmp hC dX5_beside_82 ?_
  refine xb_if_ge (tgt := 90) hC dX5_beside_83 (by decide) hf (fun hf => ?_) (fun hf => ?_)
  · refine xj_lload hC dX5_beside_90 1 rfl ?_
    refine xj_lload hC dX5_beside_92 0 rfl ?_
    refine xj_lcmp hC dX5_beside_94 ?_
    refine xj_dia (cnd := (lg_cmp p4 s0) ≤ 0) (x := 0) (y := 1) (pc2 := 103) (st2 := []) (fun hc hk => ?_) (fun hc hk => ?_) ?_
    · exact xj_if_le (tgt := 102) hC dX5_beside_95 (by decide) (fun _ => xj_iconst (v := 0) hC dX5_beside_102 (by decide) hk) (fun hn => absurd hc hn)
    · exact xj_if_le (tgt := 102) hC dX5_beside_95 (by decide) (fun hn => absurd hn hc) (fun _ => xj_iconst (v := 1) hC dX5_beside_98 (by decide) (xj_goto (tgt := 103) hC dX5_beside_99 (by decide) hk))
    exact xj_iret hC hr (by decide) (by decide) dX5_beside_103 (Option.some.inj hf) rfl
  · refine xj_iconst (v := -1) hC dX5_beside_86 (by decide) ?_
    refine xj_goto (tgt := 103) hC dX5_beside_87 (by decide) ?_
    exact xj_iret hC hr (by decide) (by decide) dX5_beside_103 (Option.some.inj hf) rfl
def fX5_beside_L37 (w : xmW) (p0 : (Option Nat)) (p1 : Int32) (p3 : Int32) (s0 : Int64) : Option Int32 := ((fX5_kindOf w (p0) (p1) (p3)).bind fun v8 => (if v8 = (3 : Int32) then ((fX5_isMinus w (p0) (p1) (p3)).bind fun v12 => (if v12 = 0 then (fX5_beside_L76 w (s0) ((1099511627776 : Int64))) else (fX5_beside_L76 w (s0) ((-1099511627776 : Int64))))) else ((fX5_unitsOf w (p0) (p1) (p3)).bind fun v10 => (fX5_beside_L76 w (s0) (v10)))))
set_option maxHeartbeats 4000000 in
set_option maxRecDepth 100000 in
theorem lX5_beside_L37 {p : Program} {l : Launch} {e : Env} {s : State} {m : MethodId} {args : Array Value} {below : List Frame} {meth : Method} {c : Code} {D : va_G} {ks : Nat → ClassId} {b : Nat} (hC : xmC p s m args meth c D ks b 8 cX5_beside RX5) (hr : meth.sig.returnType = (some (FieldType.int))) {y : Int32} (w : xmW) (p0 : (Option Nat)) (p1 : Int32) (p3 : Int32) (s0 : Int64) (hf : fX5_beside_L37 w p0 p1 p3 s0 = some y) : xmJ p l e ({ frames := 3, cells := 0, slots := 0, locals := 67 } : Room) s m args below meth c D ks b 8 (MQ below (xmQ D ks b (some (xI y)) w) args s 0 0 (xmA b)) w 0 0 37 [(0, xR p0), (1, xI p1), (3, xI p3)] [xL s0] := by
  unfold fX5_beside_L37 at hf
  refine xj_lstore (lv' := [(4, xL s0), (0, xR p0), (1, xI p1), (3, xI p3)]) hC dX5_beside_37 (by decide) rfl ?_
  refine xj_aload_n hC dX5_beside_39 rfl 1 rfl ?_
  refine xj_iload_n hC dX5_beside_40 rfl 2 rfl ?_
  refine xj_iload_n hC dX5_beside_41 rfl 3 rfl ?_
  obtain ⟨v8, hc7, hf⟩ := xm_bind hf
  obtain ⟨_, hob, _⟩ := xm_bind hc7
  refine xj_reti (xr_V hC (mX5_kindOf l D ks b hc7) hob rfl xw_cod_X5_kindOf xw_ini_X5 xw_ins_X5_kindOf xw_sel_X5_kindOf xw_ml_X5_87 xds_X5_kindOf ⟨Nat.le_of_ble_eq_true rfl, Nat.le_of_ble_eq_true rfl⟩ rfl rfl (Nat.le_of_ble_eq_true rfl) ⟨Nat.le_of_ble_eq_true rfl, Nat.le_of_ble_eq_true rfl⟩ dX5_beside_42) ?_
  refine xj_iconst (v := 3) hC dX5_beside_45 (by decide) ?_
  refine xb_ic_ne (tgt := 70) hC dX5_beside_46 (by decide) hf (fun hf => ?_) (fun hf => ?_)
  · refine xj_aload_n hC dX5_beside_70 rfl 1 rfl ?_
    refine xj_iload_n hC dX5_beside_71 rfl 2 rfl ?_
    refine xj_iload_n hC dX5_beside_72 rfl 3 rfl ?_
    obtain ⟨v10, hc9, hf⟩ := xm_bind hf
    obtain ⟨_, hob, _⟩ := xm_bind hc9
    refine xj_retl (xr_V hC (mX5_unitsOf l D ks b hc9) hob rfl xw_cod_X5_unitsOf xw_ini_X5 xw_ins_X5_unitsOf xw_sel_X5_unitsOf xw_ml_X5_135 xds_X5_unitsOf ⟨Nat.le_of_ble_eq_true rfl, Nat.le_of_ble_eq_true rfl⟩ rfl rfl (Nat.le_of_ble_eq_true rfl) ⟨Nat.le_of_ble_eq_true rfl, Nat.le_of_ble_eq_true rfl⟩ dX5_beside_73) ?_
    refine xj_lv [0] rfl ?_
    exact lX5_beside_L76 hC hr  w (s0) (v10) hf
  · refine xj_aload_n hC dX5_beside_49 rfl 1 rfl ?_
    refine xj_iload_n hC dX5_beside_50 rfl 2 rfl ?_
    refine xj_iload_n hC dX5_beside_51 rfl 3 rfl ?_
    obtain ⟨v12, hc11, hf⟩ := xm_bind hf
    obtain ⟨_, hob, _⟩ := xm_bind hc11
    refine xj_reti (xr_V hC (mX5_isMinus l D ks b hc11) hob rfl xw_cod_X5_isMinus xw_ini_X5 xw_ins_X5_isMinus xw_sel_X5_isMinus xw_ml_X5_96 xds_X5_isMinus ⟨Nat.le_of_ble_eq_true rfl, Nat.le_of_ble_eq_true rfl⟩ rfl rfl (Nat.le_of_ble_eq_true rfl) ⟨Nat.le_of_ble_eq_true rfl, Nat.le_of_ble_eq_true rfl⟩ dX5_beside_52) ?_
    refine xb_if_eq (tgt := 64) hC dX5_beside_55 (by decide) hf (fun hf => ?_) (fun hf => ?_)
    · refine xj_ldc2 hC xw_cst_X5_172 dX5_beside_64 ?_
      refine xj_goto (tgt := 76) hC dX5_beside_67 (by decide) ?_
      refine xj_lv [0] rfl ?_
      exact lX5_beside_L76 hC hr  w (s0) ((1099511627776 : Int64)) hf
    · refine xj_ldc2 hC xw_cst_X5_170 dX5_beside_58 ?_
      refine xj_goto (tgt := 76) hC dX5_beside_61 (by decide) ?_
      refine xj_lv [0] rfl ?_
      exact lX5_beside_L76 hC hr  w (s0) ((-1099511627776 : Int64)) hf
def fX5_beside (w : xmW) (th : (Option Nat)) (a1 : Int32) (a2 : Int32) (a3 : Int32) : Option Int32 := ((xmob w th 5).bind fun _ => ((fX5_kindOf w (th) (a1) (a2)).bind fun v2 => (if v2 = (3 : Int32) then ((fX5_isMinus w (th) (a1) (a2)).bind fun v6 => (if v6 = 0 then (fX5_beside_L37 w (th) (a1) (a3) ((1099511627776 : Int64))) else (fX5_beside_L37 w (th) (a1) (a3) ((-1099511627776 : Int64))))) else ((fX5_unitsOf w (th) (a1) (a2)).bind fun v4 => (fX5_beside_L37 w (th) (a1) (a3) (v4))))))
set_option maxHeartbeats 4000000 in
set_option maxRecDepth 100000 in
theorem mX5_beside (l : Launch) (D : va_G) (ks : Nat → ClassId) (b : Nat) {w : xmW} {th : (Option Nat)} {a1 : Int32} {a2 : Int32} {a3 : Int32} {y : Int32} (hf : fX5_beside w th a1 a2 a3 = some y) : xmM l yX5_beside (Cond.code yX5_beside cX5_beside 8 (some (FieldType.int)) :: xmTs) 3 67 0 0 D ks b w [xR th, xI a1, xI a2, xI a3] (some (xI y)) w := by
  unfold fX5_beside at hf
  obtain ⟨_, _, hf⟩ := xm_bind hf
  refine xmM.of (own := RX5) (lv0 := [(0, xR th), (1, xI a1), (2, xI a2), (3, xI a3)]) (by decide) rfl (Nat.le_of_ble_eq_true rfl) rfl ?_
  intro p e s m args below meth c hC hr hnm
  refine xj_aload_n hC dX5_beside_0 rfl 0 rfl ?_
  refine xj_iload_n hC dX5_beside_1 rfl 1 rfl ?_
  refine xj_iload_n hC dX5_beside_2 rfl 2 rfl ?_
  obtain ⟨v2, hc1, hf⟩ := xm_bind hf
  obtain ⟨_, hob, _⟩ := xm_bind hc1
  refine xj_reti (xr_V hC (mX5_kindOf l D ks b hc1) hob rfl xw_cod_X5_kindOf xw_ini_X5 xw_ins_X5_kindOf xw_sel_X5_kindOf xw_ml_X5_87 xds_X5_kindOf ⟨Nat.le_of_ble_eq_true rfl, Nat.le_of_ble_eq_true rfl⟩ rfl rfl (Nat.le_of_ble_eq_true rfl) ⟨Nat.le_of_ble_eq_true rfl, Nat.le_of_ble_eq_true rfl⟩ dX5_beside_3) ?_
  refine xj_iconst (v := 3) hC dX5_beside_6 (by decide) ?_
  refine xb_ic_ne (tgt := 31) hC dX5_beside_7 (by decide) hf (fun hf => ?_) (fun hf => ?_)
  · refine xj_aload_n hC dX5_beside_31 rfl 0 rfl ?_
    refine xj_iload_n hC dX5_beside_32 rfl 1 rfl ?_
    refine xj_iload_n hC dX5_beside_33 rfl 2 rfl ?_
    obtain ⟨v4, hc3, hf⟩ := xm_bind hf
    obtain ⟨_, hob, _⟩ := xm_bind hc3
    refine xj_retl (xr_V hC (mX5_unitsOf l D ks b hc3) hob rfl xw_cod_X5_unitsOf xw_ini_X5 xw_ins_X5_unitsOf xw_sel_X5_unitsOf xw_ml_X5_135 xds_X5_unitsOf ⟨Nat.le_of_ble_eq_true rfl, Nat.le_of_ble_eq_true rfl⟩ rfl rfl (Nat.le_of_ble_eq_true rfl) ⟨Nat.le_of_ble_eq_true rfl, Nat.le_of_ble_eq_true rfl⟩ dX5_beside_34) ?_
    refine xj_lv [0, 1, 3] rfl ?_
    exact lX5_beside_L37 hC hr  w (th) (a1) (a3) (v4) hf
  · refine xj_aload_n hC dX5_beside_10 rfl 0 rfl ?_
    refine xj_iload_n hC dX5_beside_11 rfl 1 rfl ?_
    refine xj_iload_n hC dX5_beside_12 rfl 2 rfl ?_
    obtain ⟨v6, hc5, hf⟩ := xm_bind hf
    obtain ⟨_, hob, _⟩ := xm_bind hc5
    refine xj_reti (xr_V hC (mX5_isMinus l D ks b hc5) hob rfl xw_cod_X5_isMinus xw_ini_X5 xw_ins_X5_isMinus xw_sel_X5_isMinus xw_ml_X5_96 xds_X5_isMinus ⟨Nat.le_of_ble_eq_true rfl, Nat.le_of_ble_eq_true rfl⟩ rfl rfl (Nat.le_of_ble_eq_true rfl) ⟨Nat.le_of_ble_eq_true rfl, Nat.le_of_ble_eq_true rfl⟩ dX5_beside_13) ?_
    refine xb_if_eq (tgt := 25) hC dX5_beside_16 (by decide) hf (fun hf => ?_) (fun hf => ?_)
    · refine xj_ldc2 hC xw_cst_X5_172 dX5_beside_25 ?_
      refine xj_goto (tgt := 37) hC dX5_beside_28 (by decide) ?_
      refine xj_lv [0, 1, 3] rfl ?_
      exact lX5_beside_L37 hC hr  w (th) (a1) (a3) ((1099511627776 : Int64)) hf
    · refine xj_ldc2 hC xw_cst_X5_170 dX5_beside_19 ?_
      refine xj_goto (tgt := 37) hC dX5_beside_22 (by decide) ?_
      refine xj_lv [0, 1, 3] rfl ?_
      exact lX5_beside_L37 hC hr  w (th) (a1) (a3) ((-1099511627776 : Int64)) hf
def fX5_lesser_L58 (w : xmW) (p2 : Int32) (p3 : Int32) (p4 : Int32) (p5 : Int32) : Option Int32 := (if p5 = 0 then (some p2) else (if (if 0 ≤ p5 then (0 : Int32) else (1 : Int32)) = p4 then (some p2) else (some p3)))
set_option maxHeartbeats 4000000 in
set_option maxRecDepth 100000 in
theorem lX5_lesser_L58 {p : Program} {l : Launch} {e : Env} {s : State} {m : MethodId} {args : Array Value} {below : List Frame} {meth : Method} {c : Code} {D : va_G} {ks : Nat → ClassId} {b : Nat} (hC : xmC p s m args meth c D ks b 6 cX5_lesser RX5) (hr : meth.sig.returnType = (some (FieldType.int))) {y : Int32} (w : xmW) (p2 : Int32) (p3 : Int32) (p4 : Int32) (p5 : Int32) (hf : fX5_lesser_L58 w p2 p3 p4 p5 = some y) : xmJ p l e ({ frames := 4, cells := 0, slots := 0, locals := 94 } : Room) s m args below meth c D ks b 6 (MQ below (xmQ D ks b (some (xI y)) w) args s 0 0 (xmA b)) w 0 0 58 [(2, xI p2), (3, xI p3), (4, xI p4), (5, xI p5)] [] := by
  unfold fX5_lesser_L58 at hf
  refine xj_iload hC dX5_lesser_58 3 rfl ?_
  refine xb_if_eq (tgt := 78) hC dX5_lesser_60 (by decide) hf (fun hf => ?_) (fun hf => ?_)
  · refine xj_iload_n hC dX5_lesser_78 rfl 0 rfl ?_
    refine xj_goto (tgt := 83) hC dX5_lesser_79 (by decide) ?_
    exact xj_iret hC hr (by decide) (by decide) dX5_lesser_83 (Option.some.inj hf) rfl
  · refine xj_iload hC dX5_lesser_63 3 rfl ?_
    refine xj_dia (cnd := 0 ≤ p5) (x := 0) (y := 1) (pc2 := 73) (st2 := []) (fun hc hk => ?_) (fun hc hk => ?_) ?_
    · exact xj_if_ge (tgt := 72) hC dX5_lesser_65 (by decide) (fun _ => xj_iconst (v := 0) hC dX5_lesser_72 (by decide) hk) (fun hn => absurd hc hn)
    · exact xj_if_ge (tgt := 72) hC dX5_lesser_65 (by decide) (fun hn => absurd hn hc) (fun _ => xj_iconst (v := 1) hC dX5_lesser_68 (by decide) (xj_goto (tgt := 73) hC dX5_lesser_69 (by decide) hk))
    refine xj_iload hC dX5_lesser_73 2 rfl ?_
    refine xb_ic_ne (tgt := 82) hC dX5_lesser_75 (by decide) hf (fun hf => ?_) (fun hf => ?_)
    · refine xj_iload_n hC dX5_lesser_82 rfl 1 rfl ?_
      exact xj_iret hC hr (by decide) (by decide) dX5_lesser_83 (Option.some.inj hf) rfl
    · refine xj_iload_n hC dX5_lesser_78 rfl 0 rfl ?_
      refine xj_goto (tgt := 83) hC dX5_lesser_79 (by decide) ?_
      exact xj_iret hC hr (by decide) (by decide) dX5_lesser_83 (Option.some.inj hf) rfl
def fX5_lesser_L56 (w : xmW) (p2 : Int32) (p3 : Int32) (p4 : Int32) (s0 : Int32) : Option Int32 := (fX5_lesser_L58 w (p2) (p3) (p4) (s0) )
set_option maxHeartbeats 4000000 in
set_option maxRecDepth 100000 in
theorem lX5_lesser_L56 {p : Program} {l : Launch} {e : Env} {s : State} {m : MethodId} {args : Array Value} {below : List Frame} {meth : Method} {c : Code} {D : va_G} {ks : Nat → ClassId} {b : Nat} (hC : xmC p s m args meth c D ks b 6 cX5_lesser RX5) (hr : meth.sig.returnType = (some (FieldType.int))) {y : Int32} (w : xmW) (p2 : Int32) (p3 : Int32) (p4 : Int32) (s0 : Int32) (hf : fX5_lesser_L56 w p2 p3 p4 s0 = some y) : xmJ p l e ({ frames := 4, cells := 0, slots := 0, locals := 94 } : Room) s m args below meth c D ks b 6 (MQ below (xmQ D ks b (some (xI y)) w) args s 0 0 (xmA b)) w 0 0 56 [(2, xI p2), (3, xI p3), (4, xI p4)] [xI s0] := by
  unfold fX5_lesser_L56 at hf
  refine xj_istore (lv' := [(5, xI s0), (2, xI p2), (3, xI p3), (4, xI p4)]) hC dX5_lesser_56 (by decide) rfl ?_
  refine xj_lv [1, 2, 3, 0] rfl ?_
  exact lX5_lesser_L58 hC hr  w (p2) (p3) (p4) (s0)  hf
def fX5_lesser (w : xmW) (th : (Option Nat)) (a1 : Int32) (a2 : Int32) (a3 : Int32) (a4 : Int32) : Option Int32 := ((xmob w th 5).bind fun _ => ((fX5_beside w (th) (a1) (a2) (a3)).bind fun v2 => (if v2 = 0 then ((fX5_plain w (th) (a1) (a2)).bind fun v4 => (if v4 = 0 then ((fX5_isMinus w (th) (a1) (a2)).bind fun v6 => ((fX5_isMinus w (th) (a1) (a3)).bind fun v8 => (if v6 = v8 then (fX5_lesser_L56 w (a2) (a3) (a4) ((0 : Int32))) else ((fX5_isMinus w (th) (a1) (a2)).bind fun v10 => (fX5_lesser_L56 w (a2) (a3) (a4) ((if v10 = 0 then (1 : Int32) else (-1 : Int32)))))))) else (fX5_lesser_L58 w (a2) (a3) (a4) (v2) ))) else (fX5_lesser_L58 w (a2) (a3) (a4) (v2) ))))
set_option maxHeartbeats 4000000 in
set_option maxRecDepth 100000 in
theorem mX5_lesser (l : Launch) (D : va_G) (ks : Nat → ClassId) (b : Nat) {w : xmW} {th : (Option Nat)} {a1 : Int32} {a2 : Int32} {a3 : Int32} {a4 : Int32} {y : Int32} (hf : fX5_lesser w th a1 a2 a3 a4 = some y) : xmM l yX5_lesser (Cond.code yX5_lesser cX5_lesser 6 (some (FieldType.int)) :: xmTs) 4 94 0 0 D ks b w [xR th, xI a1, xI a2, xI a3, xI a4] (some (xI y)) w := by
  unfold fX5_lesser at hf
  obtain ⟨_, _, hf⟩ := xm_bind hf
  refine xmM.of (own := RX5) (lv0 := [(0, xR th), (1, xI a1), (2, xI a2), (3, xI a3), (4, xI a4)]) (by decide) rfl (Nat.le_of_ble_eq_true rfl) rfl ?_
  intro p e s m args below meth c hC hr hnm
  refine xj_aload_n hC dX5_lesser_0 rfl 0 rfl ?_
  refine xj_iload_n hC dX5_lesser_1 rfl 1 rfl ?_
  refine xj_iload_n hC dX5_lesser_2 rfl 2 rfl ?_
  refine xj_iload_n hC dX5_lesser_3 rfl 3 rfl ?_
  obtain ⟨v2, hc1, hf⟩ := xm_bind hf
  obtain ⟨_, hob, _⟩ := xm_bind hc1
  refine xj_reti (xr_V hC (mX5_beside l D ks b hc1) hob rfl xw_cod_X5_beside xw_ini_X5 xw_ins_X5_beside xw_sel_X5_beside xw_ml_X5_196 xds_X5_beside ⟨Nat.le_of_ble_eq_true rfl, Nat.le_of_ble_eq_true rfl⟩ rfl rfl (Nat.le_of_ble_eq_true rfl) ⟨Nat.le_of_ble_eq_true rfl, Nat.le_of_ble_eq_true rfl⟩ dX5_lesser_4) ?_
  refine xj_istore (lv' := [(5, xI v2), (0, xR th), (1, xI a1), (2, xI a2), (3, xI a3), (4, xI a4)]) hC dX5_lesser_7 (by decide) rfl ?_
  refine xj_iload hC dX5_lesser_9 0 rfl ?_
  refine xb_if_ne (tgt := 58) hC dX5_lesser_11 (by decide) hf (fun hf => ?_) (fun hf => ?_)
  · refine xj_lv [3, 4, 5, 0] rfl ?_
    exact lX5_lesser_L58 hC hr  w (a2) (a3) (a4) (v2)  hf
  · refine xj_aload_n hC dX5_lesser_14 rfl 1 rfl ?_
    refine xj_iload_n hC dX5_lesser_15 rfl 2 rfl ?_
    refine xj_iload_n hC dX5_lesser_16 rfl 3 rfl ?_
    obtain ⟨v4, hc3, hf⟩ := xm_bind hf
    obtain ⟨_, hob, _⟩ := xm_bind hc3
    refine xj_reti (xr_V hC (mX5_plain l D ks b hc3) hob rfl xw_cod_X5_plain xw_ini_X5 xw_ins_X5_plain xw_sel_X5_plain xw_ml_X5_80 xds_X5_plain ⟨Nat.le_of_ble_eq_true rfl, Nat.le_of_ble_eq_true rfl⟩ rfl rfl (Nat.le_of_ble_eq_true rfl) ⟨Nat.le_of_ble_eq_true rfl, Nat.le_of_ble_eq_true rfl⟩ dX5_lesser_17) ?_
    refine xb_if_ne (tgt := 58) hC dX5_lesser_20 (by decide) hf (fun hf => ?_) (fun hf => ?_)
    · refine xj_lv [3, 4, 5, 0] rfl ?_
      exact lX5_lesser_L58 hC hr  w (a2) (a3) (a4) (v2)  hf
    · refine xj_aload_n hC dX5_lesser_23 rfl 1 rfl ?_
      refine xj_iload_n hC dX5_lesser_24 rfl 2 rfl ?_
      refine xj_iload_n hC dX5_lesser_25 rfl 3 rfl ?_
      obtain ⟨v6, hc5, hf⟩ := xm_bind hf
      obtain ⟨_, hob, _⟩ := xm_bind hc5
      refine xj_reti (xr_V hC (mX5_isMinus l D ks b hc5) hob rfl xw_cod_X5_isMinus xw_ini_X5 xw_ins_X5_isMinus xw_sel_X5_isMinus xw_ml_X5_96 xds_X5_isMinus ⟨Nat.le_of_ble_eq_true rfl, Nat.le_of_ble_eq_true rfl⟩ rfl rfl (Nat.le_of_ble_eq_true rfl) ⟨Nat.le_of_ble_eq_true rfl, Nat.le_of_ble_eq_true rfl⟩ dX5_lesser_26) ?_
      refine xj_aload_n hC dX5_lesser_29 rfl 1 rfl ?_
      refine xj_iload_n hC dX5_lesser_30 rfl 2 rfl ?_
      refine xj_iload_n hC dX5_lesser_31 rfl 4 rfl ?_
      obtain ⟨v8, hc7, hf⟩ := xm_bind hf
      obtain ⟨_, hob, _⟩ := xm_bind hc7
      refine xj_reti (xr_V hC (mX5_isMinus l D ks b hc7) hob rfl xw_cod_X5_isMinus xw_ini_X5 xw_ins_X5_isMinus xw_sel_X5_isMinus xw_ml_X5_96 xds_X5_isMinus ⟨Nat.le_of_ble_eq_true rfl, Nat.le_of_ble_eq_true rfl⟩ rfl rfl (Nat.le_of_ble_eq_true rfl) ⟨Nat.le_of_ble_eq_true rfl, Nat.le_of_ble_eq_true rfl⟩ dX5_lesser_32) ?_
      refine xb_ic_ne (tgt := 42) hC dX5_lesser_35 (by decide) hf (fun hf => ?_) (fun hf => ?_)
      · refine xj_aload_n hC dX5_lesser_42 rfl 1 rfl ?_
        refine xj_iload_n hC dX5_lesser_43 rfl 2 rfl ?_
        refine xj_iload_n hC dX5_lesser_44 rfl 3 rfl ?_
        obtain ⟨v10, hc9, hf⟩ := xm_bind hf
        obtain ⟨_, hob, _⟩ := xm_bind hc9
        refine xj_reti (xr_V hC (mX5_isMinus l D ks b hc9) hob rfl xw_cod_X5_isMinus xw_ini_X5 xw_ins_X5_isMinus xw_sel_X5_isMinus xw_ml_X5_96 xds_X5_isMinus ⟨Nat.le_of_ble_eq_true rfl, Nat.le_of_ble_eq_true rfl⟩ rfl rfl (Nat.le_of_ble_eq_true rfl) ⟨Nat.le_of_ble_eq_true rfl, Nat.le_of_ble_eq_true rfl⟩ dX5_lesser_45) ?_
        refine xj_dia (cnd := v10 = 0) (x := 1) (y := -1) (pc2 := 56) (st2 := []) (fun hc hk => ?_) (fun hc hk => ?_) ?_
        · exact xj_if_eq (tgt := 55) hC dX5_lesser_48 (by decide) (fun _ => xj_iconst (v := 1) hC dX5_lesser_55 (by decide) hk) (fun hn => absurd hc hn)
        · exact xj_if_eq (tgt := 55) hC dX5_lesser_48 (by decide) (fun hn => absurd hn hc) (fun _ => xj_iconst (v := -1) hC dX5_lesser_51 (by decide) (xj_goto (tgt := 56) hC dX5_lesser_52 (by decide) hk))
        refine xj_lv [3, 4, 5] rfl ?_
        exact lX5_lesser_L56 hC hr  w (a2) (a3) (a4) ((if v10 = 0 then (1 : Int32) else (-1 : Int32))) hf
      · refine xj_iconst (v := 0) hC dX5_lesser_38 (by decide) ?_
        refine xj_goto (tgt := 56) hC dX5_lesser_39 (by decide) ?_
        refine xj_lv [3, 4, 5] rfl ?_
        exact lX5_lesser_L56 hC hr  w (a2) (a3) (a4) ((0 : Int32)) hf
def fX5_endlessOr (w : xmW) (th : (Option Nat)) (a1 : Int32) (a2 : Int32) : Option Int32 := ((xmob w th 5).bind fun _ => (if a2 = 0 then ((fX5_endless w (th) (a1)).bind fun v2 => ((fX5_signed w (th) (a1) (v2) (a2)).bind fun v4 => (some v4))) else ((xmgR w th 5 1).bind fun v5 => ((xmild w v5 0 a1).bind fun v6 => (if v6 = 0 then (some (0 : Int32)) else ((fX5_endless w (th) (a1)).bind fun v8 => ((fX5_signed w (th) (a1) (v8) (a2)).bind fun v10 => (some v10))))))))
set_option maxHeartbeats 4000000 in
set_option maxRecDepth 100000 in
theorem mX5_endlessOr (l : Launch) (D : va_G) (ks : Nat → ClassId) (b : Nat) {w : xmW} {th : (Option Nat)} {a1 : Int32} {a2 : Int32} {y : Int32} (hf : fX5_endlessOr w th a1 a2 = some y) : xmM l yX5_endlessOr (Cond.code yX5_endlessOr cX5_endlessOr 3 (some (FieldType.int)) :: xmTs) 2 44 0 0 D ks b w [xR th, xI a1, xI a2] (some (xI y)) w := by
  unfold fX5_endlessOr at hf
  obtain ⟨_, _, hf⟩ := xm_bind hf
  refine xmM.of (own := RX5) (lv0 := [(0, xR th), (1, xI a1), (2, xI a2)]) (by decide) rfl (Nat.le_of_ble_eq_true rfl) rfl ?_
  intro p e s m args below meth c hC hr hnm
  refine xj_iload_n hC dX5_endlessOr_0 rfl 2 rfl ?_
  refine xb_if_eq (tgt := 17) hC dX5_endlessOr_1 (by decide) hf (fun hf => ?_) (fun hf => ?_)
  · refine xj_aload_n hC dX5_endlessOr_17 rfl 0 rfl ?_
    refine xj_iload_n hC dX5_endlessOr_18 rfl 1 rfl ?_
    refine xj_aload_n hC dX5_endlessOr_19 rfl 0 rfl ?_
    refine xj_iload_n hC dX5_endlessOr_20 rfl 1 rfl ?_
    obtain ⟨v2, hc1, hf⟩ := xm_bind hf
    obtain ⟨_, hob, _⟩ := xm_bind hc1
    refine xj_reti (xr_V hC (mX5_endless l D ks b hc1) hob rfl xw_cod_X5_endless xw_ini_X5 xw_ins_X5_endless xw_sel_X5_endless xw_ml_X5_121 xds_X5_endless ⟨Nat.le_of_ble_eq_true rfl, Nat.le_of_ble_eq_true rfl⟩ rfl rfl (Nat.le_of_ble_eq_true rfl) ⟨Nat.le_of_ble_eq_true rfl, Nat.le_of_ble_eq_true rfl⟩ dX5_endlessOr_21) ?_
    refine xj_iload_n hC dX5_endlessOr_24 rfl 2 rfl ?_
    obtain ⟨v4, hc3, hf⟩ := xm_bind hf
    obtain ⟨_, hob, _⟩ := xm_bind hc3
    refine xj_reti (xr_V hC (mX5_signed l D ks b hc3) hob rfl xw_cod_X5_signed xw_ini_X5 xw_ins_X5_signed xw_sel_X5_signed xw_ml_X5_149 xds_X5_signed ⟨Nat.le_of_ble_eq_true rfl, Nat.le_of_ble_eq_true rfl⟩ rfl rfl (Nat.le_of_ble_eq_true rfl) ⟨Nat.le_of_ble_eq_true rfl, Nat.le_of_ble_eq_true rfl⟩ dX5_endlessOr_25) ?_
    exact xj_iret hC hr (by decide) (by decide) dX5_endlessOr_28 (Option.some.inj hf) rfl
  · refine xj_aload_n hC dX5_endlessOr_4 rfl 0 rfl ?_
    refine xb_getR hC 5 1 xcl_5 (by decide) xw_fl_X5_7 dX5_endlessOr_5 hf (fun v5 hf => ?_)
    refine xj_iload_n hC dX5_endlessOr_8 rfl 1 rfl ?_
    refine xb_iald hC dX5_endlessOr_9 hf (fun v6 hf => ?_)
    refine xb_if_ne (tgt := 17) hC dX5_endlessOr_10 (by decide) hf (fun hf => ?_) (fun hf => ?_)
    · refine xj_aload_n hC dX5_endlessOr_17 rfl 0 rfl ?_
      refine xj_iload_n hC dX5_endlessOr_18 rfl 1 rfl ?_
      refine xj_aload_n hC dX5_endlessOr_19 rfl 0 rfl ?_
      refine xj_iload_n hC dX5_endlessOr_20 rfl 1 rfl ?_
      obtain ⟨v8, hc7, hf⟩ := xm_bind hf
      obtain ⟨_, hob, _⟩ := xm_bind hc7
      refine xj_reti (xr_V hC (mX5_endless l D ks b hc7) hob rfl xw_cod_X5_endless xw_ini_X5 xw_ins_X5_endless xw_sel_X5_endless xw_ml_X5_121 xds_X5_endless ⟨Nat.le_of_ble_eq_true rfl, Nat.le_of_ble_eq_true rfl⟩ rfl rfl (Nat.le_of_ble_eq_true rfl) ⟨Nat.le_of_ble_eq_true rfl, Nat.le_of_ble_eq_true rfl⟩ dX5_endlessOr_21) ?_
      refine xj_iload_n hC dX5_endlessOr_24 rfl 2 rfl ?_
      obtain ⟨v10, hc9, hf⟩ := xm_bind hf
      obtain ⟨_, hob, _⟩ := xm_bind hc9
      refine xj_reti (xr_V hC (mX5_signed l D ks b hc9) hob rfl xw_cod_X5_signed xw_ini_X5 xw_ins_X5_signed xw_sel_X5_signed xw_ml_X5_149 xds_X5_signed ⟨Nat.le_of_ble_eq_true rfl, Nat.le_of_ble_eq_true rfl⟩ rfl rfl (Nat.le_of_ble_eq_true rfl) ⟨Nat.le_of_ble_eq_true rfl, Nat.le_of_ble_eq_true rfl⟩ dX5_endlessOr_25) ?_
      exact xj_iret hC hr (by decide) (by decide) dX5_endlessOr_28 (Option.some.inj hf) rfl
    · refine xj_iconst (v := 0) hC dX5_endlessOr_13 (by decide) ?_
      refine xj_goto (tgt := 28) hC dX5_endlessOr_14 (by decide) ?_
      exact xj_iret hC hr (by decide) (by decide) dX5_endlessOr_28 (Option.some.inj hf) rfl
def fX5_isEndless (w : xmW) (th : (Option Nat)) (a1 : Int32) (a2 : Int32) : Option Int32 := ((xmob w th 5).bind fun _ => ((fX5_kindOf w (th) (a1) (a2)).bind fun v2 => (xmbz (if v2 = (3 : Int32) then (1 : Int32) else (0 : Int32)))))
set_option maxHeartbeats 4000000 in
set_option maxRecDepth 100000 in
theorem mX5_isEndless (l : Launch) (D : va_G) (ks : Nat → ClassId) (b : Nat) {w : xmW} {th : (Option Nat)} {a1 : Int32} {a2 : Int32} {y : Int32} (hf : fX5_isEndless w th a1 a2 = some y) : xmM l yX5_isEndless (Cond.code yX5_isEndless cX5_isEndless 3 (some (FieldType.boolean)) :: xmTs) 3 67 0 0 D ks b w [xR th, xI a1, xI a2] (some (xI y)) w := by
  unfold fX5_isEndless at hf
  obtain ⟨_, _, hf⟩ := xm_bind hf
  refine xmM.of (own := RX5) (lv0 := [(0, xR th), (1, xI a1), (2, xI a2)]) (by decide) rfl (Nat.le_of_ble_eq_true rfl) rfl ?_
  intro p e s m args below meth c hC hr hnm
  refine xj_aload_n hC dX5_isEndless_0 rfl 0 rfl ?_
  refine xj_iload_n hC dX5_isEndless_1 rfl 1 rfl ?_
  refine xj_iload_n hC dX5_isEndless_2 rfl 2 rfl ?_
  obtain ⟨v2, hc1, hf⟩ := xm_bind hf
  obtain ⟨_, hob, _⟩ := xm_bind hc1
  refine xj_reti (xr_V hC (mX5_kindOf l D ks b hc1) hob rfl xw_cod_X5_kindOf xw_ini_X5 xw_ins_X5_kindOf xw_sel_X5_kindOf xw_ml_X5_87 xds_X5_kindOf ⟨Nat.le_of_ble_eq_true rfl, Nat.le_of_ble_eq_true rfl⟩ rfl rfl (Nat.le_of_ble_eq_true rfl) ⟨Nat.le_of_ble_eq_true rfl, Nat.le_of_ble_eq_true rfl⟩ dX5_isEndless_3) ?_
  refine xj_iconst (v := 3) hC dX5_isEndless_6 (by decide) ?_
  refine xj_dia (cnd := v2 = (3 : Int32)) (x := 1) (y := 0) (pc2 := 15) (st2 := []) (fun hc hk => ?_) (fun hc hk => ?_) ?_
  · exact xj_ic_ne (tgt := 14) hC dX5_isEndless_7 (by decide) (fun hn => absurd hc hn) (fun _ => xj_iconst (v := 1) hC dX5_isEndless_10 (by decide) (xj_goto (tgt := 15) hC dX5_isEndless_11 (by decide) hk))
  · exact xj_ic_ne (tgt := 14) hC dX5_isEndless_7 (by decide) (fun _ => xj_iconst (v := 0) hC dX5_isEndless_14 (by decide) hk) (fun hn => absurd hn hc)
  exact xj_zret hC hr (by decide) (by decide) dX5_isEndless_15 hf rfl
def fX5_endlessSum_L53 (w : xmW) (p0 : (Option Nat)) (p1 : Int32) (p2 : Int32) (p5 : Int32) : Option (Int32 × xmW) := ((fX5_isEndless w (p0) (p1) (p2)).bind fun v13 => (if v13 = 0 then ((fX5_endlessOr w (p0) (p1) (p5)).bind fun v15 => (some (v15, w))) else ((fX5_isMinus w (p0) (p1) (p2)).bind fun v17 => ((fX5_endlessOr w (p0) (p1) (v17)).bind fun v19 => (some (v19, w))))))
set_option maxHeartbeats 4000000 in
set_option maxRecDepth 100000 in
theorem lX5_endlessSum_L53 {p : Program} {l : Launch} {e : Env} {s : State} {m : MethodId} {args : Array Value} {below : List Frame} {meth : Method} {c : Code} {D : va_G} {ks : Nat → ClassId} {b : Nat} (hC : xmC p s m args meth c D ks b 6 cX5_endlessSum RX5) (hr : meth.sig.returnType = (some (FieldType.int))) {y : Int32} {wz : xmW} (w : xmW) (p0 : (Option Nat)) (p1 : Int32) (p2 : Int32) (p5 : Int32) (hf : fX5_endlessSum_L53 w p0 p1 p2 p5 = some (y, wz)) : xmJ p l e ({ frames := 4, cells := 0, slots := 0, locals := 89 } : Room) s m args below meth c D ks b 6 (MQ below (xmQ D ks b (some (xI y)) wz) args s 0 0 (xmA b)) w 0 0 53 [(0, xR p0), (1, xI p1), (2, xI p2), (5, xI p5)] [] := by
  unfold fX5_endlessSum_L53 at hf
  refine xj_aload_n hC dX5_endlessSum_53 rfl 0 rfl ?_
  refine xj_iload_n hC dX5_endlessSum_54 rfl 1 rfl ?_
  refine xj_aload_n hC dX5_endlessSum_55 rfl 0 rfl ?_
  refine xj_iload_n hC dX5_endlessSum_56 rfl 1 rfl ?_
  refine xj_iload_n hC dX5_endlessSum_57 rfl 2 rfl ?_
  obtain ⟨v13, hc12, hf⟩ := xm_bind hf
  obtain ⟨_, hob, _⟩ := xm_bind hc12
  refine xj_reti (xr_V hC (mX5_isEndless l D ks b hc12) hob rfl xw_cod_X5_isEndless xw_ini_X5 xw_ins_X5_isEndless xw_sel_X5_isEndless xw_ml_X5_200 xds_X5_isEndless ⟨Nat.le_of_ble_eq_true rfl, Nat.le_of_ble_eq_true rfl⟩ rfl rfl (Nat.le_of_ble_eq_true rfl) ⟨Nat.le_of_ble_eq_true rfl, Nat.le_of_ble_eq_true rfl⟩ dX5_endlessSum_58) ?_
  refine xb_if_eq (tgt := 73) hC dX5_endlessSum_61 (by decide) hf (fun hf => ?_) (fun hf => ?_)
  · refine xj_iload hC dX5_endlessSum_73 3 rfl ?_
    obtain ⟨v15, hc14, hf⟩ := xm_bind hf
    obtain ⟨_, hob, _⟩ := xm_bind hc14
    refine xj_reti (xr_V hC (mX5_endlessOr l D ks b hc14) hob rfl xw_cod_X5_endlessOr xw_ini_X5 xw_ins_X5_endlessOr xw_sel_X5_endlessOr xw_ml_X5_203 xds_X5_endlessOr ⟨Nat.le_of_ble_eq_true rfl, Nat.le_of_ble_eq_true rfl⟩ rfl rfl (Nat.le_of_ble_eq_true rfl) ⟨Nat.le_of_ble_eq_true rfl, Nat.le_of_ble_eq_true rfl⟩ dX5_endlessSum_75) ?_
    obtain ⟨he, hw⟩ := Prod.mk.inj (Option.some.inj hf)
    exact xj_iret hC hr (by decide) (by decide) dX5_endlessSum_78 he hw
  · refine xj_aload_n hC dX5_endlessSum_64 rfl 0 rfl ?_
    refine xj_iload_n hC dX5_endlessSum_65 rfl 1 rfl ?_
    refine xj_iload_n hC dX5_endlessSum_66 rfl 2 rfl ?_
    obtain ⟨v17, hc16, hf⟩ := xm_bind hf
    obtain ⟨_, hob, _⟩ := xm_bind hc16
    refine xj_reti (xr_V hC (mX5_isMinus l D ks b hc16) hob rfl xw_cod_X5_isMinus xw_ini_X5 xw_ins_X5_isMinus xw_sel_X5_isMinus xw_ml_X5_96 xds_X5_isMinus ⟨Nat.le_of_ble_eq_true rfl, Nat.le_of_ble_eq_true rfl⟩ rfl rfl (Nat.le_of_ble_eq_true rfl) ⟨Nat.le_of_ble_eq_true rfl, Nat.le_of_ble_eq_true rfl⟩ dX5_endlessSum_67) ?_
    refine xj_goto (tgt := 75) hC dX5_endlessSum_70 (by decide) ?_
    obtain ⟨v19, hc18, hf⟩ := xm_bind hf
    obtain ⟨_, hob, _⟩ := xm_bind hc18
    refine xj_reti (xr_V hC (mX5_endlessOr l D ks b hc18) hob rfl xw_cod_X5_endlessOr xw_ini_X5 xw_ins_X5_endlessOr xw_sel_X5_endlessOr xw_ml_X5_203 xds_X5_endlessOr ⟨Nat.le_of_ble_eq_true rfl, Nat.le_of_ble_eq_true rfl⟩ rfl rfl (Nat.le_of_ble_eq_true rfl) ⟨Nat.le_of_ble_eq_true rfl, Nat.le_of_ble_eq_true rfl⟩ dX5_endlessSum_75) ?_
    obtain ⟨he, hw⟩ := Prod.mk.inj (Option.some.inj hf)
    exact xj_iret hC hr (by decide) (by decide) dX5_endlessSum_78 he hw
def fX5_endlessSum (w : xmW) (th : (Option Nat)) (a1 : Int32) (a2 : Int32) (a3 : Int32) (a4 : Int32) : Option (Int32 × xmW) := ((xmob w th 5).bind fun _ => ((fX5_isMinus w (th) (a1) (a3)).bind fun v2 => ((fX5_isEndless w (th) (a1) (a2)).bind fun v4 => (if v4 = 0 then (fX5_endlessSum_L53 w (th) (a1) (a2) ((if v2 = a4 then (0 : Int32) else (1 : Int32))) ) else ((fX5_isEndless w (th) (a1) (a3)).bind fun v6 => (if v6 = 0 then (fX5_endlessSum_L53 w (th) (a1) (a2) ((if v2 = a4 then (0 : Int32) else (1 : Int32))) ) else ((fX5_isMinus w (th) (a1) (a2)).bind fun v8 => (if v8 = (if v2 = a4 then (0 : Int32) else (1 : Int32)) then (fX5_endlessSum_L53 w (th) (a1) (a2) ((if v2 = a4 then (0 : Int32) else (1 : Int32))) ) else (xmb2 (fX5_invalidIn w (th) (a1)) fun v10 w11 => (some (v10, w11)))))))))))
set_option maxHeartbeats 4000000 in
set_option maxRecDepth 100000 in
theorem mX5_endlessSum (l : Launch) (D : va_G) (ks : Nat → ClassId) (b : Nat) {w : xmW} {th : (Option Nat)} {a1 : Int32} {a2 : Int32} {a3 : Int32} {a4 : Int32} {y : Int32} {wz : xmW} (hf : fX5_endlessSum w th a1 a2 a3 a4 = some (y, wz)) : xmM l yX5_endlessSum (Cond.code yX5_endlessSum cX5_endlessSum 6 (some (FieldType.int)) :: xmTs) 4 89 0 0 D ks b w [xR th, xI a1, xI a2, xI a3, xI a4] (some (xI y)) wz := by
  unfold fX5_endlessSum at hf
  obtain ⟨_, _, hf⟩ := xm_bind hf
  refine xmM.of (own := RX5) (lv0 := [(0, xR th), (1, xI a1), (2, xI a2), (3, xI a3), (4, xI a4)]) (by decide) rfl (Nat.le_of_ble_eq_true rfl) rfl ?_
  intro p e s m args below meth c hC hr hnm
  refine xj_aload_n hC dX5_endlessSum_0 rfl 0 rfl ?_
  refine xj_iload_n hC dX5_endlessSum_1 rfl 1 rfl ?_
  refine xj_iload_n hC dX5_endlessSum_2 rfl 3 rfl ?_
  obtain ⟨v2, hc1, hf⟩ := xm_bind hf
  obtain ⟨_, hob, _⟩ := xm_bind hc1
  refine xj_reti (xr_V hC (mX5_isMinus l D ks b hc1) hob rfl xw_cod_X5_isMinus xw_ini_X5 xw_ins_X5_isMinus xw_sel_X5_isMinus xw_ml_X5_96 xds_X5_isMinus ⟨Nat.le_of_ble_eq_true rfl, Nat.le_of_ble_eq_true rfl⟩ rfl rfl (Nat.le_of_ble_eq_true rfl) ⟨Nat.le_of_ble_eq_true rfl, Nat.le_of_ble_eq_true rfl⟩ dX5_endlessSum_3) ?_
  refine xj_iload hC dX5_endlessSum_6 4 rfl ?_
  refine xj_dia (cnd := v2 = a4) (x := 0) (y := 1) (pc2 := 16) (st2 := []) (fun hc hk => ?_) (fun hc hk => ?_) ?_
  · exact xj_ic_eq (tgt := 15) hC dX5_endlessSum_8 (by decide) (fun _ => xj_iconst (v := 0) hC dX5_endlessSum_15 (by decide) hk) (fun hn => absurd hc hn)
  · exact xj_ic_eq (tgt := 15) hC dX5_endlessSum_8 (by decide) (fun hn => absurd hn hc) (fun _ => xj_iconst (v := 1) hC dX5_endlessSum_11 (by decide) (xj_goto (tgt := 16) hC dX5_endlessSum_12 (by decide) hk))
  refine xj_istore (lv' := [(5, xI (if v2 = a4 then (0 : Int32) else (1 : Int32))), (0, xR th), (1, xI a1), (2, xI a2), (3, xI a3), (4, xI a4)]) hC dX5_endlessSum_16 (by decide) rfl ?_
  refine xj_aload_n hC dX5_endlessSum_18 rfl 1 rfl ?_
  refine xj_iload_n hC dX5_endlessSum_19 rfl 2 rfl ?_
  refine xj_iload_n hC dX5_endlessSum_20 rfl 3 rfl ?_
  obtain ⟨v4, hc3, hf⟩ := xm_bind hf
  obtain ⟨_, hob, _⟩ := xm_bind hc3
  refine xj_reti (xr_V hC (mX5_isEndless l D ks b hc3) hob rfl xw_cod_X5_isEndless xw_ini_X5 xw_ins_X5_isEndless xw_sel_X5_isEndless xw_ml_X5_200 xds_X5_isEndless ⟨Nat.le_of_ble_eq_true rfl, Nat.le_of_ble_eq_true rfl⟩ rfl rfl (Nat.le_of_ble_eq_true rfl) ⟨Nat.le_of_ble_eq_true rfl, Nat.le_of_ble_eq_true rfl⟩ dX5_endlessSum_21) ?_
  refine xb_if_eq (tgt := 53) hC dX5_endlessSum_24 (by decide) hf (fun hf => ?_) (fun hf => ?_)
  · refine xj_lv [1, 2, 3, 0] rfl ?_
    exact lX5_endlessSum_L53 hC hr  w (th) (a1) (a2) ((if v2 = a4 then (0 : Int32) else (1 : Int32)))  hf
  · refine xj_aload_n hC dX5_endlessSum_27 rfl 1 rfl ?_
    refine xj_iload_n hC dX5_endlessSum_28 rfl 2 rfl ?_
    refine xj_iload_n hC dX5_endlessSum_29 rfl 4 rfl ?_
    obtain ⟨v6, hc5, hf⟩ := xm_bind hf
    obtain ⟨_, hob, _⟩ := xm_bind hc5
    refine xj_reti (xr_V hC (mX5_isEndless l D ks b hc5) hob rfl xw_cod_X5_isEndless xw_ini_X5 xw_ins_X5_isEndless xw_sel_X5_isEndless xw_ml_X5_200 xds_X5_isEndless ⟨Nat.le_of_ble_eq_true rfl, Nat.le_of_ble_eq_true rfl⟩ rfl rfl (Nat.le_of_ble_eq_true rfl) ⟨Nat.le_of_ble_eq_true rfl, Nat.le_of_ble_eq_true rfl⟩ dX5_endlessSum_30) ?_
    refine xb_if_eq (tgt := 53) hC dX5_endlessSum_33 (by decide) hf (fun hf => ?_) (fun hf => ?_)
    · refine xj_lv [1, 2, 3, 0] rfl ?_
      exact lX5_endlessSum_L53 hC hr  w (th) (a1) (a2) ((if v2 = a4 then (0 : Int32) else (1 : Int32)))  hf
    · refine xj_aload_n hC dX5_endlessSum_36 rfl 1 rfl ?_
      refine xj_iload_n hC dX5_endlessSum_37 rfl 2 rfl ?_
      refine xj_iload_n hC dX5_endlessSum_38 rfl 3 rfl ?_
      obtain ⟨v8, hc7, hf⟩ := xm_bind hf
      obtain ⟨_, hob, _⟩ := xm_bind hc7
      refine xj_reti (xr_V hC (mX5_isMinus l D ks b hc7) hob rfl xw_cod_X5_isMinus xw_ini_X5 xw_ins_X5_isMinus xw_sel_X5_isMinus xw_ml_X5_96 xds_X5_isMinus ⟨Nat.le_of_ble_eq_true rfl, Nat.le_of_ble_eq_true rfl⟩ rfl rfl (Nat.le_of_ble_eq_true rfl) ⟨Nat.le_of_ble_eq_true rfl, Nat.le_of_ble_eq_true rfl⟩ dX5_endlessSum_39) ?_
      refine xj_iload hC dX5_endlessSum_42 0 rfl ?_
      refine xb_ic_eq (tgt := 53) hC dX5_endlessSum_44 (by decide) hf (fun hf => ?_) (fun hf => ?_)
      · refine xj_lv [1, 2, 3, 0] rfl ?_
        exact lX5_endlessSum_L53 hC hr  w (th) (a1) (a2) ((if v2 = a4 then (0 : Int32) else (1 : Int32)))  hf
      · refine xj_aload_n hC dX5_endlessSum_47 rfl 1 rfl ?_
        refine xj_iload_n hC dX5_endlessSum_48 rfl 2 rfl ?_
        obtain ⟨v10, w11, hc9, hf⟩ := xm_b2 hf
        obtain ⟨_, hob, _⟩ := xm_bind hc9
        refine xj_reti (xr_V hC (mX5_invalidIn l D ks b hc9) hob rfl xw_cod_X5_invalidIn xw_ini_X5 xw_ins_X5_invalidIn xw_sel_X5_invalidIn xw_ml_X5_189 xds_X5_invalidIn ⟨Nat.le_of_ble_eq_true rfl, Nat.le_of_ble_eq_true rfl⟩ rfl rfl (Nat.le_of_ble_eq_true rfl) ⟨Nat.le_of_ble_eq_true rfl, Nat.le_of_ble_eq_true rfl⟩ dX5_endlessSum_49) ?_
        obtain ⟨he, hw⟩ := Prod.mk.inj (Option.some.inj hf)
        exact xj_iret hC hr (by decide) (by decide) dX5_endlessSum_52 he hw
def fX5_summed_L111 (w : xmW) (p0 : (Option Nat)) (p1 : Int32) (p4 : Int32) (p6 : Int64) (p8 : Int64) (p10 : Int32) (s0 : Int32) : Option (Int32 × xmW) := (if s0 = 0 then (xmb2 (fX5_roundedFraction w (p0) (p1) ((p6 + p8)) ((1 : Int64)) (p4) ((if p4 = (3 : Int32) then (1 : Int32) else (0 : Int32)))) fun v26 w27 => (some (v26, w27))) else (xmb2 (fX5_roundedFraction w (p0) (p1) ((p6 + p8)) ((1 : Int64)) (p4) (p10)) fun v29 w30 => (some (v29, w30))))
set_option maxHeartbeats 4000000 in
set_option maxRecDepth 100000 in
theorem lX5_summed_L111 {p : Program} {l : Launch} {e : Env} {s : State} {m : MethodId} {args : Array Value} {below : List Frame} {meth : Method} {c : Code} {D : va_G} {ks : Nat → ClassId} {b : Nat} (hC : xmC p s m args meth c D ks b 12 cX5_summed RX5) (hr : meth.sig.returnType = (some (FieldType.int))) {y : Int32} {wz : xmW} (w : xmW) (p0 : (Option Nat)) (p1 : Int32) (p4 : Int32) (p6 : Int64) (p8 : Int64) (p10 : Int32) (s0 : Int32) (hf : fX5_summed_L111 w p0 p1 p4 p6 p8 p10 s0 = some (y, wz)) : xmJ p l e ({ frames := 6, cells := 0, slots := 0, locals := 147 } : Room) s m args below meth c D ks b 12 (MQ below (xmQ D ks b (some (xI y)) wz) args s 0 0 (xmA b)) w 0 0 111 [(0, xR p0), (1, xI p1), (4, xI p4), (6, xL p6), (8, xL p8), (10, xI p10)] [xI s0] := by
  unfold fX5_summed_L111 at hf
  refine xj_istore (lv' := [(11, xI s0), (0, xR p0), (1, xI p1), (4, xI p4), (6, xL p6), (8, xL p8), (10, xI p10)]) hC dX5_summed_111 (by decide) rfl ?_
  refine xj_aload_n hC dX5_summed_113 rfl 1 rfl ?_
  refine xj_iload_n hC dX5_summed_114 rfl 2 rfl ?_
  refine xj_lload hC dX5_summed_115 4 rfl ?_
  refine xj_lload hC dX5_summed_117 5 rfl ?_
  refine xj_ladd hC dX5_summed_119 ?_
  refine xj_lconst (v := 1) hC dX5_summed_120 (by decide) ?_
  refine xj_iload hC dX5_summed_121 3 rfl ?_
  refine xj_iload hC dX5_summed_123 0 rfl ?_
  refine xb_if_eq (tgt := 133) hC dX5_summed_125 (by decide) hf (fun hf => ?_) (fun hf => ?_)
  · refine xj_iload hC dX5_summed_133 3 rfl ?_
    refine xj_iconst (v := 3) hC dX5_summed_135 (by decide) ?_
    refine xj_dia (cnd := p4 = (3 : Int32)) (x := 1) (y := 0) (pc2 := 144) (st2 := [xI p4, xL (1 : Int64), xL (p6 + p8), xI p1, xR p0]) (fun hc hk => ?_) (fun hc hk => ?_) ?_
    · exact xj_ic_ne (tgt := 143) hC dX5_summed_136 (by decide) (fun hn => absurd hc hn) (fun _ => xj_iconst (v := 1) hC dX5_summed_139 (by decide) (xj_goto (tgt := 144) hC dX5_summed_140 (by decide) hk))
    · exact xj_ic_ne (tgt := 143) hC dX5_summed_136 (by decide) (fun _ => xj_iconst (v := 0) hC dX5_summed_143 (by decide) hk) (fun hn => absurd hn hc)
    obtain ⟨v26, w27, hc25, hf⟩ := xm_b2 hf
    obtain ⟨_, hob, _⟩ := xm_bind hc25
    refine xj_reti (xr_V hC (mX5_roundedFraction l D ks b hc25) hob rfl xw_cod_X5_roundedFraction xw_ini_X5 xw_ins_X5_roundedFraction xw_sel_X5_roundedFraction xw_ml_X5_179 xds_X5_roundedFraction ⟨Nat.le_of_ble_eq_true rfl, Nat.le_of_ble_eq_true rfl⟩ rfl rfl (Nat.le_of_ble_eq_true rfl) ⟨Nat.le_of_ble_eq_true rfl, Nat.le_of_ble_eq_true rfl⟩ dX5_summed_144) ?_
    obtain ⟨he, hw⟩ := Prod.mk.inj (Option.some.inj hf)
    exact xj_iret hC hr (by decide) (by decide) dX5_summed_147 he hw
  · refine xj_iload hC dX5_summed_128 6 rfl ?_
    refine xj_goto (tgt := 144) hC dX5_summed_130 (by decide) ?_
    obtain ⟨v29, w30, hc28, hf⟩ := xm_b2 hf
    obtain ⟨_, hob, _⟩ := xm_bind hc28
    refine xj_reti (xr_V hC (mX5_roundedFraction l D ks b hc28) hob rfl xw_cod_X5_roundedFraction xw_ini_X5 xw_ins_X5_roundedFraction xw_sel_X5_roundedFraction xw_ml_X5_179 xds_X5_roundedFraction ⟨Nat.le_of_ble_eq_true rfl, Nat.le_of_ble_eq_true rfl⟩ rfl rfl (Nat.le_of_ble_eq_true rfl) ⟨Nat.le_of_ble_eq_true rfl, Nat.le_of_ble_eq_true rfl⟩ dX5_summed_144) ?_
    obtain ⟨he, hw⟩ := Prod.mk.inj (Option.some.inj hf)
    exact xj_iret hC hr (by decide) (by decide) dX5_summed_147 he hw
def fX5_summed_L110 (w : xmW) (p0 : (Option Nat)) (p1 : Int32) (p4 : Int32) (p6 : Int64) (p8 : Int64) (p10 : Int32) : Option (Int32 × xmW) := (fX5_summed_L111 w (p0) (p1) (p4) (p6) (p8) (p10) ((0 : Int32)))
set_option maxHeartbeats 4000000 in
set_option maxRecDepth 100000 in
theorem lX5_summed_L110 {p : Program} {l : Launch} {e : Env} {s : State} {m : MethodId} {args : Array Value} {below : List Frame} {meth : Method} {c : Code} {D : va_G} {ks : Nat → ClassId} {b : Nat} (hC : xmC p s m args meth c D ks b 12 cX5_summed RX5) (hr : meth.sig.returnType = (some (FieldType.int))) {y : Int32} {wz : xmW} (w : xmW) (p0 : (Option Nat)) (p1 : Int32) (p4 : Int32) (p6 : Int64) (p8 : Int64) (p10 : Int32) (hf : fX5_summed_L110 w p0 p1 p4 p6 p8 p10 = some (y, wz)) : xmJ p l e ({ frames := 6, cells := 0, slots := 0, locals := 147 } : Room) s m args below meth c D ks b 12 (MQ below (xmQ D ks b (some (xI y)) wz) args s 0 0 (xmA b)) w 0 0 110 [(0, xR p0), (1, xI p1), (4, xI p4), (6, xL p6), (8, xL p8), (10, xI p10)] [] := by
  unfold fX5_summed_L110 at hf
  refine xj_iconst (v := 0) hC dX5_summed_110 (by decide) ?_
  exact lX5_summed_L111 hC hr  w (p0) (p1) (p4) (p6) (p8) (p10) ((0 : Int32)) hf
def fX5_summed_L57 (w : xmW) (p0 : (Option Nat)) (p1 : Int32) (p2 : Int32) (p3 : Int32) (p4 : Int32) (p5 : Int32) (p6 : Int64) (s0 : Int64) : Option (Int32 × xmW) := ((fX5_isMinus w (p0) (p1) (p3)).bind fun v18 => ((fX5_plain w (p0) (p1) (p2)).bind fun v20 => (if v20 = 0 then ((fX5_plain w (p0) (p1) (p3)).bind fun v22 => (if v22 = 0 then ((fX5_isMinus w (p0) (p1) (p2)).bind fun v24 => (fX5_summed_L111 w (p0) (p1) (p4) (p6) (s0) ((if v18 = p5 then (0 : Int32) else (1 : Int32))) ((if v24 = (if v18 = p5 then (0 : Int32) else (1 : Int32)) then (1 : Int32) else (0 : Int32))))) else (fX5_summed_L110 w (p0) (p1) (p4) (p6) (s0) ((if v18 = p5 then (0 : Int32) else (1 : Int32))) ))) else (fX5_summed_L110 w (p0) (p1) (p4) (p6) (s0) ((if v18 = p5 then (0 : Int32) else (1 : Int32))) ))))
set_option maxHeartbeats 4000000 in
set_option maxRecDepth 100000 in
theorem lX5_summed_L57 {p : Program} {l : Launch} {e : Env} {s : State} {m : MethodId} {args : Array Value} {below : List Frame} {meth : Method} {c : Code} {D : va_G} {ks : Nat → ClassId} {b : Nat} (hC : xmC p s m args meth c D ks b 12 cX5_summed RX5) (hr : meth.sig.returnType = (some (FieldType.int))) {y : Int32} {wz : xmW} (w : xmW) (p0 : (Option Nat)) (p1 : Int32) (p2 : Int32) (p3 : Int32) (p4 : Int32) (p5 : Int32) (p6 : Int64) (s0 : Int64) (hf : fX5_summed_L57 w p0 p1 p2 p3 p4 p5 p6 s0 = some (y, wz)) : xmJ p l e ({ frames := 6, cells := 0, slots := 0, locals := 147 } : Room) s m args below meth c D ks b 12 (MQ below (xmQ D ks b (some (xI y)) wz) args s 0 0 (xmA b)) w 0 0 57 [(0, xR p0), (1, xI p1), (2, xI p2), (3, xI p3), (4, xI p4), (5, xI p5), (6, xL p6)] [xL s0] := by
  unfold fX5_summed_L57 at hf
  refine xj_lstore (lv' := [(8, xL s0), (0, xR p0), (1, xI p1), (2, xI p2), (3, xI p3), (4, xI p4), (5, xI p5), (6, xL p6)]) hC dX5_summed_57 (by decide) rfl ?_
  refine xj_aload_n hC dX5_summed_59 rfl 1 rfl ?_
  refine xj_iload_n hC dX5_summed_60 rfl 2 rfl ?_
  refine xj_iload_n hC dX5_summed_61 rfl 4 rfl ?_
  obtain ⟨v18, hc17, hf⟩ := xm_bind hf
  obtain ⟨_, hob, _⟩ := xm_bind hc17
  refine xj_reti (xr_V hC (mX5_isMinus l D ks b hc17) hob rfl xw_cod_X5_isMinus xw_ini_X5 xw_ins_X5_isMinus xw_sel_X5_isMinus xw_ml_X5_96 xds_X5_isMinus ⟨Nat.le_of_ble_eq_true rfl, Nat.le_of_ble_eq_true rfl⟩ rfl rfl (Nat.le_of_ble_eq_true rfl) ⟨Nat.le_of_ble_eq_true rfl, Nat.le_of_ble_eq_true rfl⟩ dX5_summed_62) ?_
  refine xj_iload hC dX5_summed_65 6 rfl ?_
  refine xj_dia (cnd := v18 = p5) (x := 0) (y := 1) (pc2 := 75) (st2 := []) (fun hc hk => ?_) (fun hc hk => ?_) ?_
  · exact xj_ic_eq (tgt := 74) hC dX5_summed_67 (by decide) (fun _ => xj_iconst (v := 0) hC dX5_summed_74 (by decide) hk) (fun hn => absurd hc hn)
  · exact xj_ic_eq (tgt := 74) hC dX5_summed_67 (by decide) (fun hn => absurd hn hc) (fun _ => xj_iconst (v := 1) hC dX5_summed_70 (by decide) (xj_goto (tgt := 75) hC dX5_summed_71 (by decide) hk))
  refine xj_istore (lv' := [(10, xI (if v18 = p5 then (0 : Int32) else (1 : Int32))), (8, xL s0), (0, xR p0), (1, xI p1), (2, xI p2), (3, xI p3), (4, xI p4), (5, xI p5), (6, xL p6)]) hC dX5_summed_75 (by decide) rfl ?_
  refine xj_aload_n hC dX5_summed_77 rfl 2 rfl ?_
  refine xj_iload_n hC dX5_summed_78 rfl 3 rfl ?_
  refine xj_iload_n hC dX5_summed_79 rfl 4 rfl ?_
  obtain ⟨v20, hc19, hf⟩ := xm_bind hf
  obtain ⟨_, hob, _⟩ := xm_bind hc19
  refine xj_reti (xr_V hC (mX5_plain l D ks b hc19) hob rfl xw_cod_X5_plain xw_ini_X5 xw_ins_X5_plain xw_sel_X5_plain xw_ml_X5_80 xds_X5_plain ⟨Nat.le_of_ble_eq_true rfl, Nat.le_of_ble_eq_true rfl⟩ rfl rfl (Nat.le_of_ble_eq_true rfl) ⟨Nat.le_of_ble_eq_true rfl, Nat.le_of_ble_eq_true rfl⟩ dX5_summed_80) ?_
  refine xb_if_ne (tgt := 110) hC dX5_summed_83 (by decide) hf (fun hf => ?_) (fun hf => ?_)
  · refine xj_lv [2, 3, 6, 8, 1, 0] rfl ?_
    exact lX5_summed_L110 hC hr  w (p0) (p1) (p4) (p6) (s0) ((if v18 = p5 then (0 : Int32) else (1 : Int32)))  hf
  · refine xj_aload_n hC dX5_summed_86 rfl 2 rfl ?_
    refine xj_iload_n hC dX5_summed_87 rfl 3 rfl ?_
    refine xj_iload_n hC dX5_summed_88 rfl 5 rfl ?_
    obtain ⟨v22, hc21, hf⟩ := xm_bind hf
    obtain ⟨_, hob, _⟩ := xm_bind hc21
    refine xj_reti (xr_V hC (mX5_plain l D ks b hc21) hob rfl xw_cod_X5_plain xw_ini_X5 xw_ins_X5_plain xw_sel_X5_plain xw_ml_X5_80 xds_X5_plain ⟨Nat.le_of_ble_eq_true rfl, Nat.le_of_ble_eq_true rfl⟩ rfl rfl (Nat.le_of_ble_eq_true rfl) ⟨Nat.le_of_ble_eq_true rfl, Nat.le_of_ble_eq_true rfl⟩ dX5_summed_89) ?_
    refine xb_if_ne (tgt := 110) hC dX5_summed_92 (by decide) hf (fun hf => ?_) (fun hf => ?_)
    · refine xj_lv [2, 3, 6, 8, 1, 0] rfl ?_
      exact lX5_summed_L110 hC hr  w (p0) (p1) (p4) (p6) (s0) ((if v18 = p5 then (0 : Int32) else (1 : Int32)))  hf
    · refine xj_aload_n hC dX5_summed_95 rfl 2 rfl ?_
      refine xj_iload_n hC dX5_summed_96 rfl 3 rfl ?_
      refine xj_iload_n hC dX5_summed_97 rfl 4 rfl ?_
      obtain ⟨v24, hc23, hf⟩ := xm_bind hf
      obtain ⟨_, hob, _⟩ := xm_bind hc23
      refine xj_reti (xr_V hC (mX5_isMinus l D ks b hc23) hob rfl xw_cod_X5_isMinus xw_ini_X5 xw_ins_X5_isMinus xw_sel_X5_isMinus xw_ml_X5_96 xds_X5_isMinus ⟨Nat.le_of_ble_eq_true rfl, Nat.le_of_ble_eq_true rfl⟩ rfl rfl (Nat.le_of_ble_eq_true rfl) ⟨Nat.le_of_ble_eq_true rfl, Nat.le_of_ble_eq_true rfl⟩ dX5_summed_98) ?_
      refine xj_iload hC dX5_summed_101 0 rfl ?_
      refine xj_dia (cnd := v24 = (if v18 = p5 then (0 : Int32) else (1 : Int32))) (x := 1) (y := 0) (pc2 := 111) (st2 := []) (fun hc hk => ?_) (fun hc hk => ?_) ?_
      · exact xj_ic_ne (tgt := 110) hC dX5_summed_103 (by decide) (fun hn => absurd hc hn) (fun _ => xj_iconst (v := 1) hC dX5_summed_106 (by decide) (xj_goto (tgt := 111) hC dX5_summed_107 (by decide) hk))
      · exact xj_ic_ne (tgt := 110) hC dX5_summed_103 (by decide) (fun _ => xj_iconst (v := 0) hC dX5_summed_110 (by decide) hk) (fun hn => absurd hn hc)
      refine xj_lv [2, 3, 6, 8, 1, 0] rfl ?_
      exact lX5_summed_L111 hC hr  w (p0) (p1) (p4) (p6) (s0) ((if v18 = p5 then (0 : Int32) else (1 : Int32))) ((if v24 = (if v18 = p5 then (0 : Int32) else (1 : Int32)) then (1 : Int32) else (0 : Int32))) hf
def fX5_summed (w : xmW) (th : (Option Nat)) (a1 : Int32) (a2 : Int32) (a3 : Int32) (a4 : Int32) (a5 : Int32) : Option (Int32 × xmW) := ((xmob w th 5).bind fun _ => ((fX5_isEndless w (th) (a1) (a2)).bind fun v2 => (if v2 = 0 then ((fX5_isEndless w (th) (a1) (a3)).bind fun v7 => (if v7 = 0 then ((fX5_unitsOf w (th) (a1) (a2)).bind fun v9 => (if a5 = 0 then ((fX5_unitsOf w (th) (a1) (a3)).bind fun v11 => (fX5_summed_L57 w (th) (a1) (a2) (a3) (a4) (a5) (v9) (v11))) else ((fX5_unitsOf w (th) (a1) (a3)).bind fun v13 => (fX5_summed_L57 w (th) (a1) (a2) (a3) (a4) (a5) (v9) ((-v13)))))) else (xmb2 (fX5_endlessSum w (th) (a1) (a2) (a3) (a5)) fun v15 w16 => (some (v15, w16))))) else (xmb2 (fX5_endlessSum w (th) (a1) (a2) (a3) (a5)) fun v4 w5 => (some (v4, w5))))))
set_option maxHeartbeats 4000000 in
set_option maxRecDepth 100000 in
theorem mX5_summed (l : Launch) (D : va_G) (ks : Nat → ClassId) (b : Nat) {w : xmW} {th : (Option Nat)} {a1 : Int32} {a2 : Int32} {a3 : Int32} {a4 : Int32} {a5 : Int32} {y : Int32} {wz : xmW} (hf : fX5_summed w th a1 a2 a3 a4 a5 = some (y, wz)) : xmM l yX5_summed (Cond.code yX5_summed cX5_summed 12 (some (FieldType.int)) :: xmTs) 6 147 0 0 D ks b w [xR th, xI a1, xI a2, xI a3, xI a4, xI a5] (some (xI y)) wz := by
  unfold fX5_summed at hf
  obtain ⟨_, _, hf⟩ := xm_bind hf
  refine xmM.of (own := RX5) (lv0 := [(0, xR th), (1, xI a1), (2, xI a2), (3, xI a3), (4, xI a4), (5, xI a5)]) (by decide) rfl (Nat.le_of_ble_eq_true rfl) rfl ?_
  intro p e s m args below meth c hC hr hnm
  refine xj_aload_n hC dX5_summed_0 rfl 0 rfl ?_
  refine xj_iload_n hC dX5_summed_1 rfl 1 rfl ?_
  refine xj_iload_n hC dX5_summed_2 rfl 2 rfl ?_
  obtain ⟨v2, hc1, hf⟩ := xm_bind hf
  obtain ⟨_, hob, _⟩ := xm_bind hc1
  refine xj_reti (xr_V hC (mX5_isEndless l D ks b hc1) hob rfl xw_cod_X5_isEndless xw_ini_X5 xw_ins_X5_isEndless xw_sel_X5_isEndless xw_ml_X5_200 xds_X5_isEndless ⟨Nat.le_of_ble_eq_true rfl, Nat.le_of_ble_eq_true rfl⟩ rfl rfl (Nat.le_of_ble_eq_true rfl) ⟨Nat.le_of_ble_eq_true rfl, Nat.le_of_ble_eq_true rfl⟩ dX5_summed_3) ?_
  refine xb_if_ne (tgt := 18) hC dX5_summed_6 (by decide) hf (fun hf => ?_) (fun hf => ?_)
  · refine xj_aload_n hC dX5_summed_18 rfl 0 rfl ?_
    refine xj_iload_n hC dX5_summed_19 rfl 1 rfl ?_
    refine xj_iload_n hC dX5_summed_20 rfl 2 rfl ?_
    refine xj_iload_n hC dX5_summed_21 rfl 3 rfl ?_
    refine xj_iload hC dX5_summed_22 5 rfl ?_
    obtain ⟨v4, w5, hc3, hf⟩ := xm_b2 hf
    obtain ⟨_, hob, _⟩ := xm_bind hc3
    refine xj_reti (xr_V hC (mX5_endlessSum l D ks b hc3) hob rfl xw_cod_X5_endlessSum xw_ini_X5 xw_ins_X5_endlessSum xw_sel_X5_endlessSum xw_ml_X5_206 xds_X5_endlessSum ⟨Nat.le_of_ble_eq_true rfl, Nat.le_of_ble_eq_true rfl⟩ rfl rfl (Nat.le_of_ble_eq_true rfl) ⟨Nat.le_of_ble_eq_true rfl, Nat.le_of_ble_eq_true rfl⟩ dX5_summed_24) ?_
    obtain ⟨he, hw⟩ := Prod.mk.inj (Option.some.inj hf)
    exact xj_iret hC hr (by decide) (by decide) dX5_summed_27 he hw
  · refine xj_aload_n hC dX5_summed_9 rfl 0 rfl ?_
    refine xj_iload_n hC dX5_summed_10 rfl 1 rfl ?_
    refine xj_iload_n hC dX5_summed_11 rfl 3 rfl ?_
    obtain ⟨v7, hc6, hf⟩ := xm_bind hf
    obtain ⟨_, hob, _⟩ := xm_bind hc6
    refine xj_reti (xr_V hC (mX5_isEndless l D ks b hc6) hob rfl xw_cod_X5_isEndless xw_ini_X5 xw_ins_X5_isEndless xw_sel_X5_isEndless xw_ml_X5_200 xds_X5_isEndless ⟨Nat.le_of_ble_eq_true rfl, Nat.le_of_ble_eq_true rfl⟩ rfl rfl (Nat.le_of_ble_eq_true rfl) ⟨Nat.le_of_ble_eq_true rfl, Nat.le_of_ble_eq_true rfl⟩ dX5_summed_12) ?_
    refine xb_if_eq (tgt := 28) hC dX5_summed_15 (by decide) hf (fun hf => ?_) (fun hf => ?_)
    · refine xj_aload_n hC dX5_summed_28 rfl 0 rfl ?_
      refine xj_iload_n hC dX5_summed_29 rfl 1 rfl ?_
      refine xj_iload_n hC dX5_summed_30 rfl 2 rfl ?_
      obtain ⟨v9, hc8, hf⟩ := xm_bind hf
      obtain ⟨_, hob, _⟩ := xm_bind hc8
      refine xj_retl (xr_V hC (mX5_unitsOf l D ks b hc8) hob rfl xw_cod_X5_unitsOf xw_ini_X5 xw_ins_X5_unitsOf xw_sel_X5_unitsOf xw_ml_X5_135 xds_X5_unitsOf ⟨Nat.le_of_ble_eq_true rfl, Nat.le_of_ble_eq_true rfl⟩ rfl rfl (Nat.le_of_ble_eq_true rfl) ⟨Nat.le_of_ble_eq_true rfl, Nat.le_of_ble_eq_true rfl⟩ dX5_summed_31) ?_
      refine xj_lstore (lv' := [(6, xL v9), (0, xR th), (1, xI a1), (2, xI a2), (3, xI a3), (4, xI a4), (5, xI a5)]) hC dX5_summed_34 (by decide) rfl ?_
      refine xj_iload hC dX5_summed_36 6 rfl ?_
      refine xb_if_eq (tgt := 51) hC dX5_summed_38 (by decide) hf (fun hf => ?_) (fun hf => ?_)
      · refine xj_aload_n hC dX5_summed_51 rfl 1 rfl ?_
        refine xj_iload_n hC dX5_summed_52 rfl 2 rfl ?_
        refine xj_iload_n hC dX5_summed_53 rfl 4 rfl ?_
        obtain ⟨v11, hc10, hf⟩ := xm_bind hf
        obtain ⟨_, hob, _⟩ := xm_bind hc10
        refine xj_retl (xr_V hC (mX5_unitsOf l D ks b hc10) hob rfl xw_cod_X5_unitsOf xw_ini_X5 xw_ins_X5_unitsOf xw_sel_X5_unitsOf xw_ml_X5_135 xds_X5_unitsOf ⟨Nat.le_of_ble_eq_true rfl, Nat.le_of_ble_eq_true rfl⟩ rfl rfl (Nat.le_of_ble_eq_true rfl) ⟨Nat.le_of_ble_eq_true rfl, Nat.le_of_ble_eq_true rfl⟩ dX5_summed_54) ?_
        refine xj_lv [1, 2, 3, 4, 5, 6, 0] rfl ?_
        exact lX5_summed_L57 hC hr  w (th) (a1) (a2) (a3) (a4) (a5) (v9) (v11) hf
      · refine xj_aload_n hC dX5_summed_41 rfl 1 rfl ?_
        refine xj_iload_n hC dX5_summed_42 rfl 2 rfl ?_
        refine xj_iload_n hC dX5_summed_43 rfl 4 rfl ?_
        obtain ⟨v13, hc12, hf⟩ := xm_bind hf
        obtain ⟨_, hob, _⟩ := xm_bind hc12
        refine xj_retl (xr_V hC (mX5_unitsOf l D ks b hc12) hob rfl xw_cod_X5_unitsOf xw_ini_X5 xw_ins_X5_unitsOf xw_sel_X5_unitsOf xw_ml_X5_135 xds_X5_unitsOf ⟨Nat.le_of_ble_eq_true rfl, Nat.le_of_ble_eq_true rfl⟩ rfl rfl (Nat.le_of_ble_eq_true rfl) ⟨Nat.le_of_ble_eq_true rfl, Nat.le_of_ble_eq_true rfl⟩ dX5_summed_44) ?_
        refine xj_lneg hC dX5_summed_47 ?_
        refine xj_goto (tgt := 57) hC dX5_summed_48 (by decide) ?_
        refine xj_lv [1, 2, 3, 4, 5, 6, 0] rfl ?_
        exact lX5_summed_L57 hC hr  w (th) (a1) (a2) (a3) (a4) (a5) (v9) ((-v13)) hf
    · refine xj_aload_n hC dX5_summed_18 rfl 0 rfl ?_
      refine xj_iload_n hC dX5_summed_19 rfl 1 rfl ?_
      refine xj_iload_n hC dX5_summed_20 rfl 2 rfl ?_
      refine xj_iload_n hC dX5_summed_21 rfl 3 rfl ?_
      refine xj_iload hC dX5_summed_22 5 rfl ?_
      obtain ⟨v15, w16, hc14, hf⟩ := xm_b2 hf
      obtain ⟨_, hob, _⟩ := xm_bind hc14
      refine xj_reti (xr_V hC (mX5_endlessSum l D ks b hc14) hob rfl xw_cod_X5_endlessSum xw_ini_X5 xw_ins_X5_endlessSum xw_sel_X5_endlessSum xw_ml_X5_206 xds_X5_endlessSum ⟨Nat.le_of_ble_eq_true rfl, Nat.le_of_ble_eq_true rfl⟩ rfl rfl (Nat.le_of_ble_eq_true rfl) ⟨Nat.le_of_ble_eq_true rfl, Nat.le_of_ble_eq_true rfl⟩ dX5_summed_24) ?_
      obtain ⟨he, hw⟩ := Prod.mk.inj (Option.some.inj hf)
      exact xj_iret hC hr (by decide) (by decide) dX5_summed_27 he hw
def fX5_multiplied_L40 (w : xmW) (p0 : (Option Nat)) (p1 : Int32) (p2 : Int32) (p3 : Int32) (p5 : Int32) : Option (Int32 × xmW) := ((fX5_plain w (p0) (p1) (p2)).bind fun v19 => (if v19 = 0 then (xmb2 (fX5_invalidIn w (p0) (p1)) fun v21 w22 => (some (v21, w22))) else ((fX5_plain w (p0) (p1) (p3)).bind fun v24 => (if v24 = 0 then (xmb2 (fX5_invalidIn w (p0) (p1)) fun v28 w29 => (some (v28, w29))) else ((fX5_endlessOr w (p0) (p1) (p5)).bind fun v26 => (some (v26, w)))))))
set_option maxHeartbeats 4000000 in
set_option maxRecDepth 100000 in
theorem lX5_multiplied_L40 {p : Program} {l : Launch} {e : Env} {s : State} {m : MethodId} {args : Array Value} {below : List Frame} {meth : Method} {c : Code} {D : va_G} {ks : Nat → ClassId} {b : Nat} (hC : xmC p s m args meth c D ks b 6 cX5_multiplied RX5) (hr : meth.sig.returnType = (some (FieldType.int))) {y : Int32} {wz : xmW} (w : xmW) (p0 : (Option Nat)) (p1 : Int32) (p2 : Int32) (p3 : Int32) (p5 : Int32) (hf : fX5_multiplied_L40 w p0 p1 p2 p3 p5 = some (y, wz)) : xmJ p l e ({ frames := 6, cells := 0, slots := 0, locals := 147 } : Room) s m args below meth c D ks b 6 (MQ below (xmQ D ks b (some (xI y)) wz) args s 0 0 (xmA b)) w 0 0 40 [(0, xR p0), (1, xI p1), (2, xI p2), (3, xI p3), (5, xI p5)] [] := by
  unfold fX5_multiplied_L40 at hf
  refine xj_aload_n hC dX5_multiplied_40 rfl 0 rfl ?_
  refine xj_iload_n hC dX5_multiplied_41 rfl 1 rfl ?_
  refine xj_iload_n hC dX5_multiplied_42 rfl 2 rfl ?_
  obtain ⟨v19, hc18, hf⟩ := xm_bind hf
  obtain ⟨_, hob, _⟩ := xm_bind hc18
  refine xj_reti (xr_V hC (mX5_plain l D ks b hc18) hob rfl xw_cod_X5_plain xw_ini_X5 xw_ins_X5_plain xw_sel_X5_plain xw_ml_X5_80 xds_X5_plain ⟨Nat.le_of_ble_eq_true rfl, Nat.le_of_ble_eq_true rfl⟩ rfl rfl (Nat.le_of_ble_eq_true rfl) ⟨Nat.le_of_ble_eq_true rfl, Nat.le_of_ble_eq_true rfl⟩ dX5_multiplied_43) ?_
  refine xb_if_eq (tgt := 58) hC dX5_multiplied_46 (by decide) hf (fun hf => ?_) (fun hf => ?_)
  · refine xj_aload_n hC dX5_multiplied_58 rfl 0 rfl ?_
    refine xj_iload_n hC dX5_multiplied_59 rfl 1 rfl ?_
    obtain ⟨v21, w22, hc20, hf⟩ := xm_b2 hf
    obtain ⟨_, hob, _⟩ := xm_bind hc20
    refine xj_reti (xr_V hC (mX5_invalidIn l D ks b hc20) hob rfl xw_cod_X5_invalidIn xw_ini_X5 xw_ins_X5_invalidIn xw_sel_X5_invalidIn xw_ml_X5_189 xds_X5_invalidIn ⟨Nat.le_of_ble_eq_true rfl, Nat.le_of_ble_eq_true rfl⟩ rfl rfl (Nat.le_of_ble_eq_true rfl) ⟨Nat.le_of_ble_eq_true rfl, Nat.le_of_ble_eq_true rfl⟩ dX5_multiplied_60) ?_
    refine xj_goto (tgt := 73) hC dX5_multiplied_63 (by decide) ?_
    obtain ⟨he, hw⟩ := Prod.mk.inj (Option.some.inj hf)
    exact xj_iret hC hr (by decide) (by decide) dX5_multiplied_73 he hw
  · refine xj_aload_n hC dX5_multiplied_49 rfl 0 rfl ?_
    refine xj_iload_n hC dX5_multiplied_50 rfl 1 rfl ?_
    refine xj_iload_n hC dX5_multiplied_51 rfl 3 rfl ?_
    obtain ⟨v24, hc23, hf⟩ := xm_bind hf
    obtain ⟨_, hob, _⟩ := xm_bind hc23
    refine xj_reti (xr_V hC (mX5_plain l D ks b hc23) hob rfl xw_cod_X5_plain xw_ini_X5 xw_ins_X5_plain xw_sel_X5_plain xw_ml_X5_80 xds_X5_plain ⟨Nat.le_of_ble_eq_true rfl, Nat.le_of_ble_eq_true rfl⟩ rfl rfl (Nat.le_of_ble_eq_true rfl) ⟨Nat.le_of_ble_eq_true rfl, Nat.le_of_ble_eq_true rfl⟩ dX5_multiplied_52) ?_
    refine xb_if_ne (tgt := 66) hC dX5_multiplied_55 (by decide) hf (fun hf => ?_) (fun hf => ?_)
    · refine xj_aload_n hC dX5_multiplied_66 rfl 0 rfl ?_
      refine xj_iload_n hC dX5_multiplied_67 rfl 1 rfl ?_
      refine xj_iload hC dX5_multiplied_68 4 rfl ?_
      obtain ⟨v26, hc25, hf⟩ := xm_bind hf
      obtain ⟨_, hob, _⟩ := xm_bind hc25
      refine xj_reti (xr_V hC (mX5_endlessOr l D ks b hc25) hob rfl xw_cod_X5_endlessOr xw_ini_X5 xw_ins_X5_endlessOr xw_sel_X5_endlessOr xw_ml_X5_203 xds_X5_endlessOr ⟨Nat.le_of_ble_eq_true rfl, Nat.le_of_ble_eq_true rfl⟩ rfl rfl (Nat.le_of_ble_eq_true rfl) ⟨Nat.le_of_ble_eq_true rfl, Nat.le_of_ble_eq_true rfl⟩ dX5_multiplied_70) ?_
      obtain ⟨he, hw⟩ := Prod.mk.inj (Option.some.inj hf)
      exact xj_iret hC hr (by decide) (by decide) dX5_multiplied_73 he hw
    · refine xj_aload_n hC dX5_multiplied_58 rfl 0 rfl ?_
      refine xj_iload_n hC dX5_multiplied_59 rfl 1 rfl ?_
      obtain ⟨v28, w29, hc27, hf⟩ := xm_b2 hf
      obtain ⟨_, hob, _⟩ := xm_bind hc27
      refine xj_reti (xr_V hC (mX5_invalidIn l D ks b hc27) hob rfl xw_cod_X5_invalidIn xw_ini_X5 xw_ins_X5_invalidIn xw_sel_X5_invalidIn xw_ml_X5_189 xds_X5_invalidIn ⟨Nat.le_of_ble_eq_true rfl, Nat.le_of_ble_eq_true rfl⟩ rfl rfl (Nat.le_of_ble_eq_true rfl) ⟨Nat.le_of_ble_eq_true rfl, Nat.le_of_ble_eq_true rfl⟩ dX5_multiplied_60) ?_
      refine xj_goto (tgt := 73) hC dX5_multiplied_63 (by decide) ?_
      obtain ⟨he, hw⟩ := Prod.mk.inj (Option.some.inj hf)
      exact xj_iret hC hr (by decide) (by decide) dX5_multiplied_73 he hw
def fX5_multiplied (w : xmW) (th : (Option Nat)) (a1 : Int32) (a2 : Int32) (a3 : Int32) (a4 : Int32) : Option (Int32 × xmW) := ((xmob w th 5).bind fun _ => ((fX5_isMinus w (th) (a1) (a2)).bind fun v2 => ((fX5_isMinus w (th) (a1) (a3)).bind fun v4 => ((fX5_isEndless w (th) (a1) (a2)).bind fun v6 => (if v6 = 0 then ((fX5_isEndless w (th) (a1) (a3)).bind fun v8 => (if v8 = 0 then ((fX5_unitsOf w (th) (a1) (a2)).bind fun v10 => ((fX5_unitsOf w (th) (a1) (a3)).bind fun v12 => ((fX5_scale w (th) (a1)).bind fun v14 => (xmb2 (fX5_roundedFraction w (th) (a1) ((v10 * v12)) (((1 : Int64) <<< ((v14).toInt64 &&& 63))) (a4) ((if v2 = v4 then (0 : Int32) else (1 : Int32)))) fun v16 w17 => (some (v16, w17)))))) else (fX5_multiplied_L40 w (th) (a1) (a2) (a3) ((if v2 = v4 then (0 : Int32) else (1 : Int32))) ))) else (fX5_multiplied_L40 w (th) (a1) (a2) (a3) ((if v2 = v4 then (0 : Int32) else (1 : Int32))) ))))))
set_option maxHeartbeats 4000000 in
set_option maxRecDepth 100000 in
theorem mX5_multiplied (l : Launch) (D : va_G) (ks : Nat → ClassId) (b : Nat) {w : xmW} {th : (Option Nat)} {a1 : Int32} {a2 : Int32} {a3 : Int32} {a4 : Int32} {y : Int32} {wz : xmW} (hf : fX5_multiplied w th a1 a2 a3 a4 = some (y, wz)) : xmM l yX5_multiplied (Cond.code yX5_multiplied cX5_multiplied 6 (some (FieldType.int)) :: xmTs) 6 147 0 0 D ks b w [xR th, xI a1, xI a2, xI a3, xI a4] (some (xI y)) wz := by
  unfold fX5_multiplied at hf
  obtain ⟨_, _, hf⟩ := xm_bind hf
  refine xmM.of (own := RX5) (lv0 := [(0, xR th), (1, xI a1), (2, xI a2), (3, xI a3), (4, xI a4)]) (by decide) rfl (Nat.le_of_ble_eq_true rfl) rfl ?_
  intro p e s m args below meth c hC hr hnm
  refine xj_aload_n hC dX5_multiplied_0 rfl 0 rfl ?_
  refine xj_iload_n hC dX5_multiplied_1 rfl 1 rfl ?_
  refine xj_iload_n hC dX5_multiplied_2 rfl 2 rfl ?_
  obtain ⟨v2, hc1, hf⟩ := xm_bind hf
  obtain ⟨_, hob, _⟩ := xm_bind hc1
  refine xj_reti (xr_V hC (mX5_isMinus l D ks b hc1) hob rfl xw_cod_X5_isMinus xw_ini_X5 xw_ins_X5_isMinus xw_sel_X5_isMinus xw_ml_X5_96 xds_X5_isMinus ⟨Nat.le_of_ble_eq_true rfl, Nat.le_of_ble_eq_true rfl⟩ rfl rfl (Nat.le_of_ble_eq_true rfl) ⟨Nat.le_of_ble_eq_true rfl, Nat.le_of_ble_eq_true rfl⟩ dX5_multiplied_3) ?_
  refine xj_aload_n hC dX5_multiplied_6 rfl 0 rfl ?_
  refine xj_iload_n hC dX5_multiplied_7 rfl 1 rfl ?_
  refine xj_iload_n hC dX5_multiplied_8 rfl 3 rfl ?_
  obtain ⟨v4, hc3, hf⟩ := xm_bind hf
  obtain ⟨_, hob, _⟩ := xm_bind hc3
  refine xj_reti (xr_V hC (mX5_isMinus l D ks b hc3) hob rfl xw_cod_X5_isMinus xw_ini_X5 xw_ins_X5_isMinus xw_sel_X5_isMinus xw_ml_X5_96 xds_X5_isMinus ⟨Nat.le_of_ble_eq_true rfl, Nat.le_of_ble_eq_true rfl⟩ rfl rfl (Nat.le_of_ble_eq_true rfl) ⟨Nat.le_of_ble_eq_true rfl, Nat.le_of_ble_eq_true rfl⟩ dX5_multiplied_9) ?_
  refine xj_dia (cnd := v2 = v4) (x := 0) (y := 1) (pc2 := 20) (st2 := []) (fun hc hk => ?_) (fun hc hk => ?_) ?_
  · exact xj_ic_eq (tgt := 19) hC dX5_multiplied_12 (by decide) (fun _ => xj_iconst (v := 0) hC dX5_multiplied_19 (by decide) hk) (fun hn => absurd hc hn)
  · exact xj_ic_eq (tgt := 19) hC dX5_multiplied_12 (by decide) (fun hn => absurd hn hc) (fun _ => xj_iconst (v := 1) hC dX5_multiplied_15 (by decide) (xj_goto (tgt := 20) hC dX5_multiplied_16 (by decide) hk))
  refine xj_istore (lv' := [(5, xI (if v2 = v4 then (0 : Int32) else (1 : Int32))), (0, xR th), (1, xI a1), (2, xI a2), (3, xI a3), (4, xI a4)]) hC dX5_multiplied_20 (by decide) rfl ?_
  refine xj_aload_n hC dX5_multiplied_22 rfl 1 rfl ?_
  refine xj_iload_n hC dX5_multiplied_23 rfl 2 rfl ?_
  refine xj_iload_n hC dX5_multiplied_24 rfl 3 rfl ?_
  obtain ⟨v6, hc5, hf⟩ := xm_bind hf
  obtain ⟨_, hob, _⟩ := xm_bind hc5
  refine xj_reti (xr_V hC (mX5_isEndless l D ks b hc5) hob rfl xw_cod_X5_isEndless xw_ini_X5 xw_ins_X5_isEndless xw_sel_X5_isEndless xw_ml_X5_200 xds_X5_isEndless ⟨Nat.le_of_ble_eq_true rfl, Nat.le_of_ble_eq_true rfl⟩ rfl rfl (Nat.le_of_ble_eq_true rfl) ⟨Nat.le_of_ble_eq_true rfl, Nat.le_of_ble_eq_true rfl⟩ dX5_multiplied_25) ?_
  refine xb_if_ne (tgt := 40) hC dX5_multiplied_28 (by decide) hf (fun hf => ?_) (fun hf => ?_)
  · refine xj_lv [1, 2, 3, 4, 0] rfl ?_
    exact lX5_multiplied_L40 hC hr  w (th) (a1) (a2) (a3) ((if v2 = v4 then (0 : Int32) else (1 : Int32)))  hf
  · refine xj_aload_n hC dX5_multiplied_31 rfl 1 rfl ?_
    refine xj_iload_n hC dX5_multiplied_32 rfl 2 rfl ?_
    refine xj_iload_n hC dX5_multiplied_33 rfl 4 rfl ?_
    obtain ⟨v8, hc7, hf⟩ := xm_bind hf
    obtain ⟨_, hob, _⟩ := xm_bind hc7
    refine xj_reti (xr_V hC (mX5_isEndless l D ks b hc7) hob rfl xw_cod_X5_isEndless xw_ini_X5 xw_ins_X5_isEndless xw_sel_X5_isEndless xw_ml_X5_200 xds_X5_isEndless ⟨Nat.le_of_ble_eq_true rfl, Nat.le_of_ble_eq_true rfl⟩ rfl rfl (Nat.le_of_ble_eq_true rfl) ⟨Nat.le_of_ble_eq_true rfl, Nat.le_of_ble_eq_true rfl⟩ dX5_multiplied_34) ?_
    refine xb_if_eq (tgt := 74) hC dX5_multiplied_37 (by decide) hf (fun hf => ?_) (fun hf => ?_)
    · refine xj_aload_n hC dX5_multiplied_74 rfl 1 rfl ?_
      refine xj_iload_n hC dX5_multiplied_75 rfl 2 rfl ?_
      refine xj_aload_n hC dX5_multiplied_76 rfl 1 rfl ?_
      refine xj_iload_n hC dX5_multiplied_77 rfl 2 rfl ?_
      refine xj_iload_n hC dX5_multiplied_78 rfl 3 rfl ?_
      obtain ⟨v10, hc9, hf⟩ := xm_bind hf
      obtain ⟨_, hob, _⟩ := xm_bind hc9
      refine xj_retl (xr_V hC (mX5_unitsOf l D ks b hc9) hob rfl xw_cod_X5_unitsOf xw_ini_X5 xw_ins_X5_unitsOf xw_sel_X5_unitsOf xw_ml_X5_135 xds_X5_unitsOf ⟨Nat.le_of_ble_eq_true rfl, Nat.le_of_ble_eq_true rfl⟩ rfl rfl (Nat.le_of_ble_eq_true rfl) ⟨Nat.le_of_ble_eq_true rfl, Nat.le_of_ble_eq_true rfl⟩ dX5_multiplied_79) ?_
      refine xj_aload_n hC dX5_multiplied_82 rfl 1 rfl ?_
      refine xj_iload_n hC dX5_multiplied_83 rfl 2 rfl ?_
      refine xj_iload_n hC dX5_multiplied_84 rfl 4 rfl ?_
      obtain ⟨v12, hc11, hf⟩ := xm_bind hf
      obtain ⟨_, hob, _⟩ := xm_bind hc11
      refine xj_retl (xr_V hC (mX5_unitsOf l D ks b hc11) hob rfl xw_cod_X5_unitsOf xw_ini_X5 xw_ins_X5_unitsOf xw_sel_X5_unitsOf xw_ml_X5_135 xds_X5_unitsOf ⟨Nat.le_of_ble_eq_true rfl, Nat.le_of_ble_eq_true rfl⟩ rfl rfl (Nat.le_of_ble_eq_true rfl) ⟨Nat.le_of_ble_eq_true rfl, Nat.le_of_ble_eq_true rfl⟩ dX5_multiplied_85) ?_
      refine xj_lmul hC dX5_multiplied_88 ?_
      refine xj_lconst (v := 1) hC dX5_multiplied_89 (by decide) ?_
      refine xj_aload_n hC dX5_multiplied_90 rfl 1 rfl ?_
      refine xj_iload_n hC dX5_multiplied_91 rfl 2 rfl ?_
      obtain ⟨v14, hc13, hf⟩ := xm_bind hf
      obtain ⟨_, hob, _⟩ := xm_bind hc13
      refine xj_reti (xr_V hC (mX5_scale l D ks b hc13) hob rfl xw_cod_X5_scale xw_ini_X5 xw_ins_X5_scale xw_sel_X5_scale xw_ml_X5_127 xds_X5_scale ⟨Nat.le_of_ble_eq_true rfl, Nat.le_of_ble_eq_true rfl⟩ rfl rfl (Nat.le_of_ble_eq_true rfl) ⟨Nat.le_of_ble_eq_true rfl, Nat.le_of_ble_eq_true rfl⟩ dX5_multiplied_92) ?_
      refine xj_lshl hC dX5_multiplied_95 ?_
      refine xj_iload hC dX5_multiplied_96 5 rfl ?_
      refine xj_iload hC dX5_multiplied_98 0 rfl ?_
      obtain ⟨v16, w17, hc15, hf⟩ := xm_b2 hf
      obtain ⟨_, hob, _⟩ := xm_bind hc15
      refine xj_reti (xr_V hC (mX5_roundedFraction l D ks b hc15) hob rfl xw_cod_X5_roundedFraction xw_ini_X5 xw_ins_X5_roundedFraction xw_sel_X5_roundedFraction xw_ml_X5_179 xds_X5_roundedFraction ⟨Nat.le_of_ble_eq_true rfl, Nat.le_of_ble_eq_true rfl⟩ rfl rfl (Nat.le_of_ble_eq_true rfl) ⟨Nat.le_of_ble_eq_true rfl, Nat.le_of_ble_eq_true rfl⟩ dX5_multiplied_100) ?_
      obtain ⟨he, hw⟩ := Prod.mk.inj (Option.some.inj hf)
      exact xj_iret hC hr (by decide) (by decide) dX5_multiplied_103 he hw
    · refine xj_lv [1, 2, 3, 4, 0] rfl ?_
      exact lX5_multiplied_L40 hC hr  w (th) (a1) (a2) (a3) ((if v2 = v4 then (0 : Int32) else (1 : Int32)))  hf
def fX5_divided_L193 (w : xmW) (p4 : Int32) (p5 : Int32) (p10 : Int64) (s0 : Int64) (s1 : Int32) (s2 : (Option Nat)) : Option (Int32 × xmW) := (if 0 ≤ (lg_cmp p10 (0 : Int64)) then (xmb2 (fX5_roundedFraction w (s2) (s1) (s0) (p10) (p4) (p5)) fun v40 w41 => (some (v40, w41))) else (xmb2 (fX5_roundedFraction w (s2) (s1) (s0) ((-p10)) (p4) (p5)) fun v43 w44 => (some (v43, w44))))
set_option maxHeartbeats 4000000 in
set_option maxRecDepth 100000 in
theorem lX5_divided_L193 {p : Program} {l : Launch} {e : Env} {s : State} {m : MethodId} {args : Array Value} {below : List Frame} {meth : Method} {c : Code} {D : va_G} {ks : Nat → ClassId} {b : Nat} (hC : xmC p s m args meth c D ks b 12 cX5_divided RX5) (hr : meth.sig.returnType = (some (FieldType.int))) {y : Int32} {wz : xmW} (w : xmW) (p4 : Int32) (p5 : Int32) (p10 : Int64) (s0 : Int64) (s1 : Int32) (s2 : (Option Nat)) (hf : fX5_divided_L193 w p4 p5 p10 s0 s1 s2 = some (y, wz)) : xmJ p l e ({ frames := 6, cells := 0, slots := 0, locals := 147 } : Room) s m args below meth c D ks b 12 (MQ below (xmQ D ks b (some (xI y)) wz) args s 0 0 (xmA b)) w 0 0 193 [(4, xI p4), (5, xI p5), (10, xL p10)] [xL s0, xI s1, xR s2] := by
  unfold fX5_divided_L193 at hf
  refine xj_lload hC dX5_divided_193 2 rfl ?_
  refine xj_lconst (v := 0) hC dX5_divided_195 (by decide) ?_
  refine xj_lcmp hC dX5_divided_196 ?_
  refine xb_if_ge (tgt := 206) hC dX5_divided_197 (by decide) hf (fun hf => ?_) (fun hf => ?_)
  · refine xj_lload hC dX5_divided_206 2 rfl ?_
    refine xj_iload hC dX5_divided_208 0 rfl ?_
    refine xj_iload hC dX5_divided_210 1 rfl ?_
    obtain ⟨v40, w41, hc39, hf⟩ := xm_b2 hf
    obtain ⟨_, hob, _⟩ := xm_bind hc39
    refine xj_reti (xr_V hC (mX5_roundedFraction l D ks b hc39) hob rfl xw_cod_X5_roundedFraction xw_ini_X5 xw_ins_X5_roundedFraction xw_sel_X5_roundedFraction xw_ml_X5_179 xds_X5_roundedFraction ⟨Nat.le_of_ble_eq_true rfl, Nat.le_of_ble_eq_true rfl⟩ rfl rfl (Nat.le_of_ble_eq_true rfl) ⟨Nat.le_of_ble_eq_true rfl, Nat.le_of_ble_eq_true rfl⟩ dX5_divided_212) ?_
    obtain ⟨he, hw⟩ := Prod.mk.inj (Option.some.inj hf)
    exact xj_iret hC hr (by decide) (by decide) dX5_divided_215 he hw
  · refine xj_lload hC dX5_divided_200 2 rfl ?_
    refine xj_lneg hC dX5_divided_202 ?_
    refine xj_goto (tgt := 208) hC dX5_divided_203 (by decide) ?_
    refine xj_iload hC dX5_divided_208 0 rfl ?_
    refine xj_iload hC dX5_divided_210 1 rfl ?_
    obtain ⟨v43, w44, hc42, hf⟩ := xm_b2 hf
    obtain ⟨_, hob, _⟩ := xm_bind hc42
    refine xj_reti (xr_V hC (mX5_roundedFraction l D ks b hc42) hob rfl xw_cod_X5_roundedFraction xw_ini_X5 xw_ins_X5_roundedFraction xw_sel_X5_roundedFraction xw_ml_X5_179 xds_X5_roundedFraction ⟨Nat.le_of_ble_eq_true rfl, Nat.le_of_ble_eq_true rfl⟩ rfl rfl (Nat.le_of_ble_eq_true rfl) ⟨Nat.le_of_ble_eq_true rfl, Nat.le_of_ble_eq_true rfl⟩ dX5_divided_212) ?_
    obtain ⟨he, hw⟩ := Prod.mk.inj (Option.some.inj hf)
    exact xj_iret hC hr (by decide) (by decide) dX5_divided_215 he hw
def fX5_divided_L88 (w : xmW) (p0 : (Option Nat)) (p1 : Int32) (p2 : Int32) (p3 : Int32) (p4 : Int32) (p5 : Int32) (p7 : Int32) : Option (Int32 × xmW) := ((fX5_isEndless w (p0) (p1) (p3)).bind fun v20 => (if v20 = 0 then ((fX5_isEndless w (p0) (p1) (p2)).bind fun v22 => (if v22 = 0 then (if p7 = 0 then ((fX5_unitsOf w (p0) (p1) (p2)).bind fun v24 => ((fX5_scale w (p0) (p1)).bind fun v26 => ((fX5_unitsOf w (p0) (p1) (p3)).bind fun v28 => (if 0 ≤ (lg_cmp v28 (0 : Int64)) then (fX5_divided_L193 w (p4) (p5) (v28) ((v24 <<< ((v26).toInt64 &&& 63))) (p1) (p0)) else (fX5_divided_L193 w (p4) (p5) (v28) ((-(v24 <<< ((v26).toInt64 &&& 63)))) (p1) (p0)))))) else (if p5 = 0 then ((fX5_beyond w (p0) (p1) (p5)).bind fun v30 => (some (v30, w))) else ((xmgR w p0 5 1).bind fun v31 => ((xmild w v31 0 p1).bind fun v32 => (if v32 = 0 then (some ((0 : Int32), w)) else ((fX5_beyond w (p0) (p1) (p5)).bind fun v34 => (some (v34, w)))))))) else ((fX5_endlessOr w (p0) (p1) (p5)).bind fun v36 => (some (v36, w))))) else ((fX5_signed w (p0) (p1) ((0 : Int32)) (p5)).bind fun v38 => (some (v38, w)))))
set_option maxHeartbeats 4000000 in
set_option maxRecDepth 100000 in
theorem lX5_divided_L88 {p : Program} {l : Launch} {e : Env} {s : State} {m : MethodId} {args : Array Value} {below : List Frame} {meth : Method} {c : Code} {D : va_G} {ks : Nat → ClassId} {b : Nat} (hC : xmC p s m args meth c D ks b 12 cX5_divided RX5) (hr : meth.sig.returnType = (some (FieldType.int))) {y : Int32} {wz : xmW} (w : xmW) (p0 : (Option Nat)) (p1 : Int32) (p2 : Int32) (p3 : Int32) (p4 : Int32) (p5 : Int32) (p7 : Int32) (hf : fX5_divided_L88 w p0 p1 p2 p3 p4 p5 p7 = some (y, wz)) : xmJ p l e ({ frames := 6, cells := 0, slots := 0, locals := 147 } : Room) s m args below meth c D ks b 12 (MQ below (xmQ D ks b (some (xI y)) wz) args s 0 0 (xmA b)) w 0 0 88 [(0, xR p0), (1, xI p1), (2, xI p2), (3, xI p3), (4, xI p4), (5, xI p5), (7, xI p7)] [] := by
  unfold fX5_divided_L88 at hf
  refine xj_aload_n hC dX5_divided_88 rfl 0 rfl ?_
  refine xj_iload_n hC dX5_divided_89 rfl 1 rfl ?_
  refine xj_iload_n hC dX5_divided_90 rfl 3 rfl ?_
  obtain ⟨v20, hc19, hf⟩ := xm_bind hf
  obtain ⟨_, hob, _⟩ := xm_bind hc19
  refine xj_reti (xr_V hC (mX5_isEndless l D ks b hc19) hob rfl xw_cod_X5_isEndless xw_ini_X5 xw_ins_X5_isEndless xw_sel_X5_isEndless xw_ml_X5_200 xds_X5_isEndless ⟨Nat.le_of_ble_eq_true rfl, Nat.le_of_ble_eq_true rfl⟩ rfl rfl (Nat.le_of_ble_eq_true rfl) ⟨Nat.le_of_ble_eq_true rfl, Nat.le_of_ble_eq_true rfl⟩ dX5_divided_91) ?_
  refine xb_if_eq (tgt := 106) hC dX5_divided_94 (by decide) hf (fun hf => ?_) (fun hf => ?_)
  · refine xj_aload_n hC dX5_divided_106 rfl 0 rfl ?_
    refine xj_iload_n hC dX5_divided_107 rfl 1 rfl ?_
    refine xj_iload_n hC dX5_divided_108 rfl 2 rfl ?_
    obtain ⟨v22, hc21, hf⟩ := xm_bind hf
    obtain ⟨_, hob, _⟩ := xm_bind hc21
    refine xj_reti (xr_V hC (mX5_isEndless l D ks b hc21) hob rfl xw_cod_X5_isEndless xw_ini_X5 xw_ins_X5_isEndless xw_sel_X5_isEndless xw_ml_X5_200 xds_X5_isEndless ⟨Nat.le_of_ble_eq_true rfl, Nat.le_of_ble_eq_true rfl⟩ rfl rfl (Nat.le_of_ble_eq_true rfl) ⟨Nat.le_of_ble_eq_true rfl, Nat.le_of_ble_eq_true rfl⟩ dX5_divided_109) ?_
    refine xb_if_eq (tgt := 123) hC dX5_divided_112 (by decide) hf (fun hf => ?_) (fun hf => ?_)
    · refine xj_iload hC dX5_divided_123 6 rfl ?_
      refine xb_if_eq (tgt := 154) hC dX5_divided_125 (by decide) hf (fun hf => ?_) (fun hf => ?_)
      · refine xj_aload_n hC dX5_divided_154 rfl 0 rfl ?_
        refine xj_iload_n hC dX5_divided_155 rfl 1 rfl ?_
        refine xj_iload_n hC dX5_divided_156 rfl 2 rfl ?_
        obtain ⟨v24, hc23, hf⟩ := xm_bind hf
        obtain ⟨_, hob, _⟩ := xm_bind hc23
        refine xj_retl (xr_V hC (mX5_unitsOf l D ks b hc23) hob rfl xw_cod_X5_unitsOf xw_ini_X5 xw_ins_X5_unitsOf xw_sel_X5_unitsOf xw_ml_X5_135 xds_X5_unitsOf ⟨Nat.le_of_ble_eq_true rfl, Nat.le_of_ble_eq_true rfl⟩ rfl rfl (Nat.le_of_ble_eq_true rfl) ⟨Nat.le_of_ble_eq_true rfl, Nat.le_of_ble_eq_true rfl⟩ dX5_divided_157) ?_
        refine xj_aload_n hC dX5_divided_160 rfl 0 rfl ?_
        refine xj_iload_n hC dX5_divided_161 rfl 1 rfl ?_
        obtain ⟨v26, hc25, hf⟩ := xm_bind hf
        obtain ⟨_, hob, _⟩ := xm_bind hc25
        refine xj_reti (xr_V hC (mX5_scale l D ks b hc25) hob rfl xw_cod_X5_scale xw_ini_X5 xw_ins_X5_scale xw_sel_X5_scale xw_ml_X5_127 xds_X5_scale ⟨Nat.le_of_ble_eq_true rfl, Nat.le_of_ble_eq_true rfl⟩ rfl rfl (Nat.le_of_ble_eq_true rfl) ⟨Nat.le_of_ble_eq_true rfl, Nat.le_of_ble_eq_true rfl⟩ dX5_divided_162) ?_
        refine xj_lshl hC dX5_divided_165 ?_
        refine xj_lstore (lv' := [(8, xL (v24 <<< ((v26).toInt64 &&& 63))), (0, xR p0), (1, xI p1), (2, xI p2), (3, xI p3), (4, xI p4), (5, xI p5), (7, xI p7)]) hC dX5_divided_166 (by decide) rfl ?_
        refine xj_aload_n hC dX5_divided_168 rfl 1 rfl ?_
        refine xj_iload_n hC dX5_divided_169 rfl 2 rfl ?_
        refine xj_iload_n hC dX5_divided_170 rfl 4 rfl ?_
        obtain ⟨v28, hc27, hf⟩ := xm_bind hf
        obtain ⟨_, hob, _⟩ := xm_bind hc27
        refine xj_retl (xr_V hC (mX5_unitsOf l D ks b hc27) hob rfl xw_cod_X5_unitsOf xw_ini_X5 xw_ins_X5_unitsOf xw_sel_X5_unitsOf xw_ml_X5_135 xds_X5_unitsOf ⟨Nat.le_of_ble_eq_true rfl, Nat.le_of_ble_eq_true rfl⟩ rfl rfl (Nat.le_of_ble_eq_true rfl) ⟨Nat.le_of_ble_eq_true rfl, Nat.le_of_ble_eq_true rfl⟩ dX5_divided_171) ?_
        refine xj_lstore (lv' := [(10, xL v28), (8, xL (v24 <<< ((v26).toInt64 &&& 63))), (0, xR p0), (1, xI p1), (2, xI p2), (3, xI p3), (4, xI p4), (5, xI p5), (7, xI p7)]) hC dX5_divided_174 (by decide) rfl ?_
        refine xj_aload_n hC dX5_divided_176 rfl 2 rfl ?_
        refine xj_iload_n hC dX5_divided_177 rfl 3 rfl ?_
        refine xj_lload hC dX5_divided_178 0 rfl ?_
        refine xj_lconst (v := 0) hC dX5_divided_180 (by decide) ?_
        refine xj_lcmp hC dX5_divided_181 ?_
        refine xb_if_ge (tgt := 191) hC dX5_divided_182 (by decide) hf (fun hf => ?_) (fun hf => ?_)
        · refine xj_lload hC dX5_divided_191 1 rfl ?_
          refine xj_lv [6, 7, 0] rfl ?_
          exact lX5_divided_L193 hC hr  w (p4) (p5) (v28) ((v24 <<< ((v26).toInt64 &&& 63))) (p1) (p0) hf
        · refine xj_lload hC dX5_divided_185 1 rfl ?_
          refine xj_lneg hC dX5_divided_187 ?_
          refine xj_goto (tgt := 193) hC dX5_divided_188 (by decide) ?_
          refine xj_lv [6, 7, 0] rfl ?_
          exact lX5_divided_L193 hC hr  w (p4) (p5) (v28) ((-(v24 <<< ((v26).toInt64 &&& 63)))) (p1) (p0) hf
      · refine xj_iload hC dX5_divided_128 5 rfl ?_
        refine xb_if_eq (tgt := 146) hC dX5_divided_130 (by decide) hf (fun hf => ?_) (fun hf => ?_)
        · refine xj_aload_n hC dX5_divided_146 rfl 0 rfl ?_
          refine xj_iload_n hC dX5_divided_147 rfl 1 rfl ?_
          refine xj_iload hC dX5_divided_148 5 rfl ?_
          obtain ⟨v30, hc29, hf⟩ := xm_bind hf
          obtain ⟨_, hob, _⟩ := xm_bind hc29
          refine xj_reti (xr_V hC (mX5_beyond l D ks b hc29) hob rfl xw_cod_X5_beyond xw_ini_X5 xw_ins_X5_beyond xw_sel_X5_beyond xw_ml_X5_159 xds_X5_beyond ⟨Nat.le_of_ble_eq_true rfl, Nat.le_of_ble_eq_true rfl⟩ rfl rfl (Nat.le_of_ble_eq_true rfl) ⟨Nat.le_of_ble_eq_true rfl, Nat.le_of_ble_eq_true rfl⟩ dX5_divided_150) ?_
          obtain ⟨he, hw⟩ := Prod.mk.inj (Option.some.inj hf)
          exact xj_iret hC hr (by decide) (by decide) dX5_divided_153 he hw
        · refine xj_aload_n hC dX5_divided_133 rfl 0 rfl ?_
          refine xb_getR hC 5 1 xcl_5 (by decide) xw_fl_X5_7 dX5_divided_134 hf (fun v31 hf => ?_)
          refine xj_iload_n hC dX5_divided_137 rfl 1 rfl ?_
          refine xb_iald hC dX5_divided_138 hf (fun v32 hf => ?_)
          refine xb_if_ne (tgt := 146) hC dX5_divided_139 (by decide) hf (fun hf => ?_) (fun hf => ?_)
          · refine xj_aload_n hC dX5_divided_146 rfl 0 rfl ?_
            refine xj_iload_n hC dX5_divided_147 rfl 1 rfl ?_
            refine xj_iload hC dX5_divided_148 5 rfl ?_
            obtain ⟨v34, hc33, hf⟩ := xm_bind hf
            obtain ⟨_, hob, _⟩ := xm_bind hc33
            refine xj_reti (xr_V hC (mX5_beyond l D ks b hc33) hob rfl xw_cod_X5_beyond xw_ini_X5 xw_ins_X5_beyond xw_sel_X5_beyond xw_ml_X5_159 xds_X5_beyond ⟨Nat.le_of_ble_eq_true rfl, Nat.le_of_ble_eq_true rfl⟩ rfl rfl (Nat.le_of_ble_eq_true rfl) ⟨Nat.le_of_ble_eq_true rfl, Nat.le_of_ble_eq_true rfl⟩ dX5_divided_150) ?_
            obtain ⟨he, hw⟩ := Prod.mk.inj (Option.some.inj hf)
            exact xj_iret hC hr (by decide) (by decide) dX5_divided_153 he hw
          · refine xj_iconst (v := 0) hC dX5_divided_142 (by decide) ?_
            refine xj_goto (tgt := 153) hC dX5_divided_143 (by decide) ?_
            obtain ⟨he, hw⟩ := Prod.mk.inj (Option.some.inj hf)
            exact xj_iret hC hr (by decide) (by decide) dX5_divided_153 he hw
    · refine xj_aload_n hC dX5_divided_115 rfl 0 rfl ?_
      refine xj_iload_n hC dX5_divided_116 rfl 1 rfl ?_
      refine xj_iload hC dX5_divided_117 5 rfl ?_
      obtain ⟨v36, hc35, hf⟩ := xm_bind hf
      obtain ⟨_, hob, _⟩ := xm_bind hc35
      refine xj_reti (xr_V hC (mX5_endlessOr l D ks b hc35) hob rfl xw_cod_X5_endlessOr xw_ini_X5 xw_ins_X5_endlessOr xw_sel_X5_endlessOr xw_ml_X5_203 xds_X5_endlessOr ⟨Nat.le_of_ble_eq_true rfl, Nat.le_of_ble_eq_true rfl⟩ rfl rfl (Nat.le_of_ble_eq_true rfl) ⟨Nat.le_of_ble_eq_true rfl, Nat.le_of_ble_eq_true rfl⟩ dX5_divided_119) ?_
      obtain ⟨he, hw⟩ := Prod.mk.inj (Option.some.inj hf)
      exact xj_iret hC hr (by decide) (by decide) dX5_divided_122 he hw
  · refine xj_aload_n hC dX5_divided_97 rfl 0 rfl ?_
    refine xj_iload_n hC dX5_divided_98 rfl 1 rfl ?_
    refine xj_iconst (v := 0) hC dX5_divided_99 (by decide) ?_
    refine xj_iload hC dX5_divided_100 5 rfl ?_
    obtain ⟨v38, hc37, hf⟩ := xm_bind hf
    obtain ⟨_, hob, _⟩ := xm_bind hc37
    refine xj_reti (xr_V hC (mX5_signed l D ks b hc37) hob rfl xw_cod_X5_signed xw_ini_X5 xw_ins_X5_signed xw_sel_X5_signed xw_ml_X5_149 xds_X5_signed ⟨Nat.le_of_ble_eq_true rfl, Nat.le_of_ble_eq_true rfl⟩ rfl rfl (Nat.le_of_ble_eq_true rfl) ⟨Nat.le_of_ble_eq_true rfl, Nat.le_of_ble_eq_true rfl⟩ dX5_divided_102) ?_
    obtain ⟨he, hw⟩ := Prod.mk.inj (Option.some.inj hf)
    exact xj_iret hC hr (by decide) (by decide) dX5_divided_105 he hw
def fX5_divided_L72 (w : xmW) (p0 : (Option Nat)) (p1 : Int32) (p2 : Int32) (p3 : Int32) (p4 : Int32) (p5 : Int32) (p6 : Int32) (p7 : Int32) : Option (Int32 × xmW) := (if p6 = 0 then (fX5_divided_L88 w (p0) (p1) (p2) (p3) (p4) (p5) (p7) ) else (if p7 = 0 then (fX5_divided_L88 w (p0) (p1) (p2) (p3) (p4) (p5) (p7) ) else (xmb2 (fX5_invalidIn w (p0) (p1)) fun v17 w18 => (some (v17, w18)))))
set_option maxHeartbeats 4000000 in
set_option maxRecDepth 100000 in
theorem lX5_divided_L72 {p : Program} {l : Launch} {e : Env} {s : State} {m : MethodId} {args : Array Value} {below : List Frame} {meth : Method} {c : Code} {D : va_G} {ks : Nat → ClassId} {b : Nat} (hC : xmC p s m args meth c D ks b 12 cX5_divided RX5) (hr : meth.sig.returnType = (some (FieldType.int))) {y : Int32} {wz : xmW} (w : xmW) (p0 : (Option Nat)) (p1 : Int32) (p2 : Int32) (p3 : Int32) (p4 : Int32) (p5 : Int32) (p6 : Int32) (p7 : Int32) (hf : fX5_divided_L72 w p0 p1 p2 p3 p4 p5 p6 p7 = some (y, wz)) : xmJ p l e ({ frames := 6, cells := 0, slots := 0, locals := 147 } : Room) s m args below meth c D ks b 12 (MQ below (xmQ D ks b (some (xI y)) wz) args s 0 0 (xmA b)) w 0 0 72 [(0, xR p0), (1, xI p1), (2, xI p2), (3, xI p3), (4, xI p4), (5, xI p5), (6, xI p6), (7, xI p7)] [] := by
  unfold fX5_divided_L72 at hf
  refine xj_iload hC dX5_divided_72 6 rfl ?_
  refine xb_if_eq (tgt := 88) hC dX5_divided_74 (by decide) hf (fun hf => ?_) (fun hf => ?_)
  · refine xj_lv [0, 1, 2, 3, 4, 5, 7] rfl ?_
    exact lX5_divided_L88 hC hr  w (p0) (p1) (p2) (p3) (p4) (p5) (p7)  hf
  · refine xj_iload hC dX5_divided_77 7 rfl ?_
    refine xb_if_eq (tgt := 88) hC dX5_divided_79 (by decide) hf (fun hf => ?_) (fun hf => ?_)
    · refine xj_lv [0, 1, 2, 3, 4, 5, 7] rfl ?_
      exact lX5_divided_L88 hC hr  w (p0) (p1) (p2) (p3) (p4) (p5) (p7)  hf
    · refine xj_aload_n hC dX5_divided_82 rfl 0 rfl ?_
      refine xj_iload_n hC dX5_divided_83 rfl 1 rfl ?_
      obtain ⟨v17, w18, hc16, hf⟩ := xm_b2 hf
      obtain ⟨_, hob, _⟩ := xm_bind hc16
      refine xj_reti (xr_V hC (mX5_invalidIn l D ks b hc16) hob rfl xw_cod_X5_invalidIn xw_ini_X5 xw_ins_X5_invalidIn xw_sel_X5_invalidIn xw_ml_X5_189 xds_X5_invalidIn ⟨Nat.le_of_ble_eq_true rfl, Nat.le_of_ble_eq_true rfl⟩ rfl rfl (Nat.le_of_ble_eq_true rfl) ⟨Nat.le_of_ble_eq_true rfl, Nat.le_of_ble_eq_true rfl⟩ dX5_divided_84) ?_
      obtain ⟨he, hw⟩ := Prod.mk.inj (Option.some.inj hf)
      exact xj_iret hC hr (by decide) (by decide) dX5_divided_87 he hw
def fX5_divided (w : xmW) (th : (Option Nat)) (a1 : Int32) (a2 : Int32) (a3 : Int32) (a4 : Int32) : Option (Int32 × xmW) := ((xmob w th 5).bind fun _ => ((fX5_isMinus w (th) (a1) (a2)).bind fun v2 => ((fX5_isMinus w (th) (a1) (a3)).bind fun v4 => ((fX5_plain w (th) (a1) (a2)).bind fun v6 => ((fX5_plain w (th) (a1) (a3)).bind fun v8 => ((fX5_isEndless w (th) (a1) (a2)).bind fun v10 => (if v10 = 0 then (fX5_divided_L72 w (th) (a1) (a2) (a3) (a4) ((if v2 = v4 then (0 : Int32) else (1 : Int32))) ((if v6 = 0 then (1 : Int32) else (0 : Int32))) ((if v8 = 0 then (1 : Int32) else (0 : Int32))) ) else ((fX5_isEndless w (th) (a1) (a3)).bind fun v12 => (if v12 = 0 then (fX5_divided_L72 w (th) (a1) (a2) (a3) (a4) ((if v2 = v4 then (0 : Int32) else (1 : Int32))) ((if v6 = 0 then (1 : Int32) else (0 : Int32))) ((if v8 = 0 then (1 : Int32) else (0 : Int32))) ) else (xmb2 (fX5_invalidIn w (th) (a1)) fun v14 w15 => (some (v14, w15))))))))))))
set_option maxHeartbeats 4000000 in
set_option maxRecDepth 100000 in
theorem mX5_divided (l : Launch) (D : va_G) (ks : Nat → ClassId) (b : Nat) {w : xmW} {th : (Option Nat)} {a1 : Int32} {a2 : Int32} {a3 : Int32} {a4 : Int32} {y : Int32} {wz : xmW} (hf : fX5_divided w th a1 a2 a3 a4 = some (y, wz)) : xmM l yX5_divided (Cond.code yX5_divided cX5_divided 12 (some (FieldType.int)) :: xmTs) 6 147 0 0 D ks b w [xR th, xI a1, xI a2, xI a3, xI a4] (some (xI y)) wz := by
  unfold fX5_divided at hf
  obtain ⟨_, _, hf⟩ := xm_bind hf
  refine xmM.of (own := RX5) (lv0 := [(0, xR th), (1, xI a1), (2, xI a2), (3, xI a3), (4, xI a4)]) (by decide) rfl (Nat.le_of_ble_eq_true rfl) rfl ?_
  intro p e s m args below meth c hC hr hnm
  refine xj_aload_n hC dX5_divided_0 rfl 0 rfl ?_
  refine xj_iload_n hC dX5_divided_1 rfl 1 rfl ?_
  refine xj_iload_n hC dX5_divided_2 rfl 2 rfl ?_
  obtain ⟨v2, hc1, hf⟩ := xm_bind hf
  obtain ⟨_, hob, _⟩ := xm_bind hc1
  refine xj_reti (xr_V hC (mX5_isMinus l D ks b hc1) hob rfl xw_cod_X5_isMinus xw_ini_X5 xw_ins_X5_isMinus xw_sel_X5_isMinus xw_ml_X5_96 xds_X5_isMinus ⟨Nat.le_of_ble_eq_true rfl, Nat.le_of_ble_eq_true rfl⟩ rfl rfl (Nat.le_of_ble_eq_true rfl) ⟨Nat.le_of_ble_eq_true rfl, Nat.le_of_ble_eq_true rfl⟩ dX5_divided_3) ?_
  refine xj_aload_n hC dX5_divided_6 rfl 0 rfl ?_
  refine xj_iload_n hC dX5_divided_7 rfl 1 rfl ?_
  refine xj_iload_n hC dX5_divided_8 rfl 3 rfl ?_
  obtain ⟨v4, hc3, hf⟩ := xm_bind hf
  obtain ⟨_, hob, _⟩ := xm_bind hc3
  refine xj_reti (xr_V hC (mX5_isMinus l D ks b hc3) hob rfl xw_cod_X5_isMinus xw_ini_X5 xw_ins_X5_isMinus xw_sel_X5_isMinus xw_ml_X5_96 xds_X5_isMinus ⟨Nat.le_of_ble_eq_true rfl, Nat.le_of_ble_eq_true rfl⟩ rfl rfl (Nat.le_of_ble_eq_true rfl) ⟨Nat.le_of_ble_eq_true rfl, Nat.le_of_ble_eq_true rfl⟩ dX5_divided_9) ?_
  refine xj_dia (cnd := v2 = v4) (x := 0) (y := 1) (pc2 := 20) (st2 := []) (fun hc hk => ?_) (fun hc hk => ?_) ?_
  · exact xj_ic_eq (tgt := 19) hC dX5_divided_12 (by decide) (fun _ => xj_iconst (v := 0) hC dX5_divided_19 (by decide) hk) (fun hn => absurd hc hn)
  · exact xj_ic_eq (tgt := 19) hC dX5_divided_12 (by decide) (fun hn => absurd hn hc) (fun _ => xj_iconst (v := 1) hC dX5_divided_15 (by decide) (xj_goto (tgt := 20) hC dX5_divided_16 (by decide) hk))
  refine xj_istore (lv' := [(5, xI (if v2 = v4 then (0 : Int32) else (1 : Int32))), (0, xR th), (1, xI a1), (2, xI a2), (3, xI a3), (4, xI a4)]) hC dX5_divided_20 (by decide) rfl ?_
  refine xj_aload_n hC dX5_divided_22 rfl 1 rfl ?_
  refine xj_iload_n hC dX5_divided_23 rfl 2 rfl ?_
  refine xj_iload_n hC dX5_divided_24 rfl 3 rfl ?_
  obtain ⟨v6, hc5, hf⟩ := xm_bind hf
  obtain ⟨_, hob, _⟩ := xm_bind hc5
  refine xj_reti (xr_V hC (mX5_plain l D ks b hc5) hob rfl xw_cod_X5_plain xw_ini_X5 xw_ins_X5_plain xw_sel_X5_plain xw_ml_X5_80 xds_X5_plain ⟨Nat.le_of_ble_eq_true rfl, Nat.le_of_ble_eq_true rfl⟩ rfl rfl (Nat.le_of_ble_eq_true rfl) ⟨Nat.le_of_ble_eq_true rfl, Nat.le_of_ble_eq_true rfl⟩ dX5_divided_25) ?_
  refine xj_dia (cnd := v6 = 0) (x := 1) (y := 0) (pc2 := 36) (st2 := []) (fun hc hk => ?_) (fun hc hk => ?_) ?_
  · exact xj_if_ne (tgt := 35) hC dX5_divided_28 (by decide) (fun hn => absurd hc hn) (fun _ => xj_iconst (v := 1) hC dX5_divided_31 (by decide) (xj_goto (tgt := 36) hC dX5_divided_32 (by decide) hk))
  · exact xj_if_ne (tgt := 35) hC dX5_divided_28 (by decide) (fun _ => xj_iconst (v := 0) hC dX5_divided_35 (by decide) hk) (fun hn => absurd hn hc)
  refine xj_istore (lv' := [(6, xI (if v6 = 0 then (1 : Int32) else (0 : Int32))), (5, xI (if v2 = v4 then (0 : Int32) else (1 : Int32))), (0, xR th), (1, xI a1), (2, xI a2), (3, xI a3), (4, xI a4)]) hC dX5_divided_36 (by decide) rfl ?_
  refine xj_aload_n hC dX5_divided_38 rfl 2 rfl ?_
  refine xj_iload_n hC dX5_divided_39 rfl 3 rfl ?_
  refine xj_iload_n hC dX5_divided_40 rfl 5 rfl ?_
  obtain ⟨v8, hc7, hf⟩ := xm_bind hf
  obtain ⟨_, hob, _⟩ := xm_bind hc7
  refine xj_reti (xr_V hC (mX5_plain l D ks b hc7) hob rfl xw_cod_X5_plain xw_ini_X5 xw_ins_X5_plain xw_sel_X5_plain xw_ml_X5_80 xds_X5_plain ⟨Nat.le_of_ble_eq_true rfl, Nat.le_of_ble_eq_true rfl⟩ rfl rfl (Nat.le_of_ble_eq_true rfl) ⟨Nat.le_of_ble_eq_true rfl, Nat.le_of_ble_eq_true rfl⟩ dX5_divided_41) ?_
  refine xj_dia (cnd := v8 = 0) (x := 1) (y := 0) (pc2 := 52) (st2 := []) (fun hc hk => ?_) (fun hc hk => ?_) ?_
  · exact xj_if_ne (tgt := 51) hC dX5_divided_44 (by decide) (fun hn => absurd hc hn) (fun _ => xj_iconst (v := 1) hC dX5_divided_47 (by decide) (xj_goto (tgt := 52) hC dX5_divided_48 (by decide) hk))
  · exact xj_if_ne (tgt := 51) hC dX5_divided_44 (by decide) (fun _ => xj_iconst (v := 0) hC dX5_divided_51 (by decide) hk) (fun hn => absurd hn hc)
  refine xj_istore (lv' := [(7, xI (if v8 = 0 then (1 : Int32) else (0 : Int32))), (6, xI (if v6 = 0 then (1 : Int32) else (0 : Int32))), (5, xI (if v2 = v4 then (0 : Int32) else (1 : Int32))), (0, xR th), (1, xI a1), (2, xI a2), (3, xI a3), (4, xI a4)]) hC dX5_divided_52 (by decide) rfl ?_
  refine xj_aload_n hC dX5_divided_54 rfl 3 rfl ?_
  refine xj_iload_n hC dX5_divided_55 rfl 4 rfl ?_
  refine xj_iload_n hC dX5_divided_56 rfl 5 rfl ?_
  obtain ⟨v10, hc9, hf⟩ := xm_bind hf
  obtain ⟨_, hob, _⟩ := xm_bind hc9
  refine xj_reti (xr_V hC (mX5_isEndless l D ks b hc9) hob rfl xw_cod_X5_isEndless xw_ini_X5 xw_ins_X5_isEndless xw_sel_X5_isEndless xw_ml_X5_200 xds_X5_isEndless ⟨Nat.le_of_ble_eq_true rfl, Nat.le_of_ble_eq_true rfl⟩ rfl rfl (Nat.le_of_ble_eq_true rfl) ⟨Nat.le_of_ble_eq_true rfl, Nat.le_of_ble_eq_true rfl⟩ dX5_divided_57) ?_
  refine xb_if_eq (tgt := 72) hC dX5_divided_60 (by decide) hf (fun hf => ?_) (fun hf => ?_)
  · refine xj_lv [3, 4, 5, 6, 7, 2, 1, 0] rfl ?_
    exact lX5_divided_L72 hC hr  w (th) (a1) (a2) (a3) (a4) ((if v2 = v4 then (0 : Int32) else (1 : Int32))) ((if v6 = 0 then (1 : Int32) else (0 : Int32))) ((if v8 = 0 then (1 : Int32) else (0 : Int32)))  hf
  · refine xj_aload_n hC dX5_divided_63 rfl 3 rfl ?_
    refine xj_iload_n hC dX5_divided_64 rfl 4 rfl ?_
    refine xj_iload_n hC dX5_divided_65 rfl 6 rfl ?_
    obtain ⟨v12, hc11, hf⟩ := xm_bind hf
    obtain ⟨_, hob, _⟩ := xm_bind hc11
    refine xj_reti (xr_V hC (mX5_isEndless l D ks b hc11) hob rfl xw_cod_X5_isEndless xw_ini_X5 xw_ins_X5_isEndless xw_sel_X5_isEndless xw_ml_X5_200 xds_X5_isEndless ⟨Nat.le_of_ble_eq_true rfl, Nat.le_of_ble_eq_true rfl⟩ rfl rfl (Nat.le_of_ble_eq_true rfl) ⟨Nat.le_of_ble_eq_true rfl, Nat.le_of_ble_eq_true rfl⟩ dX5_divided_66) ?_
    refine xb_if_ne (tgt := 82) hC dX5_divided_69 (by decide) hf (fun hf => ?_) (fun hf => ?_)
    · refine xj_aload_n hC dX5_divided_82 rfl 3 rfl ?_
      refine xj_iload_n hC dX5_divided_83 rfl 4 rfl ?_
      obtain ⟨v14, w15, hc13, hf⟩ := xm_b2 hf
      obtain ⟨_, hob, _⟩ := xm_bind hc13
      refine xj_reti (xr_V hC (mX5_invalidIn l D ks b hc13) hob rfl xw_cod_X5_invalidIn xw_ini_X5 xw_ins_X5_invalidIn xw_sel_X5_invalidIn xw_ml_X5_189 xds_X5_invalidIn ⟨Nat.le_of_ble_eq_true rfl, Nat.le_of_ble_eq_true rfl⟩ rfl rfl (Nat.le_of_ble_eq_true rfl) ⟨Nat.le_of_ble_eq_true rfl, Nat.le_of_ble_eq_true rfl⟩ dX5_divided_84) ?_
      obtain ⟨he, hw⟩ := Prod.mk.inj (Option.some.inj hf)
      exact xj_iret hC hr (by decide) (by decide) dX5_divided_87 he hw
    · refine xj_lv [3, 4, 5, 6, 7, 2, 1, 0] rfl ?_
      exact lX5_divided_L72 hC hr  w (th) (a1) (a2) (a3) (a4) ((if v2 = v4 then (0 : Int32) else (1 : Int32))) ((if v6 = 0 then (1 : Int32) else (0 : Int32))) ((if v8 = 0 then (1 : Int32) else (0 : Int32)))  hf
def fX5_rooted (w : xmW) (th : (Option Nat)) (a1 : Int32) (a2 : Int32) (a3 : Int32) : Option (Int32 × xmW) := ((xmob w th 5).bind fun _ => ((fX5_plain w (th) (a1) (a2)).bind fun v2 => (if v2 = 0 then (some (a2, w)) else ((fX5_isMinus w (th) (a1) (a2)).bind fun v4 => (if v4 = 0 then ((fX5_isEndless w (th) (a1) (a2)).bind fun v6 => (if v6 = 0 then ((xmput w th 5 20 (xI (1 : Int32))).bind fun w7 => ((fX5_unitsOf w7 (th) (a1) (a2)).bind fun v9 => ((fX5_scale w7 (th) (a1)).bind fun v11 => ((xmput w7 th 5 21 (xL (v9 <<< ((v11).toInt64 &&& 63)))).bind fun w12 => ((xmput w12 th 5 22 (xL (1 : Int64))).bind fun w13 => (xmb2 (fX5_rounded w13 (th) (a1) ((0 : Int32)) (a3)) fun v15 w16 => (some (v15, w16)))))))) else (some (a2, w)))) else (xmb2 (fX5_invalidIn w (th) (a1)) fun v18 w19 => (some (v18, w19))))))))
set_option maxHeartbeats 4000000 in
set_option maxRecDepth 100000 in
theorem mX5_rooted (l : Launch) (D : va_G) (ks : Nat → ClassId) (b : Nat) {w : xmW} {th : (Option Nat)} {a1 : Int32} {a2 : Int32} {a3 : Int32} {y : Int32} {wz : xmW} (hf : fX5_rooted w th a1 a2 a3 = some (y, wz)) : xmM l yX5_rooted (Cond.code yX5_rooted cX5_rooted 4 (some (FieldType.int)) :: xmTs) 5 120 0 0 D ks b w [xR th, xI a1, xI a2, xI a3] (some (xI y)) wz := by
  unfold fX5_rooted at hf
  obtain ⟨_, _, hf⟩ := xm_bind hf
  refine xmM.of (own := RX5) (lv0 := [(0, xR th), (1, xI a1), (2, xI a2), (3, xI a3)]) (by decide) rfl (Nat.le_of_ble_eq_true rfl) rfl ?_
  intro p e s m args below meth c hC hr hnm
  refine xj_aload_n hC dX5_rooted_0 rfl 0 rfl ?_
  refine xj_iload_n hC dX5_rooted_1 rfl 1 rfl ?_
  refine xj_iload_n hC dX5_rooted_2 rfl 2 rfl ?_
  obtain ⟨v2, hc1, hf⟩ := xm_bind hf
  obtain ⟨_, hob, _⟩ := xm_bind hc1
  refine xj_reti (xr_V hC (mX5_plain l D ks b hc1) hob rfl xw_cod_X5_plain xw_ini_X5 xw_ins_X5_plain xw_sel_X5_plain xw_ml_X5_80 xds_X5_plain ⟨Nat.le_of_ble_eq_true rfl, Nat.le_of_ble_eq_true rfl⟩ rfl rfl (Nat.le_of_ble_eq_true rfl) ⟨Nat.le_of_ble_eq_true rfl, Nat.le_of_ble_eq_true rfl⟩ dX5_rooted_3) ?_
  refine xb_if_ne (tgt := 11) hC dX5_rooted_6 (by decide) hf (fun hf => ?_) (fun hf => ?_)
  · refine xj_aload_n hC dX5_rooted_11 rfl 0 rfl ?_
    refine xj_iload_n hC dX5_rooted_12 rfl 1 rfl ?_
    refine xj_iload_n hC dX5_rooted_13 rfl 2 rfl ?_
    obtain ⟨v4, hc3, hf⟩ := xm_bind hf
    obtain ⟨_, hob, _⟩ := xm_bind hc3
    refine xj_reti (xr_V hC (mX5_isMinus l D ks b hc3) hob rfl xw_cod_X5_isMinus xw_ini_X5 xw_ins_X5_isMinus xw_sel_X5_isMinus xw_ml_X5_96 xds_X5_isMinus ⟨Nat.le_of_ble_eq_true rfl, Nat.le_of_ble_eq_true rfl⟩ rfl rfl (Nat.le_of_ble_eq_true rfl) ⟨Nat.le_of_ble_eq_true rfl, Nat.le_of_ble_eq_true rfl⟩ dX5_rooted_14) ?_
    refine xb_if_eq (tgt := 26) hC dX5_rooted_17 (by decide) hf (fun hf => ?_) (fun hf => ?_)
    · refine xj_aload_n hC dX5_rooted_26 rfl 0 rfl ?_
      refine xj_iload_n hC dX5_rooted_27 rfl 1 rfl ?_
      refine xj_iload_n hC dX5_rooted_28 rfl 2 rfl ?_
      obtain ⟨v6, hc5, hf⟩ := xm_bind hf
      obtain ⟨_, hob, _⟩ := xm_bind hc5
      refine xj_reti (xr_V hC (mX5_isEndless l D ks b hc5) hob rfl xw_cod_X5_isEndless xw_ini_X5 xw_ins_X5_isEndless xw_sel_X5_isEndless xw_ml_X5_200 xds_X5_isEndless ⟨Nat.le_of_ble_eq_true rfl, Nat.le_of_ble_eq_true rfl⟩ rfl rfl (Nat.le_of_ble_eq_true rfl) ⟨Nat.le_of_ble_eq_true rfl, Nat.le_of_ble_eq_true rfl⟩ dX5_rooted_29) ?_
      refine xb_if_eq (tgt := 37) hC dX5_rooted_32 (by decide) hf (fun hf => ?_) (fun hf => ?_)
      · refine xj_aload_n hC dX5_rooted_37 rfl 0 rfl ?_
        refine xj_iconst (v := 1) hC dX5_rooted_38 (by decide) ?_
        refine xb_put hC 5 20 xcl_5 (by decide) xw_fl_X5_138 rfl (xmfit_z (by decide)) dX5_rooted_39 hf (fun w7 hf => ?_)
        refine xj_aload_n hC dX5_rooted_42 rfl 0 rfl ?_
        refine xj_aload_n hC dX5_rooted_43 rfl 0 rfl ?_
        refine xj_iload_n hC dX5_rooted_44 rfl 1 rfl ?_
        refine xj_iload_n hC dX5_rooted_45 rfl 2 rfl ?_
        obtain ⟨v9, hc8, hf⟩ := xm_bind hf
        obtain ⟨_, hob, _⟩ := xm_bind hc8
        refine xj_retl (xr_V hC (mX5_unitsOf l D ks b hc8) hob rfl xw_cod_X5_unitsOf xw_ini_X5 xw_ins_X5_unitsOf xw_sel_X5_unitsOf xw_ml_X5_135 xds_X5_unitsOf ⟨Nat.le_of_ble_eq_true rfl, Nat.le_of_ble_eq_true rfl⟩ rfl rfl (Nat.le_of_ble_eq_true rfl) ⟨Nat.le_of_ble_eq_true rfl, Nat.le_of_ble_eq_true rfl⟩ dX5_rooted_46) ?_
        refine xj_aload_n hC dX5_rooted_49 rfl 0 rfl ?_
        refine xj_iload_n hC dX5_rooted_50 rfl 1 rfl ?_
        obtain ⟨v11, hc10, hf⟩ := xm_bind hf
        obtain ⟨_, hob, _⟩ := xm_bind hc10
        refine xj_reti (xr_V hC (mX5_scale l D ks b hc10) hob rfl xw_cod_X5_scale xw_ini_X5 xw_ins_X5_scale xw_sel_X5_scale xw_ml_X5_127 xds_X5_scale ⟨Nat.le_of_ble_eq_true rfl, Nat.le_of_ble_eq_true rfl⟩ rfl rfl (Nat.le_of_ble_eq_true rfl) ⟨Nat.le_of_ble_eq_true rfl, Nat.le_of_ble_eq_true rfl⟩ dX5_rooted_51) ?_
        refine xj_lshl hC dX5_rooted_54 ?_
        refine xb_put hC 5 21 xcl_5 (by decide) xw_fl_X5_142 rfl (xmfit_l _) dX5_rooted_55 hf (fun w12 hf => ?_)
        refine xj_aload_n hC dX5_rooted_58 rfl 0 rfl ?_
        refine xj_lconst (v := 1) hC dX5_rooted_59 (by decide) ?_
        refine xb_put hC 5 22 xcl_5 (by decide) xw_fl_X5_146 rfl (xmfit_l _) dX5_rooted_60 hf (fun w13 hf => ?_)
        refine xj_aload_n hC dX5_rooted_63 rfl 0 rfl ?_
        refine xj_iload_n hC dX5_rooted_64 rfl 1 rfl ?_
        refine xj_iconst (v := 0) hC dX5_rooted_65 (by decide) ?_
        refine xj_iload_n hC dX5_rooted_66 rfl 3 rfl ?_
        obtain ⟨v15, w16, hc14, hf⟩ := xm_b2 hf
        obtain ⟨_, hob, _⟩ := xm_bind hc14
        refine xj_reti (xr_V hC (mX5_rounded l D ks b hc14) hob rfl xw_cod_X5_rounded xw_ini_X5 xw_ins_X5_rounded xw_sel_X5_rounded xw_ml_X5_167 xds_X5_rounded ⟨Nat.le_of_ble_eq_true rfl, Nat.le_of_ble_eq_true rfl⟩ rfl rfl (Nat.le_of_ble_eq_true rfl) ⟨Nat.le_of_ble_eq_true rfl, Nat.le_of_ble_eq_true rfl⟩ dX5_rooted_67) ?_
        obtain ⟨he, hw⟩ := Prod.mk.inj (Option.some.inj hf)
        exact xj_iret hC hr (by decide) (by decide) dX5_rooted_70 he hw
      · refine xj_iload_n hC dX5_rooted_35 rfl 2 rfl ?_
        obtain ⟨he, hw⟩ := Prod.mk.inj (Option.some.inj hf)
        exact xj_iret hC hr (by decide) (by decide) dX5_rooted_36 he hw
    · refine xj_aload_n hC dX5_rooted_20 rfl 0 rfl ?_
      refine xj_iload_n hC dX5_rooted_21 rfl 1 rfl ?_
      obtain ⟨v18, w19, hc17, hf⟩ := xm_b2 hf
      obtain ⟨_, hob, _⟩ := xm_bind hc17
      refine xj_reti (xr_V hC (mX5_invalidIn l D ks b hc17) hob rfl xw_cod_X5_invalidIn xw_ini_X5 xw_ins_X5_invalidIn xw_sel_X5_invalidIn xw_ml_X5_189 xds_X5_invalidIn ⟨Nat.le_of_ble_eq_true rfl, Nat.le_of_ble_eq_true rfl⟩ rfl rfl (Nat.le_of_ble_eq_true rfl) ⟨Nat.le_of_ble_eq_true rfl, Nat.le_of_ble_eq_true rfl⟩ dX5_rooted_22) ?_
      obtain ⟨he, hw⟩ := Prod.mk.inj (Option.some.inj hf)
      exact xj_iret hC hr (by decide) (by decide) dX5_rooted_25 he hw
  · refine xj_iload_n hC dX5_rooted_9 rfl 2 rfl ?_
    obtain ⟨he, hw⟩ := Prod.mk.inj (Option.some.inj hf)
    exact xj_iret hC hr (by decide) (by decide) dX5_rooted_10 he hw
def fX5_acted_L32 (w : xmW) (p0 : (Option Nat)) (p1 : Int32) (p2 : Int32) (p3 : Int32) (p4 : Int32) (p5 : Int32) : Option (Int32 × xmW) := (if p2 = (0 : Int32) then (xmb2 (fX5_summed w (p0) (p1) (p3) (p4) (p5) ((0 : Int32))) fun v11 w12 => (some (v11, w12))) else (if p2 = (1 : Int32) then (xmb2 (fX5_summed w (p0) (p1) (p3) (p4) (p5) ((1 : Int32))) fun v15 w16 => (some (v15, w16))) else (if p2 = (2 : Int32) then (xmb2 (fX5_multiplied w (p0) (p1) (p3) (p4) (p5)) fun v19 w20 => (some (v19, w20))) else (if p2 = (3 : Int32) then (xmb2 (fX5_divided w (p0) (p1) (p3) (p4) (p5)) fun v23 w24 => (some (v23, w24))) else (if p2 = (4 : Int32) then (xmb2 (fX5_rooted w (p0) (p1) (p3) (p5)) fun v27 w28 => (some (v27, w28))) else ((fX5_lesser w (p0) (p1) (p3) (p4) ((if p2 = (5 : Int32) then (1 : Int32) else (0 : Int32)))).bind fun v30 => (some (v30, w))))))))
set_option maxHeartbeats 4000000 in
set_option maxRecDepth 100000 in
theorem lX5_acted_L32 {p : Program} {l : Launch} {e : Env} {s : State} {m : MethodId} {args : Array Value} {below : List Frame} {meth : Method} {c : Code} {D : va_G} {ks : Nat → ClassId} {b : Nat} (hC : xmC p s m args meth c D ks b 6 cX5_acted RX5) (hr : meth.sig.returnType = (some (FieldType.int))) {y : Int32} {wz : xmW} (w : xmW) (p0 : (Option Nat)) (p1 : Int32) (p2 : Int32) (p3 : Int32) (p4 : Int32) (p5 : Int32) (hf : fX5_acted_L32 w p0 p1 p2 p3 p4 p5 = some (y, wz)) : xmJ p l e ({ frames := 7, cells := 0, slots := 0, locals := 178 } : Room) s m args below meth c D ks b 6 (MQ below (xmQ D ks b (some (xI y)) wz) args s 0 0 (xmA b)) w 0 0 32 [(0, xR p0), (1, xI p1), (2, xI p2), (3, xI p3), (4, xI p4), (5, xI p5)] [] := by
  unfold fX5_acted_L32 at hf
  refine xj_iload_n hC dX5_acted_32 rfl 2 rfl ?_
  refine xb_case hf (fun hx hf => ?_) (fun hn9 hf => ?_)
  · refine xj_tableIn (tgt := 68) hC (35) dX5_acted_33 hx (by decide) (by decide) (by decide) (by decide) ?_
    refine xj_aload_n hC dX5_acted_68 rfl 0 rfl ?_
    refine xj_iload_n hC dX5_acted_69 rfl 1 rfl ?_
    refine xj_iload_n hC dX5_acted_70 rfl 3 rfl ?_
    refine xj_iload hC dX5_acted_71 4 rfl ?_
    refine xj_iload hC dX5_acted_73 5 rfl ?_
    refine xj_iconst (v := 0) hC dX5_acted_75 (by decide) ?_
    obtain ⟨v11, w12, hc10, hf⟩ := xm_b2 hf
    obtain ⟨_, hob, _⟩ := xm_bind hc10
    refine xj_reti (xr_V hC (mX5_summed l D ks b hc10) hob rfl xw_cod_X5_summed xw_ini_X5 xw_ins_X5_summed xw_sel_X5_summed xw_ml_X5_210 xds_X5_summed ⟨Nat.le_of_ble_eq_true rfl, Nat.le_of_ble_eq_true rfl⟩ rfl rfl (Nat.le_of_ble_eq_true rfl) ⟨Nat.le_of_ble_eq_true rfl, Nat.le_of_ble_eq_true rfl⟩ dX5_acted_76) ?_
    obtain ⟨he, hw⟩ := Prod.mk.inj (Option.some.inj hf)
    exact xj_iret hC hr (by decide) (by decide) dX5_acted_79 he hw
  · refine xb_case hf (fun hx hf => ?_) (fun hn13 hf => ?_)
    · refine xj_tableIn (tgt := 80) hC (47) dX5_acted_33 hx (by decide) (by decide) (by decide) (by decide) ?_
      refine xj_aload_n hC dX5_acted_80 rfl 0 rfl ?_
      refine xj_iload_n hC dX5_acted_81 rfl 1 rfl ?_
      refine xj_iload_n hC dX5_acted_82 rfl 3 rfl ?_
      refine xj_iload hC dX5_acted_83 4 rfl ?_
      refine xj_iload hC dX5_acted_85 5 rfl ?_
      refine xj_iconst (v := 1) hC dX5_acted_87 (by decide) ?_
      obtain ⟨v15, w16, hc14, hf⟩ := xm_b2 hf
      obtain ⟨_, hob, _⟩ := xm_bind hc14
      refine xj_reti (xr_V hC (mX5_summed l D ks b hc14) hob rfl xw_cod_X5_summed xw_ini_X5 xw_ins_X5_summed xw_sel_X5_summed xw_ml_X5_210 xds_X5_summed ⟨Nat.le_of_ble_eq_true rfl, Nat.le_of_ble_eq_true rfl⟩ rfl rfl (Nat.le_of_ble_eq_true rfl) ⟨Nat.le_of_ble_eq_true rfl, Nat.le_of_ble_eq_true rfl⟩ dX5_acted_88) ?_
      obtain ⟨he, hw⟩ := Prod.mk.inj (Option.some.inj hf)
      exact xj_iret hC hr (by decide) (by decide) dX5_acted_91 he hw
    · refine xb_case hf (fun hx hf => ?_) (fun hn17 hf => ?_)
      · refine xj_tableIn (tgt := 92) hC (59) dX5_acted_33 hx (by decide) (by decide) (by decide) (by decide) ?_
        refine xj_aload_n hC dX5_acted_92 rfl 0 rfl ?_
        refine xj_iload_n hC dX5_acted_93 rfl 1 rfl ?_
        refine xj_iload_n hC dX5_acted_94 rfl 3 rfl ?_
        refine xj_iload hC dX5_acted_95 4 rfl ?_
        refine xj_iload hC dX5_acted_97 5 rfl ?_
        obtain ⟨v19, w20, hc18, hf⟩ := xm_b2 hf
        obtain ⟨_, hob, _⟩ := xm_bind hc18
        refine xj_reti (xr_V hC (mX5_multiplied l D ks b hc18) hob rfl xw_cod_X5_multiplied xw_ini_X5 xw_ins_X5_multiplied xw_sel_X5_multiplied xw_ml_X5_214 xds_X5_multiplied ⟨Nat.le_of_ble_eq_true rfl, Nat.le_of_ble_eq_true rfl⟩ rfl rfl (Nat.le_of_ble_eq_true rfl) ⟨Nat.le_of_ble_eq_true rfl, Nat.le_of_ble_eq_true rfl⟩ dX5_acted_99) ?_
        obtain ⟨he, hw⟩ := Prod.mk.inj (Option.some.inj hf)
        exact xj_iret hC hr (by decide) (by decide) dX5_acted_102 he hw
      · refine xb_case hf (fun hx hf => ?_) (fun hn21 hf => ?_)
        · refine xj_tableIn (tgt := 103) hC (70) dX5_acted_33 hx (by decide) (by decide) (by decide) (by decide) ?_
          refine xj_aload_n hC dX5_acted_103 rfl 0 rfl ?_
          refine xj_iload_n hC dX5_acted_104 rfl 1 rfl ?_
          refine xj_iload_n hC dX5_acted_105 rfl 3 rfl ?_
          refine xj_iload hC dX5_acted_106 4 rfl ?_
          refine xj_iload hC dX5_acted_108 5 rfl ?_
          obtain ⟨v23, w24, hc22, hf⟩ := xm_b2 hf
          obtain ⟨_, hob, _⟩ := xm_bind hc22
          refine xj_reti (xr_V hC (mX5_divided l D ks b hc22) hob rfl xw_cod_X5_divided xw_ini_X5 xw_ins_X5_divided xw_sel_X5_divided xw_ml_X5_217 xds_X5_divided ⟨Nat.le_of_ble_eq_true rfl, Nat.le_of_ble_eq_true rfl⟩ rfl rfl (Nat.le_of_ble_eq_true rfl) ⟨Nat.le_of_ble_eq_true rfl, Nat.le_of_ble_eq_true rfl⟩ dX5_acted_110) ?_
          obtain ⟨he, hw⟩ := Prod.mk.inj (Option.some.inj hf)
          exact xj_iret hC hr (by decide) (by decide) dX5_acted_113 he hw
        · refine xb_case hf (fun hx hf => ?_) (fun hn25 hf => ?_)
          · refine xj_tableIn (tgt := 114) hC (81) dX5_acted_33 hx (by decide) (by decide) (by decide) (by decide) ?_
            refine xj_aload_n hC dX5_acted_114 rfl 0 rfl ?_
            refine xj_iload_n hC dX5_acted_115 rfl 1 rfl ?_
            refine xj_iload_n hC dX5_acted_116 rfl 3 rfl ?_
            refine xj_iload hC dX5_acted_117 5 rfl ?_
            obtain ⟨v27, w28, hc26, hf⟩ := xm_b2 hf
            obtain ⟨_, hob, _⟩ := xm_bind hc26
            refine xj_reti (xr_V hC (mX5_rooted l D ks b hc26) hob rfl xw_cod_X5_rooted xw_ini_X5 xw_ins_X5_rooted xw_sel_X5_rooted xw_ml_X5_220 xds_X5_rooted ⟨Nat.le_of_ble_eq_true rfl, Nat.le_of_ble_eq_true rfl⟩ rfl rfl (Nat.le_of_ble_eq_true rfl) ⟨Nat.le_of_ble_eq_true rfl, Nat.le_of_ble_eq_true rfl⟩ dX5_acted_119) ?_
            obtain ⟨he, hw⟩ := Prod.mk.inj (Option.some.inj hf)
            exact xj_iret hC hr (by decide) (by decide) dX5_acted_122 he hw
          · have hx0 := lv_neT hn9 (a := 0) (by decide)
            have hx1 := lv_neT hn13 (a := 1) (by decide)
            have hx2 := lv_neT hn17 (a := 2) (by decide)
            have hx3 := lv_neT hn21 (a := 3) (by decide)
            have hx4 := lv_neT hn25 (a := 4) (by decide)
            refine xj_tableOut (tgt := 123) hC dX5_acted_33 (by omega) (by decide) ?_
            refine xj_aload_n hC dX5_acted_123 rfl 0 rfl ?_
            refine xj_iload_n hC dX5_acted_124 rfl 1 rfl ?_
            refine xj_iload_n hC dX5_acted_125 rfl 3 rfl ?_
            refine xj_iload hC dX5_acted_126 4 rfl ?_
            refine xj_iload_n hC dX5_acted_128 rfl 2 rfl ?_
            refine xj_iconst (v := 5) hC dX5_acted_129 (by decide) ?_
            refine xj_dia (cnd := p2 = (5 : Int32)) (x := 1) (y := 0) (pc2 := 138) (st2 := [xI p4, xI p3, xI p1, xR p0]) (fun hc hk => ?_) (fun hc hk => ?_) ?_
            · exact xj_ic_ne (tgt := 137) hC dX5_acted_130 (by decide) (fun hn => absurd hc hn) (fun _ => xj_iconst (v := 1) hC dX5_acted_133 (by decide) (xj_goto (tgt := 138) hC dX5_acted_134 (by decide) hk))
            · exact xj_ic_ne (tgt := 137) hC dX5_acted_130 (by decide) (fun _ => xj_iconst (v := 0) hC dX5_acted_137 (by decide) hk) (fun hn => absurd hn hc)
            obtain ⟨v30, hc29, hf⟩ := xm_bind hf
            obtain ⟨_, hob, _⟩ := xm_bind hc29
            refine xj_reti (xr_V hC (mX5_lesser l D ks b hc29) hob rfl xw_cod_X5_lesser xw_ini_X5 xw_ins_X5_lesser xw_sel_X5_lesser xw_ml_X5_223 xds_X5_lesser ⟨Nat.le_of_ble_eq_true rfl, Nat.le_of_ble_eq_true rfl⟩ rfl rfl (Nat.le_of_ble_eq_true rfl) ⟨Nat.le_of_ble_eq_true rfl, Nat.le_of_ble_eq_true rfl⟩ dX5_acted_138) ?_
            obtain ⟨he, hw⟩ := Prod.mk.inj (Option.some.inj hf)
            exact xj_iret hC hr (by decide) (by decide) dX5_acted_141 he hw
def fX5_acted (w : xmW) (th : (Option Nat)) (a1 : Int32) (a2 : Int32) (a3 : Int32) (a4 : Int32) (a5 : Int32) : Option (Int32 × xmW) := ((xmob w th 5).bind fun _ => ((fX5_kindOf w (th) (a1) (a3)).bind fun v2 => (if v2 = (4 : Int32) then ((fX5_noneOf w (th) (a1)).bind fun v4 => (some (v4, w))) else (if a2 = (4 : Int32) then (fX5_acted_L32 w (th) (a1) (a2) (a3) (a4) (a5) ) else ((fX5_kindOf w (th) (a1) (a4)).bind fun v6 => (if v6 = (4 : Int32) then ((fX5_noneOf w (th) (a1)).bind fun v8 => (some (v8, w))) else (fX5_acted_L32 w (th) (a1) (a2) (a3) (a4) (a5) )))))))
set_option maxHeartbeats 4000000 in
set_option maxRecDepth 100000 in
theorem mX5_acted (l : Launch) (D : va_G) (ks : Nat → ClassId) (b : Nat) {w : xmW} {th : (Option Nat)} {a1 : Int32} {a2 : Int32} {a3 : Int32} {a4 : Int32} {a5 : Int32} {y : Int32} {wz : xmW} (hf : fX5_acted w th a1 a2 a3 a4 a5 = some (y, wz)) : xmM l yX5_acted (Cond.code yX5_acted cX5_acted 6 (some (FieldType.int)) :: xmTs) 7 178 0 0 D ks b w [xR th, xI a1, xI a2, xI a3, xI a4, xI a5] (some (xI y)) wz := by
  unfold fX5_acted at hf
  obtain ⟨_, _, hf⟩ := xm_bind hf
  refine xmM.of (own := RX5) (lv0 := [(0, xR th), (1, xI a1), (2, xI a2), (3, xI a3), (4, xI a4), (5, xI a5)]) (by decide) rfl (Nat.le_of_ble_eq_true rfl) rfl ?_
  intro p e s m args below meth c hC hr hnm
  refine xj_aload_n hC dX5_acted_0 rfl 0 rfl ?_
  refine xj_iload_n hC dX5_acted_1 rfl 1 rfl ?_
  refine xj_iload_n hC dX5_acted_2 rfl 3 rfl ?_
  obtain ⟨v2, hc1, hf⟩ := xm_bind hf
  obtain ⟨_, hob, _⟩ := xm_bind hc1
  refine xj_reti (xr_V hC (mX5_kindOf l D ks b hc1) hob rfl xw_cod_X5_kindOf xw_ini_X5 xw_ins_X5_kindOf xw_sel_X5_kindOf xw_ml_X5_87 xds_X5_kindOf ⟨Nat.le_of_ble_eq_true rfl, Nat.le_of_ble_eq_true rfl⟩ rfl rfl (Nat.le_of_ble_eq_true rfl) ⟨Nat.le_of_ble_eq_true rfl, Nat.le_of_ble_eq_true rfl⟩ dX5_acted_3) ?_
  refine xj_iconst (v := 4) hC dX5_acted_6 (by decide) ?_
  refine xb_ic_eq (tgt := 26) hC dX5_acted_7 (by decide) hf (fun hf => ?_) (fun hf => ?_)
  · refine xj_aload_n hC dX5_acted_26 rfl 0 rfl ?_
    refine xj_iload_n hC dX5_acted_27 rfl 1 rfl ?_
    obtain ⟨v4, hc3, hf⟩ := xm_bind hf
    obtain ⟨_, hob, _⟩ := xm_bind hc3
    refine xj_reti (xr_V hC (mX5_noneOf l D ks b hc3) hob rfl xw_cod_X5_noneOf xw_ini_X5 xw_ins_X5_noneOf xw_sel_X5_noneOf xw_ml_X5_118 xds_X5_noneOf ⟨Nat.le_of_ble_eq_true rfl, Nat.le_of_ble_eq_true rfl⟩ rfl rfl (Nat.le_of_ble_eq_true rfl) ⟨Nat.le_of_ble_eq_true rfl, Nat.le_of_ble_eq_true rfl⟩ dX5_acted_28) ?_
    obtain ⟨he, hw⟩ := Prod.mk.inj (Option.some.inj hf)
    exact xj_iret hC hr (by decide) (by decide) dX5_acted_31 he hw
  · refine xj_iload_n hC dX5_acted_10 rfl 2 rfl ?_
    refine xj_iconst (v := 4) hC dX5_acted_11 (by decide) ?_
    refine xb_ic_eq (tgt := 32) hC dX5_acted_12 (by decide) hf (fun hf => ?_) (fun hf => ?_)
    · exact lX5_acted_L32 hC hr  w (th) (a1) (a2) (a3) (a4) (a5)  hf
    · refine xj_aload_n hC dX5_acted_15 rfl 0 rfl ?_
      refine xj_iload_n hC dX5_acted_16 rfl 1 rfl ?_
      refine xj_iload hC dX5_acted_17 4 rfl ?_
      obtain ⟨v6, hc5, hf⟩ := xm_bind hf
      obtain ⟨_, hob, _⟩ := xm_bind hc5
      refine xj_reti (xr_V hC (mX5_kindOf l D ks b hc5) hob rfl xw_cod_X5_kindOf xw_ini_X5 xw_ins_X5_kindOf xw_sel_X5_kindOf xw_ml_X5_87 xds_X5_kindOf ⟨Nat.le_of_ble_eq_true rfl, Nat.le_of_ble_eq_true rfl⟩ rfl rfl (Nat.le_of_ble_eq_true rfl) ⟨Nat.le_of_ble_eq_true rfl, Nat.le_of_ble_eq_true rfl⟩ dX5_acted_19) ?_
      refine xj_iconst (v := 4) hC dX5_acted_22 (by decide) ?_
      refine xb_ic_ne (tgt := 32) hC dX5_acted_23 (by decide) hf (fun hf => ?_) (fun hf => ?_)
      · exact lX5_acted_L32 hC hr  w (th) (a1) (a2) (a3) (a4) (a5)  hf
      · refine xj_aload_n hC dX5_acted_26 rfl 0 rfl ?_
        refine xj_iload_n hC dX5_acted_27 rfl 1 rfl ?_
        obtain ⟨v8, hc7, hf⟩ := xm_bind hf
        obtain ⟨_, hob, _⟩ := xm_bind hc7
        refine xj_reti (xr_V hC (mX5_noneOf l D ks b hc7) hob rfl xw_cod_X5_noneOf xw_ini_X5 xw_ins_X5_noneOf xw_sel_X5_noneOf xw_ml_X5_118 xds_X5_noneOf ⟨Nat.le_of_ble_eq_true rfl, Nat.le_of_ble_eq_true rfl⟩ rfl rfl (Nat.le_of_ble_eq_true rfl) ⟨Nat.le_of_ble_eq_true rfl, Nat.le_of_ble_eq_true rfl⟩ dX5_acted_28) ?_
        obtain ⟨he, hw⟩ := Prod.mk.inj (Option.some.inj hf)
        exact xj_iret hC hr (by decide) (by decide) dX5_acted_31 he hw
def fX5_act_L44 (w : xmW) (p0 : (Option Nat)) (p1 : Int32) (p2 : Int32) (p3 : Int32) (p4 : Int32) (p5 : Int32) : Option (Int32 × xmW) := ((fX5_in w ((p5).toInt64) ((0 : Int64)) ((5 : Int64))).bind fun v22 => (if v22 = 0 then (xmb2 (fX5_refused w (p0) ((-1 : Int32))) fun v32 w33 => (some (v32, w33))) else ((fX5_begins w (p0) ).bind fun w24 => (xmb2 (fX5_acted w24 (p0) (p1) (p2) (p3) (p4) (p5)) fun v26 w27 => (xmb2 (fX5_ends w27 (p0) (v26)) fun v29 w30 => (some (v29, w30)))))))
set_option maxHeartbeats 4000000 in
set_option maxRecDepth 100000 in
theorem lX5_act_L44 {p : Program} {l : Launch} {e : Env} {s : State} {m : MethodId} {args : Array Value} {below : List Frame} {meth : Method} {c : Code} {D : va_G} {ks : Nat → ClassId} {b : Nat} (hC : xmC p s m args meth c D ks b 6 cX5_act RX5) (hr : meth.sig.returnType = (some (FieldType.int))) {y : Int32} {wz : xmW} (w : xmW) (p0 : (Option Nat)) (p1 : Int32) (p2 : Int32) (p3 : Int32) (p4 : Int32) (p5 : Int32) (hf : fX5_act_L44 w p0 p1 p2 p3 p4 p5 = some (y, wz)) : xmJ p l e ({ frames := 8, cells := 0, slots := 0, locals := 203 } : Room) s m args below meth c D ks b 6 (MQ below (xmQ D ks b (some (xI y)) wz) args s 0 0 (xmA b)) w 0 0 44 [(0, xR p0), (1, xI p1), (2, xI p2), (3, xI p3), (4, xI p4), (5, xI p5)] [] := by
  unfold fX5_act_L44 at hf
  refine xj_iload hC dX5_act_44 5 rfl ?_
  refine xj_i2l hC dX5_act_46 ?_
  refine xj_lconst (v := 0) hC dX5_act_47 (by decide) ?_
  refine xj_ldc2 hC xw_cst_X5_105 dX5_act_48 ?_
  obtain ⟨v22, hc21, hf⟩ := xm_bind hf
  refine xj_reti (xr_S hC (mX5_in l D ks b hc21) xw_cod_X5_in xw_ini_X5 xw_sta_X5_in xw_ml_X5_70 xds_X5_in ⟨Nat.le_of_ble_eq_true rfl, Nat.le_of_ble_eq_true rfl⟩ rfl rfl (Nat.le_of_ble_eq_true rfl) ⟨Nat.le_of_ble_eq_true rfl, Nat.le_of_ble_eq_true rfl⟩ dX5_act_51) ?_
  refine xb_if_ne (tgt := 63) hC dX5_act_54 (by decide) hf (fun hf => ?_) (fun hf => ?_)
  · refine xj_aload_n hC dX5_act_63 rfl 0 rfl ?_
    obtain ⟨w24, hc23, hf⟩ := xm_bind hf
    obtain ⟨_, hob, _⟩ := xm_bind hc23
    refine xj_retv (xr_V hC (mX5_begins l D ks b hc23) hob rfl xw_cod_X5_begins xw_ini_X5 xw_ins_X5_begins xw_sel_X5_begins xw_ml_X5_176 xds_X5_begins ⟨Nat.le_of_ble_eq_true rfl, Nat.le_of_ble_eq_true rfl⟩ rfl rfl (Nat.le_of_ble_eq_true rfl) ⟨Nat.le_of_ble_eq_true rfl, Nat.le_of_ble_eq_true rfl⟩ dX5_act_64) ?_
    refine xj_aload_n hC dX5_act_67 rfl 0 rfl ?_
    refine xj_aload_n hC dX5_act_68 rfl 0 rfl ?_
    refine xj_iload_n hC dX5_act_69 rfl 1 rfl ?_
    refine xj_iload_n hC dX5_act_70 rfl 2 rfl ?_
    refine xj_iload_n hC dX5_act_71 rfl 3 rfl ?_
    refine xj_iload hC dX5_act_72 4 rfl ?_
    refine xj_iload hC dX5_act_74 5 rfl ?_
    obtain ⟨v26, w27, hc25, hf⟩ := xm_b2 hf
    obtain ⟨_, hob, _⟩ := xm_bind hc25
    refine xj_reti (xr_V hC (mX5_acted l D ks b hc25) hob rfl xw_cod_X5_acted xw_ini_X5 xw_ins_X5_acted xw_sel_X5_acted xw_ml_X5_226 xds_X5_acted ⟨Nat.le_of_ble_eq_true rfl, Nat.le_of_ble_eq_true rfl⟩ rfl rfl (Nat.le_of_ble_eq_true rfl) ⟨Nat.le_of_ble_eq_true rfl, Nat.le_of_ble_eq_true rfl⟩ dX5_act_76) ?_
    obtain ⟨v29, w30, hc28, hf⟩ := xm_b2 hf
    obtain ⟨_, hob, _⟩ := xm_bind hc28
    refine xj_reti (xr_V hC (mX5_ends l D ks b hc28) hob rfl xw_cod_X5_ends xw_ini_X5 xw_ins_X5_ends xw_sel_X5_ends xw_ml_X5_183 xds_X5_ends ⟨Nat.le_of_ble_eq_true rfl, Nat.le_of_ble_eq_true rfl⟩ rfl rfl (Nat.le_of_ble_eq_true rfl) ⟨Nat.le_of_ble_eq_true rfl, Nat.le_of_ble_eq_true rfl⟩ dX5_act_79) ?_
    obtain ⟨he, hw⟩ := Prod.mk.inj (Option.some.inj hf)
    exact xj_iret hC hr (by decide) (by decide) dX5_act_82 he hw
  · refine xj_aload_n hC dX5_act_57 rfl 0 rfl ?_
    refine xj_iconst (v := -1) hC dX5_act_58 (by decide) ?_
    obtain ⟨v32, w33, hc31, hf⟩ := xm_b2 hf
    obtain ⟨_, hob, _⟩ := xm_bind hc31
    refine xj_reti (xr_V hC (mX5_refused l D ks b hc31) hob rfl xw_cod_X5_refused xw_ini_X5 xw_ins_X5_refused xw_sel_X5_refused xw_ml_X5_57 xds_X5_refused ⟨Nat.le_of_ble_eq_true rfl, Nat.le_of_ble_eq_true rfl⟩ rfl rfl (Nat.le_of_ble_eq_true rfl) ⟨Nat.le_of_ble_eq_true rfl, Nat.le_of_ble_eq_true rfl⟩ dX5_act_59) ?_
    obtain ⟨he, hw⟩ := Prod.mk.inj (Option.some.inj hf)
    exact xj_iret hC hr (by decide) (by decide) dX5_act_62 he hw
def fX5_act (w : xmW) (th : (Option Nat)) (a1 : Int32) (a2 : Int32) (a3 : Int32) (a4 : Int32) (a5 : Int32) : Option (Int32 × xmW) := ((xmob w th 5).bind fun _ => ((fX5_isFormat w (th) (a1)).bind fun v2 => (if v2 = 0 then (xmb2 (fX5_refused w (th) ((-1 : Int32))) fun v4 w5 => (some (v4, w5))) else ((fX5_in w ((a2).toInt64) ((0 : Int64)) ((6 : Int64))).bind fun v7 => (if v7 = 0 then (xmb2 (fX5_refused w (th) ((-1 : Int32))) fun v9 w10 => (some (v9, w10))) else ((fX5_isCode w (th) (a1) (a3)).bind fun v12 => (if v12 = 0 then (xmb2 (fX5_refused w (th) ((-1 : Int32))) fun v14 w15 => (some (v14, w15))) else (if a2 = (4 : Int32) then (fX5_act_L44 w (th) (a1) (a2) (a3) (a4) (a5) ) else ((fX5_isCode w (th) (a1) (a4)).bind fun v17 => (if v17 = 0 then (xmb2 (fX5_refused w (th) ((-1 : Int32))) fun v19 w20 => (some (v19, w20))) else (fX5_act_L44 w (th) (a1) (a2) (a3) (a4) (a5) )))))))))))
set_option maxHeartbeats 4000000 in
set_option maxRecDepth 100000 in
theorem mX5_act (l : Launch) (D : va_G) (ks : Nat → ClassId) (b : Nat) {w : xmW} {th : (Option Nat)} {a1 : Int32} {a2 : Int32} {a3 : Int32} {a4 : Int32} {a5 : Int32} {y : Int32} {wz : xmW} (hf : fX5_act w th a1 a2 a3 a4 a5 = some (y, wz)) : xmM l yX5_act (Cond.code yX5_act cX5_act 6 (some (FieldType.int)) :: xmTs) 8 203 0 0 D ks b w [xR th, xI a1, xI a2, xI a3, xI a4, xI a5] (some (xI y)) wz := by
  unfold fX5_act at hf
  obtain ⟨_, _, hf⟩ := xm_bind hf
  refine xmM.of (own := RX5) (lv0 := [(0, xR th), (1, xI a1), (2, xI a2), (3, xI a3), (4, xI a4), (5, xI a5)]) (by decide) rfl (Nat.le_of_ble_eq_true rfl) rfl ?_
  intro p e s m args below meth c hC hr hnm
  refine xj_aload_n hC dX5_act_0 rfl 0 rfl ?_
  refine xj_iload_n hC dX5_act_1 rfl 1 rfl ?_
  obtain ⟨v2, hc1, hf⟩ := xm_bind hf
  obtain ⟨_, hob, _⟩ := xm_bind hc1
  refine xj_reti (xr_V hC (mX5_isFormat l D ks b hc1) hob rfl xw_cod_X5_isFormat xw_ini_X5 xw_ins_X5_isFormat xw_sel_X5_isFormat xw_ml_X5_109 xds_X5_isFormat ⟨Nat.le_of_ble_eq_true rfl, Nat.le_of_ble_eq_true rfl⟩ rfl rfl (Nat.le_of_ble_eq_true rfl) ⟨Nat.le_of_ble_eq_true rfl, Nat.le_of_ble_eq_true rfl⟩ dX5_act_2) ?_
  refine xb_if_eq (tgt := 57) hC dX5_act_5 (by decide) hf (fun hf => ?_) (fun hf => ?_)
  · refine xj_aload_n hC dX5_act_57 rfl 0 rfl ?_
    refine xj_iconst (v := -1) hC dX5_act_58 (by decide) ?_
    obtain ⟨v4, w5, hc3, hf⟩ := xm_b2 hf
    obtain ⟨_, hob, _⟩ := xm_bind hc3
    refine xj_reti (xr_V hC (mX5_refused l D ks b hc3) hob rfl xw_cod_X5_refused xw_ini_X5 xw_ins_X5_refused xw_sel_X5_refused xw_ml_X5_57 xds_X5_refused ⟨Nat.le_of_ble_eq_true rfl, Nat.le_of_ble_eq_true rfl⟩ rfl rfl (Nat.le_of_ble_eq_true rfl) ⟨Nat.le_of_ble_eq_true rfl, Nat.le_of_ble_eq_true rfl⟩ dX5_act_59) ?_
    obtain ⟨he, hw⟩ := Prod.mk.inj (Option.some.inj hf)
    exact xj_iret hC hr (by decide) (by decide) dX5_act_62 he hw
  · refine xj_iload_n hC dX5_act_8 rfl 2 rfl ?_
    refine xj_i2l hC dX5_act_9 ?_
    refine xj_lconst (v := 0) hC dX5_act_10 (by decide) ?_
    refine xj_ldc2 hC xw_cst_X5_113 dX5_act_11 ?_
    obtain ⟨v7, hc6, hf⟩ := xm_bind hf
    refine xj_reti (xr_S hC (mX5_in l D ks b hc6) xw_cod_X5_in xw_ini_X5 xw_sta_X5_in xw_ml_X5_70 xds_X5_in ⟨Nat.le_of_ble_eq_true rfl, Nat.le_of_ble_eq_true rfl⟩ rfl rfl (Nat.le_of_ble_eq_true rfl) ⟨Nat.le_of_ble_eq_true rfl, Nat.le_of_ble_eq_true rfl⟩ dX5_act_14) ?_
    refine xb_if_eq (tgt := 57) hC dX5_act_17 (by decide) hf (fun hf => ?_) (fun hf => ?_)
    · refine xj_aload_n hC dX5_act_57 rfl 0 rfl ?_
      refine xj_iconst (v := -1) hC dX5_act_58 (by decide) ?_
      obtain ⟨v9, w10, hc8, hf⟩ := xm_b2 hf
      obtain ⟨_, hob, _⟩ := xm_bind hc8
      refine xj_reti (xr_V hC (mX5_refused l D ks b hc8) hob rfl xw_cod_X5_refused xw_ini_X5 xw_ins_X5_refused xw_sel_X5_refused xw_ml_X5_57 xds_X5_refused ⟨Nat.le_of_ble_eq_true rfl, Nat.le_of_ble_eq_true rfl⟩ rfl rfl (Nat.le_of_ble_eq_true rfl) ⟨Nat.le_of_ble_eq_true rfl, Nat.le_of_ble_eq_true rfl⟩ dX5_act_59) ?_
      obtain ⟨he, hw⟩ := Prod.mk.inj (Option.some.inj hf)
      exact xj_iret hC hr (by decide) (by decide) dX5_act_62 he hw
    · refine xj_aload_n hC dX5_act_20 rfl 0 rfl ?_
      refine xj_iload_n hC dX5_act_21 rfl 1 rfl ?_
      refine xj_iload_n hC dX5_act_22 rfl 3 rfl ?_
      obtain ⟨v12, hc11, hf⟩ := xm_bind hf
      obtain ⟨_, hob, _⟩ := xm_bind hc11
      refine xj_reti (xr_V hC (mX5_isCode l D ks b hc11) hob rfl xw_cod_X5_isCode xw_ini_X5 xw_ins_X5_isCode xw_sel_X5_isCode xw_ml_X5_130 xds_X5_isCode ⟨Nat.le_of_ble_eq_true rfl, Nat.le_of_ble_eq_true rfl⟩ rfl rfl (Nat.le_of_ble_eq_true rfl) ⟨Nat.le_of_ble_eq_true rfl, Nat.le_of_ble_eq_true rfl⟩ dX5_act_23) ?_
      refine xb_if_eq (tgt := 57) hC dX5_act_26 (by decide) hf (fun hf => ?_) (fun hf => ?_)
      · refine xj_aload_n hC dX5_act_57 rfl 0 rfl ?_
        refine xj_iconst (v := -1) hC dX5_act_58 (by decide) ?_
        obtain ⟨v14, w15, hc13, hf⟩ := xm_b2 hf
        obtain ⟨_, hob, _⟩ := xm_bind hc13
        refine xj_reti (xr_V hC (mX5_refused l D ks b hc13) hob rfl xw_cod_X5_refused xw_ini_X5 xw_ins_X5_refused xw_sel_X5_refused xw_ml_X5_57 xds_X5_refused ⟨Nat.le_of_ble_eq_true rfl, Nat.le_of_ble_eq_true rfl⟩ rfl rfl (Nat.le_of_ble_eq_true rfl) ⟨Nat.le_of_ble_eq_true rfl, Nat.le_of_ble_eq_true rfl⟩ dX5_act_59) ?_
        obtain ⟨he, hw⟩ := Prod.mk.inj (Option.some.inj hf)
        exact xj_iret hC hr (by decide) (by decide) dX5_act_62 he hw
      · refine xj_iload_n hC dX5_act_29 rfl 2 rfl ?_
        refine xj_iconst (v := 4) hC dX5_act_30 (by decide) ?_
        refine xb_ic_eq (tgt := 44) hC dX5_act_31 (by decide) hf (fun hf => ?_) (fun hf => ?_)
        · exact lX5_act_L44 hC hr  w (th) (a1) (a2) (a3) (a4) (a5)  hf
        · refine xj_aload_n hC dX5_act_34 rfl 0 rfl ?_
          refine xj_iload_n hC dX5_act_35 rfl 1 rfl ?_
          refine xj_iload hC dX5_act_36 4 rfl ?_
          obtain ⟨v17, hc16, hf⟩ := xm_bind hf
          obtain ⟨_, hob, _⟩ := xm_bind hc16
          refine xj_reti (xr_V hC (mX5_isCode l D ks b hc16) hob rfl xw_cod_X5_isCode xw_ini_X5 xw_ins_X5_isCode xw_sel_X5_isCode xw_ml_X5_130 xds_X5_isCode ⟨Nat.le_of_ble_eq_true rfl, Nat.le_of_ble_eq_true rfl⟩ rfl rfl (Nat.le_of_ble_eq_true rfl) ⟨Nat.le_of_ble_eq_true rfl, Nat.le_of_ble_eq_true rfl⟩ dX5_act_38) ?_
          refine xb_if_eq (tgt := 57) hC dX5_act_41 (by decide) hf (fun hf => ?_) (fun hf => ?_)
          · refine xj_aload_n hC dX5_act_57 rfl 0 rfl ?_
            refine xj_iconst (v := -1) hC dX5_act_58 (by decide) ?_
            obtain ⟨v19, w20, hc18, hf⟩ := xm_b2 hf
            obtain ⟨_, hob, _⟩ := xm_bind hc18
            refine xj_reti (xr_V hC (mX5_refused l D ks b hc18) hob rfl xw_cod_X5_refused xw_ini_X5 xw_ins_X5_refused xw_sel_X5_refused xw_ml_X5_57 xds_X5_refused ⟨Nat.le_of_ble_eq_true rfl, Nat.le_of_ble_eq_true rfl⟩ rfl rfl (Nat.le_of_ble_eq_true rfl) ⟨Nat.le_of_ble_eq_true rfl, Nat.le_of_ble_eq_true rfl⟩ dX5_act_59) ?_
            obtain ⟨he, hw⟩ := Prod.mk.inj (Option.some.inj hf)
            exact xj_iret hC hr (by decide) (by decide) dX5_act_62 he hw
          · exact lX5_act_L44 hC hr  w (th) (a1) (a2) (a3) (a4) (a5)  hf
def fX5_comesNone (w : xmW) (th : (Option Nat)) (a1 : Int32) (a2 : Int32) : Option xmW := ((xmob w th 5).bind fun _ => (if a2 = 0 then ((xmput w th 5 23 (xI (3 : Int32))).bind fun w1 => (some w1)) else (xmb2 (fX5_invalidIn w (th) (a1)) fun v3 w4 => ((xmput w4 th 5 23 (xI (if 0 ≤ v3 then (3 : Int32) else (4 : Int32)))).bind fun w5 => (some w5)))))
set_option maxHeartbeats 4000000 in
set_option maxRecDepth 100000 in
theorem mX5_comesNone (l : Launch) (D : va_G) (ks : Nat → ClassId) (b : Nat) {w : xmW} {th : (Option Nat)} {a1 : Int32} {a2 : Int32} {wz : xmW} (hf : fX5_comesNone w th a1 a2 = some wz) : xmM l yX5_comesNone (Cond.code yX5_comesNone cX5_comesNone 3 none :: xmTs) 3 63 0 0 D ks b w [xR th, xI a1, xI a2] none wz := by
  unfold fX5_comesNone at hf
  obtain ⟨_, _, hf⟩ := xm_bind hf
  refine xmM.of (own := RX5) (lv0 := [(0, xR th), (1, xI a1), (2, xI a2)]) (by decide) rfl (Nat.le_of_ble_eq_true rfl) rfl ?_
  intro p e s m args below meth c hC hr hnm
  refine xj_iload_n hC dX5_comesNone_0 rfl 2 rfl ?_
  refine xb_if_eq (tgt := 24) hC dX5_comesNone_1 (by decide) hf (fun hf => ?_) (fun hf => ?_)
  · refine xj_aload_n hC dX5_comesNone_24 rfl 0 rfl ?_
    refine xj_iconst (v := 3) hC dX5_comesNone_25 (by decide) ?_
    refine xb_put hC 5 23 xcl_5 (by decide) xw_fl_X5_230 rfl (xmfit_i _) dX5_comesNone_26 hf (fun w1 hf => ?_)
    exact xj_vret hC hr (by decide) (by decide) dX5_comesNone_29 (Option.some.inj hf)
  · refine xj_aload_n hC dX5_comesNone_4 rfl 0 rfl ?_
    refine xj_aload_n hC dX5_comesNone_5 rfl 0 rfl ?_
    refine xj_iload_n hC dX5_comesNone_6 rfl 1 rfl ?_
    obtain ⟨v3, w4, hc2, hf⟩ := xm_b2 hf
    obtain ⟨_, hob, _⟩ := xm_bind hc2
    refine xj_reti (xr_V hC (mX5_invalidIn l D ks b hc2) hob rfl xw_cod_X5_invalidIn xw_ini_X5 xw_ins_X5_invalidIn xw_sel_X5_invalidIn xw_ml_X5_189 xds_X5_invalidIn ⟨Nat.le_of_ble_eq_true rfl, Nat.le_of_ble_eq_true rfl⟩ rfl rfl (Nat.le_of_ble_eq_true rfl) ⟨Nat.le_of_ble_eq_true rfl, Nat.le_of_ble_eq_true rfl⟩ dX5_comesNone_7) ?_
    refine xj_dia (cnd := 0 ≤ v3) (x := 3) (y := 4) (pc2 := 18) (st2 := [xR th]) (fun hc hk => ?_) (fun hc hk => ?_) ?_
    · exact xj_if_ge (tgt := 17) hC dX5_comesNone_10 (by decide) (fun _ => xj_iconst (v := 3) hC dX5_comesNone_17 (by decide) hk) (fun hn => absurd hc hn)
    · exact xj_if_ge (tgt := 17) hC dX5_comesNone_10 (by decide) (fun hn => absurd hn hc) (fun _ => xj_iconst (v := 4) hC dX5_comesNone_13 (by decide) (xj_goto (tgt := 18) hC dX5_comesNone_14 (by decide) hk))
    refine xb_put hC 5 23 xcl_5 (by decide) xw_fl_X5_230 rfl (xmfit_i _) dX5_comesNone_18 hf (fun w5 hf => ?_)
    refine xj_goto (tgt := 29) hC dX5_comesNone_21 (by decide) ?_
    exact xj_vret hC hr (by decide) (by decide) dX5_comesNone_29 (Option.some.inj hf)
def fX5_comesEndless (w : xmW) (th : (Option Nat)) (a1 : Int32) (a2 : Int32) : Option xmW := ((xmob w th 5).bind fun _ => ((xmgI w th 5 23).bind fun v1 => (if v1 = (if a2 = 0 then (2 : Int32) else (1 : Int32)) then ((fX5_comesNone w (th) (a1) ((1 : Int32))).bind fun w8 => (some w8)) else ((xmgI w th 5 23).bind fun v2 => (if (3 : Int32) ≤ v2 then ((xmgI w th 5 23).bind fun v3 => ((xmput w th 5 23 (xI v3)).bind fun w4 => (some w4))) else (if a2 = 0 then ((xmput w th 5 23 (xI (1 : Int32))).bind fun w5 => (some w5)) else ((xmput w th 5 23 (xI (2 : Int32))).bind fun w6 => (some w6))))))))
set_option maxHeartbeats 4000000 in
set_option maxRecDepth 100000 in
theorem mX5_comesEndless (l : Launch) (D : va_G) (ks : Nat → ClassId) (b : Nat) {w : xmW} {th : (Option Nat)} {a1 : Int32} {a2 : Int32} {wz : xmW} (hf : fX5_comesEndless w th a1 a2 = some wz) : xmM l yX5_comesEndless (Cond.code yX5_comesEndless cX5_comesEndless 3 none :: xmTs) 4 85 0 0 D ks b w [xR th, xI a1, xI a2] none wz := by
  unfold fX5_comesEndless at hf
  obtain ⟨_, _, hf⟩ := xm_bind hf
  refine xmM.of (own := RX5) (lv0 := [(0, xR th), (1, xI a1), (2, xI a2)]) (by decide) rfl (Nat.le_of_ble_eq_true rfl) rfl ?_
  intro p e s m args below meth c hC hr hnm
  refine xj_aload_n hC dX5_comesEndless_0 rfl 0 rfl ?_
  refine xb_getI hC 5 23 xcl_5 (by decide) xw_fl_X5_230 dX5_comesEndless_1 hf (fun v1 hf => ?_)
  refine xj_iload_n hC dX5_comesEndless_4 rfl 2 rfl ?_
  refine xj_dia (cnd := a2 = 0) (x := 2) (y := 1) (pc2 := 13) (st2 := [xI v1]) (fun hc hk => ?_) (fun hc hk => ?_) ?_
  · exact xj_if_eq (tgt := 12) hC dX5_comesEndless_5 (by decide) (fun _ => xj_iconst (v := 2) hC dX5_comesEndless_12 (by decide) hk) (fun hn => absurd hc hn)
  · exact xj_if_eq (tgt := 12) hC dX5_comesEndless_5 (by decide) (fun hn => absurd hn hc) (fun _ => xj_iconst (v := 1) hC dX5_comesEndless_8 (by decide) (xj_goto (tgt := 13) hC dX5_comesEndless_9 (by decide) hk))
  refine xb_ic_ne (tgt := 25) hC dX5_comesEndless_13 (by decide) hf (fun hf => ?_) (fun hf => ?_)
  · refine xj_aload_n hC dX5_comesEndless_25 rfl 0 rfl ?_
    refine xj_aload_n hC dX5_comesEndless_26 rfl 0 rfl ?_
    refine xb_getI hC 5 23 xcl_5 (by decide) xw_fl_X5_230 dX5_comesEndless_27 hf (fun v2 hf => ?_)
    refine xj_iconst (v := 3) hC dX5_comesEndless_30 (by decide) ?_
    refine xb_ic_ge (tgt := 46) hC dX5_comesEndless_31 (by decide) hf (fun hf => ?_) (fun hf => ?_)
    · refine xj_aload_n hC dX5_comesEndless_46 rfl 0 rfl ?_
      refine xb_getI hC 5 23 xcl_5 (by decide) xw_fl_X5_230 dX5_comesEndless_47 hf (fun v3 hf => ?_)
      refine xb_put hC 5 23 xcl_5 (by decide) xw_fl_X5_230 rfl (xmfit_i _) dX5_comesEndless_50 hf (fun w4 hf => ?_)
      exact xj_vret hC hr (by decide) (by decide) dX5_comesEndless_53 (Option.some.inj hf)
    · refine xj_iload_n hC dX5_comesEndless_34 rfl 2 rfl ?_
      refine xb_if_eq (tgt := 42) hC dX5_comesEndless_35 (by decide) hf (fun hf => ?_) (fun hf => ?_)
      · refine xj_iconst (v := 1) hC dX5_comesEndless_42 (by decide) ?_
        refine xj_goto (tgt := 50) hC dX5_comesEndless_43 (by decide) ?_
        refine xb_put hC 5 23 xcl_5 (by decide) xw_fl_X5_230 rfl (xmfit_i _) dX5_comesEndless_50 hf (fun w5 hf => ?_)
        exact xj_vret hC hr (by decide) (by decide) dX5_comesEndless_53 (Option.some.inj hf)
      · refine xj_iconst (v := 2) hC dX5_comesEndless_38 (by decide) ?_
        refine xj_goto (tgt := 50) hC dX5_comesEndless_39 (by decide) ?_
        refine xb_put hC 5 23 xcl_5 (by decide) xw_fl_X5_230 rfl (xmfit_i _) dX5_comesEndless_50 hf (fun w6 hf => ?_)
        exact xj_vret hC hr (by decide) (by decide) dX5_comesEndless_53 (Option.some.inj hf)
  · refine xj_aload_n hC dX5_comesEndless_16 rfl 0 rfl ?_
    refine xj_iload_n hC dX5_comesEndless_17 rfl 1 rfl ?_
    refine xj_iconst (v := 1) hC dX5_comesEndless_18 (by decide) ?_
    obtain ⟨w8, hc7, hf⟩ := xm_bind hf
    obtain ⟨_, hob, _⟩ := xm_bind hc7
    refine xj_retv (xr_V hC (mX5_comesNone l D ks b hc7) hob rfl xw_cod_X5_comesNone xw_ini_X5 xw_ins_X5_comesNone xw_sel_X5_comesNone xw_ml_X5_233 xds_X5_comesNone ⟨Nat.le_of_ble_eq_true rfl, Nat.le_of_ble_eq_true rfl⟩ rfl rfl (Nat.le_of_ble_eq_true rfl) ⟨Nat.le_of_ble_eq_true rfl, Nat.le_of_ble_eq_true rfl⟩ dX5_comesEndless_19) ?_
    refine xj_goto (tgt := 53) hC dX5_comesEndless_22 (by decide) ?_
    exact xj_vret hC hr (by decide) (by decide) dX5_comesEndless_53 (Option.some.inj hf)
def fX5_comes (w : xmW) (th : (Option Nat)) (a1 : Int32) (a2 : Int32) (a3 : Int64) : Option xmW := ((xmob w th 5).bind fun _ => ((xmgI w th 5 23).bind fun v1 => (if v1 ≤ (2 : Int32) then ((fX5_kindOf w (th) (a1) (a2)).bind fun v3 => (if v3 = (4 : Int32) then ((fX5_comesNone w (th) (a1) ((0 : Int32))).bind fun w13 => (some w13)) else (if v3 = (3 : Int32) then ((fX5_isMinus w (th) (a1) (a2)).bind fun v9 => ((fX5_comesEndless w (th) (a1) (v9)).bind fun w11 => (some w11))) else ((xmgL w th 5 24).bind fun v4 => ((fX5_unitsOf w (th) (a1) (a2)).bind fun v6 => ((xmput w th 5 24 (xL (v4 + (v6 * a3)))).bind fun w7 => (some w7))))))) else (some w))))
set_option maxHeartbeats 4000000 in
set_option maxRecDepth 100000 in
theorem mX5_comes (l : Launch) (D : va_G) (ks : Nat → ClassId) (b : Nat) {w : xmW} {th : (Option Nat)} {a1 : Int32} {a2 : Int32} {a3 : Int64} {wz : xmW} (hf : fX5_comes w th a1 a2 a3 = some wz) : xmM l yX5_comes (Cond.code yX5_comes cX5_comes 6 none :: xmTs) 5 107 0 0 D ks b w [xR th, xI a1, xI a2, xL a3] none wz := by
  unfold fX5_comes at hf
  obtain ⟨_, _, hf⟩ := xm_bind hf
  refine xmM.of (own := RX5) (lv0 := [(0, xR th), (1, xI a1), (2, xI a2), (3, xL a3)]) (by decide) rfl (Nat.le_of_ble_eq_true rfl) rfl ?_
  intro p e s m args below meth c hC hr hnm
  refine xj_aload_n hC dX5_comes_0 rfl 0 rfl ?_
  refine xb_getI hC 5 23 xcl_5 (by decide) xw_fl_X5_230 dX5_comes_1 hf (fun v1 hf => ?_)
  refine xj_iconst (v := 2) hC dX5_comes_4 (by decide) ?_
  refine xb_ic_le (tgt := 9) hC dX5_comes_5 (by decide) hf (fun hf => ?_) (fun hf => ?_)
  · refine xj_aload_n hC dX5_comes_9 rfl 0 rfl ?_
    refine xj_iload_n hC dX5_comes_10 rfl 1 rfl ?_
    refine xj_iload_n hC dX5_comes_11 rfl 2 rfl ?_
    obtain ⟨v3, hc2, hf⟩ := xm_bind hf
    obtain ⟨_, hob, _⟩ := xm_bind hc2
    refine xj_reti (xr_V hC (mX5_kindOf l D ks b hc2) hob rfl xw_cod_X5_kindOf xw_ini_X5 xw_ins_X5_kindOf xw_sel_X5_kindOf xw_ml_X5_87 xds_X5_kindOf ⟨Nat.le_of_ble_eq_true rfl, Nat.le_of_ble_eq_true rfl⟩ rfl rfl (Nat.le_of_ble_eq_true rfl) ⟨Nat.le_of_ble_eq_true rfl, Nat.le_of_ble_eq_true rfl⟩ dX5_comes_12) ?_
    refine xj_istore (lv' := [(5, xI v3), (0, xR th), (1, xI a1), (2, xI a2), (3, xL a3)]) hC dX5_comes_15 (by decide) rfl ?_
    refine xj_iload hC dX5_comes_17 0 rfl ?_
    refine xj_iconst (v := 4) hC dX5_comes_19 (by decide) ?_
    refine xb_ic_ne (tgt := 32) hC dX5_comes_20 (by decide) hf (fun hf => ?_) (fun hf => ?_)
    · refine xj_iload hC dX5_comes_32 0 rfl ?_
      refine xj_iconst (v := 3) hC dX5_comes_34 (by decide) ?_
      refine xb_ic_ne (tgt := 52) hC dX5_comes_35 (by decide) hf (fun hf => ?_) (fun hf => ?_)
      · refine xj_aload_n hC dX5_comes_52 rfl 1 rfl ?_
        refine xj_dup hC dX5_comes_53 rfl ?_
        refine xb_getL hC 5 24 xcl_5 (by decide) xw_fl_X5_240 dX5_comes_54 hf (fun v4 hf => ?_)
        refine xj_aload_n hC dX5_comes_57 rfl 1 rfl ?_
        refine xj_iload_n hC dX5_comes_58 rfl 2 rfl ?_
        refine xj_iload_n hC dX5_comes_59 rfl 3 rfl ?_
        obtain ⟨v6, hc5, hf⟩ := xm_bind hf
        obtain ⟨_, hob, _⟩ := xm_bind hc5
        refine xj_retl (xr_V hC (mX5_unitsOf l D ks b hc5) hob rfl xw_cod_X5_unitsOf xw_ini_X5 xw_ins_X5_unitsOf xw_sel_X5_unitsOf xw_ml_X5_135 xds_X5_unitsOf ⟨Nat.le_of_ble_eq_true rfl, Nat.le_of_ble_eq_true rfl⟩ rfl rfl (Nat.le_of_ble_eq_true rfl) ⟨Nat.le_of_ble_eq_true rfl, Nat.le_of_ble_eq_true rfl⟩ dX5_comes_60) ?_
        refine xj_lload_n hC dX5_comes_63 rfl 4 rfl ?_
        refine xj_lmul hC dX5_comes_64 ?_
        refine xj_ladd hC dX5_comes_65 ?_
        refine xb_put hC 5 24 xcl_5 (by decide) xw_fl_X5_240 rfl (xmfit_l _) dX5_comes_66 hf (fun w7 hf => ?_)
        exact xj_vret hC hr (by decide) (by decide) dX5_comes_69 (Option.some.inj hf)
      · refine xj_aload_n hC dX5_comes_38 rfl 1 rfl ?_
        refine xj_iload_n hC dX5_comes_39 rfl 2 rfl ?_
        refine xj_aload_n hC dX5_comes_40 rfl 1 rfl ?_
        refine xj_iload_n hC dX5_comes_41 rfl 2 rfl ?_
        refine xj_iload_n hC dX5_comes_42 rfl 3 rfl ?_
        obtain ⟨v9, hc8, hf⟩ := xm_bind hf
        obtain ⟨_, hob, _⟩ := xm_bind hc8
        refine xj_reti (xr_V hC (mX5_isMinus l D ks b hc8) hob rfl xw_cod_X5_isMinus xw_ini_X5 xw_ins_X5_isMinus xw_sel_X5_isMinus xw_ml_X5_96 xds_X5_isMinus ⟨Nat.le_of_ble_eq_true rfl, Nat.le_of_ble_eq_true rfl⟩ rfl rfl (Nat.le_of_ble_eq_true rfl) ⟨Nat.le_of_ble_eq_true rfl, Nat.le_of_ble_eq_true rfl⟩ dX5_comes_43) ?_
        obtain ⟨w11, hc10, hf⟩ := xm_bind hf
        obtain ⟨_, hob, _⟩ := xm_bind hc10
        refine xj_retv (xr_V hC (mX5_comesEndless l D ks b hc10) hob rfl xw_cod_X5_comesEndless xw_ini_X5 xw_ins_X5_comesEndless xw_sel_X5_comesEndless xw_ml_X5_237 xds_X5_comesEndless ⟨Nat.le_of_ble_eq_true rfl, Nat.le_of_ble_eq_true rfl⟩ rfl rfl (Nat.le_of_ble_eq_true rfl) ⟨Nat.le_of_ble_eq_true rfl, Nat.le_of_ble_eq_true rfl⟩ dX5_comes_46) ?_
        refine xj_goto (tgt := 69) hC dX5_comes_49 (by decide) ?_
        exact xj_vret hC hr (by decide) (by decide) dX5_comes_69 (Option.some.inj hf)
    · refine xj_aload_n hC dX5_comes_23 rfl 1 rfl ?_
      refine xj_iload_n hC dX5_comes_24 rfl 2 rfl ?_
      refine xj_iconst (v := 0) hC dX5_comes_25 (by decide) ?_
      obtain ⟨w13, hc12, hf⟩ := xm_bind hf
      obtain ⟨_, hob, _⟩ := xm_bind hc12
      refine xj_retv (xr_V hC (mX5_comesNone l D ks b hc12) hob rfl xw_cod_X5_comesNone xw_ini_X5 xw_ins_X5_comesNone xw_sel_X5_comesNone xw_ml_X5_233 xds_X5_comesNone ⟨Nat.le_of_ble_eq_true rfl, Nat.le_of_ble_eq_true rfl⟩ rfl rfl (Nat.le_of_ble_eq_true rfl) ⟨Nat.le_of_ble_eq_true rfl, Nat.le_of_ble_eq_true rfl⟩ dX5_comes_26) ?_
      refine xj_goto (tgt := 69) hC dX5_comes_29 (by decide) ?_
      exact xj_vret hC hr (by decide) (by decide) dX5_comes_69 (Option.some.inj hf)
  · exact xj_vret hC hr (by decide) (by decide) dX5_comes_8 (Option.some.inj hf)
def fX5_comesProduct_L58 (w : xmW) (p0 : (Option Nat)) (p1 : Int32) (p2 : Int32) (p3 : Int32) (p4 : Int32) (p5 : Int32) : Option xmW := (if p4 = 0 then ((fX5_comesNone w (p0) (p1) ((1 : Int32))).bind fun w17 => (some w17)) else (if p5 = 0 then ((fX5_comesNone w (p0) (p1) ((1 : Int32))).bind fun w25 => (some w25)) else ((fX5_isMinus w (p0) (p1) (p2)).bind fun v19 => ((fX5_isMinus w (p0) (p1) (p3)).bind fun v21 => ((fX5_comesEndless w (p0) (p1) ((if v19 = v21 then (0 : Int32) else (1 : Int32)))).bind fun w23 => (some w23))))))
set_option maxHeartbeats 4000000 in
set_option maxRecDepth 100000 in
theorem lX5_comesProduct_L58 {p : Program} {l : Launch} {e : Env} {s : State} {m : MethodId} {args : Array Value} {below : List Frame} {meth : Method} {c : Code} {D : va_G} {ks : Nat → ClassId} {b : Nat} (hC : xmC p s m args meth c D ks b 6 cX5_comesProduct RX5) (hr : meth.sig.returnType = none) {wz : xmW} (w : xmW) (p0 : (Option Nat)) (p1 : Int32) (p2 : Int32) (p3 : Int32) (p4 : Int32) (p5 : Int32) (hf : fX5_comesProduct_L58 w p0 p1 p2 p3 p4 p5 = some wz) : xmJ p l e ({ frames := 5, cells := 0, slots := 0, locals := 107 } : Room) s m args below meth c D ks b 6 (MQ below (xmQ D ks b none wz) args s 0 0 (xmA b)) w 0 0 58 [(0, xR p0), (1, xI p1), (2, xI p2), (3, xI p3), (4, xI p4), (5, xI p5)] [] := by
  unfold fX5_comesProduct_L58 at hf
  refine xj_iload hC dX5_comesProduct_58 4 rfl ?_
  refine xb_if_eq (tgt := 68) hC dX5_comesProduct_60 (by decide) hf (fun hf => ?_) (fun hf => ?_)
  · refine xj_aload_n hC dX5_comesProduct_68 rfl 0 rfl ?_
    refine xj_iload_n hC dX5_comesProduct_69 rfl 1 rfl ?_
    refine xj_iconst (v := 1) hC dX5_comesProduct_70 (by decide) ?_
    obtain ⟨w17, hc16, hf⟩ := xm_bind hf
    obtain ⟨_, hob, _⟩ := xm_bind hc16
    refine xj_retv (xr_V hC (mX5_comesNone l D ks b hc16) hob rfl xw_cod_X5_comesNone xw_ini_X5 xw_ins_X5_comesNone xw_sel_X5_comesNone xw_ml_X5_233 xds_X5_comesNone ⟨Nat.le_of_ble_eq_true rfl, Nat.le_of_ble_eq_true rfl⟩ rfl rfl (Nat.le_of_ble_eq_true rfl) ⟨Nat.le_of_ble_eq_true rfl, Nat.le_of_ble_eq_true rfl⟩ dX5_comesProduct_71) ?_
    refine xj_goto (tgt := 127) hC dX5_comesProduct_74 (by decide) ?_
    exact xj_vret hC hr (by decide) (by decide) dX5_comesProduct_127 (Option.some.inj hf)
  · refine xj_iload hC dX5_comesProduct_63 5 rfl ?_
    refine xb_if_ne (tgt := 77) hC dX5_comesProduct_65 (by decide) hf (fun hf => ?_) (fun hf => ?_)
    · refine xj_aload_n hC dX5_comesProduct_77 rfl 0 rfl ?_
      refine xj_iload_n hC dX5_comesProduct_78 rfl 1 rfl ?_
      refine xj_aload_n hC dX5_comesProduct_79 rfl 0 rfl ?_
      refine xj_iload_n hC dX5_comesProduct_80 rfl 1 rfl ?_
      refine xj_iload_n hC dX5_comesProduct_81 rfl 2 rfl ?_
      obtain ⟨v19, hc18, hf⟩ := xm_bind hf
      obtain ⟨_, hob, _⟩ := xm_bind hc18
      refine xj_reti (xr_V hC (mX5_isMinus l D ks b hc18) hob rfl xw_cod_X5_isMinus xw_ini_X5 xw_ins_X5_isMinus xw_sel_X5_isMinus xw_ml_X5_96 xds_X5_isMinus ⟨Nat.le_of_ble_eq_true rfl, Nat.le_of_ble_eq_true rfl⟩ rfl rfl (Nat.le_of_ble_eq_true rfl) ⟨Nat.le_of_ble_eq_true rfl, Nat.le_of_ble_eq_true rfl⟩ dX5_comesProduct_82) ?_
      refine xj_aload_n hC dX5_comesProduct_85 rfl 0 rfl ?_
      refine xj_iload_n hC dX5_comesProduct_86 rfl 1 rfl ?_
      refine xj_iload_n hC dX5_comesProduct_87 rfl 3 rfl ?_
      obtain ⟨v21, hc20, hf⟩ := xm_bind hf
      obtain ⟨_, hob, _⟩ := xm_bind hc20
      refine xj_reti (xr_V hC (mX5_isMinus l D ks b hc20) hob rfl xw_cod_X5_isMinus xw_ini_X5 xw_ins_X5_isMinus xw_sel_X5_isMinus xw_ml_X5_96 xds_X5_isMinus ⟨Nat.le_of_ble_eq_true rfl, Nat.le_of_ble_eq_true rfl⟩ rfl rfl (Nat.le_of_ble_eq_true rfl) ⟨Nat.le_of_ble_eq_true rfl, Nat.le_of_ble_eq_true rfl⟩ dX5_comesProduct_88) ?_
      refine xj_dia (cnd := v19 = v21) (x := 0) (y := 1) (pc2 := 99) (st2 := [xI p1, xR p0]) (fun hc hk => ?_) (fun hc hk => ?_) ?_
      · exact xj_ic_eq (tgt := 98) hC dX5_comesProduct_91 (by decide) (fun _ => xj_iconst (v := 0) hC dX5_comesProduct_98 (by decide) hk) (fun hn => absurd hc hn)
      · exact xj_ic_eq (tgt := 98) hC dX5_comesProduct_91 (by decide) (fun hn => absurd hn hc) (fun _ => xj_iconst (v := 1) hC dX5_comesProduct_94 (by decide) (xj_goto (tgt := 99) hC dX5_comesProduct_95 (by decide) hk))
      obtain ⟨w23, hc22, hf⟩ := xm_bind hf
      obtain ⟨_, hob, _⟩ := xm_bind hc22
      refine xj_retv (xr_V hC (mX5_comesEndless l D ks b hc22) hob rfl xw_cod_X5_comesEndless xw_ini_X5 xw_ins_X5_comesEndless xw_sel_X5_comesEndless xw_ml_X5_237 xds_X5_comesEndless ⟨Nat.le_of_ble_eq_true rfl, Nat.le_of_ble_eq_true rfl⟩ rfl rfl (Nat.le_of_ble_eq_true rfl) ⟨Nat.le_of_ble_eq_true rfl, Nat.le_of_ble_eq_true rfl⟩ dX5_comesProduct_99) ?_
      refine xj_goto (tgt := 127) hC dX5_comesProduct_102 (by decide) ?_
      exact xj_vret hC hr (by decide) (by decide) dX5_comesProduct_127 (Option.some.inj hf)
    · refine xj_aload_n hC dX5_comesProduct_68 rfl 0 rfl ?_
      refine xj_iload_n hC dX5_comesProduct_69 rfl 1 rfl ?_
      refine xj_iconst (v := 1) hC dX5_comesProduct_70 (by decide) ?_
      obtain ⟨w25, hc24, hf⟩ := xm_bind hf
      obtain ⟨_, hob, _⟩ := xm_bind hc24
      refine xj_retv (xr_V hC (mX5_comesNone l D ks b hc24) hob rfl xw_cod_X5_comesNone xw_ini_X5 xw_ins_X5_comesNone xw_sel_X5_comesNone xw_ml_X5_233 xds_X5_comesNone ⟨Nat.le_of_ble_eq_true rfl, Nat.le_of_ble_eq_true rfl⟩ rfl rfl (Nat.le_of_ble_eq_true rfl) ⟨Nat.le_of_ble_eq_true rfl, Nat.le_of_ble_eq_true rfl⟩ dX5_comesProduct_71) ?_
      refine xj_goto (tgt := 127) hC dX5_comesProduct_74 (by decide) ?_
      exact xj_vret hC hr (by decide) (by decide) dX5_comesProduct_127 (Option.some.inj hf)
def fX5_comesProduct (w : xmW) (th : (Option Nat)) (a1 : Int32) (a2 : Int32) (a3 : Int32) : Option xmW := ((xmob w th 5).bind fun _ => ((xmgI w th 5 23).bind fun v1 => (if v1 ≤ (2 : Int32) then ((fX5_kindOf w (th) (a1) (a2)).bind fun v3 => ((fX5_kindOf w (th) (a1) (a3)).bind fun v5 => (if v3 = (4 : Int32) then ((fX5_comesNone w (th) (a1) ((0 : Int32))).bind fun w7 => (some w7)) else (if v5 = (4 : Int32) then ((fX5_comesNone w (th) (a1) ((0 : Int32))).bind fun w15 => (some w15)) else (if v3 = (3 : Int32) then (fX5_comesProduct_L58 w (th) (a1) (a2) (a3) (v3) (v5) ) else (if v5 = (3 : Int32) then (fX5_comesProduct_L58 w (th) (a1) (a2) (a3) (v3) (v5) ) else ((xmgL w th 5 24).bind fun v8 => ((fX5_unitsOf w (th) (a1) (a2)).bind fun v10 => ((fX5_unitsOf w (th) (a1) (a3)).bind fun v12 => ((xmput w th 5 24 (xL (v8 + (v10 * v12)))).bind fun w13 => (some w13))))))))))) else (some w))))
set_option maxHeartbeats 4000000 in
set_option maxRecDepth 100000 in
theorem mX5_comesProduct (l : Launch) (D : va_G) (ks : Nat → ClassId) (b : Nat) {w : xmW} {th : (Option Nat)} {a1 : Int32} {a2 : Int32} {a3 : Int32} {wz : xmW} (hf : fX5_comesProduct w th a1 a2 a3 = some wz) : xmM l yX5_comesProduct (Cond.code yX5_comesProduct cX5_comesProduct 6 none :: xmTs) 5 107 0 0 D ks b w [xR th, xI a1, xI a2, xI a3] none wz := by
  unfold fX5_comesProduct at hf
  obtain ⟨_, _, hf⟩ := xm_bind hf
  refine xmM.of (own := RX5) (lv0 := [(0, xR th), (1, xI a1), (2, xI a2), (3, xI a3)]) (by decide) rfl (Nat.le_of_ble_eq_true rfl) rfl ?_
  intro p e s m args below meth c hC hr hnm
  refine xj_aload_n hC dX5_comesProduct_0 rfl 0 rfl ?_
  refine xb_getI hC 5 23 xcl_5 (by decide) xw_fl_X5_230 dX5_comesProduct_1 hf (fun v1 hf => ?_)
  refine xj_iconst (v := 2) hC dX5_comesProduct_4 (by decide) ?_
  refine xb_ic_le (tgt := 9) hC dX5_comesProduct_5 (by decide) hf (fun hf => ?_) (fun hf => ?_)
  · refine xj_aload_n hC dX5_comesProduct_9 rfl 0 rfl ?_
    refine xj_iload_n hC dX5_comesProduct_10 rfl 1 rfl ?_
    refine xj_iload_n hC dX5_comesProduct_11 rfl 2 rfl ?_
    obtain ⟨v3, hc2, hf⟩ := xm_bind hf
    obtain ⟨_, hob, _⟩ := xm_bind hc2
    refine xj_reti (xr_V hC (mX5_kindOf l D ks b hc2) hob rfl xw_cod_X5_kindOf xw_ini_X5 xw_ins_X5_kindOf xw_sel_X5_kindOf xw_ml_X5_87 xds_X5_kindOf ⟨Nat.le_of_ble_eq_true rfl, Nat.le_of_ble_eq_true rfl⟩ rfl rfl (Nat.le_of_ble_eq_true rfl) ⟨Nat.le_of_ble_eq_true rfl, Nat.le_of_ble_eq_true rfl⟩ dX5_comesProduct_12) ?_
    refine xj_istore (lv' := [(4, xI v3), (0, xR th), (1, xI a1), (2, xI a2), (3, xI a3)]) hC dX5_comesProduct_15 (by decide) rfl ?_
    refine xj_aload_n hC dX5_comesProduct_17 rfl 1 rfl ?_
    refine xj_iload_n hC dX5_comesProduct_18 rfl 2 rfl ?_
    refine xj_iload_n hC dX5_comesProduct_19 rfl 4 rfl ?_
    obtain ⟨v5, hc4, hf⟩ := xm_bind hf
    obtain ⟨_, hob, _⟩ := xm_bind hc4
    refine xj_reti (xr_V hC (mX5_kindOf l D ks b hc4) hob rfl xw_cod_X5_kindOf xw_ini_X5 xw_ins_X5_kindOf xw_sel_X5_kindOf xw_ml_X5_87 xds_X5_kindOf ⟨Nat.le_of_ble_eq_true rfl, Nat.le_of_ble_eq_true rfl⟩ rfl rfl (Nat.le_of_ble_eq_true rfl) ⟨Nat.le_of_ble_eq_true rfl, Nat.le_of_ble_eq_true rfl⟩ dX5_comesProduct_20) ?_
    refine xj_istore (lv' := [(5, xI v5), (4, xI v3), (0, xR th), (1, xI a1), (2, xI a2), (3, xI a3)]) hC dX5_comesProduct_23 (by decide) rfl ?_
    refine xj_iload hC dX5_comesProduct_25 1 rfl ?_
    refine xj_iconst (v := 4) hC dX5_comesProduct_27 (by decide) ?_
    refine xb_ic_eq (tgt := 37) hC dX5_comesProduct_28 (by decide) hf (fun hf => ?_) (fun hf => ?_)
    · refine xj_aload_n hC dX5_comesProduct_37 rfl 2 rfl ?_
      refine xj_iload_n hC dX5_comesProduct_38 rfl 3 rfl ?_
      refine xj_iconst (v := 0) hC dX5_comesProduct_39 (by decide) ?_
      obtain ⟨w7, hc6, hf⟩ := xm_bind hf
      obtain ⟨_, hob, _⟩ := xm_bind hc6
      refine xj_retv (xr_V hC (mX5_comesNone l D ks b hc6) hob rfl xw_cod_X5_comesNone xw_ini_X5 xw_ins_X5_comesNone xw_sel_X5_comesNone xw_ml_X5_233 xds_X5_comesNone ⟨Nat.le_of_ble_eq_true rfl, Nat.le_of_ble_eq_true rfl⟩ rfl rfl (Nat.le_of_ble_eq_true rfl) ⟨Nat.le_of_ble_eq_true rfl, Nat.le_of_ble_eq_true rfl⟩ dX5_comesProduct_40) ?_
      refine xj_goto (tgt := 127) hC dX5_comesProduct_43 (by decide) ?_
      exact xj_vret hC hr (by decide) (by decide) dX5_comesProduct_127 (Option.some.inj hf)
    · refine xj_iload hC dX5_comesProduct_31 0 rfl ?_
      refine xj_iconst (v := 4) hC dX5_comesProduct_33 (by decide) ?_
      refine xb_ic_ne (tgt := 46) hC dX5_comesProduct_34 (by decide) hf (fun hf => ?_) (fun hf => ?_)
      · refine xj_iload hC dX5_comesProduct_46 1 rfl ?_
        refine xj_iconst (v := 3) hC dX5_comesProduct_48 (by decide) ?_
        refine xb_ic_eq (tgt := 58) hC dX5_comesProduct_49 (by decide) hf (fun hf => ?_) (fun hf => ?_)
        · refine xj_lv [2, 3, 4, 5, 1, 0] rfl ?_
          exact lX5_comesProduct_L58 hC hr  w (th) (a1) (a2) (a3) (v3) (v5)  hf
        · refine xj_iload hC dX5_comesProduct_52 0 rfl ?_
          refine xj_iconst (v := 3) hC dX5_comesProduct_54 (by decide) ?_
          refine xb_ic_ne (tgt := 105) hC dX5_comesProduct_55 (by decide) hf (fun hf => ?_) (fun hf => ?_)
          · refine xj_aload_n hC dX5_comesProduct_105 rfl 2 rfl ?_
            refine xj_dup hC dX5_comesProduct_106 rfl ?_
            refine xb_getL hC 5 24 xcl_5 (by decide) xw_fl_X5_240 dX5_comesProduct_107 hf (fun v8 hf => ?_)
            refine xj_aload_n hC dX5_comesProduct_110 rfl 2 rfl ?_
            refine xj_iload_n hC dX5_comesProduct_111 rfl 3 rfl ?_
            refine xj_iload_n hC dX5_comesProduct_112 rfl 4 rfl ?_
            obtain ⟨v10, hc9, hf⟩ := xm_bind hf
            obtain ⟨_, hob, _⟩ := xm_bind hc9
            refine xj_retl (xr_V hC (mX5_unitsOf l D ks b hc9) hob rfl xw_cod_X5_unitsOf xw_ini_X5 xw_ins_X5_unitsOf xw_sel_X5_unitsOf xw_ml_X5_135 xds_X5_unitsOf ⟨Nat.le_of_ble_eq_true rfl, Nat.le_of_ble_eq_true rfl⟩ rfl rfl (Nat.le_of_ble_eq_true rfl) ⟨Nat.le_of_ble_eq_true rfl, Nat.le_of_ble_eq_true rfl⟩ dX5_comesProduct_113) ?_
            refine xj_aload_n hC dX5_comesProduct_116 rfl 2 rfl ?_
            refine xj_iload_n hC dX5_comesProduct_117 rfl 3 rfl ?_
            refine xj_iload_n hC dX5_comesProduct_118 rfl 5 rfl ?_
            obtain ⟨v12, hc11, hf⟩ := xm_bind hf
            obtain ⟨_, hob, _⟩ := xm_bind hc11
            refine xj_retl (xr_V hC (mX5_unitsOf l D ks b hc11) hob rfl xw_cod_X5_unitsOf xw_ini_X5 xw_ins_X5_unitsOf xw_sel_X5_unitsOf xw_ml_X5_135 xds_X5_unitsOf ⟨Nat.le_of_ble_eq_true rfl, Nat.le_of_ble_eq_true rfl⟩ rfl rfl (Nat.le_of_ble_eq_true rfl) ⟨Nat.le_of_ble_eq_true rfl, Nat.le_of_ble_eq_true rfl⟩ dX5_comesProduct_119) ?_
            refine xj_lmul hC dX5_comesProduct_122 ?_
            refine xj_ladd hC dX5_comesProduct_123 ?_
            refine xb_put hC 5 24 xcl_5 (by decide) xw_fl_X5_240 rfl (xmfit_l _) dX5_comesProduct_124 hf (fun w13 hf => ?_)
            exact xj_vret hC hr (by decide) (by decide) dX5_comesProduct_127 (Option.some.inj hf)
          · refine xj_lv [2, 3, 4, 5, 1, 0] rfl ?_
            exact lX5_comesProduct_L58 hC hr  w (th) (a1) (a2) (a3) (v3) (v5)  hf
      · refine xj_aload_n hC dX5_comesProduct_37 rfl 2 rfl ?_
        refine xj_iload_n hC dX5_comesProduct_38 rfl 3 rfl ?_
        refine xj_iconst (v := 0) hC dX5_comesProduct_39 (by decide) ?_
        obtain ⟨w15, hc14, hf⟩ := xm_bind hf
        obtain ⟨_, hob, _⟩ := xm_bind hc14
        refine xj_retv (xr_V hC (mX5_comesNone l D ks b hc14) hob rfl xw_cod_X5_comesNone xw_ini_X5 xw_ins_X5_comesNone xw_sel_X5_comesNone xw_ml_X5_233 xds_X5_comesNone ⟨Nat.le_of_ble_eq_true rfl, Nat.le_of_ble_eq_true rfl⟩ rfl rfl (Nat.le_of_ble_eq_true rfl) ⟨Nat.le_of_ble_eq_true rfl, Nat.le_of_ble_eq_true rfl⟩ dX5_comesProduct_40) ?_
        refine xj_goto (tgt := 127) hC dX5_comesProduct_43 (by decide) ?_
        exact xj_vret hC hr (by decide) (by decide) dX5_comesProduct_127 (Option.some.inj hf)
  · exact xj_vret hC hr (by decide) (by decide) dX5_comesProduct_8 (Option.some.inj hf)
def fX5_whatCame (w : xmW) (th : (Option Nat)) (a1 : Int32) (a2 : Int64) (a3 : Int32) (a4 : Int32) : Option (Int32 × xmW) := ((xmob w th 5).bind fun _ => ((xmgI w th 5 23).bind fun v1 => (if v1 = (1 : Int32) then ((fX5_endlessOr w (th) (a1) ((0 : Int32))).bind fun v4 => (some (v4, w))) else (if v1 = (2 : Int32) then ((fX5_endlessOr w (th) (a1) ((1 : Int32))).bind fun v7 => (some (v7, w))) else (if v1 = (3 : Int32) then ((fX5_noneOf w (th) (a1)).bind fun v10 => (some (v10, w))) else (if v1 = (4 : Int32) then (some ((-4 : Int32), w)) else ((xmgL w th 5 24).bind fun v12 => (xmb2 (fX5_roundedFraction w (th) (a1) (v12) (a2) (a3) (a4)) fun v14 w15 => (some (v14, w15))))))))))
set_option maxHeartbeats 4000000 in
set_option maxRecDepth 100000 in
theorem mX5_whatCame (l : Launch) (D : va_G) (ks : Nat → ClassId) (b : Nat) {w : xmW} {th : (Option Nat)} {a1 : Int32} {a2 : Int64} {a3 : Int32} {a4 : Int32} {y : Int32} {wz : xmW} (hf : fX5_whatCame w th a1 a2 a3 a4 = some (y, wz)) : xmM l yX5_whatCame (Cond.code yX5_whatCame cX5_whatCame 6 (some (FieldType.int)) :: xmTs) 6 147 0 0 D ks b w [xR th, xI a1, xL a2, xI a3, xI a4] (some (xI y)) wz := by
  unfold fX5_whatCame at hf
  obtain ⟨_, _, hf⟩ := xm_bind hf
  refine xmM.of (own := RX5) (lv0 := [(0, xR th), (1, xI a1), (2, xL a2), (4, xI a3), (5, xI a4)]) (by decide) rfl (Nat.le_of_ble_eq_true rfl) rfl ?_
  intro p e s m args below meth c hC hr hnm
  refine xj_aload_n hC dX5_whatCame_0 rfl 0 rfl ?_
  refine xb_getI hC 5 23 xcl_5 (by decide) xw_fl_X5_230 dX5_whatCame_1 hf (fun v1 hf => ?_)
  refine xb_case hf (fun hx hf => ?_) (fun hn2 hf => ?_)
  · refine xj_tableIn (tgt := 36) hC (32) dX5_whatCame_4 hx (by decide) (by decide) (by decide) (by decide) ?_
    refine xj_aload_n hC dX5_whatCame_36 rfl 0 rfl ?_
    refine xj_iload_n hC dX5_whatCame_37 rfl 1 rfl ?_
    refine xj_iconst (v := 0) hC dX5_whatCame_38 (by decide) ?_
    obtain ⟨v4, hc3, hf⟩ := xm_bind hf
    obtain ⟨_, hob, _⟩ := xm_bind hc3
    refine xj_reti (xr_V hC (mX5_endlessOr l D ks b hc3) hob rfl xw_cod_X5_endlessOr xw_ini_X5 xw_ins_X5_endlessOr xw_sel_X5_endlessOr xw_ml_X5_203 xds_X5_endlessOr ⟨Nat.le_of_ble_eq_true rfl, Nat.le_of_ble_eq_true rfl⟩ rfl rfl (Nat.le_of_ble_eq_true rfl) ⟨Nat.le_of_ble_eq_true rfl, Nat.le_of_ble_eq_true rfl⟩ dX5_whatCame_39) ?_
    obtain ⟨he, hw⟩ := Prod.mk.inj (Option.some.inj hf)
    exact xj_iret hC hr (by decide) (by decide) dX5_whatCame_42 he hw
  · refine xb_case hf (fun hx hf => ?_) (fun hn5 hf => ?_)
    · refine xj_tableIn (tgt := 43) hC (39) dX5_whatCame_4 hx (by decide) (by decide) (by decide) (by decide) ?_
      refine xj_aload_n hC dX5_whatCame_43 rfl 0 rfl ?_
      refine xj_iload_n hC dX5_whatCame_44 rfl 1 rfl ?_
      refine xj_iconst (v := 1) hC dX5_whatCame_45 (by decide) ?_
      obtain ⟨v7, hc6, hf⟩ := xm_bind hf
      obtain ⟨_, hob, _⟩ := xm_bind hc6
      refine xj_reti (xr_V hC (mX5_endlessOr l D ks b hc6) hob rfl xw_cod_X5_endlessOr xw_ini_X5 xw_ins_X5_endlessOr xw_sel_X5_endlessOr xw_ml_X5_203 xds_X5_endlessOr ⟨Nat.le_of_ble_eq_true rfl, Nat.le_of_ble_eq_true rfl⟩ rfl rfl (Nat.le_of_ble_eq_true rfl) ⟨Nat.le_of_ble_eq_true rfl, Nat.le_of_ble_eq_true rfl⟩ dX5_whatCame_46) ?_
      obtain ⟨he, hw⟩ := Prod.mk.inj (Option.some.inj hf)
      exact xj_iret hC hr (by decide) (by decide) dX5_whatCame_49 he hw
    · refine xb_case hf (fun hx hf => ?_) (fun hn8 hf => ?_)
      · refine xj_tableIn (tgt := 50) hC (46) dX5_whatCame_4 hx (by decide) (by decide) (by decide) (by decide) ?_
        refine xj_aload_n hC dX5_whatCame_50 rfl 0 rfl ?_
        refine xj_iload_n hC dX5_whatCame_51 rfl 1 rfl ?_
        obtain ⟨v10, hc9, hf⟩ := xm_bind hf
        obtain ⟨_, hob, _⟩ := xm_bind hc9
        refine xj_reti (xr_V hC (mX5_noneOf l D ks b hc9) hob rfl xw_cod_X5_noneOf xw_ini_X5 xw_ins_X5_noneOf xw_sel_X5_noneOf xw_ml_X5_118 xds_X5_noneOf ⟨Nat.le_of_ble_eq_true rfl, Nat.le_of_ble_eq_true rfl⟩ rfl rfl (Nat.le_of_ble_eq_true rfl) ⟨Nat.le_of_ble_eq_true rfl, Nat.le_of_ble_eq_true rfl⟩ dX5_whatCame_52) ?_
        obtain ⟨he, hw⟩ := Prod.mk.inj (Option.some.inj hf)
        exact xj_iret hC hr (by decide) (by decide) dX5_whatCame_55 he hw
      · refine xb_case hf (fun hx hf => ?_) (fun hn11 hf => ?_)
        · refine xj_tableIn (tgt := 56) hC (52) dX5_whatCame_4 hx (by decide) (by decide) (by decide) (by decide) ?_
          refine xj_bipush (v := -4) hC dX5_whatCame_56 (by decide) ?_
          obtain ⟨he, hw⟩ := Prod.mk.inj (Option.some.inj hf)
          exact xj_iret hC hr (by decide) (by decide) dX5_whatCame_58 he hw
        · have hx0 := lv_neT hn2 (a := 1) (by decide)
          have hx1 := lv_neT hn5 (a := 2) (by decide)
          have hx2 := lv_neT hn8 (a := 3) (by decide)
          have hx3 := lv_neT hn11 (a := 4) (by decide)
          refine xj_tableOut (tgt := 59) hC dX5_whatCame_4 (by omega) (by decide) ?_
          refine xj_aload_n hC dX5_whatCame_59 rfl 0 rfl ?_
          refine xj_iload_n hC dX5_whatCame_60 rfl 1 rfl ?_
          refine xj_aload_n hC dX5_whatCame_61 rfl 0 rfl ?_
          refine xb_getL hC 5 24 xcl_5 (by decide) xw_fl_X5_240 dX5_whatCame_62 hf (fun v12 hf => ?_)
          refine xj_lload_n hC dX5_whatCame_65 rfl 2 rfl ?_
          refine xj_iload hC dX5_whatCame_66 3 rfl ?_
          refine xj_iload hC dX5_whatCame_68 4 rfl ?_
          obtain ⟨v14, w15, hc13, hf⟩ := xm_b2 hf
          obtain ⟨_, hob, _⟩ := xm_bind hc13
          refine xj_reti (xr_V hC (mX5_roundedFraction l D ks b hc13) hob rfl xw_cod_X5_roundedFraction xw_ini_X5 xw_ins_X5_roundedFraction xw_sel_X5_roundedFraction xw_ml_X5_179 xds_X5_roundedFraction ⟨Nat.le_of_ble_eq_true rfl, Nat.le_of_ble_eq_true rfl⟩ rfl rfl (Nat.le_of_ble_eq_true rfl) ⟨Nat.le_of_ble_eq_true rfl, Nat.le_of_ble_eq_true rfl⟩ dX5_whatCame_70) ?_
          obtain ⟨he, hw⟩ := Prod.mk.inj (Option.some.inj hf)
          exact xj_iret hC hr (by decide) (by decide) dX5_whatCame_73 he hw
def fX5_fused_L167 (w : xmW) (p0 : (Option Nat)) (p1 : Int32) (p5 : Int32) (p7 : Int32) (s0 : Int32) : Option (Int32 × xmW) := ((fX5_scale w (p0) (p1)).bind fun v47 => (if s0 = 0 then (xmb2 (fX5_whatCame w (p0) (p1) (((1 : Int64) <<< ((v47).toInt64 &&& 63))) (p5) ((if p5 = (3 : Int32) then (1 : Int32) else (0 : Int32)))) fun v49 w50 => (xmb2 (fX5_ends w50 (p0) (v49)) fun v52 w53 => (some (v52, w53)))) else (xmb2 (fX5_whatCame w (p0) (p1) (((1 : Int64) <<< ((v47).toInt64 &&& 63))) (p5) (p7)) fun v55 w56 => (xmb2 (fX5_ends w56 (p0) (v55)) fun v58 w59 => (some (v58, w59))))))
set_option maxHeartbeats 4000000 in
set_option maxRecDepth 100000 in
theorem lX5_fused_L167 {p : Program} {l : Launch} {e : Env} {s : State} {m : MethodId} {args : Array Value} {below : List Frame} {meth : Method} {c : Code} {D : va_G} {ks : Nat → ClassId} {b : Nat} (hC : xmC p s m args meth c D ks b 9 cX5_fused RX5) (hr : meth.sig.returnType = (some (FieldType.int))) {y : Int32} {wz : xmW} (w : xmW) (p0 : (Option Nat)) (p1 : Int32) (p5 : Int32) (p7 : Int32) (s0 : Int32) (hf : fX5_fused_L167 w p0 p1 p5 p7 s0 = some (y, wz)) : xmJ p l e ({ frames := 7, cells := 0, slots := 0, locals := 172 } : Room) s m args below meth c D ks b 9 (MQ below (xmQ D ks b (some (xI y)) wz) args s 0 0 (xmA b)) w 0 0 167 [(0, xR p0), (1, xI p1), (5, xI p5), (7, xI p7)] [xI s0] := by
  unfold fX5_fused_L167 at hf
  refine xj_istore (lv' := [(8, xI s0), (0, xR p0), (1, xI p1), (5, xI p5), (7, xI p7)]) hC dX5_fused_167 (by decide) rfl ?_
  refine xj_aload_n hC dX5_fused_169 rfl 1 rfl ?_
  refine xj_aload_n hC dX5_fused_170 rfl 1 rfl ?_
  refine xj_iload_n hC dX5_fused_171 rfl 2 rfl ?_
  refine xj_lconst (v := 1) hC dX5_fused_172 (by decide) ?_
  refine xj_aload_n hC dX5_fused_173 rfl 1 rfl ?_
  refine xj_iload_n hC dX5_fused_174 rfl 2 rfl ?_
  obtain ⟨v47, hc46, hf⟩ := xm_bind hf
  obtain ⟨_, hob, _⟩ := xm_bind hc46
  refine xj_reti (xr_V hC (mX5_scale l D ks b hc46) hob rfl xw_cod_X5_scale xw_ini_X5 xw_ins_X5_scale xw_sel_X5_scale xw_ml_X5_127 xds_X5_scale ⟨Nat.le_of_ble_eq_true rfl, Nat.le_of_ble_eq_true rfl⟩ rfl rfl (Nat.le_of_ble_eq_true rfl) ⟨Nat.le_of_ble_eq_true rfl, Nat.le_of_ble_eq_true rfl⟩ dX5_fused_175) ?_
  refine xj_lshl hC dX5_fused_178 ?_
  refine xj_iload hC dX5_fused_179 3 rfl ?_
  refine xj_iload hC dX5_fused_181 0 rfl ?_
  refine xb_if_eq (tgt := 191) hC dX5_fused_183 (by decide) hf (fun hf => ?_) (fun hf => ?_)
  · refine xj_iload hC dX5_fused_191 3 rfl ?_
    refine xj_iconst (v := 3) hC dX5_fused_193 (by decide) ?_
    refine xj_dia (cnd := p5 = (3 : Int32)) (x := 1) (y := 0) (pc2 := 202) (st2 := [xI p5, xL ((1 : Int64) <<< ((v47).toInt64 &&& 63)), xI p1, xR p0, xR p0]) (fun hc hk => ?_) (fun hc hk => ?_) ?_
    · exact xj_ic_ne (tgt := 201) hC dX5_fused_194 (by decide) (fun hn => absurd hc hn) (fun _ => xj_iconst (v := 1) hC dX5_fused_197 (by decide) (xj_goto (tgt := 202) hC dX5_fused_198 (by decide) hk))
    · exact xj_ic_ne (tgt := 201) hC dX5_fused_194 (by decide) (fun _ => xj_iconst (v := 0) hC dX5_fused_201 (by decide) hk) (fun hn => absurd hn hc)
    obtain ⟨v49, w50, hc48, hf⟩ := xm_b2 hf
    obtain ⟨_, hob, _⟩ := xm_bind hc48
    refine xj_reti (xr_V hC (mX5_whatCame l D ks b hc48) hob rfl xw_cod_X5_whatCame xw_ini_X5 xw_ins_X5_whatCame xw_sel_X5_whatCame xw_ml_X5_251 xds_X5_whatCame ⟨Nat.le_of_ble_eq_true rfl, Nat.le_of_ble_eq_true rfl⟩ rfl rfl (Nat.le_of_ble_eq_true rfl) ⟨Nat.le_of_ble_eq_true rfl, Nat.le_of_ble_eq_true rfl⟩ dX5_fused_202) ?_
    obtain ⟨v52, w53, hc51, hf⟩ := xm_b2 hf
    obtain ⟨_, hob, _⟩ := xm_bind hc51
    refine xj_reti (xr_V hC (mX5_ends l D ks b hc51) hob rfl xw_cod_X5_ends xw_ini_X5 xw_ins_X5_ends xw_sel_X5_ends xw_ml_X5_183 xds_X5_ends ⟨Nat.le_of_ble_eq_true rfl, Nat.le_of_ble_eq_true rfl⟩ rfl rfl (Nat.le_of_ble_eq_true rfl) ⟨Nat.le_of_ble_eq_true rfl, Nat.le_of_ble_eq_true rfl⟩ dX5_fused_205) ?_
    obtain ⟨he, hw⟩ := Prod.mk.inj (Option.some.inj hf)
    exact xj_iret hC hr (by decide) (by decide) dX5_fused_208 he hw
  · refine xj_iload hC dX5_fused_186 4 rfl ?_
    refine xj_goto (tgt := 202) hC dX5_fused_188 (by decide) ?_
    obtain ⟨v55, w56, hc54, hf⟩ := xm_b2 hf
    obtain ⟨_, hob, _⟩ := xm_bind hc54
    refine xj_reti (xr_V hC (mX5_whatCame l D ks b hc54) hob rfl xw_cod_X5_whatCame xw_ini_X5 xw_ins_X5_whatCame xw_sel_X5_whatCame xw_ml_X5_251 xds_X5_whatCame ⟨Nat.le_of_ble_eq_true rfl, Nat.le_of_ble_eq_true rfl⟩ rfl rfl (Nat.le_of_ble_eq_true rfl) ⟨Nat.le_of_ble_eq_true rfl, Nat.le_of_ble_eq_true rfl⟩ dX5_fused_202) ?_
    obtain ⟨v58, w59, hc57, hf⟩ := xm_b2 hf
    obtain ⟨_, hob, _⟩ := xm_bind hc57
    refine xj_reti (xr_V hC (mX5_ends l D ks b hc57) hob rfl xw_cod_X5_ends xw_ini_X5 xw_ins_X5_ends xw_sel_X5_ends xw_ml_X5_183 xds_X5_ends ⟨Nat.le_of_ble_eq_true rfl, Nat.le_of_ble_eq_true rfl⟩ rfl rfl (Nat.le_of_ble_eq_true rfl) ⟨Nat.le_of_ble_eq_true rfl, Nat.le_of_ble_eq_true rfl⟩ dX5_fused_205) ?_
    obtain ⟨he, hw⟩ := Prod.mk.inj (Option.some.inj hf)
    exact xj_iret hC hr (by decide) (by decide) dX5_fused_208 he hw
def fX5_fused_L166 (w : xmW) (p0 : (Option Nat)) (p1 : Int32) (p5 : Int32) (p7 : Int32) : Option (Int32 × xmW) := (fX5_fused_L167 w (p0) (p1) (p5) (p7) ((0 : Int32)))
set_option maxHeartbeats 4000000 in
set_option maxRecDepth 100000 in
theorem lX5_fused_L166 {p : Program} {l : Launch} {e : Env} {s : State} {m : MethodId} {args : Array Value} {below : List Frame} {meth : Method} {c : Code} {D : va_G} {ks : Nat → ClassId} {b : Nat} (hC : xmC p s m args meth c D ks b 9 cX5_fused RX5) (hr : meth.sig.returnType = (some (FieldType.int))) {y : Int32} {wz : xmW} (w : xmW) (p0 : (Option Nat)) (p1 : Int32) (p5 : Int32) (p7 : Int32) (hf : fX5_fused_L166 w p0 p1 p5 p7 = some (y, wz)) : xmJ p l e ({ frames := 7, cells := 0, slots := 0, locals := 172 } : Room) s m args below meth c D ks b 9 (MQ below (xmQ D ks b (some (xI y)) wz) args s 0 0 (xmA b)) w 0 0 166 [(0, xR p0), (1, xI p1), (5, xI p5), (7, xI p7)] [] := by
  unfold fX5_fused_L166 at hf
  refine xj_iconst (v := 0) hC dX5_fused_166 (by decide) ?_
  exact lX5_fused_L167 hC hr  w (p0) (p1) (p5) (p7) ((0 : Int32)) hf
def fX5_fused_L97 (w : xmW) (p0 : (Option Nat)) (p1 : Int32) (p2 : Int32) (p3 : Int32) (p4 : Int32) (p5 : Int32) (s0 : Int32) : Option (Int32 × xmW) := ((fX5_isMinus w (p0) (p1) (p2)).bind fun v35 => ((fX5_isMinus w (p0) (p1) (p3)).bind fun v37 => ((fX5_scale w (p0) (p1)).bind fun v39 => ((fX5_comes w (p0) (p1) (p4) (((1 : Int64) <<< ((v39).toInt64 &&& 63)))).bind fun w41 => (if s0 = 0 then (fX5_fused_L166 w41 (p0) (p1) (p5) ((if v35 = v37 then (0 : Int32) else (1 : Int32))) ) else ((fX5_plain w41 (p0) (p1) (p4)).bind fun v43 => (if v43 = 0 then ((fX5_isMinus w41 (p0) (p1) (p4)).bind fun v45 => (fX5_fused_L167 w41 (p0) (p1) (p5) ((if v35 = v37 then (0 : Int32) else (1 : Int32))) ((if (if v35 = v37 then (0 : Int32) else (1 : Int32)) = v45 then (1 : Int32) else (0 : Int32))))) else (fX5_fused_L166 w41 (p0) (p1) (p5) ((if v35 = v37 then (0 : Int32) else (1 : Int32))) ))))))))
set_option maxHeartbeats 4000000 in
set_option maxRecDepth 100000 in
theorem lX5_fused_L97 {p : Program} {l : Launch} {e : Env} {s : State} {m : MethodId} {args : Array Value} {below : List Frame} {meth : Method} {c : Code} {D : va_G} {ks : Nat → ClassId} {b : Nat} (hC : xmC p s m args meth c D ks b 9 cX5_fused RX5) (hr : meth.sig.returnType = (some (FieldType.int))) {y : Int32} {wz : xmW} (w : xmW) (p0 : (Option Nat)) (p1 : Int32) (p2 : Int32) (p3 : Int32) (p4 : Int32) (p5 : Int32) (s0 : Int32) (hf : fX5_fused_L97 w p0 p1 p2 p3 p4 p5 s0 = some (y, wz)) : xmJ p l e ({ frames := 7, cells := 0, slots := 0, locals := 172 } : Room) s m args below meth c D ks b 9 (MQ below (xmQ D ks b (some (xI y)) wz) args s 0 0 (xmA b)) w 0 0 97 [(0, xR p0), (1, xI p1), (2, xI p2), (3, xI p3), (4, xI p4), (5, xI p5)] [xI s0] := by
  unfold fX5_fused_L97 at hf
  refine xj_istore (lv' := [(6, xI s0), (0, xR p0), (1, xI p1), (2, xI p2), (3, xI p3), (4, xI p4), (5, xI p5)]) hC dX5_fused_97 (by decide) rfl ?_
  refine xj_aload_n hC dX5_fused_99 rfl 1 rfl ?_
  refine xj_iload_n hC dX5_fused_100 rfl 2 rfl ?_
  refine xj_iload_n hC dX5_fused_101 rfl 3 rfl ?_
  obtain ⟨v35, hc34, hf⟩ := xm_bind hf
  obtain ⟨_, hob, _⟩ := xm_bind hc34
  refine xj_reti (xr_V hC (mX5_isMinus l D ks b hc34) hob rfl xw_cod_X5_isMinus xw_ini_X5 xw_ins_X5_isMinus xw_sel_X5_isMinus xw_ml_X5_96 xds_X5_isMinus ⟨Nat.le_of_ble_eq_true rfl, Nat.le_of_ble_eq_true rfl⟩ rfl rfl (Nat.le_of_ble_eq_true rfl) ⟨Nat.le_of_ble_eq_true rfl, Nat.le_of_ble_eq_true rfl⟩ dX5_fused_102) ?_
  refine xj_aload_n hC dX5_fused_105 rfl 1 rfl ?_
  refine xj_iload_n hC dX5_fused_106 rfl 2 rfl ?_
  refine xj_iload_n hC dX5_fused_107 rfl 4 rfl ?_
  obtain ⟨v37, hc36, hf⟩ := xm_bind hf
  obtain ⟨_, hob, _⟩ := xm_bind hc36
  refine xj_reti (xr_V hC (mX5_isMinus l D ks b hc36) hob rfl xw_cod_X5_isMinus xw_ini_X5 xw_ins_X5_isMinus xw_sel_X5_isMinus xw_ml_X5_96 xds_X5_isMinus ⟨Nat.le_of_ble_eq_true rfl, Nat.le_of_ble_eq_true rfl⟩ rfl rfl (Nat.le_of_ble_eq_true rfl) ⟨Nat.le_of_ble_eq_true rfl, Nat.le_of_ble_eq_true rfl⟩ dX5_fused_108) ?_
  refine xj_dia (cnd := v35 = v37) (x := 0) (y := 1) (pc2 := 119) (st2 := []) (fun hc hk => ?_) (fun hc hk => ?_) ?_
  · exact xj_ic_eq (tgt := 118) hC dX5_fused_111 (by decide) (fun _ => xj_iconst (v := 0) hC dX5_fused_118 (by decide) hk) (fun hn => absurd hc hn)
  · exact xj_ic_eq (tgt := 118) hC dX5_fused_111 (by decide) (fun hn => absurd hn hc) (fun _ => xj_iconst (v := 1) hC dX5_fused_114 (by decide) (xj_goto (tgt := 119) hC dX5_fused_115 (by decide) hk))
  refine xj_istore (lv' := [(7, xI (if v35 = v37 then (0 : Int32) else (1 : Int32))), (6, xI s0), (0, xR p0), (1, xI p1), (2, xI p2), (3, xI p3), (4, xI p4), (5, xI p5)]) hC dX5_fused_119 (by decide) rfl ?_
  refine xj_aload_n hC dX5_fused_121 rfl 2 rfl ?_
  refine xj_iload_n hC dX5_fused_122 rfl 3 rfl ?_
  refine xj_iload hC dX5_fused_123 6 rfl ?_
  refine xj_lconst (v := 1) hC dX5_fused_125 (by decide) ?_
  refine xj_aload_n hC dX5_fused_126 rfl 2 rfl ?_
  refine xj_iload_n hC dX5_fused_127 rfl 3 rfl ?_
  obtain ⟨v39, hc38, hf⟩ := xm_bind hf
  obtain ⟨_, hob, _⟩ := xm_bind hc38
  refine xj_reti (xr_V hC (mX5_scale l D ks b hc38) hob rfl xw_cod_X5_scale xw_ini_X5 xw_ins_X5_scale xw_sel_X5_scale xw_ml_X5_127 xds_X5_scale ⟨Nat.le_of_ble_eq_true rfl, Nat.le_of_ble_eq_true rfl⟩ rfl rfl (Nat.le_of_ble_eq_true rfl) ⟨Nat.le_of_ble_eq_true rfl, Nat.le_of_ble_eq_true rfl⟩ dX5_fused_128) ?_
  refine xj_lshl hC dX5_fused_131 ?_
  obtain ⟨w41, hc40, hf⟩ := xm_bind hf
  obtain ⟨_, hob, _⟩ := xm_bind hc40
  refine xj_retv (xr_V hC (mX5_comes l D ks b hc40) hob rfl xw_cod_X5_comes xw_ini_X5 xw_ins_X5_comes xw_sel_X5_comes xw_ml_X5_247 xds_X5_comes ⟨Nat.le_of_ble_eq_true rfl, Nat.le_of_ble_eq_true rfl⟩ rfl rfl (Nat.le_of_ble_eq_true rfl) ⟨Nat.le_of_ble_eq_true rfl, Nat.le_of_ble_eq_true rfl⟩ dX5_fused_132) ?_
  refine xj_iload hC dX5_fused_135 1 rfl ?_
  refine xb_if_eq (tgt := 166) hC dX5_fused_137 (by decide) hf (fun hf => ?_) (fun hf => ?_)
  · refine xj_lv [2, 3, 7, 0] rfl ?_
    exact lX5_fused_L166 hC hr  w41 (p0) (p1) (p5) ((if v35 = v37 then (0 : Int32) else (1 : Int32)))  hf
  · refine xj_aload_n hC dX5_fused_140 rfl 2 rfl ?_
    refine xj_iload_n hC dX5_fused_141 rfl 3 rfl ?_
    refine xj_iload hC dX5_fused_142 6 rfl ?_
    obtain ⟨v43, hc42, hf⟩ := xm_bind hf
    obtain ⟨_, hob, _⟩ := xm_bind hc42
    refine xj_reti (xr_V hC (mX5_plain l D ks b hc42) hob rfl xw_cod_X5_plain xw_ini_X5 xw_ins_X5_plain xw_sel_X5_plain xw_ml_X5_80 xds_X5_plain ⟨Nat.le_of_ble_eq_true rfl, Nat.le_of_ble_eq_true rfl⟩ rfl rfl (Nat.le_of_ble_eq_true rfl) ⟨Nat.le_of_ble_eq_true rfl, Nat.le_of_ble_eq_true rfl⟩ dX5_fused_144) ?_
    refine xb_if_ne (tgt := 166) hC dX5_fused_147 (by decide) hf (fun hf => ?_) (fun hf => ?_)
    · refine xj_lv [2, 3, 7, 0] rfl ?_
      exact lX5_fused_L166 hC hr  w41 (p0) (p1) (p5) ((if v35 = v37 then (0 : Int32) else (1 : Int32)))  hf
    · refine xj_iload hC dX5_fused_150 0 rfl ?_
      refine xj_aload_n hC dX5_fused_152 rfl 2 rfl ?_
      refine xj_iload_n hC dX5_fused_153 rfl 3 rfl ?_
      refine xj_iload hC dX5_fused_154 6 rfl ?_
      obtain ⟨v45, hc44, hf⟩ := xm_bind hf
      obtain ⟨_, hob, _⟩ := xm_bind hc44
      refine xj_reti (xr_V hC (mX5_isMinus l D ks b hc44) hob rfl xw_cod_X5_isMinus xw_ini_X5 xw_ins_X5_isMinus xw_sel_X5_isMinus xw_ml_X5_96 xds_X5_isMinus ⟨Nat.le_of_ble_eq_true rfl, Nat.le_of_ble_eq_true rfl⟩ rfl rfl (Nat.le_of_ble_eq_true rfl) ⟨Nat.le_of_ble_eq_true rfl, Nat.le_of_ble_eq_true rfl⟩ dX5_fused_156) ?_
      refine xj_dia (cnd := (if v35 = v37 then (0 : Int32) else (1 : Int32)) = v45) (x := 1) (y := 0) (pc2 := 167) (st2 := []) (fun hc hk => ?_) (fun hc hk => ?_) ?_
      · exact xj_ic_ne (tgt := 166) hC dX5_fused_159 (by decide) (fun hn => absurd hc hn) (fun _ => xj_iconst (v := 1) hC dX5_fused_162 (by decide) (xj_goto (tgt := 167) hC dX5_fused_163 (by decide) hk))
      · exact xj_ic_ne (tgt := 166) hC dX5_fused_159 (by decide) (fun _ => xj_iconst (v := 0) hC dX5_fused_166 (by decide) hk) (fun hn => absurd hn hc)
      refine xj_lv [2, 3, 7, 0] rfl ?_
      exact lX5_fused_L167 hC hr  w41 (p0) (p1) (p5) ((if v35 = v37 then (0 : Int32) else (1 : Int32))) ((if (if v35 = v37 then (0 : Int32) else (1 : Int32)) = v45 then (1 : Int32) else (0 : Int32))) hf
def fX5_fused (w : xmW) (th : (Option Nat)) (a1 : Int32) (a2 : Int32) (a3 : Int32) (a4 : Int32) (a5 : Int32) : Option (Int32 × xmW) := ((xmob w th 5).bind fun _ => ((fX5_isFormat w (th) (a1)).bind fun v2 => (if v2 = 0 then (xmb2 (fX5_refused w (th) ((-1 : Int32))) fun v4 w5 => (some (v4, w5))) else ((fX5_isCode w (th) (a1) (a2)).bind fun v7 => (if v7 = 0 then (xmb2 (fX5_refused w (th) ((-1 : Int32))) fun v9 w10 => (some (v9, w10))) else ((fX5_isCode w (th) (a1) (a3)).bind fun v12 => (if v12 = 0 then (xmb2 (fX5_refused w (th) ((-1 : Int32))) fun v14 w15 => (some (v14, w15))) else ((fX5_isCode w (th) (a1) (a4)).bind fun v17 => (if v17 = 0 then (xmb2 (fX5_refused w (th) ((-1 : Int32))) fun v19 w20 => (some (v19, w20))) else ((fX5_in w ((a5).toInt64) ((0 : Int64)) ((5 : Int64))).bind fun v22 => (if v22 = 0 then (xmb2 (fX5_refused w (th) ((-1 : Int32))) fun v32 w33 => (some (v32, w33))) else ((fX5_begins w (th) ).bind fun w24 => ((xmput w24 th 5 23 (xI (0 : Int32))).bind fun w25 => ((xmput w25 th 5 24 (xL (0 : Int64))).bind fun w26 => ((fX5_comesProduct w26 (th) (a1) (a2) (a3)).bind fun w28 => ((xmgI w28 th 5 23).bind fun v29 => (if v29 = 0 then ((xmgL w28 th 5 24).bind fun v30 => (fX5_fused_L97 w28 (th) (a1) (a2) (a3) (a4) (a5) ((if (lg_cmp v30 (0 : Int64)) = 0 then (1 : Int32) else (0 : Int32))))) else (fX5_fused_L97 w28 (th) (a1) (a2) (a3) (a4) (a5) ((0 : Int32))))))))))))))))))))
set_option maxHeartbeats 4000000 in
set_option maxRecDepth 100000 in
theorem mX5_fused (l : Launch) (D : va_G) (ks : Nat → ClassId) (b : Nat) {w : xmW} {th : (Option Nat)} {a1 : Int32} {a2 : Int32} {a3 : Int32} {a4 : Int32} {a5 : Int32} {y : Int32} {wz : xmW} (hf : fX5_fused w th a1 a2 a3 a4 a5 = some (y, wz)) : xmM l yX5_fused (Cond.code yX5_fused cX5_fused 9 (some (FieldType.int)) :: xmTs) 7 172 0 0 D ks b w [xR th, xI a1, xI a2, xI a3, xI a4, xI a5] (some (xI y)) wz := by
  unfold fX5_fused at hf
  obtain ⟨_, _, hf⟩ := xm_bind hf
  refine xmM.of (own := RX5) (lv0 := [(0, xR th), (1, xI a1), (2, xI a2), (3, xI a3), (4, xI a4), (5, xI a5)]) (by decide) rfl (Nat.le_of_ble_eq_true rfl) rfl ?_
  intro p e s m args below meth c hC hr hnm
  refine xj_aload_n hC dX5_fused_0 rfl 0 rfl ?_
  refine xj_iload_n hC dX5_fused_1 rfl 1 rfl ?_
  obtain ⟨v2, hc1, hf⟩ := xm_bind hf
  obtain ⟨_, hob, _⟩ := xm_bind hc1
  refine xj_reti (xr_V hC (mX5_isFormat l D ks b hc1) hob rfl xw_cod_X5_isFormat xw_ini_X5 xw_ins_X5_isFormat xw_sel_X5_isFormat xw_ml_X5_109 xds_X5_isFormat ⟨Nat.le_of_ble_eq_true rfl, Nat.le_of_ble_eq_true rfl⟩ rfl rfl (Nat.le_of_ble_eq_true rfl) ⟨Nat.le_of_ble_eq_true rfl, Nat.le_of_ble_eq_true rfl⟩ dX5_fused_2) ?_
  refine xb_if_eq (tgt := 49) hC dX5_fused_5 (by decide) hf (fun hf => ?_) (fun hf => ?_)
  · refine xj_aload_n hC dX5_fused_49 rfl 0 rfl ?_
    refine xj_iconst (v := -1) hC dX5_fused_50 (by decide) ?_
    obtain ⟨v4, w5, hc3, hf⟩ := xm_b2 hf
    obtain ⟨_, hob, _⟩ := xm_bind hc3
    refine xj_reti (xr_V hC (mX5_refused l D ks b hc3) hob rfl xw_cod_X5_refused xw_ini_X5 xw_ins_X5_refused xw_sel_X5_refused xw_ml_X5_57 xds_X5_refused ⟨Nat.le_of_ble_eq_true rfl, Nat.le_of_ble_eq_true rfl⟩ rfl rfl (Nat.le_of_ble_eq_true rfl) ⟨Nat.le_of_ble_eq_true rfl, Nat.le_of_ble_eq_true rfl⟩ dX5_fused_51) ?_
    obtain ⟨he, hw⟩ := Prod.mk.inj (Option.some.inj hf)
    exact xj_iret hC hr (by decide) (by decide) dX5_fused_54 he hw
  · refine xj_aload_n hC dX5_fused_8 rfl 0 rfl ?_
    refine xj_iload_n hC dX5_fused_9 rfl 1 rfl ?_
    refine xj_iload_n hC dX5_fused_10 rfl 2 rfl ?_
    obtain ⟨v7, hc6, hf⟩ := xm_bind hf
    obtain ⟨_, hob, _⟩ := xm_bind hc6
    refine xj_reti (xr_V hC (mX5_isCode l D ks b hc6) hob rfl xw_cod_X5_isCode xw_ini_X5 xw_ins_X5_isCode xw_sel_X5_isCode xw_ml_X5_130 xds_X5_isCode ⟨Nat.le_of_ble_eq_true rfl, Nat.le_of_ble_eq_true rfl⟩ rfl rfl (Nat.le_of_ble_eq_true rfl) ⟨Nat.le_of_ble_eq_true rfl, Nat.le_of_ble_eq_true rfl⟩ dX5_fused_11) ?_
    refine xb_if_eq (tgt := 49) hC dX5_fused_14 (by decide) hf (fun hf => ?_) (fun hf => ?_)
    · refine xj_aload_n hC dX5_fused_49 rfl 0 rfl ?_
      refine xj_iconst (v := -1) hC dX5_fused_50 (by decide) ?_
      obtain ⟨v9, w10, hc8, hf⟩ := xm_b2 hf
      obtain ⟨_, hob, _⟩ := xm_bind hc8
      refine xj_reti (xr_V hC (mX5_refused l D ks b hc8) hob rfl xw_cod_X5_refused xw_ini_X5 xw_ins_X5_refused xw_sel_X5_refused xw_ml_X5_57 xds_X5_refused ⟨Nat.le_of_ble_eq_true rfl, Nat.le_of_ble_eq_true rfl⟩ rfl rfl (Nat.le_of_ble_eq_true rfl) ⟨Nat.le_of_ble_eq_true rfl, Nat.le_of_ble_eq_true rfl⟩ dX5_fused_51) ?_
      obtain ⟨he, hw⟩ := Prod.mk.inj (Option.some.inj hf)
      exact xj_iret hC hr (by decide) (by decide) dX5_fused_54 he hw
    · refine xj_aload_n hC dX5_fused_17 rfl 0 rfl ?_
      refine xj_iload_n hC dX5_fused_18 rfl 1 rfl ?_
      refine xj_iload_n hC dX5_fused_19 rfl 3 rfl ?_
      obtain ⟨v12, hc11, hf⟩ := xm_bind hf
      obtain ⟨_, hob, _⟩ := xm_bind hc11
      refine xj_reti (xr_V hC (mX5_isCode l D ks b hc11) hob rfl xw_cod_X5_isCode xw_ini_X5 xw_ins_X5_isCode xw_sel_X5_isCode xw_ml_X5_130 xds_X5_isCode ⟨Nat.le_of_ble_eq_true rfl, Nat.le_of_ble_eq_true rfl⟩ rfl rfl (Nat.le_of_ble_eq_true rfl) ⟨Nat.le_of_ble_eq_true rfl, Nat.le_of_ble_eq_true rfl⟩ dX5_fused_20) ?_
      refine xb_if_eq (tgt := 49) hC dX5_fused_23 (by decide) hf (fun hf => ?_) (fun hf => ?_)
      · refine xj_aload_n hC dX5_fused_49 rfl 0 rfl ?_
        refine xj_iconst (v := -1) hC dX5_fused_50 (by decide) ?_
        obtain ⟨v14, w15, hc13, hf⟩ := xm_b2 hf
        obtain ⟨_, hob, _⟩ := xm_bind hc13
        refine xj_reti (xr_V hC (mX5_refused l D ks b hc13) hob rfl xw_cod_X5_refused xw_ini_X5 xw_ins_X5_refused xw_sel_X5_refused xw_ml_X5_57 xds_X5_refused ⟨Nat.le_of_ble_eq_true rfl, Nat.le_of_ble_eq_true rfl⟩ rfl rfl (Nat.le_of_ble_eq_true rfl) ⟨Nat.le_of_ble_eq_true rfl, Nat.le_of_ble_eq_true rfl⟩ dX5_fused_51) ?_
        obtain ⟨he, hw⟩ := Prod.mk.inj (Option.some.inj hf)
        exact xj_iret hC hr (by decide) (by decide) dX5_fused_54 he hw
      · refine xj_aload_n hC dX5_fused_26 rfl 0 rfl ?_
        refine xj_iload_n hC dX5_fused_27 rfl 1 rfl ?_
        refine xj_iload hC dX5_fused_28 4 rfl ?_
        obtain ⟨v17, hc16, hf⟩ := xm_bind hf
        obtain ⟨_, hob, _⟩ := xm_bind hc16
        refine xj_reti (xr_V hC (mX5_isCode l D ks b hc16) hob rfl xw_cod_X5_isCode xw_ini_X5 xw_ins_X5_isCode xw_sel_X5_isCode xw_ml_X5_130 xds_X5_isCode ⟨Nat.le_of_ble_eq_true rfl, Nat.le_of_ble_eq_true rfl⟩ rfl rfl (Nat.le_of_ble_eq_true rfl) ⟨Nat.le_of_ble_eq_true rfl, Nat.le_of_ble_eq_true rfl⟩ dX5_fused_30) ?_
        refine xb_if_eq (tgt := 49) hC dX5_fused_33 (by decide) hf (fun hf => ?_) (fun hf => ?_)
        · refine xj_aload_n hC dX5_fused_49 rfl 0 rfl ?_
          refine xj_iconst (v := -1) hC dX5_fused_50 (by decide) ?_
          obtain ⟨v19, w20, hc18, hf⟩ := xm_b2 hf
          obtain ⟨_, hob, _⟩ := xm_bind hc18
          refine xj_reti (xr_V hC (mX5_refused l D ks b hc18) hob rfl xw_cod_X5_refused xw_ini_X5 xw_ins_X5_refused xw_sel_X5_refused xw_ml_X5_57 xds_X5_refused ⟨Nat.le_of_ble_eq_true rfl, Nat.le_of_ble_eq_true rfl⟩ rfl rfl (Nat.le_of_ble_eq_true rfl) ⟨Nat.le_of_ble_eq_true rfl, Nat.le_of_ble_eq_true rfl⟩ dX5_fused_51) ?_
          obtain ⟨he, hw⟩ := Prod.mk.inj (Option.some.inj hf)
          exact xj_iret hC hr (by decide) (by decide) dX5_fused_54 he hw
        · refine xj_iload hC dX5_fused_36 5 rfl ?_
          refine xj_i2l hC dX5_fused_38 ?_
          refine xj_lconst (v := 0) hC dX5_fused_39 (by decide) ?_
          refine xj_ldc2 hC xw_cst_X5_105 dX5_fused_40 ?_
          obtain ⟨v22, hc21, hf⟩ := xm_bind hf
          refine xj_reti (xr_S hC (mX5_in l D ks b hc21) xw_cod_X5_in xw_ini_X5 xw_sta_X5_in xw_ml_X5_70 xds_X5_in ⟨Nat.le_of_ble_eq_true rfl, Nat.le_of_ble_eq_true rfl⟩ rfl rfl (Nat.le_of_ble_eq_true rfl) ⟨Nat.le_of_ble_eq_true rfl, Nat.le_of_ble_eq_true rfl⟩ dX5_fused_43) ?_
          refine xb_if_ne (tgt := 55) hC dX5_fused_46 (by decide) hf (fun hf => ?_) (fun hf => ?_)
          · refine xj_aload_n hC dX5_fused_55 rfl 0 rfl ?_
            obtain ⟨w24, hc23, hf⟩ := xm_bind hf
            obtain ⟨_, hob, _⟩ := xm_bind hc23
            refine xj_retv (xr_V hC (mX5_begins l D ks b hc23) hob rfl xw_cod_X5_begins xw_ini_X5 xw_ins_X5_begins xw_sel_X5_begins xw_ml_X5_176 xds_X5_begins ⟨Nat.le_of_ble_eq_true rfl, Nat.le_of_ble_eq_true rfl⟩ rfl rfl (Nat.le_of_ble_eq_true rfl) ⟨Nat.le_of_ble_eq_true rfl, Nat.le_of_ble_eq_true rfl⟩ dX5_fused_56) ?_
            refine xj_aload_n hC dX5_fused_59 rfl 0 rfl ?_
            refine xj_iconst (v := 0) hC dX5_fused_60 (by decide) ?_
            refine xb_put hC 5 23 xcl_5 (by decide) xw_fl_X5_230 rfl (xmfit_i _) dX5_fused_61 hf (fun w25 hf => ?_)
            refine xj_aload_n hC dX5_fused_64 rfl 0 rfl ?_
            refine xj_lconst (v := 0) hC dX5_fused_65 (by decide) ?_
            refine xb_put hC 5 24 xcl_5 (by decide) xw_fl_X5_240 rfl (xmfit_l _) dX5_fused_66 hf (fun w26 hf => ?_)
            refine xj_aload_n hC dX5_fused_69 rfl 0 rfl ?_
            refine xj_iload_n hC dX5_fused_70 rfl 1 rfl ?_
            refine xj_iload_n hC dX5_fused_71 rfl 2 rfl ?_
            refine xj_iload_n hC dX5_fused_72 rfl 3 rfl ?_
            obtain ⟨w28, hc27, hf⟩ := xm_bind hf
            obtain ⟨_, hob, _⟩ := xm_bind hc27
            refine xj_retv (xr_V hC (mX5_comesProduct l D ks b hc27) hob rfl xw_cod_X5_comesProduct xw_ini_X5 xw_ins_X5_comesProduct xw_sel_X5_comesProduct xw_ml_X5_243 xds_X5_comesProduct ⟨Nat.le_of_ble_eq_true rfl, Nat.le_of_ble_eq_true rfl⟩ rfl rfl (Nat.le_of_ble_eq_true rfl) ⟨Nat.le_of_ble_eq_true rfl, Nat.le_of_ble_eq_true rfl⟩ dX5_fused_73) ?_
            refine xj_aload_n hC dX5_fused_76 rfl 0 rfl ?_
            refine xb_getI hC 5 23 xcl_5 (by decide) xw_fl_X5_230 dX5_fused_77 hf (fun v29 hf => ?_)
            refine xb_if_ne (tgt := 96) hC dX5_fused_80 (by decide) hf (fun hf => ?_) (fun hf => ?_)
            · refine xj_iconst (v := 0) hC dX5_fused_96 (by decide) ?_
              exact lX5_fused_L97 hC hr  w28 (th) (a1) (a2) (a3) (a4) (a5) ((0 : Int32)) hf
            · refine xj_aload_n hC dX5_fused_83 rfl 0 rfl ?_
              refine xb_getL hC 5 24 xcl_5 (by decide) xw_fl_X5_240 dX5_fused_84 hf (fun v30 hf => ?_)
              refine xj_lconst (v := 0) hC dX5_fused_87 (by decide) ?_
              refine xj_lcmp hC dX5_fused_88 ?_
              refine xj_dia (cnd := (lg_cmp v30 (0 : Int64)) = 0) (x := 1) (y := 0) (pc2 := 97) (st2 := []) (fun hc hk => ?_) (fun hc hk => ?_) ?_
              · exact xj_if_ne (tgt := 96) hC dX5_fused_89 (by decide) (fun hn => absurd hc hn) (fun _ => xj_iconst (v := 1) hC dX5_fused_92 (by decide) (xj_goto (tgt := 97) hC dX5_fused_93 (by decide) hk))
              · exact xj_if_ne (tgt := 96) hC dX5_fused_89 (by decide) (fun _ => xj_iconst (v := 0) hC dX5_fused_96 (by decide) hk) (fun hn => absurd hn hc)
              exact lX5_fused_L97 hC hr  w28 (th) (a1) (a2) (a3) (a4) (a5) ((if (lg_cmp v30 (0 : Int64)) = 0 then (1 : Int32) else (0 : Int32))) hf
          · refine xj_aload_n hC dX5_fused_49 rfl 0 rfl ?_
            refine xj_iconst (v := -1) hC dX5_fused_50 (by decide) ?_
            obtain ⟨v32, w33, hc31, hf⟩ := xm_b2 hf
            obtain ⟨_, hob, _⟩ := xm_bind hc31
            refine xj_reti (xr_V hC (mX5_refused l D ks b hc31) hob rfl xw_cod_X5_refused xw_ini_X5 xw_ins_X5_refused xw_sel_X5_refused xw_ml_X5_57 xds_X5_refused ⟨Nat.le_of_ble_eq_true rfl, Nat.le_of_ble_eq_true rfl⟩ rfl rfl (Nat.le_of_ble_eq_true rfl) ⟨Nat.le_of_ble_eq_true rfl, Nat.le_of_ble_eq_true rfl⟩ dX5_fused_51) ?_
            obtain ⟨he, hw⟩ := Prod.mk.inj (Option.some.inj hf)
            exact xj_iret hC hr (by decide) (by decide) dX5_fused_54 he hw
def fX5_next_L101 (w : xmW) (p0 : (Option Nat)) (p1 : Int32) (p3 : Int32) (p4 : Int32) (s0 : Int32) : Option (Int32 × xmW) := (if s0 = 0 then (xmb2 (fX5_fine w (p0) ((-9 : Int32))) fun v30 w31 => (some (v30, w31))) else ((fX5_signed w (p0) (p1) ((p4 + (1 : Int32))) ((if p3 = 0 then (1 : Int32) else (0 : Int32)))).bind fun v33 => (xmb2 (fX5_fine w (p0) (v33)) fun v35 w36 => (some (v35, w36)))))
set_option maxHeartbeats 4000000 in
set_option maxRecDepth 100000 in
theorem lX5_next_L101 {p : Program} {l : Launch} {e : Env} {s : State} {m : MethodId} {args : Array Value} {below : List Frame} {meth : Method} {c : Code} {D : va_G} {ks : Nat → ClassId} {b : Nat} (hC : xmC p s m args meth c D ks b 7 cX5_next RX5) (hr : meth.sig.returnType = (some (FieldType.int))) {y : Int32} {wz : xmW} (w : xmW) (p0 : (Option Nat)) (p1 : Int32) (p3 : Int32) (p4 : Int32) (s0 : Int32) (hf : fX5_next_L101 w p0 p1 p3 p4 s0 = some (y, wz)) : xmJ p l e ({ frames := 4, cells := 0, slots := 0, locals := 89 } : Room) s m args below meth c D ks b 7 (MQ below (xmQ D ks b (some (xI y)) wz) args s 0 0 (xmA b)) w 0 0 101 [(0, xR p0), (1, xI p1), (3, xI p3), (4, xI p4)] [xI s0] := by
  unfold fX5_next_L101 at hf
  refine xj_istore (lv' := [(6, xI s0), (0, xR p0), (1, xI p1), (3, xI p3), (4, xI p4)]) hC dX5_next_101 (by decide) rfl ?_
  refine xj_aload_n hC dX5_next_103 rfl 1 rfl ?_
  refine xj_iload hC dX5_next_104 0 rfl ?_
  refine xb_if_eq (tgt := 130) hC dX5_next_106 (by decide) hf (fun hf => ?_) (fun hf => ?_)
  · refine xj_bipush (v := -9) hC dX5_next_130 (by decide) ?_
    obtain ⟨v30, w31, hc29, hf⟩ := xm_b2 hf
    obtain ⟨_, hob, _⟩ := xm_bind hc29
    refine xj_reti (xr_V hC (mX5_fine l D ks b hc29) hob rfl xw_cod_X5_fine xw_ini_X5 xw_ins_X5_fine xw_sel_X5_fine xw_ml_X5_67 xds_X5_fine ⟨Nat.le_of_ble_eq_true rfl, Nat.le_of_ble_eq_true rfl⟩ rfl rfl (Nat.le_of_ble_eq_true rfl) ⟨Nat.le_of_ble_eq_true rfl, Nat.le_of_ble_eq_true rfl⟩ dX5_next_132) ?_
    obtain ⟨he, hw⟩ := Prod.mk.inj (Option.some.inj hf)
    exact xj_iret hC hr (by decide) (by decide) dX5_next_135 he hw
  · refine xj_aload_n hC dX5_next_109 rfl 1 rfl ?_
    refine xj_iload_n hC dX5_next_110 rfl 2 rfl ?_
    refine xj_iload hC dX5_next_111 4 rfl ?_
    refine xj_iconst (v := 1) hC dX5_next_113 (by decide) ?_
    refine xj_iadd hC dX5_next_114 ?_
    refine xj_iload_n hC dX5_next_115 rfl 3 rfl ?_
    refine xj_dia (cnd := p3 = 0) (x := 1) (y := 0) (pc2 := 124) (st2 := [xI (p4 + (1 : Int32)), xI p1, xR p0, xR p0]) (fun hc hk => ?_) (fun hc hk => ?_) ?_
    · exact xj_if_ne (tgt := 123) hC dX5_next_116 (by decide) (fun hn => absurd hc hn) (fun _ => xj_iconst (v := 1) hC dX5_next_119 (by decide) (xj_goto (tgt := 124) hC dX5_next_120 (by decide) hk))
    · exact xj_if_ne (tgt := 123) hC dX5_next_116 (by decide) (fun _ => xj_iconst (v := 0) hC dX5_next_123 (by decide) hk) (fun hn => absurd hn hc)
    obtain ⟨v33, hc32, hf⟩ := xm_bind hf
    obtain ⟨_, hob, _⟩ := xm_bind hc32
    refine xj_reti (xr_V hC (mX5_signed l D ks b hc32) hob rfl xw_cod_X5_signed xw_ini_X5 xw_ins_X5_signed xw_sel_X5_signed xw_ml_X5_149 xds_X5_signed ⟨Nat.le_of_ble_eq_true rfl, Nat.le_of_ble_eq_true rfl⟩ rfl rfl (Nat.le_of_ble_eq_true rfl) ⟨Nat.le_of_ble_eq_true rfl, Nat.le_of_ble_eq_true rfl⟩ dX5_next_124) ?_
    refine xj_goto (tgt := 132) hC dX5_next_127 (by decide) ?_
    obtain ⟨v35, w36, hc34, hf⟩ := xm_b2 hf
    obtain ⟨_, hob, _⟩ := xm_bind hc34
    refine xj_reti (xr_V hC (mX5_fine l D ks b hc34) hob rfl xw_cod_X5_fine xw_ini_X5 xw_ins_X5_fine xw_sel_X5_fine xw_ml_X5_67 xds_X5_fine ⟨Nat.le_of_ble_eq_true rfl, Nat.le_of_ble_eq_true rfl⟩ rfl rfl (Nat.le_of_ble_eq_true rfl) ⟨Nat.le_of_ble_eq_true rfl, Nat.le_of_ble_eq_true rfl⟩ dX5_next_132) ?_
    obtain ⟨he, hw⟩ := Prod.mk.inj (Option.some.inj hf)
    exact xj_iret hC hr (by decide) (by decide) dX5_next_135 he hw
def fX5_next_L72 (w : xmW) (p0 : (Option Nat)) (p1 : Int32) (p3 : Int32) (p4 : Int32) : Option (Int32 × xmW) := ((fX5_great w (p0) (p1)).bind fun v26 => (if v26 ≤ p4 then (fX5_next_L101 w (p0) (p1) (p3) (p4) ((0 : Int32))) else (if p3 = 0 then ((xmgR w p0 5 1).bind fun v27 => ((xmild w v27 0 p1).bind fun v28 => (fX5_next_L101 w (p0) (p1) (p3) (p4) ((if v28 = (1 : Int32) then (1 : Int32) else (0 : Int32)))))) else (fX5_next_L101 w (p0) (p1) (p3) (p4) ((1 : Int32))))))
set_option maxHeartbeats 4000000 in
set_option maxRecDepth 100000 in
theorem lX5_next_L72 {p : Program} {l : Launch} {e : Env} {s : State} {m : MethodId} {args : Array Value} {below : List Frame} {meth : Method} {c : Code} {D : va_G} {ks : Nat → ClassId} {b : Nat} (hC : xmC p s m args meth c D ks b 7 cX5_next RX5) (hr : meth.sig.returnType = (some (FieldType.int))) {y : Int32} {wz : xmW} (w : xmW) (p0 : (Option Nat)) (p1 : Int32) (p3 : Int32) (p4 : Int32) (hf : fX5_next_L72 w p0 p1 p3 p4 = some (y, wz)) : xmJ p l e ({ frames := 4, cells := 0, slots := 0, locals := 89 } : Room) s m args below meth c D ks b 7 (MQ below (xmQ D ks b (some (xI y)) wz) args s 0 0 (xmA b)) w 0 0 72 [(0, xR p0), (1, xI p1), (3, xI p3), (4, xI p4)] [] := by
  unfold fX5_next_L72 at hf
  refine xj_iload hC dX5_next_72 3 rfl ?_
  refine xj_aload_n hC dX5_next_74 rfl 0 rfl ?_
  refine xj_iload_n hC dX5_next_75 rfl 1 rfl ?_
  obtain ⟨v26, hc25, hf⟩ := xm_bind hf
  obtain ⟨_, hob, _⟩ := xm_bind hc25
  refine xj_reti (xr_V hC (mX5_great l D ks b hc25) hob rfl xw_cod_X5_great xw_ini_X5 xw_ins_X5_great xw_sel_X5_great xw_ml_X5_100 xds_X5_great ⟨Nat.le_of_ble_eq_true rfl, Nat.le_of_ble_eq_true rfl⟩ rfl rfl (Nat.le_of_ble_eq_true rfl) ⟨Nat.le_of_ble_eq_true rfl, Nat.le_of_ble_eq_true rfl⟩ dX5_next_76) ?_
  refine xb_ic_ge (tgt := 100) hC dX5_next_79 (by decide) hf (fun hf => ?_) (fun hf => ?_)
  · refine xj_iconst (v := 0) hC dX5_next_100 (by decide) ?_
    exact lX5_next_L101 hC hr  w (p0) (p1) (p3) (p4) ((0 : Int32)) hf
  · refine xj_iload_n hC dX5_next_82 rfl 2 rfl ?_
    refine xb_if_ne (tgt := 96) hC dX5_next_83 (by decide) hf (fun hf => ?_) (fun hf => ?_)
    · refine xj_iconst (v := 1) hC dX5_next_96 (by decide) ?_
      refine xj_goto (tgt := 101) hC dX5_next_97 (by decide) ?_
      exact lX5_next_L101 hC hr  w (p0) (p1) (p3) (p4) ((1 : Int32)) hf
    · refine xj_aload_n hC dX5_next_86 rfl 0 rfl ?_
      refine xb_getR hC 5 1 xcl_5 (by decide) xw_fl_X5_7 dX5_next_87 hf (fun v27 hf => ?_)
      refine xj_iload_n hC dX5_next_90 rfl 1 rfl ?_
      refine xb_iald hC dX5_next_91 hf (fun v28 hf => ?_)
      refine xj_iconst (v := 1) hC dX5_next_92 (by decide) ?_
      refine xj_dia (cnd := v28 = (1 : Int32)) (x := 1) (y := 0) (pc2 := 101) (st2 := []) (fun hc hk => ?_) (fun hc hk => ?_) ?_
      · exact xj_ic_ne (tgt := 100) hC dX5_next_93 (by decide) (fun hn => absurd hc hn) (fun _ => xj_iconst (v := 1) hC dX5_next_96 (by decide) (xj_goto (tgt := 101) hC dX5_next_97 (by decide) hk))
      · exact xj_ic_ne (tgt := 100) hC dX5_next_93 (by decide) (fun _ => xj_iconst (v := 0) hC dX5_next_100 (by decide) hk) (fun hn => absurd hn hc)
      exact lX5_next_L101 hC hr  w (p0) (p1) (p3) (p4) ((if v28 = (1 : Int32) then (1 : Int32) else (0 : Int32))) hf
def fX5_next_L59 (w : xmW) (p0 : (Option Nat)) (p1 : Int32) (p3 : Int32) (p4 : Int32) (s0 : Int32) : Option (Int32 × xmW) := (if p4 = 0 then (fX5_next_L72 w (p0) (p1) (p3) (p4) ) else (if s0 = p3 then ((fX5_signed w (p0) (p1) ((p4 - (1 : Int32))) (s0)).bind fun v21 => (xmb2 (fX5_fine w (p0) (v21)) fun v23 w24 => (some (v23, w24)))) else (fX5_next_L72 w (p0) (p1) (p3) (p4) )))
set_option maxHeartbeats 4000000 in
set_option maxRecDepth 100000 in
theorem lX5_next_L59 {p : Program} {l : Launch} {e : Env} {s : State} {m : MethodId} {args : Array Value} {below : List Frame} {meth : Method} {c : Code} {D : va_G} {ks : Nat → ClassId} {b : Nat} (hC : xmC p s m args meth c D ks b 7 cX5_next RX5) (hr : meth.sig.returnType = (some (FieldType.int))) {y : Int32} {wz : xmW} (w : xmW) (p0 : (Option Nat)) (p1 : Int32) (p3 : Int32) (p4 : Int32) (s0 : Int32) (hf : fX5_next_L59 w p0 p1 p3 p4 s0 = some (y, wz)) : xmJ p l e ({ frames := 4, cells := 0, slots := 0, locals := 89 } : Room) s m args below meth c D ks b 7 (MQ below (xmQ D ks b (some (xI y)) wz) args s 0 0 (xmA b)) w 0 0 59 [(0, xR p0), (1, xI p1), (3, xI p3), (4, xI p4)] [xI s0] := by
  unfold fX5_next_L59 at hf
  refine xj_istore (lv' := [(5, xI s0), (0, xR p0), (1, xI p1), (3, xI p3), (4, xI p4)]) hC dX5_next_59 (by decide) rfl ?_
  refine xj_iload hC dX5_next_61 4 rfl ?_
  refine xb_if_eq (tgt := 72) hC dX5_next_63 (by decide) hf (fun hf => ?_) (fun hf => ?_)
  · refine xj_lv [1, 2, 3, 4] rfl ?_
    exact lX5_next_L72 hC hr  w (p0) (p1) (p3) (p4)  hf
  · refine xj_iload hC dX5_next_66 0 rfl ?_
    refine xj_iload_n hC dX5_next_68 rfl 3 rfl ?_
    refine xb_ic_eq (tgt := 136) hC dX5_next_69 (by decide) hf (fun hf => ?_) (fun hf => ?_)
    · refine xj_aload_n hC dX5_next_136 rfl 1 rfl ?_
      refine xj_aload_n hC dX5_next_137 rfl 1 rfl ?_
      refine xj_iload_n hC dX5_next_138 rfl 2 rfl ?_
      refine xj_iload hC dX5_next_139 4 rfl ?_
      refine xj_iconst (v := 1) hC dX5_next_141 (by decide) ?_
      refine xj_isub hC dX5_next_142 ?_
      refine xj_iload hC dX5_next_143 0 rfl ?_
      obtain ⟨v21, hc20, hf⟩ := xm_bind hf
      obtain ⟨_, hob, _⟩ := xm_bind hc20
      refine xj_reti (xr_V hC (mX5_signed l D ks b hc20) hob rfl xw_cod_X5_signed xw_ini_X5 xw_ins_X5_signed xw_sel_X5_signed xw_ml_X5_149 xds_X5_signed ⟨Nat.le_of_ble_eq_true rfl, Nat.le_of_ble_eq_true rfl⟩ rfl rfl (Nat.le_of_ble_eq_true rfl) ⟨Nat.le_of_ble_eq_true rfl, Nat.le_of_ble_eq_true rfl⟩ dX5_next_145) ?_
      obtain ⟨v23, w24, hc22, hf⟩ := xm_b2 hf
      obtain ⟨_, hob, _⟩ := xm_bind hc22
      refine xj_reti (xr_V hC (mX5_fine l D ks b hc22) hob rfl xw_cod_X5_fine xw_ini_X5 xw_ins_X5_fine xw_sel_X5_fine xw_ml_X5_67 xds_X5_fine ⟨Nat.le_of_ble_eq_true rfl, Nat.le_of_ble_eq_true rfl⟩ rfl rfl (Nat.le_of_ble_eq_true rfl) ⟨Nat.le_of_ble_eq_true rfl, Nat.le_of_ble_eq_true rfl⟩ dX5_next_148) ?_
      obtain ⟨he, hw⟩ := Prod.mk.inj (Option.some.inj hf)
      exact xj_iret hC hr (by decide) (by decide) dX5_next_151 he hw
    · refine xj_lv [1, 2, 3, 4] rfl ?_
      exact lX5_next_L72 hC hr  w (p0) (p1) (p3) (p4)  hf
def fX5_next (w : xmW) (th : (Option Nat)) (a1 : Int32) (a2 : Int32) (a3 : Int32) : Option (Int32 × xmW) := ((xmob w th 5).bind fun _ => ((fX5_isFormat w (th) (a1)).bind fun v2 => (if v2 = 0 then (xmb2 (fX5_refused w (th) ((-1 : Int32))) fun v4 w5 => (some (v4, w5))) else ((fX5_isCode w (th) (a1) (a2)).bind fun v7 => (if v7 = 0 then (xmb2 (fX5_refused w (th) ((-1 : Int32))) fun v9 w10 => (some (v9, w10))) else ((fX5_isNumber w (th) (a1) (a2)).bind fun v12 => (if v12 = 0 then (xmb2 (fX5_refused w (th) ((-1 : Int32))) fun v18 w19 => (some (v18, w19))) else ((fX5_plain w (th) (a1) (a2)).bind fun v14 => ((fX5_isMinus w (th) (a1) (a2)).bind fun v16 => (if v16 = 0 then (fX5_next_L59 w (th) (a1) (a3) (v14) ((0 : Int32))) else (fX5_next_L59 w (th) (a1) (a3) (v14) ((if v14 ≤ 0 then (0 : Int32) else (1 : Int32))))))))))))))
set_option maxHeartbeats 4000000 in
set_option maxRecDepth 100000 in
theorem mX5_next (l : Launch) (D : va_G) (ks : Nat → ClassId) (b : Nat) {w : xmW} {th : (Option Nat)} {a1 : Int32} {a2 : Int32} {a3 : Int32} {y : Int32} {wz : xmW} (hf : fX5_next w th a1 a2 a3 = some (y, wz)) : xmM l yX5_next (Cond.code yX5_next cX5_next 7 (some (FieldType.int)) :: xmTs) 4 89 0 0 D ks b w [xR th, xI a1, xI a2, xI a3] (some (xI y)) wz := by
  unfold fX5_next at hf
  obtain ⟨_, _, hf⟩ := xm_bind hf
  refine xmM.of (own := RX5) (lv0 := [(0, xR th), (1, xI a1), (2, xI a2), (3, xI a3)]) (by decide) rfl (Nat.le_of_ble_eq_true rfl) rfl ?_
  intro p e s m args below meth c hC hr hnm
  refine xj_aload_n hC dX5_next_0 rfl 0 rfl ?_
  refine xj_iload_n hC dX5_next_1 rfl 1 rfl ?_
  obtain ⟨v2, hc1, hf⟩ := xm_bind hf
  obtain ⟨_, hob, _⟩ := xm_bind hc1
  refine xj_reti (xr_V hC (mX5_isFormat l D ks b hc1) hob rfl xw_cod_X5_isFormat xw_ini_X5 xw_ins_X5_isFormat xw_sel_X5_isFormat xw_ml_X5_109 xds_X5_isFormat ⟨Nat.le_of_ble_eq_true rfl, Nat.le_of_ble_eq_true rfl⟩ rfl rfl (Nat.le_of_ble_eq_true rfl) ⟨Nat.le_of_ble_eq_true rfl, Nat.le_of_ble_eq_true rfl⟩ dX5_next_2) ?_
  refine xb_if_eq (tgt := 26) hC dX5_next_5 (by decide) hf (fun hf => ?_) (fun hf => ?_)
  · refine xj_aload_n hC dX5_next_26 rfl 0 rfl ?_
    refine xj_iconst (v := -1) hC dX5_next_27 (by decide) ?_
    obtain ⟨v4, w5, hc3, hf⟩ := xm_b2 hf
    obtain ⟨_, hob, _⟩ := xm_bind hc3
    refine xj_reti (xr_V hC (mX5_refused l D ks b hc3) hob rfl xw_cod_X5_refused xw_ini_X5 xw_ins_X5_refused xw_sel_X5_refused xw_ml_X5_57 xds_X5_refused ⟨Nat.le_of_ble_eq_true rfl, Nat.le_of_ble_eq_true rfl⟩ rfl rfl (Nat.le_of_ble_eq_true rfl) ⟨Nat.le_of_ble_eq_true rfl, Nat.le_of_ble_eq_true rfl⟩ dX5_next_28) ?_
    obtain ⟨he, hw⟩ := Prod.mk.inj (Option.some.inj hf)
    exact xj_iret hC hr (by decide) (by decide) dX5_next_31 he hw
  · refine xj_aload_n hC dX5_next_8 rfl 0 rfl ?_
    refine xj_iload_n hC dX5_next_9 rfl 1 rfl ?_
    refine xj_iload_n hC dX5_next_10 rfl 2 rfl ?_
    obtain ⟨v7, hc6, hf⟩ := xm_bind hf
    obtain ⟨_, hob, _⟩ := xm_bind hc6
    refine xj_reti (xr_V hC (mX5_isCode l D ks b hc6) hob rfl xw_cod_X5_isCode xw_ini_X5 xw_ins_X5_isCode xw_sel_X5_isCode xw_ml_X5_130 xds_X5_isCode ⟨Nat.le_of_ble_eq_true rfl, Nat.le_of_ble_eq_true rfl⟩ rfl rfl (Nat.le_of_ble_eq_true rfl) ⟨Nat.le_of_ble_eq_true rfl, Nat.le_of_ble_eq_true rfl⟩ dX5_next_11) ?_
    refine xb_if_eq (tgt := 26) hC dX5_next_14 (by decide) hf (fun hf => ?_) (fun hf => ?_)
    · refine xj_aload_n hC dX5_next_26 rfl 0 rfl ?_
      refine xj_iconst (v := -1) hC dX5_next_27 (by decide) ?_
      obtain ⟨v9, w10, hc8, hf⟩ := xm_b2 hf
      obtain ⟨_, hob, _⟩ := xm_bind hc8
      refine xj_reti (xr_V hC (mX5_refused l D ks b hc8) hob rfl xw_cod_X5_refused xw_ini_X5 xw_ins_X5_refused xw_sel_X5_refused xw_ml_X5_57 xds_X5_refused ⟨Nat.le_of_ble_eq_true rfl, Nat.le_of_ble_eq_true rfl⟩ rfl rfl (Nat.le_of_ble_eq_true rfl) ⟨Nat.le_of_ble_eq_true rfl, Nat.le_of_ble_eq_true rfl⟩ dX5_next_28) ?_
      obtain ⟨he, hw⟩ := Prod.mk.inj (Option.some.inj hf)
      exact xj_iret hC hr (by decide) (by decide) dX5_next_31 he hw
    · refine xj_aload_n hC dX5_next_17 rfl 0 rfl ?_
      refine xj_iload_n hC dX5_next_18 rfl 1 rfl ?_
      refine xj_iload_n hC dX5_next_19 rfl 2 rfl ?_
      obtain ⟨v12, hc11, hf⟩ := xm_bind hf
      obtain ⟨_, hob, _⟩ := xm_bind hc11
      refine xj_reti (xr_V hC (mX5_isNumber l D ks b hc11) hob rfl xw_cod_X5_isNumber xw_ini_X5 xw_ins_X5_isNumber xw_sel_X5_isNumber xw_ml_X5_124 xds_X5_isNumber ⟨Nat.le_of_ble_eq_true rfl, Nat.le_of_ble_eq_true rfl⟩ rfl rfl (Nat.le_of_ble_eq_true rfl) ⟨Nat.le_of_ble_eq_true rfl, Nat.le_of_ble_eq_true rfl⟩ dX5_next_20) ?_
      refine xb_if_ne (tgt := 32) hC dX5_next_23 (by decide) hf (fun hf => ?_) (fun hf => ?_)
      · refine xj_aload_n hC dX5_next_32 rfl 0 rfl ?_
        refine xj_iload_n hC dX5_next_33 rfl 1 rfl ?_
        refine xj_iload_n hC dX5_next_34 rfl 2 rfl ?_
        obtain ⟨v14, hc13, hf⟩ := xm_bind hf
        obtain ⟨_, hob, _⟩ := xm_bind hc13
        refine xj_reti (xr_V hC (mX5_plain l D ks b hc13) hob rfl xw_cod_X5_plain xw_ini_X5 xw_ins_X5_plain xw_sel_X5_plain xw_ml_X5_80 xds_X5_plain ⟨Nat.le_of_ble_eq_true rfl, Nat.le_of_ble_eq_true rfl⟩ rfl rfl (Nat.le_of_ble_eq_true rfl) ⟨Nat.le_of_ble_eq_true rfl, Nat.le_of_ble_eq_true rfl⟩ dX5_next_35) ?_
        refine xj_istore (lv' := [(4, xI v14), (0, xR th), (1, xI a1), (2, xI a2), (3, xI a3)]) hC dX5_next_38 (by decide) rfl ?_
        refine xj_aload_n hC dX5_next_40 rfl 1 rfl ?_
        refine xj_iload_n hC dX5_next_41 rfl 2 rfl ?_
        refine xj_iload_n hC dX5_next_42 rfl 3 rfl ?_
        obtain ⟨v16, hc15, hf⟩ := xm_bind hf
        obtain ⟨_, hob, _⟩ := xm_bind hc15
        refine xj_reti (xr_V hC (mX5_isMinus l D ks b hc15) hob rfl xw_cod_X5_isMinus xw_ini_X5 xw_ins_X5_isMinus xw_sel_X5_isMinus xw_ml_X5_96 xds_X5_isMinus ⟨Nat.le_of_ble_eq_true rfl, Nat.le_of_ble_eq_true rfl⟩ rfl rfl (Nat.le_of_ble_eq_true rfl) ⟨Nat.le_of_ble_eq_true rfl, Nat.le_of_ble_eq_true rfl⟩ dX5_next_43) ?_
        refine xb_if_eq (tgt := 58) hC dX5_next_46 (by decide) hf (fun hf => ?_) (fun hf => ?_)
        · refine xj_iconst (v := 0) hC dX5_next_58 (by decide) ?_
          refine xj_lv [1, 2, 4, 0] rfl ?_
          exact lX5_next_L59 hC hr  w (th) (a1) (a3) (v14) ((0 : Int32)) hf
        · refine xj_iload hC dX5_next_49 0 rfl ?_
          refine xj_dia (cnd := v14 ≤ 0) (x := 0) (y := 1) (pc2 := 59) (st2 := []) (fun hc hk => ?_) (fun hc hk => ?_) ?_
          · exact xj_if_le (tgt := 58) hC dX5_next_51 (by decide) (fun _ => xj_iconst (v := 0) hC dX5_next_58 (by decide) hk) (fun hn => absurd hc hn)
          · exact xj_if_le (tgt := 58) hC dX5_next_51 (by decide) (fun hn => absurd hn hc) (fun _ => xj_iconst (v := 1) hC dX5_next_54 (by decide) (xj_goto (tgt := 59) hC dX5_next_55 (by decide) hk))
          refine xj_lv [1, 2, 4, 0] rfl ?_
          exact lX5_next_L59 hC hr  w (th) (a1) (a3) (v14) ((if v14 ≤ 0 then (0 : Int32) else (1 : Int32))) hf
      · refine xj_aload_n hC dX5_next_26 rfl 0 rfl ?_
        refine xj_iconst (v := -1) hC dX5_next_27 (by decide) ?_
        obtain ⟨v18, w19, hc17, hf⟩ := xm_b2 hf
        obtain ⟨_, hob, _⟩ := xm_bind hc17
        refine xj_reti (xr_V hC (mX5_refused l D ks b hc17) hob rfl xw_cod_X5_refused xw_ini_X5 xw_ins_X5_refused xw_sel_X5_refused xw_ml_X5_57 xds_X5_refused ⟨Nat.le_of_ble_eq_true rfl, Nat.le_of_ble_eq_true rfl⟩ rfl rfl (Nat.le_of_ble_eq_true rfl) ⟨Nat.le_of_ble_eq_true rfl, Nat.le_of_ble_eq_true rfl⟩ dX5_next_28) ?_
        obtain ⟨he, hw⟩ := Prod.mk.inj (Option.some.inj hf)
        exact xj_iret hC hr (by decide) (by decide) dX5_next_31 he hw
def fX5_order (w : xmW) (th : (Option Nat)) (a1 : Int32) (a2 : Int32) (a3 : Int32) : Option (Int32 × xmW) := ((xmob w th 5).bind fun _ => ((fX5_isFormat w (th) (a1)).bind fun v2 => (if v2 = 0 then (xmb2 (fX5_refused w (th) ((-1 : Int32))) fun v4 w5 => (some (v4, w5))) else ((fX5_isCode w (th) (a1) (a2)).bind fun v7 => (if v7 = 0 then (xmb2 (fX5_refused w (th) ((-1 : Int32))) fun v9 w10 => (some (v9, w10))) else ((fX5_isCode w (th) (a1) (a3)).bind fun v12 => (if v12 = 0 then (xmb2 (fX5_refused w (th) ((-1 : Int32))) fun v29 w30 => (some (v29, w30))) else ((fX5_kindOf w (th) (a1) (a2)).bind fun v14 => (if v14 = (4 : Int32) then (xmb2 (fX5_fine w (th) ((2 : Int32))) fun v16 w17 => (some (v16, w17))) else ((fX5_kindOf w (th) (a1) (a3)).bind fun v19 => (if v19 = (4 : Int32) then (xmb2 (fX5_fine w (th) ((2 : Int32))) fun v26 w27 => (some (v26, w27))) else ((fX5_beside w (th) (a1) (a2) (a3)).bind fun v21 => (xmb2 (fX5_fine w (th) (v21)) fun v23 w24 => (some (v23, w24)))))))))))))))
set_option maxHeartbeats 4000000 in
set_option maxRecDepth 100000 in
theorem mX5_order (l : Launch) (D : va_G) (ks : Nat → ClassId) (b : Nat) {w : xmW} {th : (Option Nat)} {a1 : Int32} {a2 : Int32} {a3 : Int32} {y : Int32} {wz : xmW} (hf : fX5_order w th a1 a2 a3 = some (y, wz)) : xmM l yX5_order (Cond.code yX5_order cX5_order 4 (some (FieldType.int)) :: xmTs) 4 94 0 0 D ks b w [xR th, xI a1, xI a2, xI a3] (some (xI y)) wz := by
  unfold fX5_order at hf
  obtain ⟨_, _, hf⟩ := xm_bind hf
  refine xmM.of (own := RX5) (lv0 := [(0, xR th), (1, xI a1), (2, xI a2), (3, xI a3)]) (by decide) rfl (Nat.le_of_ble_eq_true rfl) rfl ?_
  intro p e s m args below meth c hC hr hnm
  refine xj_aload_n hC dX5_order_0 rfl 0 rfl ?_
  refine xj_iload_n hC dX5_order_1 rfl 1 rfl ?_
  obtain ⟨v2, hc1, hf⟩ := xm_bind hf
  obtain ⟨_, hob, _⟩ := xm_bind hc1
  refine xj_reti (xr_V hC (mX5_isFormat l D ks b hc1) hob rfl xw_cod_X5_isFormat xw_ini_X5 xw_ins_X5_isFormat xw_sel_X5_isFormat xw_ml_X5_109 xds_X5_isFormat ⟨Nat.le_of_ble_eq_true rfl, Nat.le_of_ble_eq_true rfl⟩ rfl rfl (Nat.le_of_ble_eq_true rfl) ⟨Nat.le_of_ble_eq_true rfl, Nat.le_of_ble_eq_true rfl⟩ dX5_order_2) ?_
  refine xb_if_eq (tgt := 26) hC dX5_order_5 (by decide) hf (fun hf => ?_) (fun hf => ?_)
  · refine xj_aload_n hC dX5_order_26 rfl 0 rfl ?_
    refine xj_iconst (v := -1) hC dX5_order_27 (by decide) ?_
    obtain ⟨v4, w5, hc3, hf⟩ := xm_b2 hf
    obtain ⟨_, hob, _⟩ := xm_bind hc3
    refine xj_reti (xr_V hC (mX5_refused l D ks b hc3) hob rfl xw_cod_X5_refused xw_ini_X5 xw_ins_X5_refused xw_sel_X5_refused xw_ml_X5_57 xds_X5_refused ⟨Nat.le_of_ble_eq_true rfl, Nat.le_of_ble_eq_true rfl⟩ rfl rfl (Nat.le_of_ble_eq_true rfl) ⟨Nat.le_of_ble_eq_true rfl, Nat.le_of_ble_eq_true rfl⟩ dX5_order_28) ?_
    obtain ⟨he, hw⟩ := Prod.mk.inj (Option.some.inj hf)
    exact xj_iret hC hr (by decide) (by decide) dX5_order_31 he hw
  · refine xj_aload_n hC dX5_order_8 rfl 0 rfl ?_
    refine xj_iload_n hC dX5_order_9 rfl 1 rfl ?_
    refine xj_iload_n hC dX5_order_10 rfl 2 rfl ?_
    obtain ⟨v7, hc6, hf⟩ := xm_bind hf
    obtain ⟨_, hob, _⟩ := xm_bind hc6
    refine xj_reti (xr_V hC (mX5_isCode l D ks b hc6) hob rfl xw_cod_X5_isCode xw_ini_X5 xw_ins_X5_isCode xw_sel_X5_isCode xw_ml_X5_130 xds_X5_isCode ⟨Nat.le_of_ble_eq_true rfl, Nat.le_of_ble_eq_true rfl⟩ rfl rfl (Nat.le_of_ble_eq_true rfl) ⟨Nat.le_of_ble_eq_true rfl, Nat.le_of_ble_eq_true rfl⟩ dX5_order_11) ?_
    refine xb_if_eq (tgt := 26) hC dX5_order_14 (by decide) hf (fun hf => ?_) (fun hf => ?_)
    · refine xj_aload_n hC dX5_order_26 rfl 0 rfl ?_
      refine xj_iconst (v := -1) hC dX5_order_27 (by decide) ?_
      obtain ⟨v9, w10, hc8, hf⟩ := xm_b2 hf
      obtain ⟨_, hob, _⟩ := xm_bind hc8
      refine xj_reti (xr_V hC (mX5_refused l D ks b hc8) hob rfl xw_cod_X5_refused xw_ini_X5 xw_ins_X5_refused xw_sel_X5_refused xw_ml_X5_57 xds_X5_refused ⟨Nat.le_of_ble_eq_true rfl, Nat.le_of_ble_eq_true rfl⟩ rfl rfl (Nat.le_of_ble_eq_true rfl) ⟨Nat.le_of_ble_eq_true rfl, Nat.le_of_ble_eq_true rfl⟩ dX5_order_28) ?_
      obtain ⟨he, hw⟩ := Prod.mk.inj (Option.some.inj hf)
      exact xj_iret hC hr (by decide) (by decide) dX5_order_31 he hw
    · refine xj_aload_n hC dX5_order_17 rfl 0 rfl ?_
      refine xj_iload_n hC dX5_order_18 rfl 1 rfl ?_
      refine xj_iload_n hC dX5_order_19 rfl 3 rfl ?_
      obtain ⟨v12, hc11, hf⟩ := xm_bind hf
      obtain ⟨_, hob, _⟩ := xm_bind hc11
      refine xj_reti (xr_V hC (mX5_isCode l D ks b hc11) hob rfl xw_cod_X5_isCode xw_ini_X5 xw_ins_X5_isCode xw_sel_X5_isCode xw_ml_X5_130 xds_X5_isCode ⟨Nat.le_of_ble_eq_true rfl, Nat.le_of_ble_eq_true rfl⟩ rfl rfl (Nat.le_of_ble_eq_true rfl) ⟨Nat.le_of_ble_eq_true rfl, Nat.le_of_ble_eq_true rfl⟩ dX5_order_20) ?_
      refine xb_if_ne (tgt := 32) hC dX5_order_23 (by decide) hf (fun hf => ?_) (fun hf => ?_)
      · refine xj_aload_n hC dX5_order_32 rfl 0 rfl ?_
        refine xj_aload_n hC dX5_order_33 rfl 0 rfl ?_
        refine xj_iload_n hC dX5_order_34 rfl 1 rfl ?_
        refine xj_iload_n hC dX5_order_35 rfl 2 rfl ?_
        obtain ⟨v14, hc13, hf⟩ := xm_bind hf
        obtain ⟨_, hob, _⟩ := xm_bind hc13
        refine xj_reti (xr_V hC (mX5_kindOf l D ks b hc13) hob rfl xw_cod_X5_kindOf xw_ini_X5 xw_ins_X5_kindOf xw_sel_X5_kindOf xw_ml_X5_87 xds_X5_kindOf ⟨Nat.le_of_ble_eq_true rfl, Nat.le_of_ble_eq_true rfl⟩ rfl rfl (Nat.le_of_ble_eq_true rfl) ⟨Nat.le_of_ble_eq_true rfl, Nat.le_of_ble_eq_true rfl⟩ dX5_order_36) ?_
        refine xj_iconst (v := 4) hC dX5_order_39 (by decide) ?_
        refine xb_ic_eq (tgt := 53) hC dX5_order_40 (by decide) hf (fun hf => ?_) (fun hf => ?_)
        · refine xj_iconst (v := 2) hC dX5_order_53 (by decide) ?_
          refine xj_goto (tgt := 64) hC dX5_order_54 (by decide) ?_
          obtain ⟨v16, w17, hc15, hf⟩ := xm_b2 hf
          obtain ⟨_, hob, _⟩ := xm_bind hc15
          refine xj_reti (xr_V hC (mX5_fine l D ks b hc15) hob rfl xw_cod_X5_fine xw_ini_X5 xw_ins_X5_fine xw_sel_X5_fine xw_ml_X5_67 xds_X5_fine ⟨Nat.le_of_ble_eq_true rfl, Nat.le_of_ble_eq_true rfl⟩ rfl rfl (Nat.le_of_ble_eq_true rfl) ⟨Nat.le_of_ble_eq_true rfl, Nat.le_of_ble_eq_true rfl⟩ dX5_order_64) ?_
          obtain ⟨he, hw⟩ := Prod.mk.inj (Option.some.inj hf)
          exact xj_iret hC hr (by decide) (by decide) dX5_order_67 he hw
        · refine xj_aload_n hC dX5_order_43 rfl 0 rfl ?_
          refine xj_iload_n hC dX5_order_44 rfl 1 rfl ?_
          refine xj_iload_n hC dX5_order_45 rfl 3 rfl ?_
          obtain ⟨v19, hc18, hf⟩ := xm_bind hf
          obtain ⟨_, hob, _⟩ := xm_bind hc18
          refine xj_reti (xr_V hC (mX5_kindOf l D ks b hc18) hob rfl xw_cod_X5_kindOf xw_ini_X5 xw_ins_X5_kindOf xw_sel_X5_kindOf xw_ml_X5_87 xds_X5_kindOf ⟨Nat.le_of_ble_eq_true rfl, Nat.le_of_ble_eq_true rfl⟩ rfl rfl (Nat.le_of_ble_eq_true rfl) ⟨Nat.le_of_ble_eq_true rfl, Nat.le_of_ble_eq_true rfl⟩ dX5_order_46) ?_
          refine xj_iconst (v := 4) hC dX5_order_49 (by decide) ?_
          refine xb_ic_ne (tgt := 57) hC dX5_order_50 (by decide) hf (fun hf => ?_) (fun hf => ?_)
          · refine xj_aload_n hC dX5_order_57 rfl 0 rfl ?_
            refine xj_iload_n hC dX5_order_58 rfl 1 rfl ?_
            refine xj_iload_n hC dX5_order_59 rfl 2 rfl ?_
            refine xj_iload_n hC dX5_order_60 rfl 3 rfl ?_
            obtain ⟨v21, hc20, hf⟩ := xm_bind hf
            obtain ⟨_, hob, _⟩ := xm_bind hc20
            refine xj_reti (xr_V hC (mX5_beside l D ks b hc20) hob rfl xw_cod_X5_beside xw_ini_X5 xw_ins_X5_beside xw_sel_X5_beside xw_ml_X5_196 xds_X5_beside ⟨Nat.le_of_ble_eq_true rfl, Nat.le_of_ble_eq_true rfl⟩ rfl rfl (Nat.le_of_ble_eq_true rfl) ⟨Nat.le_of_ble_eq_true rfl, Nat.le_of_ble_eq_true rfl⟩ dX5_order_61) ?_
            obtain ⟨v23, w24, hc22, hf⟩ := xm_b2 hf
            obtain ⟨_, hob, _⟩ := xm_bind hc22
            refine xj_reti (xr_V hC (mX5_fine l D ks b hc22) hob rfl xw_cod_X5_fine xw_ini_X5 xw_ins_X5_fine xw_sel_X5_fine xw_ml_X5_67 xds_X5_fine ⟨Nat.le_of_ble_eq_true rfl, Nat.le_of_ble_eq_true rfl⟩ rfl rfl (Nat.le_of_ble_eq_true rfl) ⟨Nat.le_of_ble_eq_true rfl, Nat.le_of_ble_eq_true rfl⟩ dX5_order_64) ?_
            obtain ⟨he, hw⟩ := Prod.mk.inj (Option.some.inj hf)
            exact xj_iret hC hr (by decide) (by decide) dX5_order_67 he hw
          · refine xj_iconst (v := 2) hC dX5_order_53 (by decide) ?_
            refine xj_goto (tgt := 64) hC dX5_order_54 (by decide) ?_
            obtain ⟨v26, w27, hc25, hf⟩ := xm_b2 hf
            obtain ⟨_, hob, _⟩ := xm_bind hc25
            refine xj_reti (xr_V hC (mX5_fine l D ks b hc25) hob rfl xw_cod_X5_fine xw_ini_X5 xw_ins_X5_fine xw_sel_X5_fine xw_ml_X5_67 xds_X5_fine ⟨Nat.le_of_ble_eq_true rfl, Nat.le_of_ble_eq_true rfl⟩ rfl rfl (Nat.le_of_ble_eq_true rfl) ⟨Nat.le_of_ble_eq_true rfl, Nat.le_of_ble_eq_true rfl⟩ dX5_order_64) ?_
            obtain ⟨he, hw⟩ := Prod.mk.inj (Option.some.inj hf)
            exact xj_iret hC hr (by decide) (by decide) dX5_order_67 he hw
      · refine xj_aload_n hC dX5_order_26 rfl 0 rfl ?_
        refine xj_iconst (v := -1) hC dX5_order_27 (by decide) ?_
        obtain ⟨v29, w30, hc28, hf⟩ := xm_b2 hf
        obtain ⟨_, hob, _⟩ := xm_bind hc28
        refine xj_reti (xr_V hC (mX5_refused l D ks b hc28) hob rfl xw_cod_X5_refused xw_ini_X5 xw_ins_X5_refused xw_sel_X5_refused xw_ml_X5_57 xds_X5_refused ⟨Nat.le_of_ble_eq_true rfl, Nat.le_of_ble_eq_true rfl⟩ rfl rfl (Nat.le_of_ble_eq_true rfl) ⟨Nat.le_of_ble_eq_true rfl, Nat.le_of_ble_eq_true rfl⟩ dX5_order_28) ?_
        obtain ⟨he, hw⟩ := Prod.mk.inj (Option.some.inj hf)
        exact xj_iret hC hr (by decide) (by decide) dX5_order_31 he hw
def fX5_numbers_L20 : Nat → xmW → (Option Nat) → Int32 → Int64 → Int64 → Int32 → Int32 → Option (Int32 × xmW)
  | 0, _, _, _, _, _, _, _ => none
  | n + 1, w, p0, p1, p2, p4, p6, p7 => ((fX5_bits w (p0) (p1)).bind fun v7 => (if ((1 : Int32) <<< (v7 &&& 31)) ≤ p7 then (xmb2 (fX5_fine w (p0) (p6)) fun v9 w10 => (some (v9, w10))) else ((fX5_isNumber w (p0) (p1) (p7)).bind fun v12 => (if v12 = 0 then (fX5_numbers_L20 n w (p0) (p1) (p2) (p4) ((p6 + (0 : Int32))) ((p7 + (1 : Int32))) ) else ((fX5_unitsOf w (p0) (p1) (p7)).bind fun v14 => ((fX5_in w (v14) (p2) (p4)).bind fun v16 => (fX5_numbers_L20 n w (p0) (p1) (p2) (p4) ((p6 + (if v16 = 0 then (0 : Int32) else (1 : Int32)))) ((p7 + (1 : Int32))) )))))))
set_option maxHeartbeats 4000000 in
set_option maxRecDepth 100000 in
theorem lX5_numbers_L20 {p : Program} {l : Launch} {e : Env} {s : State} {m : MethodId} {args : Array Value} {below : List Frame} {meth : Method} {c : Code} {D : va_G} {ks : Nat → ClassId} {b : Nat} (hC : xmC p s m args meth c D ks b 8 cX5_numbers RX5) (hr : meth.sig.returnType = (some (FieldType.int))) {y : Int32} {wz : xmW} : ∀ (n : Nat) (w : xmW) (p0 : (Option Nat)) (p1 : Int32) (p2 : Int64) (p4 : Int64) (p6 : Int32) (p7 : Int32), fX5_numbers_L20 n w p0 p1 p2 p4 p6 p7 = some (y, wz) → xmJ p l e ({ frames := 4, cells := 0, slots := 0, locals := 89 } : Room) s m args below meth c D ks b 8 (MQ below (xmQ D ks b (some (xI y)) wz) args s 0 0 (xmA b)) w 0 0 20 [(0, xR p0), (1, xI p1), (2, xL p2), (4, xL p4), (6, xI p6), (7, xI p7)] [] := by
  intro n
  induction n with
  | zero => intro w p0 p1 p2 p4 p6 p7 hf; simp [fX5_numbers_L20] at hf
  | succ n ih =>
    intro w p0 p1 p2 p4 p6 p7 hf
    rw [fX5_numbers_L20] at hf
    refine xj_iload hC dX5_numbers_20 5 rfl ?_
    refine xj_iconst (v := 1) hC dX5_numbers_22 (by decide) ?_
    refine xj_aload_n hC dX5_numbers_23 rfl 0 rfl ?_
    refine xj_iload_n hC dX5_numbers_24 rfl 1 rfl ?_
    obtain ⟨v7, hc6, hf⟩ := xm_bind hf
    obtain ⟨_, hob, _⟩ := xm_bind hc6
    refine xj_reti (xr_V hC (mX5_bits l D ks b hc6) hob rfl xw_cod_X5_bits xw_ini_X5 xw_ins_X5_bits xw_sel_X5_bits xw_ml_X5_74 xds_X5_bits ⟨Nat.le_of_ble_eq_true rfl, Nat.le_of_ble_eq_true rfl⟩ rfl rfl (Nat.le_of_ble_eq_true rfl) ⟨Nat.le_of_ble_eq_true rfl, Nat.le_of_ble_eq_true rfl⟩ dX5_numbers_25) ?_
    refine xj_ishl hC dX5_numbers_28 ?_
    refine xb_ic_ge (tgt := 74) hC dX5_numbers_29 (by decide) hf (fun hf => ?_) (fun hf => ?_)
    · refine xj_aload_n hC dX5_numbers_74 rfl 0 rfl ?_
      refine xj_iload hC dX5_numbers_75 4 rfl ?_
      obtain ⟨v9, w10, hc8, hf⟩ := xm_b2 hf
      obtain ⟨_, hob, _⟩ := xm_bind hc8
      refine xj_reti (xr_V hC (mX5_fine l D ks b hc8) hob rfl xw_cod_X5_fine xw_ini_X5 xw_ins_X5_fine xw_sel_X5_fine xw_ml_X5_67 xds_X5_fine ⟨Nat.le_of_ble_eq_true rfl, Nat.le_of_ble_eq_true rfl⟩ rfl rfl (Nat.le_of_ble_eq_true rfl) ⟨Nat.le_of_ble_eq_true rfl, Nat.le_of_ble_eq_true rfl⟩ dX5_numbers_77) ?_
      obtain ⟨he, hw⟩ := Prod.mk.inj (Option.some.inj hf)
      exact xj_iret hC hr (by decide) (by decide) dX5_numbers_80 he hw
    · refine xj_iload hC dX5_numbers_32 4 rfl ?_
      refine xj_aload_n hC dX5_numbers_34 rfl 0 rfl ?_
      refine xj_iload_n hC dX5_numbers_35 rfl 1 rfl ?_
      refine xj_iload hC dX5_numbers_36 5 rfl ?_
      obtain ⟨v12, hc11, hf⟩ := xm_bind hf
      obtain ⟨_, hob, _⟩ := xm_bind hc11
      refine xj_reti (xr_V hC (mX5_isNumber l D ks b hc11) hob rfl xw_cod_X5_isNumber xw_ini_X5 xw_ins_X5_isNumber xw_sel_X5_isNumber xw_ml_X5_124 xds_X5_isNumber ⟨Nat.le_of_ble_eq_true rfl, Nat.le_of_ble_eq_true rfl⟩ rfl rfl (Nat.le_of_ble_eq_true rfl) ⟨Nat.le_of_ble_eq_true rfl, Nat.le_of_ble_eq_true rfl⟩ dX5_numbers_38) ?_
      refine xb_if_eq (tgt := 64) hC dX5_numbers_41 (by decide) hf (fun hf => ?_) (fun hf => ?_)
      · refine xj_iconst (v := 0) hC dX5_numbers_64 (by decide) ?_
        refine xj_iadd hC dX5_numbers_65 ?_
        refine xj_istore (lv' := [(6, xI (p6 + (0 : Int32))), (0, xR p0), (1, xI p1), (2, xL p2), (4, xL p4), (7, xI p7)]) hC dX5_numbers_66 (by decide) rfl ?_
        refine xj_iinc (v := (p7 + (1 : Int32))) (lv' := [(7, xI (p7 + (1 : Int32))), (6, xI (p6 + (0 : Int32))), (0, xR p0), (1, xI p1), (2, xL p2), (4, xL p4)]) hC dX5_numbers_68 5 rfl rfl (by decide) rfl ?_
        refine xj_goto (tgt := 20) hC dX5_numbers_71 (by decide) ?_
        refine xj_lv [2, 3, 4, 5, 1, 0] rfl ?_
        exact ih w (p0) (p1) (p2) (p4) ((p6 + (0 : Int32))) ((p7 + (1 : Int32)))  hf
      · refine xj_aload_n hC dX5_numbers_44 rfl 0 rfl ?_
        refine xj_iload_n hC dX5_numbers_45 rfl 1 rfl ?_
        refine xj_iload hC dX5_numbers_46 5 rfl ?_
        obtain ⟨v14, hc13, hf⟩ := xm_bind hf
        obtain ⟨_, hob, _⟩ := xm_bind hc13
        refine xj_retl (xr_V hC (mX5_unitsOf l D ks b hc13) hob rfl xw_cod_X5_unitsOf xw_ini_X5 xw_ins_X5_unitsOf xw_sel_X5_unitsOf xw_ml_X5_135 xds_X5_unitsOf ⟨Nat.le_of_ble_eq_true rfl, Nat.le_of_ble_eq_true rfl⟩ rfl rfl (Nat.le_of_ble_eq_true rfl) ⟨Nat.le_of_ble_eq_true rfl, Nat.le_of_ble_eq_true rfl⟩ dX5_numbers_48) ?_
        refine xj_lload_n hC dX5_numbers_51 rfl 2 rfl ?_
        refine xj_lload hC dX5_numbers_52 3 rfl ?_
        obtain ⟨v16, hc15, hf⟩ := xm_bind hf
        refine xj_reti (xr_S hC (mX5_in l D ks b hc15) xw_cod_X5_in xw_ini_X5 xw_sta_X5_in xw_ml_X5_70 xds_X5_in ⟨Nat.le_of_ble_eq_true rfl, Nat.le_of_ble_eq_true rfl⟩ rfl rfl (Nat.le_of_ble_eq_true rfl) ⟨Nat.le_of_ble_eq_true rfl, Nat.le_of_ble_eq_true rfl⟩ dX5_numbers_54) ?_
        refine xj_dia (cnd := v16 = 0) (x := 0) (y := 1) (pc2 := 65) (st2 := [xI p6]) (fun hc hk => ?_) (fun hc hk => ?_) ?_
        · exact xj_if_eq (tgt := 64) hC dX5_numbers_57 (by decide) (fun _ => xj_iconst (v := 0) hC dX5_numbers_64 (by decide) hk) (fun hn => absurd hc hn)
        · exact xj_if_eq (tgt := 64) hC dX5_numbers_57 (by decide) (fun hn => absurd hn hc) (fun _ => xj_iconst (v := 1) hC dX5_numbers_60 (by decide) (xj_goto (tgt := 65) hC dX5_numbers_61 (by decide) hk))
        refine xj_iadd hC dX5_numbers_65 ?_
        refine xj_istore (lv' := [(6, xI (p6 + (if v16 = 0 then (0 : Int32) else (1 : Int32)))), (0, xR p0), (1, xI p1), (2, xL p2), (4, xL p4), (7, xI p7)]) hC dX5_numbers_66 (by decide) rfl ?_
        refine xj_iinc (v := (p7 + (1 : Int32))) (lv' := [(7, xI (p7 + (1 : Int32))), (6, xI (p6 + (if v16 = 0 then (0 : Int32) else (1 : Int32)))), (0, xR p0), (1, xI p1), (2, xL p2), (4, xL p4)]) hC dX5_numbers_68 5 rfl rfl (by decide) rfl ?_
        refine xj_goto (tgt := 20) hC dX5_numbers_71 (by decide) ?_
        refine xj_lv [2, 3, 4, 5, 1, 0] rfl ?_
        exact ih w (p0) (p1) (p2) (p4) ((p6 + (if v16 = 0 then (0 : Int32) else (1 : Int32)))) ((p7 + (1 : Int32)))  hf
def fX5_numbers (w : xmW) (th : (Option Nat)) (a1 : Int32) (a2 : Int64) (a3 : Int64) : Option (Int32 × xmW) := ((xmob w th 5).bind fun _ => ((fX5_isFormat w (th) (a1)).bind fun v2 => (if v2 = 0 then (xmb2 (fX5_refused w (th) ((-1 : Int32))) fun v4 w5 => (some (v4, w5))) else (fX5_numbers_L20 xmN w (th) (a1) (a2) (a3) ((0 : Int32)) ((0 : Int32)) ))))
set_option maxHeartbeats 4000000 in
set_option maxRecDepth 100000 in
theorem mX5_numbers (l : Launch) (D : va_G) (ks : Nat → ClassId) (b : Nat) {w : xmW} {th : (Option Nat)} {a1 : Int32} {a2 : Int64} {a3 : Int64} {y : Int32} {wz : xmW} (hf : fX5_numbers w th a1 a2 a3 = some (y, wz)) : xmM l yX5_numbers (Cond.code yX5_numbers cX5_numbers 8 (some (FieldType.int)) :: xmTs) 4 89 0 0 D ks b w [xR th, xI a1, xL a2, xL a3] (some (xI y)) wz := by
  unfold fX5_numbers at hf
  obtain ⟨_, _, hf⟩ := xm_bind hf
  refine xmM.of (own := RX5) (lv0 := [(0, xR th), (1, xI a1), (2, xL a2), (4, xL a3)]) (by decide) rfl (Nat.le_of_ble_eq_true rfl) rfl ?_
  intro p e s m args below meth c hC hr hnm
  refine xj_aload_n hC dX5_numbers_0 rfl 0 rfl ?_
  refine xj_iload_n hC dX5_numbers_1 rfl 1 rfl ?_
  obtain ⟨v2, hc1, hf⟩ := xm_bind hf
  obtain ⟨_, hob, _⟩ := xm_bind hc1
  refine xj_reti (xr_V hC (mX5_isFormat l D ks b hc1) hob rfl xw_cod_X5_isFormat xw_ini_X5 xw_ins_X5_isFormat xw_sel_X5_isFormat xw_ml_X5_109 xds_X5_isFormat ⟨Nat.le_of_ble_eq_true rfl, Nat.le_of_ble_eq_true rfl⟩ rfl rfl (Nat.le_of_ble_eq_true rfl) ⟨Nat.le_of_ble_eq_true rfl, Nat.le_of_ble_eq_true rfl⟩ dX5_numbers_2) ?_
  refine xb_if_ne (tgt := 14) hC dX5_numbers_5 (by decide) hf (fun hf => ?_) (fun hf => ?_)
  · refine xj_iconst (v := 0) hC dX5_numbers_14 (by decide) ?_
    refine xj_istore (lv' := [(6, xI (0 : Int32)), (0, xR th), (1, xI a1), (2, xL a2), (4, xL a3)]) hC dX5_numbers_15 (by decide) rfl ?_
    refine xj_iconst (v := 0) hC dX5_numbers_17 (by decide) ?_
    refine xj_istore (lv' := [(7, xI (0 : Int32)), (6, xI (0 : Int32)), (0, xR th), (1, xI a1), (2, xL a2), (4, xL a3)]) hC dX5_numbers_18 (by decide) rfl ?_
    refine xj_lv [2, 3, 4, 5, 1, 0] rfl ?_
    exact lX5_numbers_L20 hC hr  xmN w (th) (a1) (a2) (a3) ((0 : Int32)) ((0 : Int32))  hf
  · refine xj_aload_n hC dX5_numbers_8 rfl 0 rfl ?_
    refine xj_iconst (v := -1) hC dX5_numbers_9 (by decide) ?_
    obtain ⟨v4, w5, hc3, hf⟩ := xm_b2 hf
    obtain ⟨_, hob, _⟩ := xm_bind hc3
    refine xj_reti (xr_V hC (mX5_refused l D ks b hc3) hob rfl xw_cod_X5_refused xw_ini_X5 xw_ins_X5_refused xw_sel_X5_refused xw_ml_X5_57 xds_X5_refused ⟨Nat.le_of_ble_eq_true rfl, Nat.le_of_ble_eq_true rfl⟩ rfl rfl (Nat.le_of_ble_eq_true rfl) ⟨Nat.le_of_ble_eq_true rfl, Nat.le_of_ble_eq_true rfl⟩ dX5_numbers_10) ?_
    obtain ⟨he, hw⟩ := Prod.mk.inj (Option.some.inj hf)
    exact xj_iret hC hr (by decide) (by decide) dX5_numbers_13 he hw
def fX5_isRow (w : xmW) (th : (Option Nat)) (a1 : Int32) : Option Int32 := ((xmob w th 5).bind fun _ => ((fX5_in w ((a1).toInt64) ((0 : Int64)) ((3 : Int64))).bind fun v2 => (if v2 = 0 then (xmbz (0 : Int32)) else ((xmgR w th 5 7).bind fun v3 => ((xmild w v3 0 a1).bind fun v4 => (xmbz (if v4 < 0 then (0 : Int32) else (1 : Int32))))))))
set_option maxHeartbeats 4000000 in
set_option maxRecDepth 100000 in
theorem mX5_isRow (l : Launch) (D : va_G) (ks : Nat → ClassId) (b : Nat) {w : xmW} {th : (Option Nat)} {a1 : Int32} {y : Int32} (hf : fX5_isRow w th a1 = some y) : xmM l yX5_isRow (Cond.code yX5_isRow cX5_isRow 2 (some (FieldType.boolean)) :: xmTs) 1 25 0 0 D ks b w [xR th, xI a1] (some (xI y)) w := by
  unfold fX5_isRow at hf
  obtain ⟨_, _, hf⟩ := xm_bind hf
  refine xmM.of (own := RX5) (lv0 := [(0, xR th), (1, xI a1)]) (by decide) rfl (Nat.le_of_ble_eq_true rfl) rfl ?_
  intro p e s m args below meth c hC hr hnm
  refine xj_iload_n hC dX5_isRow_0 rfl 1 rfl ?_
  refine xj_i2l hC dX5_isRow_1 ?_
  refine xj_lconst (v := 0) hC dX5_isRow_2 (by decide) ?_
  refine xj_ldc2 hC xw_cst_X5_153 dX5_isRow_3 ?_
  obtain ⟨v2, hc1, hf⟩ := xm_bind hf
  refine xj_reti (xr_S hC (mX5_in l D ks b hc1) xw_cod_X5_in xw_ini_X5 xw_sta_X5_in xw_ml_X5_70 xds_X5_in ⟨Nat.le_of_ble_eq_true rfl, Nat.le_of_ble_eq_true rfl⟩ rfl rfl (Nat.le_of_ble_eq_true rfl) ⟨Nat.le_of_ble_eq_true rfl, Nat.le_of_ble_eq_true rfl⟩ dX5_isRow_6) ?_
  refine xb_if_eq (tgt := 25) hC dX5_isRow_9 (by decide) hf (fun hf => ?_) (fun hf => ?_)
  · refine xj_iconst (v := 0) hC dX5_isRow_25 (by decide) ?_
    exact xj_zret hC hr (by decide) (by decide) dX5_isRow_26 hf rfl
  · refine xj_aload_n hC dX5_isRow_12 rfl 0 rfl ?_
    refine xb_getR hC 5 7 xcl_5 (by decide) xw_fl_X5_29 dX5_isRow_13 hf (fun v3 hf => ?_)
    refine xj_iload_n hC dX5_isRow_16 rfl 1 rfl ?_
    refine xb_iald hC dX5_isRow_17 hf (fun v4 hf => ?_)
    refine xj_dia (cnd := v4 < 0) (x := 0) (y := 1) (pc2 := 26) (st2 := []) (fun hc hk => ?_) (fun hc hk => ?_) ?_
    · exact xj_if_lt (tgt := 25) hC dX5_isRow_18 (by decide) (fun _ => xj_iconst (v := 0) hC dX5_isRow_25 (by decide) hk) (fun hn => absurd hc hn)
    · exact xj_if_lt (tgt := 25) hC dX5_isRow_18 (by decide) (fun hn => absurd hn hc) (fun _ => xj_iconst (v := 1) hC dX5_isRow_21 (by decide) (xj_goto (tgt := 26) hC dX5_isRow_22 (by decide) hk))
    exact xj_zret hC hr (by decide) (by decide) dX5_isRow_26 hf rfl
def fX5_row_L55 : Nat → xmW → (Option Nat) → Int32 → Int32 → Option (Int32 × xmW)
  | 0, _, _, _, _ => none
  | n + 1, w, p0, p1, p4 => (if (16 : Int32) ≤ p4 then (xmb2 (fX5_fine w (p0) ((1 : Int32))) fun v21 w22 => (some (v21, w22))) else ((xmgR w p0 5 9).bind fun v23 => ((xmist w v23 0 (((16 : Int32) * p1) + p4) (0 : Int32)).bind fun w24 => (fX5_row_L55 n w24 (p0) (p1) ((p4 + (1 : Int32))) ))))
set_option maxHeartbeats 4000000 in
set_option maxRecDepth 100000 in
theorem lX5_row_L55 {p : Program} {l : Launch} {e : Env} {s : State} {m : MethodId} {args : Array Value} {below : List Frame} {meth : Method} {c : Code} {D : va_G} {ks : Nat → ClassId} {b : Nat} (hC : xmC p s m args meth c D ks b 5 cX5_row RX5) (hr : meth.sig.returnType = (some (FieldType.int))) {y : Int32} {wz : xmW} : ∀ (n : Nat) (w : xmW) (p0 : (Option Nat)) (p1 : Int32) (p4 : Int32), fX5_row_L55 n w p0 p1 p4 = some (y, wz) → xmJ p l e ({ frames := 2, cells := 0, slots := 0, locals := 46 } : Room) s m args below meth c D ks b 5 (MQ below (xmQ D ks b (some (xI y)) wz) args s 0 0 (xmA b)) w 0 0 55 [(0, xR p0), (1, xI p1), (4, xI p4)] [] := by
  intro n
  induction n with
  | zero => intro w p0 p1 p4 hf; simp [fX5_row_L55] at hf
  | succ n ih =>
    intro w p0 p1 p4 hf
    rw [fX5_row_L55] at hf
    refine xj_iload hC dX5_row_55 2 rfl ?_
    refine xj_bipush (v := 16) hC dX5_row_57 (by decide) ?_
    refine xb_ic_ge (tgt := 81) hC dX5_row_59 (by decide) hf (fun hf => ?_) (fun hf => ?_)
    · refine xj_aload_n hC dX5_row_81 rfl 0 rfl ?_
      refine xj_iconst (v := 1) hC dX5_row_82 (by decide) ?_
      obtain ⟨v21, w22, hc20, hf⟩ := xm_b2 hf
      obtain ⟨_, hob, _⟩ := xm_bind hc20
      refine xj_reti (xr_V hC (mX5_fine l D ks b hc20) hob rfl xw_cod_X5_fine xw_ini_X5 xw_ins_X5_fine xw_sel_X5_fine xw_ml_X5_67 xds_X5_fine ⟨Nat.le_of_ble_eq_true rfl, Nat.le_of_ble_eq_true rfl⟩ rfl rfl (Nat.le_of_ble_eq_true rfl) ⟨Nat.le_of_ble_eq_true rfl, Nat.le_of_ble_eq_true rfl⟩ dX5_row_83) ?_
      obtain ⟨he, hw⟩ := Prod.mk.inj (Option.some.inj hf)
      exact xj_iret hC hr (by decide) (by decide) dX5_row_86 he hw
    · refine xj_aload_n hC dX5_row_62 rfl 0 rfl ?_
      refine xb_getR hC 5 9 xcl_5 (by decide) xw_fl_X5_35 dX5_row_63 hf (fun v23 hf => ?_)
      refine xj_bipush (v := 16) hC dX5_row_66 (by decide) ?_
      refine xj_iload_n hC dX5_row_68 rfl 1 rfl ?_
      refine xj_imul hC dX5_row_69 ?_
      refine xj_iload hC dX5_row_70 2 rfl ?_
      refine xj_iadd hC dX5_row_72 ?_
      refine xj_iconst (v := 0) hC dX5_row_73 (by decide) ?_
      refine xb_iast hC dX5_row_74 hf (fun w24 hf => ?_)
      refine xj_iinc (v := (p4 + (1 : Int32))) (lv' := [(4, xI (p4 + (1 : Int32))), (0, xR p0), (1, xI p1)]) hC dX5_row_75 2 rfl rfl (by decide) rfl ?_
      refine xj_goto (tgt := 55) hC dX5_row_78 (by decide) ?_
      refine xj_lv [1, 2, 0] rfl ?_
      exact ih w24 (p0) (p1) ((p4 + (1 : Int32)))  hf
def fX5_row (w : xmW) (th : (Option Nat)) (a1 : Int32) (a2 : Int32) (a3 : Int32) : Option (Int32 × xmW) := ((xmob w th 5).bind fun _ => ((fX5_in w ((a1).toInt64) ((0 : Int64)) ((3 : Int64))).bind fun v2 => (if v2 = 0 then (xmb2 (fX5_refused w (th) ((-1 : Int32))) fun v4 w5 => (some (v4, w5))) else ((fX5_isFormat w (th) (a2)).bind fun v7 => (if v7 = 0 then (xmb2 (fX5_refused w (th) ((-1 : Int32))) fun v9 w10 => (some (v9, w10))) else ((fX5_in w ((a3).toInt64) ((0 : Int64)) ((16 : Int64))).bind fun v12 => (if v12 = 0 then (xmb2 (fX5_refused w (th) ((-1 : Int32))) fun v18 w19 => (some (v18, w19))) else ((xmgR w th 5 7).bind fun v13 => ((xmist w v13 0 a1 a2).bind fun w14 => ((xmgR w14 th 5 8).bind fun v15 => ((xmist w14 v15 0 a1 a3).bind fun w16 => (fX5_row_L55 xmN w16 (th) (a1) ((0 : Int32)) ))))))))))))
set_option maxHeartbeats 4000000 in
set_option maxRecDepth 100000 in
theorem mX5_row (l : Launch) (D : va_G) (ks : Nat → ClassId) (b : Nat) {w : xmW} {th : (Option Nat)} {a1 : Int32} {a2 : Int32} {a3 : Int32} {y : Int32} {wz : xmW} (hf : fX5_row w th a1 a2 a3 = some (y, wz)) : xmM l yX5_row (Cond.code yX5_row cX5_row 5 (some (FieldType.int)) :: xmTs) 2 46 0 0 D ks b w [xR th, xI a1, xI a2, xI a3] (some (xI y)) wz := by
  unfold fX5_row at hf
  obtain ⟨_, _, hf⟩ := xm_bind hf
  refine xmM.of (own := RX5) (lv0 := [(0, xR th), (1, xI a1), (2, xI a2), (3, xI a3)]) (by decide) rfl (Nat.le_of_ble_eq_true rfl) rfl ?_
  intro p e s m args below meth c hC hr hnm
  refine xj_iload_n hC dX5_row_0 rfl 1 rfl ?_
  refine xj_i2l hC dX5_row_1 ?_
  refine xj_lconst (v := 0) hC dX5_row_2 (by decide) ?_
  refine xj_ldc2 hC xw_cst_X5_153 dX5_row_3 ?_
  obtain ⟨v2, hc1, hf⟩ := xm_bind hf
  refine xj_reti (xr_S hC (mX5_in l D ks b hc1) xw_cod_X5_in xw_ini_X5 xw_sta_X5_in xw_ml_X5_70 xds_X5_in ⟨Nat.le_of_ble_eq_true rfl, Nat.le_of_ble_eq_true rfl⟩ rfl rfl (Nat.le_of_ble_eq_true rfl) ⟨Nat.le_of_ble_eq_true rfl, Nat.le_of_ble_eq_true rfl⟩ dX5_row_6) ?_
  refine xb_if_eq (tgt := 32) hC dX5_row_9 (by decide) hf (fun hf => ?_) (fun hf => ?_)
  · refine xj_aload_n hC dX5_row_32 rfl 0 rfl ?_
    refine xj_iconst (v := -1) hC dX5_row_33 (by decide) ?_
    obtain ⟨v4, w5, hc3, hf⟩ := xm_b2 hf
    obtain ⟨_, hob, _⟩ := xm_bind hc3
    refine xj_reti (xr_V hC (mX5_refused l D ks b hc3) hob rfl xw_cod_X5_refused xw_ini_X5 xw_ins_X5_refused xw_sel_X5_refused xw_ml_X5_57 xds_X5_refused ⟨Nat.le_of_ble_eq_true rfl, Nat.le_of_ble_eq_true rfl⟩ rfl rfl (Nat.le_of_ble_eq_true rfl) ⟨Nat.le_of_ble_eq_true rfl, Nat.le_of_ble_eq_true rfl⟩ dX5_row_34) ?_
    obtain ⟨he, hw⟩ := Prod.mk.inj (Option.some.inj hf)
    exact xj_iret hC hr (by decide) (by decide) dX5_row_37 he hw
  · refine xj_aload_n hC dX5_row_12 rfl 0 rfl ?_
    refine xj_iload_n hC dX5_row_13 rfl 2 rfl ?_
    obtain ⟨v7, hc6, hf⟩ := xm_bind hf
    obtain ⟨_, hob, _⟩ := xm_bind hc6
    refine xj_reti (xr_V hC (mX5_isFormat l D ks b hc6) hob rfl xw_cod_X5_isFormat xw_ini_X5 xw_ins_X5_isFormat xw_sel_X5_isFormat xw_ml_X5_109 xds_X5_isFormat ⟨Nat.le_of_ble_eq_true rfl, Nat.le_of_ble_eq_true rfl⟩ rfl rfl (Nat.le_of_ble_eq_true rfl) ⟨Nat.le_of_ble_eq_true rfl, Nat.le_of_ble_eq_true rfl⟩ dX5_row_14) ?_
    refine xb_if_eq (tgt := 32) hC dX5_row_17 (by decide) hf (fun hf => ?_) (fun hf => ?_)
    · refine xj_aload_n hC dX5_row_32 rfl 0 rfl ?_
      refine xj_iconst (v := -1) hC dX5_row_33 (by decide) ?_
      obtain ⟨v9, w10, hc8, hf⟩ := xm_b2 hf
      obtain ⟨_, hob, _⟩ := xm_bind hc8
      refine xj_reti (xr_V hC (mX5_refused l D ks b hc8) hob rfl xw_cod_X5_refused xw_ini_X5 xw_ins_X5_refused xw_sel_X5_refused xw_ml_X5_57 xds_X5_refused ⟨Nat.le_of_ble_eq_true rfl, Nat.le_of_ble_eq_true rfl⟩ rfl rfl (Nat.le_of_ble_eq_true rfl) ⟨Nat.le_of_ble_eq_true rfl, Nat.le_of_ble_eq_true rfl⟩ dX5_row_34) ?_
      obtain ⟨he, hw⟩ := Prod.mk.inj (Option.some.inj hf)
      exact xj_iret hC hr (by decide) (by decide) dX5_row_37 he hw
    · refine xj_iload_n hC dX5_row_20 rfl 3 rfl ?_
      refine xj_i2l hC dX5_row_21 ?_
      refine xj_lconst (v := 0) hC dX5_row_22 (by decide) ?_
      refine xj_ldc2 hC xw_cst_X5_255 dX5_row_23 ?_
      obtain ⟨v12, hc11, hf⟩ := xm_bind hf
      refine xj_reti (xr_S hC (mX5_in l D ks b hc11) xw_cod_X5_in xw_ini_X5 xw_sta_X5_in xw_ml_X5_70 xds_X5_in ⟨Nat.le_of_ble_eq_true rfl, Nat.le_of_ble_eq_true rfl⟩ rfl rfl (Nat.le_of_ble_eq_true rfl) ⟨Nat.le_of_ble_eq_true rfl, Nat.le_of_ble_eq_true rfl⟩ dX5_row_26) ?_
      refine xb_if_ne (tgt := 38) hC dX5_row_29 (by decide) hf (fun hf => ?_) (fun hf => ?_)
      · refine xj_aload_n hC dX5_row_38 rfl 0 rfl ?_
        refine xb_getR hC 5 7 xcl_5 (by decide) xw_fl_X5_29 dX5_row_39 hf (fun v13 hf => ?_)
        refine xj_iload_n hC dX5_row_42 rfl 1 rfl ?_
        refine xj_iload_n hC dX5_row_43 rfl 2 rfl ?_
        refine xb_iast hC dX5_row_44 hf (fun w14 hf => ?_)
        refine xj_aload_n hC dX5_row_45 rfl 0 rfl ?_
        refine xb_getR hC 5 8 xcl_5 (by decide) xw_fl_X5_32 dX5_row_46 hf (fun v15 hf => ?_)
        refine xj_iload_n hC dX5_row_49 rfl 1 rfl ?_
        refine xj_iload_n hC dX5_row_50 rfl 3 rfl ?_
        refine xb_iast hC dX5_row_51 hf (fun w16 hf => ?_)
        refine xj_iconst (v := 0) hC dX5_row_52 (by decide) ?_
        refine xj_istore (lv' := [(4, xI (0 : Int32)), (0, xR th), (1, xI a1), (2, xI a2), (3, xI a3)]) hC dX5_row_53 (by decide) rfl ?_
        refine xj_lv [1, 2, 0] rfl ?_
        exact lX5_row_L55 hC hr  xmN w16 (th) (a1) ((0 : Int32))  hf
      · refine xj_aload_n hC dX5_row_32 rfl 0 rfl ?_
        refine xj_iconst (v := -1) hC dX5_row_33 (by decide) ?_
        obtain ⟨v18, w19, hc17, hf⟩ := xm_b2 hf
        obtain ⟨_, hob, _⟩ := xm_bind hc17
        refine xj_reti (xr_V hC (mX5_refused l D ks b hc17) hob rfl xw_cod_X5_refused xw_ini_X5 xw_ins_X5_refused xw_sel_X5_refused xw_ml_X5_57 xds_X5_refused ⟨Nat.le_of_ble_eq_true rfl, Nat.le_of_ble_eq_true rfl⟩ rfl rfl (Nat.le_of_ble_eq_true rfl) ⟨Nat.le_of_ble_eq_true rfl, Nat.le_of_ble_eq_true rfl⟩ dX5_row_34) ?_
        obtain ⟨he, hw⟩ := Prod.mk.inj (Option.some.inj hf)
        exact xj_iret hC hr (by decide) (by decide) dX5_row_37 he hw
def fX5_put (w : xmW) (th : (Option Nat)) (a1 : Int32) (a2 : Int32) (a3 : Int32) : Option (Int32 × xmW) := ((xmob w th 5).bind fun _ => ((fX5_isRow w (th) (a1)).bind fun v2 => (if v2 = 0 then (xmb2 (fX5_refused w (th) ((-1 : Int32))) fun v4 w5 => (some (v4, w5))) else ((xmgR w th 5 8).bind fun v6 => ((xmild w v6 0 a1).bind fun v7 => ((fX5_in w ((a2).toInt64) ((0 : Int64)) (((v7 - (1 : Int32))).toInt64)).bind fun v9 => (if v9 = 0 then (xmb2 (fX5_refused w (th) ((-1 : Int32))) fun v11 w12 => (some (v11, w12))) else ((xmgR w th 5 7).bind fun v13 => ((xmild w v13 0 a1).bind fun v14 => ((fX5_isCode w (th) (v14) (a3)).bind fun v16 => (if v16 = 0 then (xmb2 (fX5_refused w (th) ((-1 : Int32))) fun v25 w26 => (some (v25, w26))) else ((xmgR w th 5 9).bind fun v17 => ((xmild w v17 0 (((16 : Int32) * a1) + a2)).bind fun v18 => ((xmgR w th 5 9).bind fun v19 => ((xmist w v19 0 (((16 : Int32) * a1) + a2) a3).bind fun w20 => (xmb2 (fX5_fine w20 (th) (v18)) fun v22 w23 => (some (v22, w23))))))))))))))))))
set_option maxHeartbeats 4000000 in
set_option maxRecDepth 100000 in
theorem mX5_put (l : Launch) (D : va_G) (ks : Nat → ClassId) (b : Nat) {w : xmW} {th : (Option Nat)} {a1 : Int32} {a2 : Int32} {a3 : Int32} {y : Int32} {wz : xmW} (hf : fX5_put w th a1 a2 a3 = some (y, wz)) : xmM l yX5_put (Cond.code yX5_put cX5_put 5 (some (FieldType.int)) :: xmTs) 2 47 0 0 D ks b w [xR th, xI a1, xI a2, xI a3] (some (xI y)) wz := by
  unfold fX5_put at hf
  obtain ⟨_, _, hf⟩ := xm_bind hf
  refine xmM.of (own := RX5) (lv0 := [(0, xR th), (1, xI a1), (2, xI a2), (3, xI a3)]) (by decide) rfl (Nat.le_of_ble_eq_true rfl) rfl ?_
  intro p e s m args below meth c hC hr hnm
  refine xj_aload_n hC dX5_put_0 rfl 0 rfl ?_
  refine xj_iload_n hC dX5_put_1 rfl 1 rfl ?_
  obtain ⟨v2, hc1, hf⟩ := xm_bind hf
  obtain ⟨_, hob, _⟩ := xm_bind hc1
  refine xj_reti (xr_V hC (mX5_isRow l D ks b hc1) hob rfl xw_cod_X5_isRow xw_ini_X5 xw_ins_X5_isRow xw_sel_X5_isRow xw_ml_X5_257 xds_X5_isRow ⟨Nat.le_of_ble_eq_true rfl, Nat.le_of_ble_eq_true rfl⟩ rfl rfl (Nat.le_of_ble_eq_true rfl) ⟨Nat.le_of_ble_eq_true rfl, Nat.le_of_ble_eq_true rfl⟩ dX5_put_2) ?_
  refine xb_if_eq (tgt := 40) hC dX5_put_5 (by decide) hf (fun hf => ?_) (fun hf => ?_)
  · refine xj_aload_n hC dX5_put_40 rfl 0 rfl ?_
    refine xj_iconst (v := -1) hC dX5_put_41 (by decide) ?_
    obtain ⟨v4, w5, hc3, hf⟩ := xm_b2 hf
    obtain ⟨_, hob, _⟩ := xm_bind hc3
    refine xj_reti (xr_V hC (mX5_refused l D ks b hc3) hob rfl xw_cod_X5_refused xw_ini_X5 xw_ins_X5_refused xw_sel_X5_refused xw_ml_X5_57 xds_X5_refused ⟨Nat.le_of_ble_eq_true rfl, Nat.le_of_ble_eq_true rfl⟩ rfl rfl (Nat.le_of_ble_eq_true rfl) ⟨Nat.le_of_ble_eq_true rfl, Nat.le_of_ble_eq_true rfl⟩ dX5_put_42) ?_
    obtain ⟨he, hw⟩ := Prod.mk.inj (Option.some.inj hf)
    exact xj_iret hC hr (by decide) (by decide) dX5_put_45 he hw
  · refine xj_iload_n hC dX5_put_8 rfl 2 rfl ?_
    refine xj_i2l hC dX5_put_9 ?_
    refine xj_lconst (v := 0) hC dX5_put_10 (by decide) ?_
    refine xj_aload_n hC dX5_put_11 rfl 0 rfl ?_
    refine xb_getR hC 5 8 xcl_5 (by decide) xw_fl_X5_32 dX5_put_12 hf (fun v6 hf => ?_)
    refine xj_iload_n hC dX5_put_15 rfl 1 rfl ?_
    refine xb_iald hC dX5_put_16 hf (fun v7 hf => ?_)
    refine xj_iconst (v := 1) hC dX5_put_17 (by decide) ?_
    refine xj_isub hC dX5_put_18 ?_
    refine xj_i2l hC dX5_put_19 ?_
    obtain ⟨v9, hc8, hf⟩ := xm_bind hf
    refine xj_reti (xr_S hC (mX5_in l D ks b hc8) xw_cod_X5_in xw_ini_X5 xw_sta_X5_in xw_ml_X5_70 xds_X5_in ⟨Nat.le_of_ble_eq_true rfl, Nat.le_of_ble_eq_true rfl⟩ rfl rfl (Nat.le_of_ble_eq_true rfl) ⟨Nat.le_of_ble_eq_true rfl, Nat.le_of_ble_eq_true rfl⟩ dX5_put_20) ?_
    refine xb_if_eq (tgt := 40) hC dX5_put_23 (by decide) hf (fun hf => ?_) (fun hf => ?_)
    · refine xj_aload_n hC dX5_put_40 rfl 0 rfl ?_
      refine xj_iconst (v := -1) hC dX5_put_41 (by decide) ?_
      obtain ⟨v11, w12, hc10, hf⟩ := xm_b2 hf
      obtain ⟨_, hob, _⟩ := xm_bind hc10
      refine xj_reti (xr_V hC (mX5_refused l D ks b hc10) hob rfl xw_cod_X5_refused xw_ini_X5 xw_ins_X5_refused xw_sel_X5_refused xw_ml_X5_57 xds_X5_refused ⟨Nat.le_of_ble_eq_true rfl, Nat.le_of_ble_eq_true rfl⟩ rfl rfl (Nat.le_of_ble_eq_true rfl) ⟨Nat.le_of_ble_eq_true rfl, Nat.le_of_ble_eq_true rfl⟩ dX5_put_42) ?_
      obtain ⟨he, hw⟩ := Prod.mk.inj (Option.some.inj hf)
      exact xj_iret hC hr (by decide) (by decide) dX5_put_45 he hw
    · refine xj_aload_n hC dX5_put_26 rfl 0 rfl ?_
      refine xj_aload_n hC dX5_put_27 rfl 0 rfl ?_
      refine xb_getR hC 5 7 xcl_5 (by decide) xw_fl_X5_29 dX5_put_28 hf (fun v13 hf => ?_)
      refine xj_iload_n hC dX5_put_31 rfl 1 rfl ?_
      refine xb_iald hC dX5_put_32 hf (fun v14 hf => ?_)
      refine xj_iload_n hC dX5_put_33 rfl 3 rfl ?_
      obtain ⟨v16, hc15, hf⟩ := xm_bind hf
      obtain ⟨_, hob, _⟩ := xm_bind hc15
      refine xj_reti (xr_V hC (mX5_isCode l D ks b hc15) hob rfl xw_cod_X5_isCode xw_ini_X5 xw_ins_X5_isCode xw_sel_X5_isCode xw_ml_X5_130 xds_X5_isCode ⟨Nat.le_of_ble_eq_true rfl, Nat.le_of_ble_eq_true rfl⟩ rfl rfl (Nat.le_of_ble_eq_true rfl) ⟨Nat.le_of_ble_eq_true rfl, Nat.le_of_ble_eq_true rfl⟩ dX5_put_34) ?_
      refine xb_if_ne (tgt := 46) hC dX5_put_37 (by decide) hf (fun hf => ?_) (fun hf => ?_)
      · refine xj_aload_n hC dX5_put_46 rfl 0 rfl ?_
        refine xb_getR hC 5 9 xcl_5 (by decide) xw_fl_X5_35 dX5_put_47 hf (fun v17 hf => ?_)
        refine xj_bipush (v := 16) hC dX5_put_50 (by decide) ?_
        refine xj_iload_n hC dX5_put_52 rfl 1 rfl ?_
        refine xj_imul hC dX5_put_53 ?_
        refine xj_iload_n hC dX5_put_54 rfl 2 rfl ?_
        refine xj_iadd hC dX5_put_55 ?_
        refine xb_iald hC dX5_put_56 hf (fun v18 hf => ?_)
        refine xj_istore (lv' := [(4, xI v18), (0, xR th), (1, xI a1), (2, xI a2), (3, xI a3)]) hC dX5_put_57 (by decide) rfl ?_
        refine xj_aload_n hC dX5_put_59 rfl 1 rfl ?_
        refine xb_getR hC 5 9 xcl_5 (by decide) xw_fl_X5_35 dX5_put_60 hf (fun v19 hf => ?_)
        refine xj_bipush (v := 16) hC dX5_put_63 (by decide) ?_
        refine xj_iload_n hC dX5_put_65 rfl 2 rfl ?_
        refine xj_imul hC dX5_put_66 ?_
        refine xj_iload_n hC dX5_put_67 rfl 3 rfl ?_
        refine xj_iadd hC dX5_put_68 ?_
        refine xj_iload_n hC dX5_put_69 rfl 4 rfl ?_
        refine xb_iast hC dX5_put_70 hf (fun w20 hf => ?_)
        refine xj_aload_n hC dX5_put_71 rfl 1 rfl ?_
        refine xj_iload hC dX5_put_72 0 rfl ?_
        obtain ⟨v22, w23, hc21, hf⟩ := xm_b2 hf
        obtain ⟨_, hob, _⟩ := xm_bind hc21
        refine xj_reti (xr_V hC (mX5_fine l D ks b hc21) hob rfl xw_cod_X5_fine xw_ini_X5 xw_ins_X5_fine xw_sel_X5_fine xw_ml_X5_67 xds_X5_fine ⟨Nat.le_of_ble_eq_true rfl, Nat.le_of_ble_eq_true rfl⟩ rfl rfl (Nat.le_of_ble_eq_true rfl) ⟨Nat.le_of_ble_eq_true rfl, Nat.le_of_ble_eq_true rfl⟩ dX5_put_74) ?_
        obtain ⟨he, hw⟩ := Prod.mk.inj (Option.some.inj hf)
        exact xj_iret hC hr (by decide) (by decide) dX5_put_77 he hw
      · refine xj_aload_n hC dX5_put_40 rfl 0 rfl ?_
        refine xj_iconst (v := -1) hC dX5_put_41 (by decide) ?_
        obtain ⟨v25, w26, hc24, hf⟩ := xm_b2 hf
        obtain ⟨_, hob, _⟩ := xm_bind hc24
        refine xj_reti (xr_V hC (mX5_refused l D ks b hc24) hob rfl xw_cod_X5_refused xw_ini_X5 xw_ins_X5_refused xw_sel_X5_refused xw_ml_X5_57 xds_X5_refused ⟨Nat.le_of_ble_eq_true rfl, Nat.le_of_ble_eq_true rfl⟩ rfl rfl (Nat.le_of_ble_eq_true rfl) ⟨Nat.le_of_ble_eq_true rfl, Nat.le_of_ble_eq_true rfl⟩ dX5_put_42) ?_
        obtain ⟨he, hw⟩ := Prod.mk.inj (Option.some.inj hf)
        exact xj_iret hC hr (by decide) (by decide) dX5_put_45 he hw
def fX5_at (w : xmW) (th : (Option Nat)) (a1 : Int32) (a2 : Int32) : Option (Int32 × xmW) := ((xmob w th 5).bind fun _ => ((fX5_isRow w (th) (a1)).bind fun v2 => (if v2 = 0 then (xmb2 (fX5_refused w (th) ((-1 : Int32))) fun v4 w5 => (some (v4, w5))) else ((xmgR w th 5 8).bind fun v6 => ((xmild w v6 0 a1).bind fun v7 => ((fX5_in w ((a2).toInt64) ((0 : Int64)) (((v7 - (1 : Int32))).toInt64)).bind fun v9 => (if v9 = 0 then (xmb2 (fX5_refused w (th) ((-1 : Int32))) fun v11 w12 => (some (v11, w12))) else ((xmgR w th 5 9).bind fun v13 => ((xmild w v13 0 (((16 : Int32) * a1) + a2)).bind fun v14 => (xmb2 (fX5_fine w (th) (v14)) fun v16 w17 => (some (v16, w17))))))))))))
set_option maxHeartbeats 4000000 in
set_option maxRecDepth 100000 in
theorem mX5_at (l : Launch) (D : va_G) (ks : Nat → ClassId) (b : Nat) {w : xmW} {th : (Option Nat)} {a1 : Int32} {a2 : Int32} {y : Int32} {wz : xmW} (hf : fX5_at w th a1 a2 = some (y, wz)) : xmM l yX5_at (Cond.code yX5_at cX5_at 3 (some (FieldType.int)) :: xmTs) 2 46 0 0 D ks b w [xR th, xI a1, xI a2] (some (xI y)) wz := by
  unfold fX5_at at hf
  obtain ⟨_, _, hf⟩ := xm_bind hf
  refine xmM.of (own := RX5) (lv0 := [(0, xR th), (1, xI a1), (2, xI a2)]) (by decide) rfl (Nat.le_of_ble_eq_true rfl) rfl ?_
  intro p e s m args below meth c hC hr hnm
  refine xj_aload_n hC dX5_at_0 rfl 0 rfl ?_
  refine xj_iload_n hC dX5_at_1 rfl 1 rfl ?_
  obtain ⟨v2, hc1, hf⟩ := xm_bind hf
  obtain ⟨_, hob, _⟩ := xm_bind hc1
  refine xj_reti (xr_V hC (mX5_isRow l D ks b hc1) hob rfl xw_cod_X5_isRow xw_ini_X5 xw_ins_X5_isRow xw_sel_X5_isRow xw_ml_X5_257 xds_X5_isRow ⟨Nat.le_of_ble_eq_true rfl, Nat.le_of_ble_eq_true rfl⟩ rfl rfl (Nat.le_of_ble_eq_true rfl) ⟨Nat.le_of_ble_eq_true rfl, Nat.le_of_ble_eq_true rfl⟩ dX5_at_2) ?_
  refine xb_if_eq (tgt := 44) hC dX5_at_5 (by decide) hf (fun hf => ?_) (fun hf => ?_)
  · refine xj_aload_n hC dX5_at_44 rfl 0 rfl ?_
    refine xj_iconst (v := -1) hC dX5_at_45 (by decide) ?_
    obtain ⟨v4, w5, hc3, hf⟩ := xm_b2 hf
    obtain ⟨_, hob, _⟩ := xm_bind hc3
    refine xj_reti (xr_V hC (mX5_refused l D ks b hc3) hob rfl xw_cod_X5_refused xw_ini_X5 xw_ins_X5_refused xw_sel_X5_refused xw_ml_X5_57 xds_X5_refused ⟨Nat.le_of_ble_eq_true rfl, Nat.le_of_ble_eq_true rfl⟩ rfl rfl (Nat.le_of_ble_eq_true rfl) ⟨Nat.le_of_ble_eq_true rfl, Nat.le_of_ble_eq_true rfl⟩ dX5_at_46) ?_
    obtain ⟨he, hw⟩ := Prod.mk.inj (Option.some.inj hf)
    exact xj_iret hC hr (by decide) (by decide) dX5_at_49 he hw
  · refine xj_iload_n hC dX5_at_8 rfl 2 rfl ?_
    refine xj_i2l hC dX5_at_9 ?_
    refine xj_lconst (v := 0) hC dX5_at_10 (by decide) ?_
    refine xj_aload_n hC dX5_at_11 rfl 0 rfl ?_
    refine xb_getR hC 5 8 xcl_5 (by decide) xw_fl_X5_32 dX5_at_12 hf (fun v6 hf => ?_)
    refine xj_iload_n hC dX5_at_15 rfl 1 rfl ?_
    refine xb_iald hC dX5_at_16 hf (fun v7 hf => ?_)
    refine xj_iconst (v := 1) hC dX5_at_17 (by decide) ?_
    refine xj_isub hC dX5_at_18 ?_
    refine xj_i2l hC dX5_at_19 ?_
    obtain ⟨v9, hc8, hf⟩ := xm_bind hf
    refine xj_reti (xr_S hC (mX5_in l D ks b hc8) xw_cod_X5_in xw_ini_X5 xw_sta_X5_in xw_ml_X5_70 xds_X5_in ⟨Nat.le_of_ble_eq_true rfl, Nat.le_of_ble_eq_true rfl⟩ rfl rfl (Nat.le_of_ble_eq_true rfl) ⟨Nat.le_of_ble_eq_true rfl, Nat.le_of_ble_eq_true rfl⟩ dX5_at_20) ?_
    refine xb_if_eq (tgt := 44) hC dX5_at_23 (by decide) hf (fun hf => ?_) (fun hf => ?_)
    · refine xj_aload_n hC dX5_at_44 rfl 0 rfl ?_
      refine xj_iconst (v := -1) hC dX5_at_45 (by decide) ?_
      obtain ⟨v11, w12, hc10, hf⟩ := xm_b2 hf
      obtain ⟨_, hob, _⟩ := xm_bind hc10
      refine xj_reti (xr_V hC (mX5_refused l D ks b hc10) hob rfl xw_cod_X5_refused xw_ini_X5 xw_ins_X5_refused xw_sel_X5_refused xw_ml_X5_57 xds_X5_refused ⟨Nat.le_of_ble_eq_true rfl, Nat.le_of_ble_eq_true rfl⟩ rfl rfl (Nat.le_of_ble_eq_true rfl) ⟨Nat.le_of_ble_eq_true rfl, Nat.le_of_ble_eq_true rfl⟩ dX5_at_46) ?_
      obtain ⟨he, hw⟩ := Prod.mk.inj (Option.some.inj hf)
      exact xj_iret hC hr (by decide) (by decide) dX5_at_49 he hw
    · refine xj_aload_n hC dX5_at_26 rfl 0 rfl ?_
      refine xj_aload_n hC dX5_at_27 rfl 0 rfl ?_
      refine xb_getR hC 5 9 xcl_5 (by decide) xw_fl_X5_35 dX5_at_28 hf (fun v13 hf => ?_)
      refine xj_bipush (v := 16) hC dX5_at_31 (by decide) ?_
      refine xj_iload_n hC dX5_at_33 rfl 1 rfl ?_
      refine xj_imul hC dX5_at_34 ?_
      refine xj_iload_n hC dX5_at_35 rfl 2 rfl ?_
      refine xj_iadd hC dX5_at_36 ?_
      refine xb_iald hC dX5_at_37 hf (fun v14 hf => ?_)
      obtain ⟨v16, w17, hc15, hf⟩ := xm_b2 hf
      obtain ⟨_, hob, _⟩ := xm_bind hc15
      refine xj_reti (xr_V hC (mX5_fine l D ks b hc15) hob rfl xw_cod_X5_fine xw_ini_X5 xw_ins_X5_fine xw_sel_X5_fine xw_ml_X5_67 xds_X5_fine ⟨Nat.le_of_ble_eq_true rfl, Nat.le_of_ble_eq_true rfl⟩ rfl rfl (Nat.le_of_ble_eq_true rfl) ⟨Nat.le_of_ble_eq_true rfl, Nat.le_of_ble_eq_true rfl⟩ dX5_at_38) ?_
      refine xj_goto (tgt := 49) hC dX5_at_41 (by decide) ?_
      obtain ⟨he, hw⟩ := Prod.mk.inj (Option.some.inj hf)
      exact xj_iret hC hr (by decide) (by decide) dX5_at_49 he hw
def fX5_packed_L83 : Nat → xmW → (Option Nat) → Int32 → Int32 → Int32 → Int32 → Int32 → Int32 → Option (Int32 × xmW)
  | 0, _, _, _, _, _, _, _, _ => none
  | n + 1, w, p0, p1, p2, p3, p4, p6, p7 => (if (8 : Int32) ≤ p7 then (xmb2 (fX5_fine w (p0) (p6)) fun v21 w22 => (some (v21, w22))) else (if p4 ≤ (((8 : Int32) * p2) + p7) then (fX5_packed_L83 n w (p0) (p1) (p2) (p3) (p4) ((p6 ||| (0 : Int32))) ((p7 + (1 : Int32))) ) else ((xmgR w p0 5 9).bind fun v23 => (if p3 = 0 then none else ((xmild w v23 0 (((16 : Int32) * p1) + ((((8 : Int32) * p2) + p7) / p3))).bind fun v24 => (if p3 = 0 then none else (fX5_packed_L83 n w (p0) (p1) (p2) (p3) (p4) ((p6 ||| (((v24 >>> (((((8 : Int32) * p2) + p7) - (((8 : Int32) * p2) + p7) / p3 * p3) &&& 31)) &&& (1 : Int32)) <<< (p7 &&& 31)))) ((p7 + (1 : Int32))) )))))))
set_option maxHeartbeats 4000000 in
set_option maxRecDepth 100000 in
theorem lX5_packed_L83 {p : Program} {l : Launch} {e : Env} {s : State} {m : MethodId} {args : Array Value} {below : List Frame} {meth : Method} {c : Code} {D : va_G} {ks : Nat → ClassId} {b : Nat} (hC : xmC p s m args meth c D ks b 9 cX5_packed RX5) (hr : meth.sig.returnType = (some (FieldType.int))) {y : Int32} {wz : xmW} : ∀ (n : Nat) (w : xmW) (p0 : (Option Nat)) (p1 : Int32) (p2 : Int32) (p3 : Int32) (p4 : Int32) (p6 : Int32) (p7 : Int32), fX5_packed_L83 n w p0 p1 p2 p3 p4 p6 p7 = some (y, wz) → xmJ p l e ({ frames := 2, cells := 0, slots := 0, locals := 46 } : Room) s m args below meth c D ks b 9 (MQ below (xmQ D ks b (some (xI y)) wz) args s 0 0 (xmA b)) w 0 0 83 [(0, xR p0), (1, xI p1), (2, xI p2), (3, xI p3), (4, xI p4), (6, xI p6), (7, xI p7)] [] := by
  intro n
  induction n with
  | zero => intro w p0 p1 p2 p3 p4 p6 p7 hf; simp [fX5_packed_L83] at hf
  | succ n ih =>
    intro w p0 p1 p2 p3 p4 p6 p7 hf
    rw [fX5_packed_L83] at hf
    refine xj_iload hC dX5_packed_83 6 rfl ?_
    refine xj_bipush (v := 8) hC dX5_packed_85 (by decide) ?_
    refine xb_ic_ge (tgt := 145) hC dX5_packed_87 (by decide) hf (fun hf => ?_) (fun hf => ?_)
    · refine xj_aload_n hC dX5_packed_145 rfl 0 rfl ?_
      refine xj_iload hC dX5_packed_146 5 rfl ?_
      obtain ⟨v21, w22, hc20, hf⟩ := xm_b2 hf
      obtain ⟨_, hob, _⟩ := xm_bind hc20
      refine xj_reti (xr_V hC (mX5_fine l D ks b hc20) hob rfl xw_cod_X5_fine xw_ini_X5 xw_ins_X5_fine xw_sel_X5_fine xw_ml_X5_67 xds_X5_fine ⟨Nat.le_of_ble_eq_true rfl, Nat.le_of_ble_eq_true rfl⟩ rfl rfl (Nat.le_of_ble_eq_true rfl) ⟨Nat.le_of_ble_eq_true rfl, Nat.le_of_ble_eq_true rfl⟩ dX5_packed_148) ?_
      obtain ⟨he, hw⟩ := Prod.mk.inj (Option.some.inj hf)
      exact xj_iret hC hr (by decide) (by decide) dX5_packed_151 he hw
    · refine xj_bipush (v := 8) hC dX5_packed_90 (by decide) ?_
      refine xj_iload_n hC dX5_packed_92 rfl 2 rfl ?_
      refine xj_imul hC dX5_packed_93 ?_
      refine xj_iload hC dX5_packed_94 6 rfl ?_
      refine xj_iadd hC dX5_packed_96 ?_
      refine xj_istore (lv' := [(8, xI (((8 : Int32) * p2) + p7)), (0, xR p0), (1, xI p1), (2, xI p2), (3, xI p3), (4, xI p4), (6, xI p6), (7, xI p7)]) hC dX5_packed_97 (by decide) rfl ?_
      refine xj_iload hC dX5_packed_99 6 rfl ?_
      refine xj_iload hC dX5_packed_101 0 rfl ?_
      refine xj_iload hC dX5_packed_103 5 rfl ?_
      refine xb_ic_ge (tgt := 135) hC dX5_packed_105 (by decide) hf (fun hf => ?_) (fun hf => ?_)
      · refine xj_iconst (v := 0) hC dX5_packed_135 (by decide) ?_
        refine xj_ior hC dX5_packed_136 ?_
        refine xj_istore (lv' := [(6, xI (p6 ||| (0 : Int32))), (8, xI (((8 : Int32) * p2) + p7)), (0, xR p0), (1, xI p1), (2, xI p2), (3, xI p3), (4, xI p4), (7, xI p7)]) hC dX5_packed_137 (by decide) rfl ?_
        refine xj_iinc (v := (p7 + (1 : Int32))) (lv' := [(7, xI (p7 + (1 : Int32))), (6, xI (p6 ||| (0 : Int32))), (8, xI (((8 : Int32) * p2) + p7)), (0, xR p0), (1, xI p1), (2, xI p2), (3, xI p3), (4, xI p4)]) hC dX5_packed_139 7 rfl rfl (by decide) rfl ?_
        refine xj_goto (tgt := 83) hC dX5_packed_142 (by decide) ?_
        refine xj_lv [3, 4, 5, 6, 7, 1, 0] rfl ?_
        exact ih w (p0) (p1) (p2) (p3) (p4) ((p6 ||| (0 : Int32))) ((p7 + (1 : Int32)))  hf
      · refine xj_aload_n hC dX5_packed_108 rfl 1 rfl ?_
        refine xb_getR hC 5 9 xcl_5 (by decide) xw_fl_X5_35 dX5_packed_109 hf (fun v23 hf => ?_)
        refine xj_bipush (v := 16) hC dX5_packed_112 (by decide) ?_
        refine xj_iload_n hC dX5_packed_114 rfl 2 rfl ?_
        refine xj_imul hC dX5_packed_115 ?_
        refine xj_iload hC dX5_packed_116 0 rfl ?_
        refine xj_iload_n hC dX5_packed_118 rfl 4 rfl ?_
        obtain ⟨hne, hf⟩ := xm_ifn hf
        refine xj_idiv hC dX5_packed_119 hne ?_
        refine xj_iadd hC dX5_packed_120 ?_
        refine xb_iald hC dX5_packed_121 hf (fun v24 hf => ?_)
        refine xj_iload hC dX5_packed_122 0 rfl ?_
        refine xj_iload_n hC dX5_packed_124 rfl 4 rfl ?_
        obtain ⟨hne, hf⟩ := xm_ifn hf
        refine xj_irem hC dX5_packed_125 hne ?_
        refine xj_ishr hC dX5_packed_126 ?_
        refine xj_iconst (v := 1) hC dX5_packed_127 (by decide) ?_
        refine xj_iand hC dX5_packed_128 ?_
        refine xj_iload hC dX5_packed_129 7 rfl ?_
        refine xj_ishl hC dX5_packed_131 ?_
        refine xj_goto (tgt := 136) hC dX5_packed_132 (by decide) ?_
        refine xj_ior hC dX5_packed_136 ?_
        refine xj_istore (lv' := [(6, xI (p6 ||| (((v24 >>> (((((8 : Int32) * p2) + p7) - (((8 : Int32) * p2) + p7) / p3 * p3) &&& 31)) &&& (1 : Int32)) <<< (p7 &&& 31)))), (8, xI (((8 : Int32) * p2) + p7)), (0, xR p0), (1, xI p1), (2, xI p2), (3, xI p3), (4, xI p4), (7, xI p7)]) hC dX5_packed_137 (by decide) rfl ?_
        refine xj_iinc (v := (p7 + (1 : Int32))) (lv' := [(7, xI (p7 + (1 : Int32))), (6, xI (p6 ||| (((v24 >>> (((((8 : Int32) * p2) + p7) - (((8 : Int32) * p2) + p7) / p3 * p3) &&& 31)) &&& (1 : Int32)) <<< (p7 &&& 31)))), (8, xI (((8 : Int32) * p2) + p7)), (0, xR p0), (1, xI p1), (2, xI p2), (3, xI p3), (4, xI p4)]) hC dX5_packed_139 7 rfl rfl (by decide) rfl ?_
        refine xj_goto (tgt := 83) hC dX5_packed_142 (by decide) ?_
        refine xj_lv [3, 4, 5, 6, 7, 1, 0] rfl ?_
        exact ih w (p0) (p1) (p2) (p3) (p4) ((p6 ||| (((v24 >>> (((((8 : Int32) * p2) + p7) - (((8 : Int32) * p2) + p7) / p3 * p3) &&& 31)) &&& (1 : Int32)) <<< (p7 &&& 31)))) ((p7 + (1 : Int32)))  hf
def fX5_packed (w : xmW) (th : (Option Nat)) (a1 : Int32) (a2 : Int32) : Option (Int32 × xmW) := ((xmob w th 5).bind fun _ => ((fX5_isRow w (th) (a1)).bind fun v2 => (if v2 = 0 then (xmb2 (fX5_refused w (th) ((-1 : Int32))) fun v18 w19 => (some (v18, w19))) else ((xmgR w th 5 7).bind fun v3 => ((xmild w v3 0 a1).bind fun v4 => ((fX5_bits w (th) (v4)).bind fun v6 => ((xmgR w th 5 8).bind fun v7 => ((xmild w v7 0 a1).bind fun v8 => (if a2 = (-1 : Int32) then (xmb2 (fX5_fine w (th) ((((v6 * v8) + (7 : Int32)) / (8 : Int32)))) fun v15 w16 => (some (v15, w16))) else ((fX5_in w ((a2).toInt64) ((0 : Int64)) ((((((v6 * v8) + (7 : Int32)) / (8 : Int32)) - (1 : Int32))).toInt64)).bind fun v10 => (if v10 = 0 then (xmb2 (fX5_refused w (th) ((-1 : Int32))) fun v12 w13 => (some (v12, w13))) else (fX5_packed_L83 xmN w (th) (a1) (a2) (v6) ((v6 * v8)) ((0 : Int32)) ((0 : Int32)) ))))))))))))
set_option maxHeartbeats 4000000 in
set_option maxRecDepth 100000 in
theorem mX5_packed (l : Launch) (D : va_G) (ks : Nat → ClassId) (b : Nat) {w : xmW} {th : (Option Nat)} {a1 : Int32} {a2 : Int32} {y : Int32} {wz : xmW} (hf : fX5_packed w th a1 a2 = some (y, wz)) : xmM l yX5_packed (Cond.code yX5_packed cX5_packed 9 (some (FieldType.int)) :: xmTs) 2 46 0 0 D ks b w [xR th, xI a1, xI a2] (some (xI y)) wz := by
  unfold fX5_packed at hf
  obtain ⟨_, _, hf⟩ := xm_bind hf
  refine xmM.of (own := RX5) (lv0 := [(0, xR th), (1, xI a1), (2, xI a2)]) (by decide) rfl (Nat.le_of_ble_eq_true rfl) rfl ?_
  intro p e s m args below meth c hC hr hnm
  refine xj_aload_n hC dX5_packed_0 rfl 0 rfl ?_
  refine xj_iload_n hC dX5_packed_1 rfl 1 rfl ?_
  obtain ⟨v2, hc1, hf⟩ := xm_bind hf
  obtain ⟨_, hob, _⟩ := xm_bind hc1
  refine xj_reti (xr_V hC (mX5_isRow l D ks b hc1) hob rfl xw_cod_X5_isRow xw_ini_X5 xw_ins_X5_isRow xw_sel_X5_isRow xw_ml_X5_257 xds_X5_isRow ⟨Nat.le_of_ble_eq_true rfl, Nat.le_of_ble_eq_true rfl⟩ rfl rfl (Nat.le_of_ble_eq_true rfl) ⟨Nat.le_of_ble_eq_true rfl, Nat.le_of_ble_eq_true rfl⟩ dX5_packed_2) ?_
  refine xb_if_ne (tgt := 14) hC dX5_packed_5 (by decide) hf (fun hf => ?_) (fun hf => ?_)
  · refine xj_aload_n hC dX5_packed_14 rfl 0 rfl ?_
    refine xj_aload_n hC dX5_packed_15 rfl 0 rfl ?_
    refine xb_getR hC 5 7 xcl_5 (by decide) xw_fl_X5_29 dX5_packed_16 hf (fun v3 hf => ?_)
    refine xj_iload_n hC dX5_packed_19 rfl 1 rfl ?_
    refine xb_iald hC dX5_packed_20 hf (fun v4 hf => ?_)
    obtain ⟨v6, hc5, hf⟩ := xm_bind hf
    obtain ⟨_, hob, _⟩ := xm_bind hc5
    refine xj_reti (xr_V hC (mX5_bits l D ks b hc5) hob rfl xw_cod_X5_bits xw_ini_X5 xw_ins_X5_bits xw_sel_X5_bits xw_ml_X5_74 xds_X5_bits ⟨Nat.le_of_ble_eq_true rfl, Nat.le_of_ble_eq_true rfl⟩ rfl rfl (Nat.le_of_ble_eq_true rfl) ⟨Nat.le_of_ble_eq_true rfl, Nat.le_of_ble_eq_true rfl⟩ dX5_packed_21) ?_
    refine xj_istore_n (lv' := [(3, xI v6), (0, xR th), (1, xI a1), (2, xI a2)]) hC dX5_packed_24 rfl (by decide) rfl ?_
    refine xj_iload_n hC dX5_packed_25 rfl 0 rfl ?_
    refine xj_aload_n hC dX5_packed_26 rfl 1 rfl ?_
    refine xb_getR hC 5 8 xcl_5 (by decide) xw_fl_X5_32 dX5_packed_27 hf (fun v7 hf => ?_)
    refine xj_iload_n hC dX5_packed_30 rfl 2 rfl ?_
    refine xb_iald hC dX5_packed_31 hf (fun v8 hf => ?_)
    refine xj_imul hC dX5_packed_32 ?_
    refine xj_istore (lv' := [(4, xI (v6 * v8)), (3, xI v6), (0, xR th), (1, xI a1), (2, xI a2)]) hC dX5_packed_33 (by decide) rfl ?_
    refine xj_iload hC dX5_packed_35 0 rfl ?_
    refine xj_bipush (v := 7) hC dX5_packed_37 (by decide) ?_
    refine xj_iadd hC dX5_packed_39 ?_
    refine xj_bipush (v := 8) hC dX5_packed_40 (by decide) ?_
    refine xj_idiv hC dX5_packed_42 (by decide) ?_
    refine xj_istore (lv' := [(5, xI (((v6 * v8) + (7 : Int32)) / (8 : Int32))), (4, xI (v6 * v8)), (3, xI v6), (0, xR th), (1, xI a1), (2, xI a2)]) hC dX5_packed_43 (by decide) rfl ?_
    refine xj_iload_n hC dX5_packed_45 rfl 5 rfl ?_
    refine xj_iconst (v := -1) hC dX5_packed_46 (by decide) ?_
    refine xb_ic_ne (tgt := 57) hC dX5_packed_47 (by decide) hf (fun hf => ?_) (fun hf => ?_)
    · refine xj_iload_n hC dX5_packed_57 rfl 5 rfl ?_
      refine xj_i2l hC dX5_packed_58 ?_
      refine xj_lconst (v := 0) hC dX5_packed_59 (by decide) ?_
      refine xj_iload hC dX5_packed_60 0 rfl ?_
      refine xj_iconst (v := 1) hC dX5_packed_62 (by decide) ?_
      refine xj_isub hC dX5_packed_63 ?_
      refine xj_i2l hC dX5_packed_64 ?_
      obtain ⟨v10, hc9, hf⟩ := xm_bind hf
      refine xj_reti (xr_S hC (mX5_in l D ks b hc9) xw_cod_X5_in xw_ini_X5 xw_sta_X5_in xw_ml_X5_70 xds_X5_in ⟨Nat.le_of_ble_eq_true rfl, Nat.le_of_ble_eq_true rfl⟩ rfl rfl (Nat.le_of_ble_eq_true rfl) ⟨Nat.le_of_ble_eq_true rfl, Nat.le_of_ble_eq_true rfl⟩ dX5_packed_65) ?_
      refine xb_if_ne (tgt := 77) hC dX5_packed_68 (by decide) hf (fun hf => ?_) (fun hf => ?_)
      · refine xj_iconst (v := 0) hC dX5_packed_77 (by decide) ?_
        refine xj_istore (lv' := [(6, xI (0 : Int32)), (5, xI (((v6 * v8) + (7 : Int32)) / (8 : Int32))), (4, xI (v6 * v8)), (3, xI v6), (0, xR th), (1, xI a1), (2, xI a2)]) hC dX5_packed_78 (by decide) rfl ?_
        refine xj_iconst (v := 0) hC dX5_packed_80 (by decide) ?_
        refine xj_istore (lv' := [(7, xI (0 : Int32)), (6, xI (0 : Int32)), (5, xI (((v6 * v8) + (7 : Int32)) / (8 : Int32))), (4, xI (v6 * v8)), (3, xI v6), (0, xR th), (1, xI a1), (2, xI a2)]) hC dX5_packed_81 (by decide) rfl ?_
        refine xj_lv [5, 6, 7, 4, 3, 1, 0] rfl ?_
        exact lX5_packed_L83 hC hr  xmN w (th) (a1) (a2) (v6) ((v6 * v8)) ((0 : Int32)) ((0 : Int32))  hf
      · refine xj_aload_n hC dX5_packed_71 rfl 3 rfl ?_
        refine xj_iconst (v := -1) hC dX5_packed_72 (by decide) ?_
        obtain ⟨v12, w13, hc11, hf⟩ := xm_b2 hf
        obtain ⟨_, hob, _⟩ := xm_bind hc11
        refine xj_reti (xr_V hC (mX5_refused l D ks b hc11) hob rfl xw_cod_X5_refused xw_ini_X5 xw_ins_X5_refused xw_sel_X5_refused xw_ml_X5_57 xds_X5_refused ⟨Nat.le_of_ble_eq_true rfl, Nat.le_of_ble_eq_true rfl⟩ rfl rfl (Nat.le_of_ble_eq_true rfl) ⟨Nat.le_of_ble_eq_true rfl, Nat.le_of_ble_eq_true rfl⟩ dX5_packed_73) ?_
        obtain ⟨he, hw⟩ := Prod.mk.inj (Option.some.inj hf)
        exact xj_iret hC hr (by decide) (by decide) dX5_packed_76 he hw
    · refine xj_aload_n hC dX5_packed_50 rfl 3 rfl ?_
      refine xj_iload hC dX5_packed_51 0 rfl ?_
      obtain ⟨v15, w16, hc14, hf⟩ := xm_b2 hf
      obtain ⟨_, hob, _⟩ := xm_bind hc14
      refine xj_reti (xr_V hC (mX5_fine l D ks b hc14) hob rfl xw_cod_X5_fine xw_ini_X5 xw_ins_X5_fine xw_sel_X5_fine xw_ml_X5_67 xds_X5_fine ⟨Nat.le_of_ble_eq_true rfl, Nat.le_of_ble_eq_true rfl⟩ rfl rfl (Nat.le_of_ble_eq_true rfl) ⟨Nat.le_of_ble_eq_true rfl, Nat.le_of_ble_eq_true rfl⟩ dX5_packed_53) ?_
      obtain ⟨he, hw⟩ := Prod.mk.inj (Option.some.inj hf)
      exact xj_iret hC hr (by decide) (by decide) dX5_packed_56 he hw
  · refine xj_aload_n hC dX5_packed_8 rfl 0 rfl ?_
    refine xj_iconst (v := -1) hC dX5_packed_9 (by decide) ?_
    obtain ⟨v18, w19, hc17, hf⟩ := xm_b2 hf
    obtain ⟨_, hob, _⟩ := xm_bind hc17
    refine xj_reti (xr_V hC (mX5_refused l D ks b hc17) hob rfl xw_cod_X5_refused xw_ini_X5 xw_ins_X5_refused xw_sel_X5_refused xw_ml_X5_57 xds_X5_refused ⟨Nat.le_of_ble_eq_true rfl, Nat.le_of_ble_eq_true rfl⟩ rfl rfl (Nat.le_of_ble_eq_true rfl) ⟨Nat.le_of_ble_eq_true rfl, Nat.le_of_ble_eq_true rfl⟩ dX5_packed_10) ?_
    obtain ⟨he, hw⟩ := Prod.mk.inj (Option.some.inj hf)
    exact xj_iret hC hr (by decide) (by decide) dX5_packed_13 he hw
def fX5_quantise_L147 : Nat → xmW → (Option Nat) → Int32 → Int32 → Int32 → Option (Int32 × xmW)
  | 0, _, _, _, _, _ => none
  | n + 1, w, p0, p1, p2, p5 => (if (16 : Int32) ≤ p5 then (xmb2 (fX5_ends w (p0) ((1 : Int32))) fun v49 w50 => (some (v49, w50))) else ((xmgR w p0 5 9).bind fun v51 => ((xmgR w p0 5 8).bind fun v52 => ((xmild w v52 0 p2).bind fun v53 => (if v53 ≤ p5 then ((xmist w v51 0 (((16 : Int32) * p1) + p5) (0 : Int32)).bind fun w54 => (fX5_quantise_L147 n w54 (p0) (p1) (p2) ((p5 + (1 : Int32))) )) else ((xmgR w p0 5 25).bind fun v55 => ((xmild w v55 0 p5).bind fun v56 => ((xmist w v51 0 (((16 : Int32) * p1) + p5) v56).bind fun w57 => (fX5_quantise_L147 n w57 (p0) (p1) (p2) ((p5 + (1 : Int32))) )))))))))
set_option maxHeartbeats 4000000 in
set_option maxRecDepth 100000 in
theorem lX5_quantise_L147 {p : Program} {l : Launch} {e : Env} {s : State} {m : MethodId} {args : Array Value} {below : List Frame} {meth : Method} {c : Code} {D : va_G} {ks : Nat → ClassId} {b : Nat} (hC : xmC p s m args meth c D ks b 6 cX5_quantise RX5) (hr : meth.sig.returnType = (some (FieldType.int))) {y : Int32} {wz : xmW} : ∀ (n : Nat) (w : xmW) (p0 : (Option Nat)) (p1 : Int32) (p2 : Int32) (p5 : Int32), fX5_quantise_L147 n w p0 p1 p2 p5 = some (y, wz) → xmJ p l e ({ frames := 7, cells := 0, slots := 0, locals := 176 } : Room) s m args below meth c D ks b 6 (MQ below (xmQ D ks b (some (xI y)) wz) args s 0 0 (xmA b)) w 0 0 147 [(0, xR p0), (1, xI p1), (2, xI p2), (5, xI p5)] [] := by
  intro n
  induction n with
  | zero => intro w p0 p1 p2 p5 hf; simp [fX5_quantise_L147] at hf
  | succ n ih =>
    intro w p0 p1 p2 p5 hf
    rw [fX5_quantise_L147] at hf
    refine xj_iload hC dX5_quantise_147 3 rfl ?_
    refine xj_bipush (v := 16) hC dX5_quantise_149 (by decide) ?_
    refine xb_ic_ge (tgt := 194) hC dX5_quantise_151 (by decide) hf (fun hf => ?_) (fun hf => ?_)
    · refine xj_aload_n hC dX5_quantise_194 rfl 0 rfl ?_
      refine xj_iconst (v := 1) hC dX5_quantise_195 (by decide) ?_
      obtain ⟨v49, w50, hc48, hf⟩ := xm_b2 hf
      obtain ⟨_, hob, _⟩ := xm_bind hc48
      refine xj_reti (xr_V hC (mX5_ends l D ks b hc48) hob rfl xw_cod_X5_ends xw_ini_X5 xw_ins_X5_ends xw_sel_X5_ends xw_ml_X5_183 xds_X5_ends ⟨Nat.le_of_ble_eq_true rfl, Nat.le_of_ble_eq_true rfl⟩ rfl rfl (Nat.le_of_ble_eq_true rfl) ⟨Nat.le_of_ble_eq_true rfl, Nat.le_of_ble_eq_true rfl⟩ dX5_quantise_196) ?_
      obtain ⟨he, hw⟩ := Prod.mk.inj (Option.some.inj hf)
      exact xj_iret hC hr (by decide) (by decide) dX5_quantise_199 he hw
    · refine xj_aload_n hC dX5_quantise_154 rfl 0 rfl ?_
      refine xb_getR hC 5 9 xcl_5 (by decide) xw_fl_X5_35 dX5_quantise_155 hf (fun v51 hf => ?_)
      refine xj_bipush (v := 16) hC dX5_quantise_158 (by decide) ?_
      refine xj_iload_n hC dX5_quantise_160 rfl 1 rfl ?_
      refine xj_imul hC dX5_quantise_161 ?_
      refine xj_iload hC dX5_quantise_162 3 rfl ?_
      refine xj_iadd hC dX5_quantise_164 ?_
      refine xj_iload hC dX5_quantise_165 3 rfl ?_
      refine xj_aload_n hC dX5_quantise_167 rfl 0 rfl ?_
      refine xb_getR hC 5 8 xcl_5 (by decide) xw_fl_X5_32 dX5_quantise_168 hf (fun v52 hf => ?_)
      refine xj_iload_n hC dX5_quantise_171 rfl 2 rfl ?_
      refine xb_iald hC dX5_quantise_172 hf (fun v53 hf => ?_)
      refine xb_ic_ge (tgt := 186) hC dX5_quantise_173 (by decide) hf (fun hf => ?_) (fun hf => ?_)
      · refine xj_iconst (v := 0) hC dX5_quantise_186 (by decide) ?_
        refine xb_iast hC dX5_quantise_187 hf (fun w54 hf => ?_)
        refine xj_iinc (v := (p5 + (1 : Int32))) (lv' := [(5, xI (p5 + (1 : Int32))), (0, xR p0), (1, xI p1), (2, xI p2)]) hC dX5_quantise_188 3 rfl rfl (by decide) rfl ?_
        refine xj_goto (tgt := 147) hC dX5_quantise_191 (by decide) ?_
        refine xj_lv [1, 2, 3, 0] rfl ?_
        exact ih w54 (p0) (p1) (p2) ((p5 + (1 : Int32)))  hf
      · refine xj_aload_n hC dX5_quantise_176 rfl 0 rfl ?_
        refine xb_getR hC 5 25 xcl_5 (by decide) xw_fl_X5_42 dX5_quantise_177 hf (fun v55 hf => ?_)
        refine xj_iload hC dX5_quantise_180 3 rfl ?_
        refine xb_iald hC dX5_quantise_182 hf (fun v56 hf => ?_)
        refine xj_goto (tgt := 187) hC dX5_quantise_183 (by decide) ?_
        refine xb_iast hC dX5_quantise_187 hf (fun w57 hf => ?_)
        refine xj_iinc (v := (p5 + (1 : Int32))) (lv' := [(5, xI (p5 + (1 : Int32))), (0, xR p0), (1, xI p1), (2, xI p2)]) hC dX5_quantise_188 3 rfl rfl (by decide) rfl ?_
        refine xj_goto (tgt := 147) hC dX5_quantise_191 (by decide) ?_
        refine xj_lv [1, 2, 3, 0] rfl ?_
        exact ih w57 (p0) (p1) (p2) ((p5 + (1 : Int32)))  hf
def fX5_quantise_L59 : Nat → xmW → (Option Nat) → Int32 → Int32 → Int32 → Int32 → Int32 → Option (Int32 × xmW)
  | 0, _, _, _, _, _, _, _ => none
  | n + 1, w, p0, p1, p2, p3, p4, p5 => ((xmgR w p0 5 8).bind fun v26 => ((xmild w v26 0 p2).bind fun v27 => (if v27 ≤ p5 then ((xmgR w p0 5 7).bind fun v28 => ((xmist w v28 0 p1 p3).bind fun w29 => ((xmgR w29 p0 5 8).bind fun v30 => ((xmgR w29 p0 5 8).bind fun v31 => ((xmild w29 v31 0 p2).bind fun v32 => ((xmist w29 v30 0 p1 v32).bind fun w33 => (fX5_quantise_L147 xmN w33 (p0) (p1) (p2) ((0 : Int32)) ))))))) else ((xmgR w p0 5 25).bind fun v34 => ((xmgR w p0 5 7).bind fun v35 => ((xmild w v35 0 p2).bind fun v36 => ((xmgR w p0 5 9).bind fun v37 => ((xmild w v37 0 (((16 : Int32) * p2) + p5)).bind fun v38 => (xmb2 (fX5_crossed w (p0) (v36) (v38) (p3) (p4)) fun v40 w41 => ((xmist w41 v34 0 p5 v40).bind fun w42 => ((xmgR w42 p0 5 25).bind fun v43 => ((xmild w42 v43 0 p5).bind fun v44 => (if 0 ≤ v44 then (fX5_quantise_L59 n w42 (p0) (p1) (p2) (p3) (p4) ((p5 + (1 : Int32))) ) else (xmb2 (fX5_ends w42 (p0) ((-4 : Int32))) fun v46 w47 => (some (v46, w47))))))))))))))))
set_option maxHeartbeats 4000000 in
set_option maxRecDepth 100000 in
theorem lX5_quantise_L59 {p : Program} {l : Launch} {e : Env} {s : State} {m : MethodId} {args : Array Value} {below : List Frame} {meth : Method} {c : Code} {D : va_G} {ks : Nat → ClassId} {b : Nat} (hC : xmC p s m args meth c D ks b 6 cX5_quantise RX5) (hr : meth.sig.returnType = (some (FieldType.int))) {y : Int32} {wz : xmW} : ∀ (n : Nat) (w : xmW) (p0 : (Option Nat)) (p1 : Int32) (p2 : Int32) (p3 : Int32) (p4 : Int32) (p5 : Int32), fX5_quantise_L59 n w p0 p1 p2 p3 p4 p5 = some (y, wz) → xmJ p l e ({ frames := 7, cells := 0, slots := 0, locals := 176 } : Room) s m args below meth c D ks b 6 (MQ below (xmQ D ks b (some (xI y)) wz) args s 0 0 (xmA b)) w 0 0 59 [(0, xR p0), (1, xI p1), (2, xI p2), (3, xI p3), (4, xI p4), (5, xI p5)] [] := by
  intro n
  induction n with
  | zero => intro w p0 p1 p2 p3 p4 p5 hf; simp [fX5_quantise_L59] at hf
  | succ n ih =>
    intro w p0 p1 p2 p3 p4 p5 hf
    rw [fX5_quantise_L59] at hf
    refine xj_iload hC dX5_quantise_59 5 rfl ?_
    refine xj_aload_n hC dX5_quantise_61 rfl 0 rfl ?_
    refine xb_getR hC 5 8 xcl_5 (by decide) xw_fl_X5_32 dX5_quantise_62 hf (fun v26 hf => ?_)
    refine xj_iload_n hC dX5_quantise_65 rfl 2 rfl ?_
    refine xb_iald hC dX5_quantise_66 hf (fun v27 hf => ?_)
    refine xb_ic_ge (tgt := 125) hC dX5_quantise_67 (by decide) hf (fun hf => ?_) (fun hf => ?_)
    · refine xj_aload_n hC dX5_quantise_125 rfl 0 rfl ?_
      refine xb_getR hC 5 7 xcl_5 (by decide) xw_fl_X5_29 dX5_quantise_126 hf (fun v28 hf => ?_)
      refine xj_iload_n hC dX5_quantise_129 rfl 1 rfl ?_
      refine xj_iload_n hC dX5_quantise_130 rfl 3 rfl ?_
      refine xb_iast hC dX5_quantise_131 hf (fun w29 hf => ?_)
      refine xj_aload_n hC dX5_quantise_132 rfl 0 rfl ?_
      refine xb_getR hC 5 8 xcl_5 (by decide) xw_fl_X5_32 dX5_quantise_133 hf (fun v30 hf => ?_)
      refine xj_iload_n hC dX5_quantise_136 rfl 1 rfl ?_
      refine xj_aload_n hC dX5_quantise_137 rfl 0 rfl ?_
      refine xb_getR hC 5 8 xcl_5 (by decide) xw_fl_X5_32 dX5_quantise_138 hf (fun v31 hf => ?_)
      refine xj_iload_n hC dX5_quantise_141 rfl 2 rfl ?_
      refine xb_iald hC dX5_quantise_142 hf (fun v32 hf => ?_)
      refine xb_iast hC dX5_quantise_143 hf (fun w33 hf => ?_)
      refine xj_iconst (v := 0) hC dX5_quantise_144 (by decide) ?_
      refine xj_istore (lv' := [(5, xI (0 : Int32)), (0, xR p0), (1, xI p1), (2, xI p2), (3, xI p3), (4, xI p4)]) hC dX5_quantise_145 (by decide) rfl ?_
      refine xj_lv [1, 2, 3, 0] rfl ?_
      exact lX5_quantise_L147 hC hr  xmN w33 (p0) (p1) (p2) ((0 : Int32))  hf
    · refine xj_aload_n hC dX5_quantise_70 rfl 0 rfl ?_
      refine xb_getR hC 5 25 xcl_5 (by decide) xw_fl_X5_42 dX5_quantise_71 hf (fun v34 hf => ?_)
      refine xj_iload hC dX5_quantise_74 5 rfl ?_
      refine xj_aload_n hC dX5_quantise_76 rfl 0 rfl ?_
      refine xj_aload_n hC dX5_quantise_77 rfl 0 rfl ?_
      refine xb_getR hC 5 7 xcl_5 (by decide) xw_fl_X5_29 dX5_quantise_78 hf (fun v35 hf => ?_)
      refine xj_iload_n hC dX5_quantise_81 rfl 2 rfl ?_
      refine xb_iald hC dX5_quantise_82 hf (fun v36 hf => ?_)
      refine xj_aload_n hC dX5_quantise_83 rfl 0 rfl ?_
      refine xb_getR hC 5 9 xcl_5 (by decide) xw_fl_X5_35 dX5_quantise_84 hf (fun v37 hf => ?_)
      refine xj_bipush (v := 16) hC dX5_quantise_87 (by decide) ?_
      refine xj_iload_n hC dX5_quantise_89 rfl 2 rfl ?_
      refine xj_imul hC dX5_quantise_90 ?_
      refine xj_iload hC dX5_quantise_91 5 rfl ?_
      refine xj_iadd hC dX5_quantise_93 ?_
      refine xb_iald hC dX5_quantise_94 hf (fun v38 hf => ?_)
      refine xj_iload_n hC dX5_quantise_95 rfl 3 rfl ?_
      refine xj_iload hC dX5_quantise_96 4 rfl ?_
      obtain ⟨v40, w41, hc39, hf⟩ := xm_b2 hf
      obtain ⟨_, hob, _⟩ := xm_bind hc39
      refine xj_reti (xr_V hC (mX5_crossed l D ks b hc39) hob rfl xw_cod_X5_crossed xw_ini_X5 xw_ins_X5_crossed xw_sel_X5_crossed xw_ml_X5_192 xds_X5_crossed ⟨Nat.le_of_ble_eq_true rfl, Nat.le_of_ble_eq_true rfl⟩ rfl rfl (Nat.le_of_ble_eq_true rfl) ⟨Nat.le_of_ble_eq_true rfl, Nat.le_of_ble_eq_true rfl⟩ dX5_quantise_98) ?_
      refine xb_iast hC dX5_quantise_101 hf (fun w42 hf => ?_)
      refine xj_aload_n hC dX5_quantise_102 rfl 0 rfl ?_
      refine xb_getR hC 5 25 xcl_5 (by decide) xw_fl_X5_42 dX5_quantise_103 hf (fun v43 hf => ?_)
      refine xj_iload hC dX5_quantise_106 5 rfl ?_
      refine xb_iald hC dX5_quantise_108 hf (fun v44 hf => ?_)
      refine xb_if_ge (tgt := 119) hC dX5_quantise_109 (by decide) hf (fun hf => ?_) (fun hf => ?_)
      · refine xj_iinc (v := (p5 + (1 : Int32))) (lv' := [(5, xI (p5 + (1 : Int32))), (0, xR p0), (1, xI p1), (2, xI p2), (3, xI p3), (4, xI p4)]) hC dX5_quantise_119 5 rfl rfl (by decide) rfl ?_
        refine xj_goto (tgt := 59) hC dX5_quantise_122 (by decide) ?_
        refine xj_lv [1, 2, 3, 4, 5, 0] rfl ?_
        exact ih w42 (p0) (p1) (p2) (p3) (p4) ((p5 + (1 : Int32)))  hf
      · refine xj_aload_n hC dX5_quantise_112 rfl 0 rfl ?_
        refine xj_bipush (v := -4) hC dX5_quantise_113 (by decide) ?_
        obtain ⟨v46, w47, hc45, hf⟩ := xm_b2 hf
        obtain ⟨_, hob, _⟩ := xm_bind hc45
        refine xj_reti (xr_V hC (mX5_ends l D ks b hc45) hob rfl xw_cod_X5_ends xw_ini_X5 xw_ins_X5_ends xw_sel_X5_ends xw_ml_X5_183 xds_X5_ends ⟨Nat.le_of_ble_eq_true rfl, Nat.le_of_ble_eq_true rfl⟩ rfl rfl (Nat.le_of_ble_eq_true rfl) ⟨Nat.le_of_ble_eq_true rfl, Nat.le_of_ble_eq_true rfl⟩ dX5_quantise_115) ?_
        obtain ⟨he, hw⟩ := Prod.mk.inj (Option.some.inj hf)
        exact xj_iret hC hr (by decide) (by decide) dX5_quantise_118 he hw
def fX5_quantise (w : xmW) (th : (Option Nat)) (a1 : Int32) (a2 : Int32) (a3 : Int32) (a4 : Int32) : Option (Int32 × xmW) := ((xmob w th 5).bind fun _ => ((fX5_in w ((a1).toInt64) ((0 : Int64)) ((3 : Int64))).bind fun v2 => (if v2 = 0 then (xmb2 (fX5_refused w (th) ((-1 : Int32))) fun v4 w5 => (some (v4, w5))) else ((fX5_isRow w (th) (a2)).bind fun v7 => (if v7 = 0 then (xmb2 (fX5_refused w (th) ((-1 : Int32))) fun v9 w10 => (some (v9, w10))) else (if a1 = a2 then (xmb2 (fX5_refused w (th) ((-1 : Int32))) fun v12 w13 => (some (v12, w13))) else ((fX5_isFormat w (th) (a3)).bind fun v15 => (if v15 = 0 then (xmb2 (fX5_refused w (th) ((-1 : Int32))) fun v17 w18 => (some (v17, w18))) else ((fX5_in w ((a4).toInt64) ((0 : Int64)) ((5 : Int64))).bind fun v20 => (if v20 = 0 then (xmb2 (fX5_refused w (th) ((-1 : Int32))) fun v24 w25 => (some (v24, w25))) else ((fX5_begins w (th) ).bind fun w22 => (fX5_quantise_L59 xmN w22 (th) (a1) (a2) (a3) (a4) ((0 : Int32)) ))))))))))))
set_option maxHeartbeats 4000000 in
set_option maxRecDepth 100000 in
theorem mX5_quantise (l : Launch) (D : va_G) (ks : Nat → ClassId) (b : Nat) {w : xmW} {th : (Option Nat)} {a1 : Int32} {a2 : Int32} {a3 : Int32} {a4 : Int32} {y : Int32} {wz : xmW} (hf : fX5_quantise w th a1 a2 a3 a4 = some (y, wz)) : xmM l yX5_quantise (Cond.code yX5_quantise cX5_quantise 6 (some (FieldType.int)) :: xmTs) 7 176 0 0 D ks b w [xR th, xI a1, xI a2, xI a3, xI a4] (some (xI y)) wz := by
  unfold fX5_quantise at hf
  obtain ⟨_, _, hf⟩ := xm_bind hf
  refine xmM.of (own := RX5) (lv0 := [(0, xR th), (1, xI a1), (2, xI a2), (3, xI a3), (4, xI a4)]) (by decide) rfl (Nat.le_of_ble_eq_true rfl) rfl ?_
  intro p e s m args below meth c hC hr hnm
  refine xj_iload_n hC dX5_quantise_0 rfl 1 rfl ?_
  refine xj_i2l hC dX5_quantise_1 ?_
  refine xj_lconst (v := 0) hC dX5_quantise_2 (by decide) ?_
  refine xj_ldc2 hC xw_cst_X5_153 dX5_quantise_3 ?_
  obtain ⟨v2, hc1, hf⟩ := xm_bind hf
  refine xj_reti (xr_S hC (mX5_in l D ks b hc1) xw_cod_X5_in xw_ini_X5 xw_sta_X5_in xw_ml_X5_70 xds_X5_in ⟨Nat.le_of_ble_eq_true rfl, Nat.le_of_ble_eq_true rfl⟩ rfl rfl (Nat.le_of_ble_eq_true rfl) ⟨Nat.le_of_ble_eq_true rfl, Nat.le_of_ble_eq_true rfl⟩ dX5_quantise_6) ?_
  refine xb_if_eq (tgt := 46) hC dX5_quantise_9 (by decide) hf (fun hf => ?_) (fun hf => ?_)
  · refine xj_aload_n hC dX5_quantise_46 rfl 0 rfl ?_
    refine xj_iconst (v := -1) hC dX5_quantise_47 (by decide) ?_
    obtain ⟨v4, w5, hc3, hf⟩ := xm_b2 hf
    obtain ⟨_, hob, _⟩ := xm_bind hc3
    refine xj_reti (xr_V hC (mX5_refused l D ks b hc3) hob rfl xw_cod_X5_refused xw_ini_X5 xw_ins_X5_refused xw_sel_X5_refused xw_ml_X5_57 xds_X5_refused ⟨Nat.le_of_ble_eq_true rfl, Nat.le_of_ble_eq_true rfl⟩ rfl rfl (Nat.le_of_ble_eq_true rfl) ⟨Nat.le_of_ble_eq_true rfl, Nat.le_of_ble_eq_true rfl⟩ dX5_quantise_48) ?_
    obtain ⟨he, hw⟩ := Prod.mk.inj (Option.some.inj hf)
    exact xj_iret hC hr (by decide) (by decide) dX5_quantise_51 he hw
  · refine xj_aload_n hC dX5_quantise_12 rfl 0 rfl ?_
    refine xj_iload_n hC dX5_quantise_13 rfl 2 rfl ?_
    obtain ⟨v7, hc6, hf⟩ := xm_bind hf
    obtain ⟨_, hob, _⟩ := xm_bind hc6
    refine xj_reti (xr_V hC (mX5_isRow l D ks b hc6) hob rfl xw_cod_X5_isRow xw_ini_X5 xw_ins_X5_isRow xw_sel_X5_isRow xw_ml_X5_257 xds_X5_isRow ⟨Nat.le_of_ble_eq_true rfl, Nat.le_of_ble_eq_true rfl⟩ rfl rfl (Nat.le_of_ble_eq_true rfl) ⟨Nat.le_of_ble_eq_true rfl, Nat.le_of_ble_eq_true rfl⟩ dX5_quantise_14) ?_
    refine xb_if_eq (tgt := 46) hC dX5_quantise_17 (by decide) hf (fun hf => ?_) (fun hf => ?_)
    · refine xj_aload_n hC dX5_quantise_46 rfl 0 rfl ?_
      refine xj_iconst (v := -1) hC dX5_quantise_47 (by decide) ?_
      obtain ⟨v9, w10, hc8, hf⟩ := xm_b2 hf
      obtain ⟨_, hob, _⟩ := xm_bind hc8
      refine xj_reti (xr_V hC (mX5_refused l D ks b hc8) hob rfl xw_cod_X5_refused xw_ini_X5 xw_ins_X5_refused xw_sel_X5_refused xw_ml_X5_57 xds_X5_refused ⟨Nat.le_of_ble_eq_true rfl, Nat.le_of_ble_eq_true rfl⟩ rfl rfl (Nat.le_of_ble_eq_true rfl) ⟨Nat.le_of_ble_eq_true rfl, Nat.le_of_ble_eq_true rfl⟩ dX5_quantise_48) ?_
      obtain ⟨he, hw⟩ := Prod.mk.inj (Option.some.inj hf)
      exact xj_iret hC hr (by decide) (by decide) dX5_quantise_51 he hw
    · refine xj_iload_n hC dX5_quantise_20 rfl 1 rfl ?_
      refine xj_iload_n hC dX5_quantise_21 rfl 2 rfl ?_
      refine xb_ic_eq (tgt := 46) hC dX5_quantise_22 (by decide) hf (fun hf => ?_) (fun hf => ?_)
      · refine xj_aload_n hC dX5_quantise_46 rfl 0 rfl ?_
        refine xj_iconst (v := -1) hC dX5_quantise_47 (by decide) ?_
        obtain ⟨v12, w13, hc11, hf⟩ := xm_b2 hf
        obtain ⟨_, hob, _⟩ := xm_bind hc11
        refine xj_reti (xr_V hC (mX5_refused l D ks b hc11) hob rfl xw_cod_X5_refused xw_ini_X5 xw_ins_X5_refused xw_sel_X5_refused xw_ml_X5_57 xds_X5_refused ⟨Nat.le_of_ble_eq_true rfl, Nat.le_of_ble_eq_true rfl⟩ rfl rfl (Nat.le_of_ble_eq_true rfl) ⟨Nat.le_of_ble_eq_true rfl, Nat.le_of_ble_eq_true rfl⟩ dX5_quantise_48) ?_
        obtain ⟨he, hw⟩ := Prod.mk.inj (Option.some.inj hf)
        exact xj_iret hC hr (by decide) (by decide) dX5_quantise_51 he hw
      · refine xj_aload_n hC dX5_quantise_25 rfl 0 rfl ?_
        refine xj_iload_n hC dX5_quantise_26 rfl 3 rfl ?_
        obtain ⟨v15, hc14, hf⟩ := xm_bind hf
        obtain ⟨_, hob, _⟩ := xm_bind hc14
        refine xj_reti (xr_V hC (mX5_isFormat l D ks b hc14) hob rfl xw_cod_X5_isFormat xw_ini_X5 xw_ins_X5_isFormat xw_sel_X5_isFormat xw_ml_X5_109 xds_X5_isFormat ⟨Nat.le_of_ble_eq_true rfl, Nat.le_of_ble_eq_true rfl⟩ rfl rfl (Nat.le_of_ble_eq_true rfl) ⟨Nat.le_of_ble_eq_true rfl, Nat.le_of_ble_eq_true rfl⟩ dX5_quantise_27) ?_
        refine xb_if_eq (tgt := 46) hC dX5_quantise_30 (by decide) hf (fun hf => ?_) (fun hf => ?_)
        · refine xj_aload_n hC dX5_quantise_46 rfl 0 rfl ?_
          refine xj_iconst (v := -1) hC dX5_quantise_47 (by decide) ?_
          obtain ⟨v17, w18, hc16, hf⟩ := xm_b2 hf
          obtain ⟨_, hob, _⟩ := xm_bind hc16
          refine xj_reti (xr_V hC (mX5_refused l D ks b hc16) hob rfl xw_cod_X5_refused xw_ini_X5 xw_ins_X5_refused xw_sel_X5_refused xw_ml_X5_57 xds_X5_refused ⟨Nat.le_of_ble_eq_true rfl, Nat.le_of_ble_eq_true rfl⟩ rfl rfl (Nat.le_of_ble_eq_true rfl) ⟨Nat.le_of_ble_eq_true rfl, Nat.le_of_ble_eq_true rfl⟩ dX5_quantise_48) ?_
          obtain ⟨he, hw⟩ := Prod.mk.inj (Option.some.inj hf)
          exact xj_iret hC hr (by decide) (by decide) dX5_quantise_51 he hw
        · refine xj_iload hC dX5_quantise_33 4 rfl ?_
          refine xj_i2l hC dX5_quantise_35 ?_
          refine xj_lconst (v := 0) hC dX5_quantise_36 (by decide) ?_
          refine xj_ldc2 hC xw_cst_X5_105 dX5_quantise_37 ?_
          obtain ⟨v20, hc19, hf⟩ := xm_bind hf
          refine xj_reti (xr_S hC (mX5_in l D ks b hc19) xw_cod_X5_in xw_ini_X5 xw_sta_X5_in xw_ml_X5_70 xds_X5_in ⟨Nat.le_of_ble_eq_true rfl, Nat.le_of_ble_eq_true rfl⟩ rfl rfl (Nat.le_of_ble_eq_true rfl) ⟨Nat.le_of_ble_eq_true rfl, Nat.le_of_ble_eq_true rfl⟩ dX5_quantise_40) ?_
          refine xb_if_ne (tgt := 52) hC dX5_quantise_43 (by decide) hf (fun hf => ?_) (fun hf => ?_)
          · refine xj_aload_n hC dX5_quantise_52 rfl 0 rfl ?_
            obtain ⟨w22, hc21, hf⟩ := xm_bind hf
            obtain ⟨_, hob, _⟩ := xm_bind hc21
            refine xj_retv (xr_V hC (mX5_begins l D ks b hc21) hob rfl xw_cod_X5_begins xw_ini_X5 xw_ins_X5_begins xw_sel_X5_begins xw_ml_X5_176 xds_X5_begins ⟨Nat.le_of_ble_eq_true rfl, Nat.le_of_ble_eq_true rfl⟩ rfl rfl (Nat.le_of_ble_eq_true rfl) ⟨Nat.le_of_ble_eq_true rfl, Nat.le_of_ble_eq_true rfl⟩ dX5_quantise_53) ?_
            refine xj_iconst (v := 0) hC dX5_quantise_56 (by decide) ?_
            refine xj_istore (lv' := [(5, xI (0 : Int32)), (0, xR th), (1, xI a1), (2, xI a2), (3, xI a3), (4, xI a4)]) hC dX5_quantise_57 (by decide) rfl ?_
            refine xj_lv [1, 2, 3, 4, 5, 0] rfl ?_
            exact lX5_quantise_L59 hC hr  xmN w22 (th) (a1) (a2) (a3) (a4) ((0 : Int32))  hf
          · refine xj_aload_n hC dX5_quantise_46 rfl 0 rfl ?_
            refine xj_iconst (v := -1) hC dX5_quantise_47 (by decide) ?_
            obtain ⟨v24, w25, hc23, hf⟩ := xm_b2 hf
            obtain ⟨_, hob, _⟩ := xm_bind hc23
            refine xj_reti (xr_V hC (mX5_refused l D ks b hc23) hob rfl xw_cod_X5_refused xw_ini_X5 xw_ins_X5_refused xw_sel_X5_refused xw_ml_X5_57 xds_X5_refused ⟨Nat.le_of_ble_eq_true rfl, Nat.le_of_ble_eq_true rfl⟩ rfl rfl (Nat.le_of_ble_eq_true rfl) ⟨Nat.le_of_ble_eq_true rfl, Nat.le_of_ble_eq_true rfl⟩ dX5_quantise_48) ?_
            obtain ⟨he, hw⟩ := Prod.mk.inj (Option.some.inj hf)
            exact xj_iret hC hr (by decide) (by decide) dX5_quantise_51 he hw
def fX5_worst_L72 : Nat → xmW → (Option Nat) → Int32 → Int32 → Int32 → Int32 → Int64 → Int32 → Int32 → Int32 → Option (Int32 × xmW)
  | 0, _, _, _, _, _, _, _, _, _, _ => none
  | n + 1, w, p0, p1, p2, p3, p4, p5, p7, p8, p9 => ((xmgR w p0 5 8).bind fun v23 => ((xmild w v23 0 p1).bind fun v24 => (if v24 ≤ p9 then (if p3 = 0 then (xmb2 (fX5_fine w (p0) (p4)) fun v32 w33 => (some (v32, w33))) else (if p3 = (1 : Int32) then (xmb2 (fX5_fine w (p0) (p7)) fun v29 w30 => (some (v29, w30))) else (xmb2 (fX5_fine w (p0) (p8)) fun v26 w27 => (some (v26, w27))))) else ((xmgR w p0 5 9).bind fun v34 => ((xmild w v34 0 (((16 : Int32) * p1) + p9)).bind fun v35 => ((xmgR w p0 5 9).bind fun v36 => ((xmild w v36 0 (((16 : Int32) * p2) + p9)).bind fun v37 => ((xmgR w p0 5 7).bind fun v38 => ((xmild w v38 0 p1).bind fun v39 => ((fX5_isNumber w (p0) (v39) (v35)).bind fun v41 => (if v41 = 0 then (fX5_worst_L72 n w (p0) (p1) (p2) (p3) (p4) (p5) (p7) ((p8 + (1 : Int32))) ((p9 + (1 : Int32))) ) else ((xmgR w p0 5 7).bind fun v42 => ((xmild w v42 0 p2).bind fun v43 => ((fX5_isNumber w (p0) (v43) (v37)).bind fun v45 => (if v45 = 0 then (fX5_worst_L72 n w (p0) (p1) (p2) (p3) (p4) (p5) (p7) ((p8 + (1 : Int32))) ((p9 + (1 : Int32))) ) else ((xmgR w p0 5 7).bind fun v46 => ((xmild w v46 0 p1).bind fun v47 => ((fX5_unitsOf w (p0) (v47) (v35)).bind fun v49 => ((xmgR w p0 5 7).bind fun v50 => ((xmild w v50 0 p1).bind fun v51 => ((fX5_scale w (p0) (v51)).bind fun v53 => ((xmgR w p0 5 7).bind fun v54 => ((xmild w v54 0 p2).bind fun v55 => ((fX5_unitsOf w (p0) (v55) (v37)).bind fun v57 => ((xmgR w p0 5 7).bind fun v58 => ((xmild w v58 0 p2).bind fun v59 => ((fX5_scale w (p0) (v59)).bind fun v61 => (if 0 ≤ (lg_cmp ((v49 <<< ((((20 : Int32) - v53)).toInt64 &&& 63)) - (v57 <<< ((((20 : Int32) - v61)).toInt64 &&& 63))) (0 : Int64)) then (if (lg_cmp ((v49 <<< ((((20 : Int32) - v53)).toInt64 &&& 63)) - (v57 <<< ((((20 : Int32) - v61)).toInt64 &&& 63))) p5) ≤ 0 then (if (lg_cmp ((v49 <<< ((((20 : Int32) - v53)).toInt64 &&& 63)) - (v57 <<< ((((20 : Int32) - v61)).toInt64 &&& 63))) p5) ≤ 0 then (fX5_worst_L72 n w (p0) (p1) (p2) (p3) (p4) (p5) ((p7 + (if (lg_cmp ((v49 <<< ((((20 : Int32) - v53)).toInt64 &&& 63)) - (v57 <<< ((((20 : Int32) - v61)).toInt64 &&& 63))) (0 : Int64)) ≤ 0 then (0 : Int32) else (1 : Int32)))) (p8) ((p9 + (1 : Int32))) ) else (fX5_worst_L72 n w (p0) (p1) (p2) (p3) (p4) (((v49 <<< ((((20 : Int32) - v53)).toInt64 &&& 63)) - (v57 <<< ((((20 : Int32) - v61)).toInt64 &&& 63)))) ((p7 + (if (lg_cmp ((v49 <<< ((((20 : Int32) - v53)).toInt64 &&& 63)) - (v57 <<< ((((20 : Int32) - v61)).toInt64 &&& 63))) (0 : Int64)) ≤ 0 then (0 : Int32) else (1 : Int32)))) (p8) ((p9 + (1 : Int32))) )) else (if (lg_cmp ((v49 <<< ((((20 : Int32) - v53)).toInt64 &&& 63)) - (v57 <<< ((((20 : Int32) - v61)).toInt64 &&& 63))) p5) ≤ 0 then (fX5_worst_L72 n w (p0) (p1) (p2) (p3) (p9) (p5) ((p7 + (if (lg_cmp ((v49 <<< ((((20 : Int32) - v53)).toInt64 &&& 63)) - (v57 <<< ((((20 : Int32) - v61)).toInt64 &&& 63))) (0 : Int64)) ≤ 0 then (0 : Int32) else (1 : Int32)))) (p8) ((p9 + (1 : Int32))) ) else (fX5_worst_L72 n w (p0) (p1) (p2) (p3) (p9) (((v49 <<< ((((20 : Int32) - v53)).toInt64 &&& 63)) - (v57 <<< ((((20 : Int32) - v61)).toInt64 &&& 63)))) ((p7 + (if (lg_cmp ((v49 <<< ((((20 : Int32) - v53)).toInt64 &&& 63)) - (v57 <<< ((((20 : Int32) - v61)).toInt64 &&& 63))) (0 : Int64)) ≤ 0 then (0 : Int32) else (1 : Int32)))) (p8) ((p9 + (1 : Int32))) ))) else (if (lg_cmp (-((v49 <<< ((((20 : Int32) - v53)).toInt64 &&& 63)) - (v57 <<< ((((20 : Int32) - v61)).toInt64 &&& 63)))) p5) ≤ 0 then (if (lg_cmp (-((v49 <<< ((((20 : Int32) - v53)).toInt64 &&& 63)) - (v57 <<< ((((20 : Int32) - v61)).toInt64 &&& 63)))) p5) ≤ 0 then (fX5_worst_L72 n w (p0) (p1) (p2) (p3) (p4) (p5) ((p7 + (if (lg_cmp (-((v49 <<< ((((20 : Int32) - v53)).toInt64 &&& 63)) - (v57 <<< ((((20 : Int32) - v61)).toInt64 &&& 63)))) (0 : Int64)) ≤ 0 then (0 : Int32) else (1 : Int32)))) (p8) ((p9 + (1 : Int32))) ) else (fX5_worst_L72 n w (p0) (p1) (p2) (p3) (p4) ((-((v49 <<< ((((20 : Int32) - v53)).toInt64 &&& 63)) - (v57 <<< ((((20 : Int32) - v61)).toInt64 &&& 63))))) ((p7 + (if (lg_cmp (-((v49 <<< ((((20 : Int32) - v53)).toInt64 &&& 63)) - (v57 <<< ((((20 : Int32) - v61)).toInt64 &&& 63)))) (0 : Int64)) ≤ 0 then (0 : Int32) else (1 : Int32)))) (p8) ((p9 + (1 : Int32))) )) else (if (lg_cmp (-((v49 <<< ((((20 : Int32) - v53)).toInt64 &&& 63)) - (v57 <<< ((((20 : Int32) - v61)).toInt64 &&& 63)))) p5) ≤ 0 then (fX5_worst_L72 n w (p0) (p1) (p2) (p3) (p9) (p5) ((p7 + (if (lg_cmp (-((v49 <<< ((((20 : Int32) - v53)).toInt64 &&& 63)) - (v57 <<< ((((20 : Int32) - v61)).toInt64 &&& 63)))) (0 : Int64)) ≤ 0 then (0 : Int32) else (1 : Int32)))) (p8) ((p9 + (1 : Int32))) ) else (fX5_worst_L72 n w (p0) (p1) (p2) (p3) (p9) ((-((v49 <<< ((((20 : Int32) - v53)).toInt64 &&& 63)) - (v57 <<< ((((20 : Int32) - v61)).toInt64 &&& 63))))) ((p7 + (if (lg_cmp (-((v49 <<< ((((20 : Int32) - v53)).toInt64 &&& 63)) - (v57 <<< ((((20 : Int32) - v61)).toInt64 &&& 63)))) (0 : Int64)) ≤ 0 then (0 : Int32) else (1 : Int32)))) (p8) ((p9 + (1 : Int32))) )))))))))))))))))))))))))))))))
set_option maxHeartbeats 4000000 in
set_option maxRecDepth 100000 in
theorem lX5_worst_L72 {p : Program} {l : Launch} {e : Env} {s : State} {m : MethodId} {args : Array Value} {below : List Frame} {meth : Method} {c : Code} {D : va_G} {ks : Nat → ClassId} {b : Nat} (hC : xmC p s m args meth c D ks b 14 cX5_worst RX5) (hr : meth.sig.returnType = (some (FieldType.int))) {y : Int32} {wz : xmW} : ∀ (n : Nat) (w : xmW) (p0 : (Option Nat)) (p1 : Int32) (p2 : Int32) (p3 : Int32) (p4 : Int32) (p5 : Int64) (p7 : Int32) (p8 : Int32) (p9 : Int32), fX5_worst_L72 n w p0 p1 p2 p3 p4 p5 p7 p8 p9 = some (y, wz) → xmJ p l e ({ frames := 4, cells := 0, slots := 0, locals := 89 } : Room) s m args below meth c D ks b 14 (MQ below (xmQ D ks b (some (xI y)) wz) args s 0 0 (xmA b)) w 0 0 72 [(0, xR p0), (1, xI p1), (2, xI p2), (3, xI p3), (4, xI p4), (5, xL p5), (7, xI p7), (8, xI p8), (9, xI p9)] [] := by
  intro n
  induction n with
  | zero => intro w p0 p1 p2 p3 p4 p5 p7 p8 p9 hf; simp [fX5_worst_L72] at hf
  | succ n ih =>
    intro w p0 p1 p2 p3 p4 p5 p7 p8 p9 hf
    rw [fX5_worst_L72] at hf
    refine xj_iload hC dX5_worst_72 8 rfl ?_
    refine xj_aload_n hC dX5_worst_74 rfl 0 rfl ?_
    refine xb_getR hC 5 8 xcl_5 (by decide) xw_fl_X5_32 dX5_worst_75 hf (fun v23 hf => ?_)
    refine xj_iload_n hC dX5_worst_78 rfl 1 rfl ?_
    refine xb_iald hC dX5_worst_79 hf (fun v24 hf => ?_)
    refine xb_ic_ge (tgt := 276) hC dX5_worst_80 (by decide) hf (fun hf => ?_) (fun hf => ?_)
    · refine xj_aload_n hC dX5_worst_276 rfl 0 rfl ?_
      refine xj_iload_n hC dX5_worst_277 rfl 3 rfl ?_
      refine xb_if_ne (tgt := 286) hC dX5_worst_278 (by decide) hf (fun hf => ?_) (fun hf => ?_)
      · refine xj_iload_n hC dX5_worst_286 rfl 3 rfl ?_
        refine xj_iconst (v := 1) hC dX5_worst_287 (by decide) ?_
        refine xb_ic_ne (tgt := 296) hC dX5_worst_288 (by decide) hf (fun hf => ?_) (fun hf => ?_)
        · refine xj_iload hC dX5_worst_296 7 rfl ?_
          obtain ⟨v26, w27, hc25, hf⟩ := xm_b2 hf
          obtain ⟨_, hob, _⟩ := xm_bind hc25
          refine xj_reti (xr_V hC (mX5_fine l D ks b hc25) hob rfl xw_cod_X5_fine xw_ini_X5 xw_ins_X5_fine xw_sel_X5_fine xw_ml_X5_67 xds_X5_fine ⟨Nat.le_of_ble_eq_true rfl, Nat.le_of_ble_eq_true rfl⟩ rfl rfl (Nat.le_of_ble_eq_true rfl) ⟨Nat.le_of_ble_eq_true rfl, Nat.le_of_ble_eq_true rfl⟩ dX5_worst_298) ?_
          obtain ⟨he, hw⟩ := Prod.mk.inj (Option.some.inj hf)
          exact xj_iret hC hr (by decide) (by decide) dX5_worst_301 he hw
        · refine xj_iload hC dX5_worst_291 6 rfl ?_
          refine xj_goto (tgt := 298) hC dX5_worst_293 (by decide) ?_
          obtain ⟨v29, w30, hc28, hf⟩ := xm_b2 hf
          obtain ⟨_, hob, _⟩ := xm_bind hc28
          refine xj_reti (xr_V hC (mX5_fine l D ks b hc28) hob rfl xw_cod_X5_fine xw_ini_X5 xw_ins_X5_fine xw_sel_X5_fine xw_ml_X5_67 xds_X5_fine ⟨Nat.le_of_ble_eq_true rfl, Nat.le_of_ble_eq_true rfl⟩ rfl rfl (Nat.le_of_ble_eq_true rfl) ⟨Nat.le_of_ble_eq_true rfl, Nat.le_of_ble_eq_true rfl⟩ dX5_worst_298) ?_
          obtain ⟨he, hw⟩ := Prod.mk.inj (Option.some.inj hf)
          exact xj_iret hC hr (by decide) (by decide) dX5_worst_301 he hw
      · refine xj_iload hC dX5_worst_281 4 rfl ?_
        refine xj_goto (tgt := 298) hC dX5_worst_283 (by decide) ?_
        obtain ⟨v32, w33, hc31, hf⟩ := xm_b2 hf
        obtain ⟨_, hob, _⟩ := xm_bind hc31
        refine xj_reti (xr_V hC (mX5_fine l D ks b hc31) hob rfl xw_cod_X5_fine xw_ini_X5 xw_ins_X5_fine xw_sel_X5_fine xw_ml_X5_67 xds_X5_fine ⟨Nat.le_of_ble_eq_true rfl, Nat.le_of_ble_eq_true rfl⟩ rfl rfl (Nat.le_of_ble_eq_true rfl) ⟨Nat.le_of_ble_eq_true rfl, Nat.le_of_ble_eq_true rfl⟩ dX5_worst_298) ?_
        obtain ⟨he, hw⟩ := Prod.mk.inj (Option.some.inj hf)
        exact xj_iret hC hr (by decide) (by decide) dX5_worst_301 he hw
    · refine xj_aload_n hC dX5_worst_83 rfl 0 rfl ?_
      refine xb_getR hC 5 9 xcl_5 (by decide) xw_fl_X5_35 dX5_worst_84 hf (fun v34 hf => ?_)
      refine xj_bipush (v := 16) hC dX5_worst_87 (by decide) ?_
      refine xj_iload_n hC dX5_worst_89 rfl 1 rfl ?_
      refine xj_imul hC dX5_worst_90 ?_
      refine xj_iload hC dX5_worst_91 8 rfl ?_
      refine xj_iadd hC dX5_worst_93 ?_
      refine xb_iald hC dX5_worst_94 hf (fun v35 hf => ?_)
      refine xj_istore (lv' := [(10, xI v35), (0, xR p0), (1, xI p1), (2, xI p2), (3, xI p3), (4, xI p4), (5, xL p5), (7, xI p7), (8, xI p8), (9, xI p9)]) hC dX5_worst_95 (by decide) rfl ?_
      refine xj_aload_n hC dX5_worst_97 rfl 1 rfl ?_
      refine xb_getR hC 5 9 xcl_5 (by decide) xw_fl_X5_35 dX5_worst_98 hf (fun v36 hf => ?_)
      refine xj_bipush (v := 16) hC dX5_worst_101 (by decide) ?_
      refine xj_iload_n hC dX5_worst_103 rfl 3 rfl ?_
      refine xj_imul hC dX5_worst_104 ?_
      refine xj_iload hC dX5_worst_105 9 rfl ?_
      refine xj_iadd hC dX5_worst_107 ?_
      refine xb_iald hC dX5_worst_108 hf (fun v37 hf => ?_)
      refine xj_istore (lv' := [(11, xI v37), (10, xI v35), (0, xR p0), (1, xI p1), (2, xI p2), (3, xI p3), (4, xI p4), (5, xL p5), (7, xI p7), (8, xI p8), (9, xI p9)]) hC dX5_worst_109 (by decide) rfl ?_
      refine xj_aload_n hC dX5_worst_111 rfl 2 rfl ?_
      refine xj_aload_n hC dX5_worst_112 rfl 2 rfl ?_
      refine xb_getR hC 5 7 xcl_5 (by decide) xw_fl_X5_29 dX5_worst_113 hf (fun v38 hf => ?_)
      refine xj_iload_n hC dX5_worst_116 rfl 3 rfl ?_
      refine xb_iald hC dX5_worst_117 hf (fun v39 hf => ?_)
      refine xj_iload hC dX5_worst_118 1 rfl ?_
      obtain ⟨v41, hc40, hf⟩ := xm_bind hf
      obtain ⟨_, hob, _⟩ := xm_bind hc40
      refine xj_reti (xr_V hC (mX5_isNumber l D ks b hc40) hob rfl xw_cod_X5_isNumber xw_ini_X5 xw_ins_X5_isNumber xw_sel_X5_isNumber xw_ml_X5_124 xds_X5_isNumber ⟨Nat.le_of_ble_eq_true rfl, Nat.le_of_ble_eq_true rfl⟩ rfl rfl (Nat.le_of_ble_eq_true rfl) ⟨Nat.le_of_ble_eq_true rfl, Nat.le_of_ble_eq_true rfl⟩ dX5_worst_120) ?_
      refine xb_if_eq (tgt := 141) hC dX5_worst_123 (by decide) hf (fun hf => ?_) (fun hf => ?_)
      · refine xj_iinc (v := (p8 + (1 : Int32))) (lv' := [(8, xI (p8 + (1 : Int32))), (11, xI v37), (10, xI v35), (0, xR p0), (1, xI p1), (2, xI p2), (3, xI p3), (4, xI p4), (5, xL p5), (7, xI p7), (9, xI p9)]) hC dX5_worst_141 9 rfl rfl (by decide) rfl ?_
        refine xj_goto (tgt := 270) hC dX5_worst_144 (by decide) ?_
        refine xj_iinc (v := (p9 + (1 : Int32))) (lv' := [(9, xI (p9 + (1 : Int32))), (8, xI (p8 + (1 : Int32))), (11, xI v37), (10, xI v35), (0, xR p0), (1, xI p1), (2, xI p2), (3, xI p3), (4, xI p4), (5, xL p5), (7, xI p7)]) hC dX5_worst_270 10 rfl rfl (by decide) rfl ?_
        refine xj_goto (tgt := 72) hC dX5_worst_273 (by decide) ?_
        refine xj_lv [4, 5, 6, 7, 8, 9, 10, 1, 0] rfl ?_
        exact ih w (p0) (p1) (p2) (p3) (p4) (p5) (p7) ((p8 + (1 : Int32))) ((p9 + (1 : Int32)))  hf
      · refine xj_aload_n hC dX5_worst_126 rfl 2 rfl ?_
        refine xj_aload_n hC dX5_worst_127 rfl 2 rfl ?_
        refine xb_getR hC 5 7 xcl_5 (by decide) xw_fl_X5_29 dX5_worst_128 hf (fun v42 hf => ?_)
        refine xj_iload_n hC dX5_worst_131 rfl 4 rfl ?_
        refine xb_iald hC dX5_worst_132 hf (fun v43 hf => ?_)
        refine xj_iload hC dX5_worst_133 0 rfl ?_
        obtain ⟨v45, hc44, hf⟩ := xm_bind hf
        obtain ⟨_, hob, _⟩ := xm_bind hc44
        refine xj_reti (xr_V hC (mX5_isNumber l D ks b hc44) hob rfl xw_cod_X5_isNumber xw_ini_X5 xw_ins_X5_isNumber xw_sel_X5_isNumber xw_ml_X5_124 xds_X5_isNumber ⟨Nat.le_of_ble_eq_true rfl, Nat.le_of_ble_eq_true rfl⟩ rfl rfl (Nat.le_of_ble_eq_true rfl) ⟨Nat.le_of_ble_eq_true rfl, Nat.le_of_ble_eq_true rfl⟩ dX5_worst_135) ?_
        refine xb_if_ne (tgt := 147) hC dX5_worst_138 (by decide) hf (fun hf => ?_) (fun hf => ?_)
        · refine xj_aload_n hC dX5_worst_147 rfl 2 rfl ?_
          refine xj_aload_n hC dX5_worst_148 rfl 2 rfl ?_
          refine xb_getR hC 5 7 xcl_5 (by decide) xw_fl_X5_29 dX5_worst_149 hf (fun v46 hf => ?_)
          refine xj_iload_n hC dX5_worst_152 rfl 3 rfl ?_
          refine xb_iald hC dX5_worst_153 hf (fun v47 hf => ?_)
          refine xj_iload hC dX5_worst_154 1 rfl ?_
          obtain ⟨v49, hc48, hf⟩ := xm_bind hf
          obtain ⟨_, hob, _⟩ := xm_bind hc48
          refine xj_retl (xr_V hC (mX5_unitsOf l D ks b hc48) hob rfl xw_cod_X5_unitsOf xw_ini_X5 xw_ins_X5_unitsOf xw_sel_X5_unitsOf xw_ml_X5_135 xds_X5_unitsOf ⟨Nat.le_of_ble_eq_true rfl, Nat.le_of_ble_eq_true rfl⟩ rfl rfl (Nat.le_of_ble_eq_true rfl) ⟨Nat.le_of_ble_eq_true rfl, Nat.le_of_ble_eq_true rfl⟩ dX5_worst_156) ?_
          refine xj_bipush (v := 20) hC dX5_worst_159 (by decide) ?_
          refine xj_aload_n hC dX5_worst_161 rfl 2 rfl ?_
          refine xj_aload_n hC dX5_worst_162 rfl 2 rfl ?_
          refine xb_getR hC 5 7 xcl_5 (by decide) xw_fl_X5_29 dX5_worst_163 hf (fun v50 hf => ?_)
          refine xj_iload_n hC dX5_worst_166 rfl 3 rfl ?_
          refine xb_iald hC dX5_worst_167 hf (fun v51 hf => ?_)
          obtain ⟨v53, hc52, hf⟩ := xm_bind hf
          obtain ⟨_, hob, _⟩ := xm_bind hc52
          refine xj_reti (xr_V hC (mX5_scale l D ks b hc52) hob rfl xw_cod_X5_scale xw_ini_X5 xw_ins_X5_scale xw_sel_X5_scale xw_ml_X5_127 xds_X5_scale ⟨Nat.le_of_ble_eq_true rfl, Nat.le_of_ble_eq_true rfl⟩ rfl rfl (Nat.le_of_ble_eq_true rfl) ⟨Nat.le_of_ble_eq_true rfl, Nat.le_of_ble_eq_true rfl⟩ dX5_worst_168) ?_
          refine xj_isub hC dX5_worst_171 ?_
          refine xj_lshl hC dX5_worst_172 ?_
          refine xj_aload_n hC dX5_worst_173 rfl 2 rfl ?_
          refine xj_aload_n hC dX5_worst_174 rfl 2 rfl ?_
          refine xb_getR hC 5 7 xcl_5 (by decide) xw_fl_X5_29 dX5_worst_175 hf (fun v54 hf => ?_)
          refine xj_iload_n hC dX5_worst_178 rfl 4 rfl ?_
          refine xb_iald hC dX5_worst_179 hf (fun v55 hf => ?_)
          refine xj_iload hC dX5_worst_180 0 rfl ?_
          obtain ⟨v57, hc56, hf⟩ := xm_bind hf
          obtain ⟨_, hob, _⟩ := xm_bind hc56
          refine xj_retl (xr_V hC (mX5_unitsOf l D ks b hc56) hob rfl xw_cod_X5_unitsOf xw_ini_X5 xw_ins_X5_unitsOf xw_sel_X5_unitsOf xw_ml_X5_135 xds_X5_unitsOf ⟨Nat.le_of_ble_eq_true rfl, Nat.le_of_ble_eq_true rfl⟩ rfl rfl (Nat.le_of_ble_eq_true rfl) ⟨Nat.le_of_ble_eq_true rfl, Nat.le_of_ble_eq_true rfl⟩ dX5_worst_182) ?_
          refine xj_bipush (v := 20) hC dX5_worst_185 (by decide) ?_
          refine xj_aload_n hC dX5_worst_187 rfl 2 rfl ?_
          refine xj_aload_n hC dX5_worst_188 rfl 2 rfl ?_
          refine xb_getR hC 5 7 xcl_5 (by decide) xw_fl_X5_29 dX5_worst_189 hf (fun v58 hf => ?_)
          refine xj_iload_n hC dX5_worst_192 rfl 4 rfl ?_
          refine xb_iald hC dX5_worst_193 hf (fun v59 hf => ?_)
          obtain ⟨v61, hc60, hf⟩ := xm_bind hf
          obtain ⟨_, hob, _⟩ := xm_bind hc60
          refine xj_reti (xr_V hC (mX5_scale l D ks b hc60) hob rfl xw_cod_X5_scale xw_ini_X5 xw_ins_X5_scale xw_sel_X5_scale xw_ml_X5_127 xds_X5_scale ⟨Nat.le_of_ble_eq_true rfl, Nat.le_of_ble_eq_true rfl⟩ rfl rfl (Nat.le_of_ble_eq_true rfl) ⟨Nat.le_of_ble_eq_true rfl, Nat.le_of_ble_eq_true rfl⟩ dX5_worst_194) ?_
          refine xj_isub hC dX5_worst_197 ?_
          refine xj_lshl hC dX5_worst_198 ?_
          refine xj_lsub hC dX5_worst_199 ?_
          refine xj_lstore (lv' := [(12, xL ((v49 <<< ((((20 : Int32) - v53)).toInt64 &&& 63)) - (v57 <<< ((((20 : Int32) - v61)).toInt64 &&& 63)))), (11, xI v37), (10, xI v35), (0, xR p0), (1, xI p1), (2, xI p2), (3, xI p3), (4, xI p4), (5, xL p5), (7, xI p7), (8, xI p8), (9, xI p9)]) hC dX5_worst_200 (by decide) rfl ?_
          refine xj_lload hC dX5_worst_202 0 rfl ?_
          refine xj_lconst (v := 0) hC dX5_worst_204 (by decide) ?_
          refine xj_lcmp hC dX5_worst_205 ?_
          refine xb_if_ge (tgt := 215) hC dX5_worst_206 (by decide) hf (fun hf => ?_) (fun hf => ?_)
          · refine xj_lload hC dX5_worst_215 0 rfl ?_
            refine xj_lstore (lv' := [(12, xL ((v49 <<< ((((20 : Int32) - v53)).toInt64 &&& 63)) - (v57 <<< ((((20 : Int32) - v61)).toInt64 &&& 63)))), (11, xI v37), (10, xI v35), (0, xR p0), (1, xI p1), (2, xI p2), (3, xI p3), (4, xI p4), (5, xL p5), (7, xI p7), (8, xI p8), (9, xI p9)]) hC dX5_worst_217 (by decide) rfl ?_
            refine xj_iload hC dX5_worst_219 9 rfl ?_
            refine xj_lload hC dX5_worst_221 0 rfl ?_
            refine xj_lconst (v := 0) hC dX5_worst_223 (by decide) ?_
            refine xj_lcmp hC dX5_worst_224 ?_
            refine xj_dia (cnd := (lg_cmp ((v49 <<< ((((20 : Int32) - v53)).toInt64 &&& 63)) - (v57 <<< ((((20 : Int32) - v61)).toInt64 &&& 63))) (0 : Int64)) ≤ 0) (x := 0) (y := 1) (pc2 := 233) (st2 := [xI p7]) (fun hc hk => ?_) (fun hc hk => ?_) ?_
            · exact xj_if_le (tgt := 232) hC dX5_worst_225 (by decide) (fun _ => xj_iconst (v := 0) hC dX5_worst_232 (by decide) hk) (fun hn => absurd hc hn)
            · exact xj_if_le (tgt := 232) hC dX5_worst_225 (by decide) (fun hn => absurd hn hc) (fun _ => xj_iconst (v := 1) hC dX5_worst_228 (by decide) (xj_goto (tgt := 233) hC dX5_worst_229 (by decide) hk))
            refine xj_iadd hC dX5_worst_233 ?_
            refine xj_istore (lv' := [(7, xI (p7 + (if (lg_cmp ((v49 <<< ((((20 : Int32) - v53)).toInt64 &&& 63)) - (v57 <<< ((((20 : Int32) - v61)).toInt64 &&& 63))) (0 : Int64)) ≤ 0 then (0 : Int32) else (1 : Int32)))), (12, xL ((v49 <<< ((((20 : Int32) - v53)).toInt64 &&& 63)) - (v57 <<< ((((20 : Int32) - v61)).toInt64 &&& 63)))), (11, xI v37), (10, xI v35), (0, xR p0), (1, xI p1), (2, xI p2), (3, xI p3), (4, xI p4), (5, xL p5), (8, xI p8), (9, xI p9)]) hC dX5_worst_234 (by decide) rfl ?_
            refine xj_lload hC dX5_worst_236 1 rfl ?_
            refine xj_lload hC dX5_worst_238 9 rfl ?_
            refine xj_lcmp hC dX5_worst_240 ?_
            refine xb_if_le (tgt := 249) hC dX5_worst_241 (by decide) hf (fun hf => ?_) (fun hf => ?_)
            · refine xj_iload hC dX5_worst_249 8 rfl ?_
              refine xj_istore (lv' := [(4, xI p4), (7, xI (p7 + (if (lg_cmp ((v49 <<< ((((20 : Int32) - v53)).toInt64 &&& 63)) - (v57 <<< ((((20 : Int32) - v61)).toInt64 &&& 63))) (0 : Int64)) ≤ 0 then (0 : Int32) else (1 : Int32)))), (12, xL ((v49 <<< ((((20 : Int32) - v53)).toInt64 &&& 63)) - (v57 <<< ((((20 : Int32) - v61)).toInt64 &&& 63)))), (11, xI v37), (10, xI v35), (0, xR p0), (1, xI p1), (2, xI p2), (3, xI p3), (5, xL p5), (8, xI p8), (9, xI p9)]) hC dX5_worst_251 (by decide) rfl ?_
              refine xj_lload hC dX5_worst_253 2 rfl ?_
              refine xj_lload hC dX5_worst_255 9 rfl ?_
              refine xj_lcmp hC dX5_worst_257 ?_
              refine xb_if_le (tgt := 266) hC dX5_worst_258 (by decide) hf (fun hf => ?_) (fun hf => ?_)
              · refine xj_lload hC dX5_worst_266 9 rfl ?_
                refine xj_lstore (lv' := [(5, xL p5), (4, xI p4), (7, xI (p7 + (if (lg_cmp ((v49 <<< ((((20 : Int32) - v53)).toInt64 &&& 63)) - (v57 <<< ((((20 : Int32) - v61)).toInt64 &&& 63))) (0 : Int64)) ≤ 0 then (0 : Int32) else (1 : Int32)))), (12, xL ((v49 <<< ((((20 : Int32) - v53)).toInt64 &&& 63)) - (v57 <<< ((((20 : Int32) - v61)).toInt64 &&& 63)))), (11, xI v37), (10, xI v35), (0, xR p0), (1, xI p1), (2, xI p2), (3, xI p3), (8, xI p8), (9, xI p9)]) hC dX5_worst_268 (by decide) rfl ?_
                refine xj_iinc (v := (p9 + (1 : Int32))) (lv' := [(9, xI (p9 + (1 : Int32))), (5, xL p5), (4, xI p4), (7, xI (p7 + (if (lg_cmp ((v49 <<< ((((20 : Int32) - v53)).toInt64 &&& 63)) - (v57 <<< ((((20 : Int32) - v61)).toInt64 &&& 63))) (0 : Int64)) ≤ 0 then (0 : Int32) else (1 : Int32)))), (12, xL ((v49 <<< ((((20 : Int32) - v53)).toInt64 &&& 63)) - (v57 <<< ((((20 : Int32) - v61)).toInt64 &&& 63)))), (11, xI v37), (10, xI v35), (0, xR p0), (1, xI p1), (2, xI p2), (3, xI p3), (8, xI p8)]) hC dX5_worst_270 11 rfl rfl (by decide) rfl ?_
                refine xj_goto (tgt := 72) hC dX5_worst_273 (by decide) ?_
                refine xj_lv [7, 8, 9, 10, 2, 1, 3, 11, 0] rfl ?_
                exact ih w (p0) (p1) (p2) (p3) (p4) (p5) ((p7 + (if (lg_cmp ((v49 <<< ((((20 : Int32) - v53)).toInt64 &&& 63)) - (v57 <<< ((((20 : Int32) - v61)).toInt64 &&& 63))) (0 : Int64)) ≤ 0 then (0 : Int32) else (1 : Int32)))) (p8) ((p9 + (1 : Int32)))  hf
              · refine xj_lload hC dX5_worst_261 2 rfl ?_
                refine xj_goto (tgt := 268) hC dX5_worst_263 (by decide) ?_
                refine xj_lstore (lv' := [(5, xL ((v49 <<< ((((20 : Int32) - v53)).toInt64 &&& 63)) - (v57 <<< ((((20 : Int32) - v61)).toInt64 &&& 63)))), (4, xI p4), (7, xI (p7 + (if (lg_cmp ((v49 <<< ((((20 : Int32) - v53)).toInt64 &&& 63)) - (v57 <<< ((((20 : Int32) - v61)).toInt64 &&& 63))) (0 : Int64)) ≤ 0 then (0 : Int32) else (1 : Int32)))), (12, xL ((v49 <<< ((((20 : Int32) - v53)).toInt64 &&& 63)) - (v57 <<< ((((20 : Int32) - v61)).toInt64 &&& 63)))), (11, xI v37), (10, xI v35), (0, xR p0), (1, xI p1), (2, xI p2), (3, xI p3), (8, xI p8), (9, xI p9)]) hC dX5_worst_268 (by decide) rfl ?_
                refine xj_iinc (v := (p9 + (1 : Int32))) (lv' := [(9, xI (p9 + (1 : Int32))), (5, xL ((v49 <<< ((((20 : Int32) - v53)).toInt64 &&& 63)) - (v57 <<< ((((20 : Int32) - v61)).toInt64 &&& 63)))), (4, xI p4), (7, xI (p7 + (if (lg_cmp ((v49 <<< ((((20 : Int32) - v53)).toInt64 &&& 63)) - (v57 <<< ((((20 : Int32) - v61)).toInt64 &&& 63))) (0 : Int64)) ≤ 0 then (0 : Int32) else (1 : Int32)))), (12, xL ((v49 <<< ((((20 : Int32) - v53)).toInt64 &&& 63)) - (v57 <<< ((((20 : Int32) - v61)).toInt64 &&& 63)))), (11, xI v37), (10, xI v35), (0, xR p0), (1, xI p1), (2, xI p2), (3, xI p3), (8, xI p8)]) hC dX5_worst_270 11 rfl rfl (by decide) rfl ?_
                refine xj_goto (tgt := 72) hC dX5_worst_273 (by decide) ?_
                refine xj_lv [7, 8, 9, 10, 2, 1, 3, 11, 0] rfl ?_
                exact ih w (p0) (p1) (p2) (p3) (p4) (((v49 <<< ((((20 : Int32) - v53)).toInt64 &&& 63)) - (v57 <<< ((((20 : Int32) - v61)).toInt64 &&& 63)))) ((p7 + (if (lg_cmp ((v49 <<< ((((20 : Int32) - v53)).toInt64 &&& 63)) - (v57 <<< ((((20 : Int32) - v61)).toInt64 &&& 63))) (0 : Int64)) ≤ 0 then (0 : Int32) else (1 : Int32)))) (p8) ((p9 + (1 : Int32)))  hf
            · refine xj_iload hC dX5_worst_244 11 rfl ?_
              refine xj_goto (tgt := 251) hC dX5_worst_246 (by decide) ?_
              refine xj_istore (lv' := [(4, xI p9), (7, xI (p7 + (if (lg_cmp ((v49 <<< ((((20 : Int32) - v53)).toInt64 &&& 63)) - (v57 <<< ((((20 : Int32) - v61)).toInt64 &&& 63))) (0 : Int64)) ≤ 0 then (0 : Int32) else (1 : Int32)))), (12, xL ((v49 <<< ((((20 : Int32) - v53)).toInt64 &&& 63)) - (v57 <<< ((((20 : Int32) - v61)).toInt64 &&& 63)))), (11, xI v37), (10, xI v35), (0, xR p0), (1, xI p1), (2, xI p2), (3, xI p3), (5, xL p5), (8, xI p8), (9, xI p9)]) hC dX5_worst_251 (by decide) rfl ?_
              refine xj_lload hC dX5_worst_253 2 rfl ?_
              refine xj_lload hC dX5_worst_255 9 rfl ?_
              refine xj_lcmp hC dX5_worst_257 ?_
              refine xb_if_le (tgt := 266) hC dX5_worst_258 (by decide) hf (fun hf => ?_) (fun hf => ?_)
              · refine xj_lload hC dX5_worst_266 9 rfl ?_
                refine xj_lstore (lv' := [(5, xL p5), (4, xI p9), (7, xI (p7 + (if (lg_cmp ((v49 <<< ((((20 : Int32) - v53)).toInt64 &&& 63)) - (v57 <<< ((((20 : Int32) - v61)).toInt64 &&& 63))) (0 : Int64)) ≤ 0 then (0 : Int32) else (1 : Int32)))), (12, xL ((v49 <<< ((((20 : Int32) - v53)).toInt64 &&& 63)) - (v57 <<< ((((20 : Int32) - v61)).toInt64 &&& 63)))), (11, xI v37), (10, xI v35), (0, xR p0), (1, xI p1), (2, xI p2), (3, xI p3), (8, xI p8), (9, xI p9)]) hC dX5_worst_268 (by decide) rfl ?_
                refine xj_iinc (v := (p9 + (1 : Int32))) (lv' := [(9, xI (p9 + (1 : Int32))), (5, xL p5), (4, xI p9), (7, xI (p7 + (if (lg_cmp ((v49 <<< ((((20 : Int32) - v53)).toInt64 &&& 63)) - (v57 <<< ((((20 : Int32) - v61)).toInt64 &&& 63))) (0 : Int64)) ≤ 0 then (0 : Int32) else (1 : Int32)))), (12, xL ((v49 <<< ((((20 : Int32) - v53)).toInt64 &&& 63)) - (v57 <<< ((((20 : Int32) - v61)).toInt64 &&& 63)))), (11, xI v37), (10, xI v35), (0, xR p0), (1, xI p1), (2, xI p2), (3, xI p3), (8, xI p8)]) hC dX5_worst_270 11 rfl rfl (by decide) rfl ?_
                refine xj_goto (tgt := 72) hC dX5_worst_273 (by decide) ?_
                refine xj_lv [7, 8, 9, 10, 2, 1, 3, 11, 0] rfl ?_
                exact ih w (p0) (p1) (p2) (p3) (p9) (p5) ((p7 + (if (lg_cmp ((v49 <<< ((((20 : Int32) - v53)).toInt64 &&& 63)) - (v57 <<< ((((20 : Int32) - v61)).toInt64 &&& 63))) (0 : Int64)) ≤ 0 then (0 : Int32) else (1 : Int32)))) (p8) ((p9 + (1 : Int32)))  hf
              · refine xj_lload hC dX5_worst_261 2 rfl ?_
                refine xj_goto (tgt := 268) hC dX5_worst_263 (by decide) ?_
                refine xj_lstore (lv' := [(5, xL ((v49 <<< ((((20 : Int32) - v53)).toInt64 &&& 63)) - (v57 <<< ((((20 : Int32) - v61)).toInt64 &&& 63)))), (4, xI p9), (7, xI (p7 + (if (lg_cmp ((v49 <<< ((((20 : Int32) - v53)).toInt64 &&& 63)) - (v57 <<< ((((20 : Int32) - v61)).toInt64 &&& 63))) (0 : Int64)) ≤ 0 then (0 : Int32) else (1 : Int32)))), (12, xL ((v49 <<< ((((20 : Int32) - v53)).toInt64 &&& 63)) - (v57 <<< ((((20 : Int32) - v61)).toInt64 &&& 63)))), (11, xI v37), (10, xI v35), (0, xR p0), (1, xI p1), (2, xI p2), (3, xI p3), (8, xI p8), (9, xI p9)]) hC dX5_worst_268 (by decide) rfl ?_
                refine xj_iinc (v := (p9 + (1 : Int32))) (lv' := [(9, xI (p9 + (1 : Int32))), (5, xL ((v49 <<< ((((20 : Int32) - v53)).toInt64 &&& 63)) - (v57 <<< ((((20 : Int32) - v61)).toInt64 &&& 63)))), (4, xI p9), (7, xI (p7 + (if (lg_cmp ((v49 <<< ((((20 : Int32) - v53)).toInt64 &&& 63)) - (v57 <<< ((((20 : Int32) - v61)).toInt64 &&& 63))) (0 : Int64)) ≤ 0 then (0 : Int32) else (1 : Int32)))), (12, xL ((v49 <<< ((((20 : Int32) - v53)).toInt64 &&& 63)) - (v57 <<< ((((20 : Int32) - v61)).toInt64 &&& 63)))), (11, xI v37), (10, xI v35), (0, xR p0), (1, xI p1), (2, xI p2), (3, xI p3), (8, xI p8)]) hC dX5_worst_270 11 rfl rfl (by decide) rfl ?_
                refine xj_goto (tgt := 72) hC dX5_worst_273 (by decide) ?_
                refine xj_lv [7, 8, 9, 10, 2, 1, 3, 11, 0] rfl ?_
                exact ih w (p0) (p1) (p2) (p3) (p9) (((v49 <<< ((((20 : Int32) - v53)).toInt64 &&& 63)) - (v57 <<< ((((20 : Int32) - v61)).toInt64 &&& 63)))) ((p7 + (if (lg_cmp ((v49 <<< ((((20 : Int32) - v53)).toInt64 &&& 63)) - (v57 <<< ((((20 : Int32) - v61)).toInt64 &&& 63))) (0 : Int64)) ≤ 0 then (0 : Int32) else (1 : Int32)))) (p8) ((p9 + (1 : Int32)))  hf
          · refine xj_lload hC dX5_worst_209 0 rfl ?_
            refine xj_lneg hC dX5_worst_211 ?_
            refine xj_goto (tgt := 217) hC dX5_worst_212 (by decide) ?_
            refine xj_lstore (lv' := [(12, xL (-((v49 <<< ((((20 : Int32) - v53)).toInt64 &&& 63)) - (v57 <<< ((((20 : Int32) - v61)).toInt64 &&& 63))))), (11, xI v37), (10, xI v35), (0, xR p0), (1, xI p1), (2, xI p2), (3, xI p3), (4, xI p4), (5, xL p5), (7, xI p7), (8, xI p8), (9, xI p9)]) hC dX5_worst_217 (by decide) rfl ?_
            refine xj_iload hC dX5_worst_219 9 rfl ?_
            refine xj_lload hC dX5_worst_221 0 rfl ?_
            refine xj_lconst (v := 0) hC dX5_worst_223 (by decide) ?_
            refine xj_lcmp hC dX5_worst_224 ?_
            refine xj_dia (cnd := (lg_cmp (-((v49 <<< ((((20 : Int32) - v53)).toInt64 &&& 63)) - (v57 <<< ((((20 : Int32) - v61)).toInt64 &&& 63)))) (0 : Int64)) ≤ 0) (x := 0) (y := 1) (pc2 := 233) (st2 := [xI p7]) (fun hc hk => ?_) (fun hc hk => ?_) ?_
            · exact xj_if_le (tgt := 232) hC dX5_worst_225 (by decide) (fun _ => xj_iconst (v := 0) hC dX5_worst_232 (by decide) hk) (fun hn => absurd hc hn)
            · exact xj_if_le (tgt := 232) hC dX5_worst_225 (by decide) (fun hn => absurd hn hc) (fun _ => xj_iconst (v := 1) hC dX5_worst_228 (by decide) (xj_goto (tgt := 233) hC dX5_worst_229 (by decide) hk))
            refine xj_iadd hC dX5_worst_233 ?_
            refine xj_istore (lv' := [(7, xI (p7 + (if (lg_cmp (-((v49 <<< ((((20 : Int32) - v53)).toInt64 &&& 63)) - (v57 <<< ((((20 : Int32) - v61)).toInt64 &&& 63)))) (0 : Int64)) ≤ 0 then (0 : Int32) else (1 : Int32)))), (12, xL (-((v49 <<< ((((20 : Int32) - v53)).toInt64 &&& 63)) - (v57 <<< ((((20 : Int32) - v61)).toInt64 &&& 63))))), (11, xI v37), (10, xI v35), (0, xR p0), (1, xI p1), (2, xI p2), (3, xI p3), (4, xI p4), (5, xL p5), (8, xI p8), (9, xI p9)]) hC dX5_worst_234 (by decide) rfl ?_
            refine xj_lload hC dX5_worst_236 1 rfl ?_
            refine xj_lload hC dX5_worst_238 9 rfl ?_
            refine xj_lcmp hC dX5_worst_240 ?_
            refine xb_if_le (tgt := 249) hC dX5_worst_241 (by decide) hf (fun hf => ?_) (fun hf => ?_)
            · refine xj_iload hC dX5_worst_249 8 rfl ?_
              refine xj_istore (lv' := [(4, xI p4), (7, xI (p7 + (if (lg_cmp (-((v49 <<< ((((20 : Int32) - v53)).toInt64 &&& 63)) - (v57 <<< ((((20 : Int32) - v61)).toInt64 &&& 63)))) (0 : Int64)) ≤ 0 then (0 : Int32) else (1 : Int32)))), (12, xL (-((v49 <<< ((((20 : Int32) - v53)).toInt64 &&& 63)) - (v57 <<< ((((20 : Int32) - v61)).toInt64 &&& 63))))), (11, xI v37), (10, xI v35), (0, xR p0), (1, xI p1), (2, xI p2), (3, xI p3), (5, xL p5), (8, xI p8), (9, xI p9)]) hC dX5_worst_251 (by decide) rfl ?_
              refine xj_lload hC dX5_worst_253 2 rfl ?_
              refine xj_lload hC dX5_worst_255 9 rfl ?_
              refine xj_lcmp hC dX5_worst_257 ?_
              refine xb_if_le (tgt := 266) hC dX5_worst_258 (by decide) hf (fun hf => ?_) (fun hf => ?_)
              · refine xj_lload hC dX5_worst_266 9 rfl ?_
                refine xj_lstore (lv' := [(5, xL p5), (4, xI p4), (7, xI (p7 + (if (lg_cmp (-((v49 <<< ((((20 : Int32) - v53)).toInt64 &&& 63)) - (v57 <<< ((((20 : Int32) - v61)).toInt64 &&& 63)))) (0 : Int64)) ≤ 0 then (0 : Int32) else (1 : Int32)))), (12, xL (-((v49 <<< ((((20 : Int32) - v53)).toInt64 &&& 63)) - (v57 <<< ((((20 : Int32) - v61)).toInt64 &&& 63))))), (11, xI v37), (10, xI v35), (0, xR p0), (1, xI p1), (2, xI p2), (3, xI p3), (8, xI p8), (9, xI p9)]) hC dX5_worst_268 (by decide) rfl ?_
                refine xj_iinc (v := (p9 + (1 : Int32))) (lv' := [(9, xI (p9 + (1 : Int32))), (5, xL p5), (4, xI p4), (7, xI (p7 + (if (lg_cmp (-((v49 <<< ((((20 : Int32) - v53)).toInt64 &&& 63)) - (v57 <<< ((((20 : Int32) - v61)).toInt64 &&& 63)))) (0 : Int64)) ≤ 0 then (0 : Int32) else (1 : Int32)))), (12, xL (-((v49 <<< ((((20 : Int32) - v53)).toInt64 &&& 63)) - (v57 <<< ((((20 : Int32) - v61)).toInt64 &&& 63))))), (11, xI v37), (10, xI v35), (0, xR p0), (1, xI p1), (2, xI p2), (3, xI p3), (8, xI p8)]) hC dX5_worst_270 11 rfl rfl (by decide) rfl ?_
                refine xj_goto (tgt := 72) hC dX5_worst_273 (by decide) ?_
                refine xj_lv [7, 8, 9, 10, 2, 1, 3, 11, 0] rfl ?_
                exact ih w (p0) (p1) (p2) (p3) (p4) (p5) ((p7 + (if (lg_cmp (-((v49 <<< ((((20 : Int32) - v53)).toInt64 &&& 63)) - (v57 <<< ((((20 : Int32) - v61)).toInt64 &&& 63)))) (0 : Int64)) ≤ 0 then (0 : Int32) else (1 : Int32)))) (p8) ((p9 + (1 : Int32)))  hf
              · refine xj_lload hC dX5_worst_261 2 rfl ?_
                refine xj_goto (tgt := 268) hC dX5_worst_263 (by decide) ?_
                refine xj_lstore (lv' := [(5, xL (-((v49 <<< ((((20 : Int32) - v53)).toInt64 &&& 63)) - (v57 <<< ((((20 : Int32) - v61)).toInt64 &&& 63))))), (4, xI p4), (7, xI (p7 + (if (lg_cmp (-((v49 <<< ((((20 : Int32) - v53)).toInt64 &&& 63)) - (v57 <<< ((((20 : Int32) - v61)).toInt64 &&& 63)))) (0 : Int64)) ≤ 0 then (0 : Int32) else (1 : Int32)))), (12, xL (-((v49 <<< ((((20 : Int32) - v53)).toInt64 &&& 63)) - (v57 <<< ((((20 : Int32) - v61)).toInt64 &&& 63))))), (11, xI v37), (10, xI v35), (0, xR p0), (1, xI p1), (2, xI p2), (3, xI p3), (8, xI p8), (9, xI p9)]) hC dX5_worst_268 (by decide) rfl ?_
                refine xj_iinc (v := (p9 + (1 : Int32))) (lv' := [(9, xI (p9 + (1 : Int32))), (5, xL (-((v49 <<< ((((20 : Int32) - v53)).toInt64 &&& 63)) - (v57 <<< ((((20 : Int32) - v61)).toInt64 &&& 63))))), (4, xI p4), (7, xI (p7 + (if (lg_cmp (-((v49 <<< ((((20 : Int32) - v53)).toInt64 &&& 63)) - (v57 <<< ((((20 : Int32) - v61)).toInt64 &&& 63)))) (0 : Int64)) ≤ 0 then (0 : Int32) else (1 : Int32)))), (12, xL (-((v49 <<< ((((20 : Int32) - v53)).toInt64 &&& 63)) - (v57 <<< ((((20 : Int32) - v61)).toInt64 &&& 63))))), (11, xI v37), (10, xI v35), (0, xR p0), (1, xI p1), (2, xI p2), (3, xI p3), (8, xI p8)]) hC dX5_worst_270 11 rfl rfl (by decide) rfl ?_
                refine xj_goto (tgt := 72) hC dX5_worst_273 (by decide) ?_
                refine xj_lv [7, 8, 9, 10, 2, 1, 3, 11, 0] rfl ?_
                exact ih w (p0) (p1) (p2) (p3) (p4) ((-((v49 <<< ((((20 : Int32) - v53)).toInt64 &&& 63)) - (v57 <<< ((((20 : Int32) - v61)).toInt64 &&& 63))))) ((p7 + (if (lg_cmp (-((v49 <<< ((((20 : Int32) - v53)).toInt64 &&& 63)) - (v57 <<< ((((20 : Int32) - v61)).toInt64 &&& 63)))) (0 : Int64)) ≤ 0 then (0 : Int32) else (1 : Int32)))) (p8) ((p9 + (1 : Int32)))  hf
            · refine xj_iload hC dX5_worst_244 11 rfl ?_
              refine xj_goto (tgt := 251) hC dX5_worst_246 (by decide) ?_
              refine xj_istore (lv' := [(4, xI p9), (7, xI (p7 + (if (lg_cmp (-((v49 <<< ((((20 : Int32) - v53)).toInt64 &&& 63)) - (v57 <<< ((((20 : Int32) - v61)).toInt64 &&& 63)))) (0 : Int64)) ≤ 0 then (0 : Int32) else (1 : Int32)))), (12, xL (-((v49 <<< ((((20 : Int32) - v53)).toInt64 &&& 63)) - (v57 <<< ((((20 : Int32) - v61)).toInt64 &&& 63))))), (11, xI v37), (10, xI v35), (0, xR p0), (1, xI p1), (2, xI p2), (3, xI p3), (5, xL p5), (8, xI p8), (9, xI p9)]) hC dX5_worst_251 (by decide) rfl ?_
              refine xj_lload hC dX5_worst_253 2 rfl ?_
              refine xj_lload hC dX5_worst_255 9 rfl ?_
              refine xj_lcmp hC dX5_worst_257 ?_
              refine xb_if_le (tgt := 266) hC dX5_worst_258 (by decide) hf (fun hf => ?_) (fun hf => ?_)
              · refine xj_lload hC dX5_worst_266 9 rfl ?_
                refine xj_lstore (lv' := [(5, xL p5), (4, xI p9), (7, xI (p7 + (if (lg_cmp (-((v49 <<< ((((20 : Int32) - v53)).toInt64 &&& 63)) - (v57 <<< ((((20 : Int32) - v61)).toInt64 &&& 63)))) (0 : Int64)) ≤ 0 then (0 : Int32) else (1 : Int32)))), (12, xL (-((v49 <<< ((((20 : Int32) - v53)).toInt64 &&& 63)) - (v57 <<< ((((20 : Int32) - v61)).toInt64 &&& 63))))), (11, xI v37), (10, xI v35), (0, xR p0), (1, xI p1), (2, xI p2), (3, xI p3), (8, xI p8), (9, xI p9)]) hC dX5_worst_268 (by decide) rfl ?_
                refine xj_iinc (v := (p9 + (1 : Int32))) (lv' := [(9, xI (p9 + (1 : Int32))), (5, xL p5), (4, xI p9), (7, xI (p7 + (if (lg_cmp (-((v49 <<< ((((20 : Int32) - v53)).toInt64 &&& 63)) - (v57 <<< ((((20 : Int32) - v61)).toInt64 &&& 63)))) (0 : Int64)) ≤ 0 then (0 : Int32) else (1 : Int32)))), (12, xL (-((v49 <<< ((((20 : Int32) - v53)).toInt64 &&& 63)) - (v57 <<< ((((20 : Int32) - v61)).toInt64 &&& 63))))), (11, xI v37), (10, xI v35), (0, xR p0), (1, xI p1), (2, xI p2), (3, xI p3), (8, xI p8)]) hC dX5_worst_270 11 rfl rfl (by decide) rfl ?_
                refine xj_goto (tgt := 72) hC dX5_worst_273 (by decide) ?_
                refine xj_lv [7, 8, 9, 10, 2, 1, 3, 11, 0] rfl ?_
                exact ih w (p0) (p1) (p2) (p3) (p9) (p5) ((p7 + (if (lg_cmp (-((v49 <<< ((((20 : Int32) - v53)).toInt64 &&& 63)) - (v57 <<< ((((20 : Int32) - v61)).toInt64 &&& 63)))) (0 : Int64)) ≤ 0 then (0 : Int32) else (1 : Int32)))) (p8) ((p9 + (1 : Int32)))  hf
              · refine xj_lload hC dX5_worst_261 2 rfl ?_
                refine xj_goto (tgt := 268) hC dX5_worst_263 (by decide) ?_
                refine xj_lstore (lv' := [(5, xL (-((v49 <<< ((((20 : Int32) - v53)).toInt64 &&& 63)) - (v57 <<< ((((20 : Int32) - v61)).toInt64 &&& 63))))), (4, xI p9), (7, xI (p7 + (if (lg_cmp (-((v49 <<< ((((20 : Int32) - v53)).toInt64 &&& 63)) - (v57 <<< ((((20 : Int32) - v61)).toInt64 &&& 63)))) (0 : Int64)) ≤ 0 then (0 : Int32) else (1 : Int32)))), (12, xL (-((v49 <<< ((((20 : Int32) - v53)).toInt64 &&& 63)) - (v57 <<< ((((20 : Int32) - v61)).toInt64 &&& 63))))), (11, xI v37), (10, xI v35), (0, xR p0), (1, xI p1), (2, xI p2), (3, xI p3), (8, xI p8), (9, xI p9)]) hC dX5_worst_268 (by decide) rfl ?_
                refine xj_iinc (v := (p9 + (1 : Int32))) (lv' := [(9, xI (p9 + (1 : Int32))), (5, xL (-((v49 <<< ((((20 : Int32) - v53)).toInt64 &&& 63)) - (v57 <<< ((((20 : Int32) - v61)).toInt64 &&& 63))))), (4, xI p9), (7, xI (p7 + (if (lg_cmp (-((v49 <<< ((((20 : Int32) - v53)).toInt64 &&& 63)) - (v57 <<< ((((20 : Int32) - v61)).toInt64 &&& 63)))) (0 : Int64)) ≤ 0 then (0 : Int32) else (1 : Int32)))), (12, xL (-((v49 <<< ((((20 : Int32) - v53)).toInt64 &&& 63)) - (v57 <<< ((((20 : Int32) - v61)).toInt64 &&& 63))))), (11, xI v37), (10, xI v35), (0, xR p0), (1, xI p1), (2, xI p2), (3, xI p3), (8, xI p8)]) hC dX5_worst_270 11 rfl rfl (by decide) rfl ?_
                refine xj_goto (tgt := 72) hC dX5_worst_273 (by decide) ?_
                refine xj_lv [7, 8, 9, 10, 2, 1, 3, 11, 0] rfl ?_
                exact ih w (p0) (p1) (p2) (p3) (p9) ((-((v49 <<< ((((20 : Int32) - v53)).toInt64 &&& 63)) - (v57 <<< ((((20 : Int32) - v61)).toInt64 &&& 63))))) ((p7 + (if (lg_cmp (-((v49 <<< ((((20 : Int32) - v53)).toInt64 &&& 63)) - (v57 <<< ((((20 : Int32) - v61)).toInt64 &&& 63)))) (0 : Int64)) ≤ 0 then (0 : Int32) else (1 : Int32)))) (p8) ((p9 + (1 : Int32)))  hf
        · refine xj_iinc (v := (p8 + (1 : Int32))) (lv' := [(8, xI (p8 + (1 : Int32))), (11, xI v37), (10, xI v35), (0, xR p0), (1, xI p1), (2, xI p2), (3, xI p3), (4, xI p4), (5, xL p5), (7, xI p7), (9, xI p9)]) hC dX5_worst_141 9 rfl rfl (by decide) rfl ?_
          refine xj_goto (tgt := 270) hC dX5_worst_144 (by decide) ?_
          refine xj_iinc (v := (p9 + (1 : Int32))) (lv' := [(9, xI (p9 + (1 : Int32))), (8, xI (p8 + (1 : Int32))), (11, xI v37), (10, xI v35), (0, xR p0), (1, xI p1), (2, xI p2), (3, xI p3), (4, xI p4), (5, xL p5), (7, xI p7)]) hC dX5_worst_270 10 rfl rfl (by decide) rfl ?_
          refine xj_goto (tgt := 72) hC dX5_worst_273 (by decide) ?_
          refine xj_lv [4, 5, 6, 7, 8, 9, 10, 1, 0] rfl ?_
          exact ih w (p0) (p1) (p2) (p3) (p4) (p5) (p7) ((p8 + (1 : Int32))) ((p9 + (1 : Int32)))  hf
def fX5_worst (w : xmW) (th : (Option Nat)) (a1 : Int32) (a2 : Int32) (a3 : Int32) : Option (Int32 × xmW) := ((xmob w th 5).bind fun _ => ((fX5_isRow w (th) (a1)).bind fun v2 => (if v2 = 0 then (xmb2 (fX5_refused w (th) ((-1 : Int32))) fun v4 w5 => (some (v4, w5))) else ((fX5_isRow w (th) (a2)).bind fun v7 => (if v7 = 0 then (xmb2 (fX5_refused w (th) ((-1 : Int32))) fun v9 w10 => (some (v9, w10))) else ((fX5_in w ((a3).toInt64) ((0 : Int64)) ((2 : Int64))).bind fun v12 => (if v12 = 0 then (xmb2 (fX5_refused w (th) ((-1 : Int32))) fun v21 w22 => (some (v21, w22))) else ((xmgR w th 5 8).bind fun v13 => ((xmild w v13 0 a1).bind fun v14 => ((xmgR w th 5 8).bind fun v15 => ((xmild w v15 0 a2).bind fun v16 => (if v14 = v16 then (fX5_worst_L72 xmN w (th) (a1) (a2) (a3) ((-9 : Int32)) ((0 : Int64)) ((0 : Int32)) ((0 : Int32)) ((0 : Int32)) ) else (xmb2 (fX5_refused w (th) ((-2 : Int32))) fun v18 w19 => (some (v18, w19)))))))))))))))
set_option maxHeartbeats 4000000 in
set_option maxRecDepth 100000 in
theorem mX5_worst (l : Launch) (D : va_G) (ks : Nat → ClassId) (b : Nat) {w : xmW} {th : (Option Nat)} {a1 : Int32} {a2 : Int32} {a3 : Int32} {y : Int32} {wz : xmW} (hf : fX5_worst w th a1 a2 a3 = some (y, wz)) : xmM l yX5_worst (Cond.code yX5_worst cX5_worst 14 (some (FieldType.int)) :: xmTs) 4 89 0 0 D ks b w [xR th, xI a1, xI a2, xI a3] (some (xI y)) wz := by
  unfold fX5_worst at hf
  obtain ⟨_, _, hf⟩ := xm_bind hf
  refine xmM.of (own := RX5) (lv0 := [(0, xR th), (1, xI a1), (2, xI a2), (3, xI a3)]) (by decide) rfl (Nat.le_of_ble_eq_true rfl) rfl ?_
  intro p e s m args below meth c hC hr hnm
  refine xj_aload_n hC dX5_worst_0 rfl 0 rfl ?_
  refine xj_iload_n hC dX5_worst_1 rfl 1 rfl ?_
  obtain ⟨v2, hc1, hf⟩ := xm_bind hf
  obtain ⟨_, hob, _⟩ := xm_bind hc1
  refine xj_reti (xr_V hC (mX5_isRow l D ks b hc1) hob rfl xw_cod_X5_isRow xw_ini_X5 xw_ins_X5_isRow xw_sel_X5_isRow xw_ml_X5_257 xds_X5_isRow ⟨Nat.le_of_ble_eq_true rfl, Nat.le_of_ble_eq_true rfl⟩ rfl rfl (Nat.le_of_ble_eq_true rfl) ⟨Nat.le_of_ble_eq_true rfl, Nat.le_of_ble_eq_true rfl⟩ dX5_worst_2) ?_
  refine xb_if_eq (tgt := 28) hC dX5_worst_5 (by decide) hf (fun hf => ?_) (fun hf => ?_)
  · refine xj_aload_n hC dX5_worst_28 rfl 0 rfl ?_
    refine xj_iconst (v := -1) hC dX5_worst_29 (by decide) ?_
    obtain ⟨v4, w5, hc3, hf⟩ := xm_b2 hf
    obtain ⟨_, hob, _⟩ := xm_bind hc3
    refine xj_reti (xr_V hC (mX5_refused l D ks b hc3) hob rfl xw_cod_X5_refused xw_ini_X5 xw_ins_X5_refused xw_sel_X5_refused xw_ml_X5_57 xds_X5_refused ⟨Nat.le_of_ble_eq_true rfl, Nat.le_of_ble_eq_true rfl⟩ rfl rfl (Nat.le_of_ble_eq_true rfl) ⟨Nat.le_of_ble_eq_true rfl, Nat.le_of_ble_eq_true rfl⟩ dX5_worst_30) ?_
    obtain ⟨he, hw⟩ := Prod.mk.inj (Option.some.inj hf)
    exact xj_iret hC hr (by decide) (by decide) dX5_worst_33 he hw
  · refine xj_aload_n hC dX5_worst_8 rfl 0 rfl ?_
    refine xj_iload_n hC dX5_worst_9 rfl 2 rfl ?_
    obtain ⟨v7, hc6, hf⟩ := xm_bind hf
    obtain ⟨_, hob, _⟩ := xm_bind hc6
    refine xj_reti (xr_V hC (mX5_isRow l D ks b hc6) hob rfl xw_cod_X5_isRow xw_ini_X5 xw_ins_X5_isRow xw_sel_X5_isRow xw_ml_X5_257 xds_X5_isRow ⟨Nat.le_of_ble_eq_true rfl, Nat.le_of_ble_eq_true rfl⟩ rfl rfl (Nat.le_of_ble_eq_true rfl) ⟨Nat.le_of_ble_eq_true rfl, Nat.le_of_ble_eq_true rfl⟩ dX5_worst_10) ?_
    refine xb_if_eq (tgt := 28) hC dX5_worst_13 (by decide) hf (fun hf => ?_) (fun hf => ?_)
    · refine xj_aload_n hC dX5_worst_28 rfl 0 rfl ?_
      refine xj_iconst (v := -1) hC dX5_worst_29 (by decide) ?_
      obtain ⟨v9, w10, hc8, hf⟩ := xm_b2 hf
      obtain ⟨_, hob, _⟩ := xm_bind hc8
      refine xj_reti (xr_V hC (mX5_refused l D ks b hc8) hob rfl xw_cod_X5_refused xw_ini_X5 xw_ins_X5_refused xw_sel_X5_refused xw_ml_X5_57 xds_X5_refused ⟨Nat.le_of_ble_eq_true rfl, Nat.le_of_ble_eq_true rfl⟩ rfl rfl (Nat.le_of_ble_eq_true rfl) ⟨Nat.le_of_ble_eq_true rfl, Nat.le_of_ble_eq_true rfl⟩ dX5_worst_30) ?_
      obtain ⟨he, hw⟩ := Prod.mk.inj (Option.some.inj hf)
      exact xj_iret hC hr (by decide) (by decide) dX5_worst_33 he hw
    · refine xj_iload_n hC dX5_worst_16 rfl 3 rfl ?_
      refine xj_i2l hC dX5_worst_17 ?_
      refine xj_lconst (v := 0) hC dX5_worst_18 (by decide) ?_
      refine xj_ldc2 hC xw_cst_X5_90 dX5_worst_19 ?_
      obtain ⟨v12, hc11, hf⟩ := xm_bind hf
      refine xj_reti (xr_S hC (mX5_in l D ks b hc11) xw_cod_X5_in xw_ini_X5 xw_sta_X5_in xw_ml_X5_70 xds_X5_in ⟨Nat.le_of_ble_eq_true rfl, Nat.le_of_ble_eq_true rfl⟩ rfl rfl (Nat.le_of_ble_eq_true rfl) ⟨Nat.le_of_ble_eq_true rfl, Nat.le_of_ble_eq_true rfl⟩ dX5_worst_22) ?_
      refine xb_if_ne (tgt := 34) hC dX5_worst_25 (by decide) hf (fun hf => ?_) (fun hf => ?_)
      · refine xj_aload_n hC dX5_worst_34 rfl 0 rfl ?_
        refine xb_getR hC 5 8 xcl_5 (by decide) xw_fl_X5_32 dX5_worst_35 hf (fun v13 hf => ?_)
        refine xj_iload_n hC dX5_worst_38 rfl 1 rfl ?_
        refine xb_iald hC dX5_worst_39 hf (fun v14 hf => ?_)
        refine xj_aload_n hC dX5_worst_40 rfl 0 rfl ?_
        refine xb_getR hC 5 8 xcl_5 (by decide) xw_fl_X5_32 dX5_worst_41 hf (fun v15 hf => ?_)
        refine xj_iload_n hC dX5_worst_44 rfl 2 rfl ?_
        refine xb_iald hC dX5_worst_45 hf (fun v16 hf => ?_)
        refine xb_ic_eq (tgt := 56) hC dX5_worst_46 (by decide) hf (fun hf => ?_) (fun hf => ?_)
        · refine xj_bipush (v := -9) hC dX5_worst_56 (by decide) ?_
          refine xj_istore (lv' := [(4, xI (-9 : Int32)), (0, xR th), (1, xI a1), (2, xI a2), (3, xI a3)]) hC dX5_worst_58 (by decide) rfl ?_
          refine xj_lconst (v := 0) hC dX5_worst_60 (by decide) ?_
          refine xj_lstore (lv' := [(5, xL (0 : Int64)), (4, xI (-9 : Int32)), (0, xR th), (1, xI a1), (2, xI a2), (3, xI a3)]) hC dX5_worst_61 (by decide) rfl ?_
          refine xj_iconst (v := 0) hC dX5_worst_63 (by decide) ?_
          refine xj_istore (lv' := [(7, xI (0 : Int32)), (5, xL (0 : Int64)), (4, xI (-9 : Int32)), (0, xR th), (1, xI a1), (2, xI a2), (3, xI a3)]) hC dX5_worst_64 (by decide) rfl ?_
          refine xj_iconst (v := 0) hC dX5_worst_66 (by decide) ?_
          refine xj_istore (lv' := [(8, xI (0 : Int32)), (7, xI (0 : Int32)), (5, xL (0 : Int64)), (4, xI (-9 : Int32)), (0, xR th), (1, xI a1), (2, xI a2), (3, xI a3)]) hC dX5_worst_67 (by decide) rfl ?_
          refine xj_iconst (v := 0) hC dX5_worst_69 (by decide) ?_
          refine xj_istore (lv' := [(9, xI (0 : Int32)), (8, xI (0 : Int32)), (7, xI (0 : Int32)), (5, xL (0 : Int64)), (4, xI (-9 : Int32)), (0, xR th), (1, xI a1), (2, xI a2), (3, xI a3)]) hC dX5_worst_70 (by decide) rfl ?_
          refine xj_lv [5, 6, 7, 8, 4, 3, 2, 1, 0] rfl ?_
          exact lX5_worst_L72 hC hr  xmN w (th) (a1) (a2) (a3) ((-9 : Int32)) ((0 : Int64)) ((0 : Int32)) ((0 : Int32)) ((0 : Int32))  hf
        · refine xj_aload_n hC dX5_worst_49 rfl 0 rfl ?_
          refine xj_bipush (v := -2) hC dX5_worst_50 (by decide) ?_
          obtain ⟨v18, w19, hc17, hf⟩ := xm_b2 hf
          obtain ⟨_, hob, _⟩ := xm_bind hc17
          refine xj_reti (xr_V hC (mX5_refused l D ks b hc17) hob rfl xw_cod_X5_refused xw_ini_X5 xw_ins_X5_refused xw_sel_X5_refused xw_ml_X5_57 xds_X5_refused ⟨Nat.le_of_ble_eq_true rfl, Nat.le_of_ble_eq_true rfl⟩ rfl rfl (Nat.le_of_ble_eq_true rfl) ⟨Nat.le_of_ble_eq_true rfl, Nat.le_of_ble_eq_true rfl⟩ dX5_worst_52) ?_
          obtain ⟨he, hw⟩ := Prod.mk.inj (Option.some.inj hf)
          exact xj_iret hC hr (by decide) (by decide) dX5_worst_55 he hw
      · refine xj_aload_n hC dX5_worst_28 rfl 0 rfl ?_
        refine xj_iconst (v := -1) hC dX5_worst_29 (by decide) ?_
        obtain ⟨v21, w22, hc20, hf⟩ := xm_b2 hf
        obtain ⟨_, hob, _⟩ := xm_bind hc20
        refine xj_reti (xr_V hC (mX5_refused l D ks b hc20) hob rfl xw_cod_X5_refused xw_ini_X5 xw_ins_X5_refused xw_sel_X5_refused xw_ml_X5_57 xds_X5_refused ⟨Nat.le_of_ble_eq_true rfl, Nat.le_of_ble_eq_true rfl⟩ rfl rfl (Nat.le_of_ble_eq_true rfl) ⟨Nat.le_of_ble_eq_true rfl, Nat.le_of_ble_eq_true rfl⟩ dX5_worst_30) ?_
        obtain ⟨he, hw⟩ := Prod.mk.inj (Option.some.inj hf)
        exact xj_iret hC hr (by decide) (by decide) dX5_worst_33 he hw
def fX5_sum_L114 : Nat → xmW → (Option Nat) → Int32 → Int32 → Int32 → Int32 → Option (Int32 × xmW)
  | 0, _, _, _, _, _, _ => none
  | n + 1, w, p0, p1, p2, p4, p5 => ((xmgR w p0 5 8).bind fun v17 => ((xmild w v17 0 p1).bind fun v18 => (if v18 ≤ p5 then (if p2 = (3 : Int32) then ((xmgR w p0 5 8).bind fun v25 => ((xmild w v25 0 p1).bind fun v26 => (xmb2 (fX5_whatCame w (p0) (p4) ((1 : Int64)) (p2) ((if v26 ≤ 0 then (0 : Int32) else (1 : Int32)))) fun v28 w29 => (xmb2 (fX5_ends w29 (p0) (v28)) fun v31 w32 => (some (v31, w32)))))) else (xmb2 (fX5_whatCame w (p0) (p4) ((1 : Int64)) (p2) ((0 : Int32))) fun v20 w21 => (xmb2 (fX5_ends w21 (p0) (v20)) fun v23 w24 => (some (v23, w24))))) else ((xmgR w p0 5 9).bind fun v33 => ((xmild w v33 0 (((16 : Int32) * p1) + p5)).bind fun v34 => ((fX5_comes w (p0) (p4) (v34) ((1 : Int64))).bind fun w36 => (fX5_sum_L114 n w36 (p0) (p1) (p2) (p4) ((p5 + (1 : Int32))) )))))))
set_option maxHeartbeats 4000000 in
set_option maxRecDepth 100000 in
theorem lX5_sum_L114 {p : Program} {l : Launch} {e : Env} {s : State} {m : MethodId} {args : Array Value} {below : List Frame} {meth : Method} {c : Code} {D : va_G} {ks : Nat → ClassId} {b : Nat} (hC : xmC p s m args meth c D ks b 7 cX5_sum RX5) (hr : meth.sig.returnType = (some (FieldType.int))) {y : Int32} {wz : xmW} : ∀ (n : Nat) (w : xmW) (p0 : (Option Nat)) (p1 : Int32) (p2 : Int32) (p4 : Int32) (p5 : Int32), fX5_sum_L114 n w p0 p1 p2 p4 p5 = some (y, wz) → xmJ p l e ({ frames := 8, cells := 0, slots := 0, locals := 203 } : Room) s m args below meth c D ks b 7 (MQ below (xmQ D ks b (some (xI y)) wz) args s 0 0 (xmA b)) w 0 0 114 [(0, xR p0), (1, xI p1), (2, xI p2), (4, xI p4), (5, xI p5)] [] := by
  intro n
  induction n with
  | zero => intro w p0 p1 p2 p4 p5 hf; simp [fX5_sum_L114] at hf
  | succ n ih =>
    intro w p0 p1 p2 p4 p5 hf
    rw [fX5_sum_L114] at hf
    refine xj_iload hC dX5_sum_114 4 rfl ?_
    refine xj_aload_n hC dX5_sum_116 rfl 0 rfl ?_
    refine xb_getR hC 5 8 xcl_5 (by decide) xw_fl_X5_32 dX5_sum_117 hf (fun v17 hf => ?_)
    refine xj_iload_n hC dX5_sum_120 rfl 1 rfl ?_
    refine xb_iald hC dX5_sum_121 hf (fun v18 hf => ?_)
    refine xb_ic_ge (tgt := 150) hC dX5_sum_122 (by decide) hf (fun hf => ?_) (fun hf => ?_)
    · refine xj_aload_n hC dX5_sum_150 rfl 0 rfl ?_
      refine xj_aload_n hC dX5_sum_151 rfl 0 rfl ?_
      refine xj_iload hC dX5_sum_152 3 rfl ?_
      refine xj_lconst (v := 1) hC dX5_sum_154 (by decide) ?_
      refine xj_iload_n hC dX5_sum_155 rfl 2 rfl ?_
      refine xj_iload_n hC dX5_sum_156 rfl 2 rfl ?_
      refine xj_iconst (v := 3) hC dX5_sum_157 (by decide) ?_
      refine xb_ic_ne (tgt := 174) hC dX5_sum_158 (by decide) hf (fun hf => ?_) (fun hf => ?_)
      · refine xj_iconst (v := 0) hC dX5_sum_174 (by decide) ?_
        obtain ⟨v20, w21, hc19, hf⟩ := xm_b2 hf
        obtain ⟨_, hob, _⟩ := xm_bind hc19
        refine xj_reti (xr_V hC (mX5_whatCame l D ks b hc19) hob rfl xw_cod_X5_whatCame xw_ini_X5 xw_ins_X5_whatCame xw_sel_X5_whatCame xw_ml_X5_251 xds_X5_whatCame ⟨Nat.le_of_ble_eq_true rfl, Nat.le_of_ble_eq_true rfl⟩ rfl rfl (Nat.le_of_ble_eq_true rfl) ⟨Nat.le_of_ble_eq_true rfl, Nat.le_of_ble_eq_true rfl⟩ dX5_sum_175) ?_
        obtain ⟨v23, w24, hc22, hf⟩ := xm_b2 hf
        obtain ⟨_, hob, _⟩ := xm_bind hc22
        refine xj_reti (xr_V hC (mX5_ends l D ks b hc22) hob rfl xw_cod_X5_ends xw_ini_X5 xw_ins_X5_ends xw_sel_X5_ends xw_ml_X5_183 xds_X5_ends ⟨Nat.le_of_ble_eq_true rfl, Nat.le_of_ble_eq_true rfl⟩ rfl rfl (Nat.le_of_ble_eq_true rfl) ⟨Nat.le_of_ble_eq_true rfl, Nat.le_of_ble_eq_true rfl⟩ dX5_sum_178) ?_
        obtain ⟨he, hw⟩ := Prod.mk.inj (Option.some.inj hf)
        exact xj_iret hC hr (by decide) (by decide) dX5_sum_181 he hw
      · refine xj_aload_n hC dX5_sum_161 rfl 0 rfl ?_
        refine xb_getR hC 5 8 xcl_5 (by decide) xw_fl_X5_32 dX5_sum_162 hf (fun v25 hf => ?_)
        refine xj_iload_n hC dX5_sum_165 rfl 1 rfl ?_
        refine xb_iald hC dX5_sum_166 hf (fun v26 hf => ?_)
        refine xj_dia (cnd := v26 ≤ 0) (x := 0) (y := 1) (pc2 := 175) (st2 := [xI p2, xL (1 : Int64), xI p4, xR p0, xR p0]) (fun hc hk => ?_) (fun hc hk => ?_) ?_
        · exact xj_if_le (tgt := 174) hC dX5_sum_167 (by decide) (fun _ => xj_iconst (v := 0) hC dX5_sum_174 (by decide) hk) (fun hn => absurd hc hn)
        · exact xj_if_le (tgt := 174) hC dX5_sum_167 (by decide) (fun hn => absurd hn hc) (fun _ => xj_iconst (v := 1) hC dX5_sum_170 (by decide) (xj_goto (tgt := 175) hC dX5_sum_171 (by decide) hk))
        obtain ⟨v28, w29, hc27, hf⟩ := xm_b2 hf
        obtain ⟨_, hob, _⟩ := xm_bind hc27
        refine xj_reti (xr_V hC (mX5_whatCame l D ks b hc27) hob rfl xw_cod_X5_whatCame xw_ini_X5 xw_ins_X5_whatCame xw_sel_X5_whatCame xw_ml_X5_251 xds_X5_whatCame ⟨Nat.le_of_ble_eq_true rfl, Nat.le_of_ble_eq_true rfl⟩ rfl rfl (Nat.le_of_ble_eq_true rfl) ⟨Nat.le_of_ble_eq_true rfl, Nat.le_of_ble_eq_true rfl⟩ dX5_sum_175) ?_
        obtain ⟨v31, w32, hc30, hf⟩ := xm_b2 hf
        obtain ⟨_, hob, _⟩ := xm_bind hc30
        refine xj_reti (xr_V hC (mX5_ends l D ks b hc30) hob rfl xw_cod_X5_ends xw_ini_X5 xw_ins_X5_ends xw_sel_X5_ends xw_ml_X5_183 xds_X5_ends ⟨Nat.le_of_ble_eq_true rfl, Nat.le_of_ble_eq_true rfl⟩ rfl rfl (Nat.le_of_ble_eq_true rfl) ⟨Nat.le_of_ble_eq_true rfl, Nat.le_of_ble_eq_true rfl⟩ dX5_sum_178) ?_
        obtain ⟨he, hw⟩ := Prod.mk.inj (Option.some.inj hf)
        exact xj_iret hC hr (by decide) (by decide) dX5_sum_181 he hw
    · refine xj_aload_n hC dX5_sum_125 rfl 0 rfl ?_
      refine xj_iload hC dX5_sum_126 3 rfl ?_
      refine xj_aload_n hC dX5_sum_128 rfl 0 rfl ?_
      refine xb_getR hC 5 9 xcl_5 (by decide) xw_fl_X5_35 dX5_sum_129 hf (fun v33 hf => ?_)
      refine xj_bipush (v := 16) hC dX5_sum_132 (by decide) ?_
      refine xj_iload_n hC dX5_sum_134 rfl 1 rfl ?_
      refine xj_imul hC dX5_sum_135 ?_
      refine xj_iload hC dX5_sum_136 4 rfl ?_
      refine xj_iadd hC dX5_sum_138 ?_
      refine xb_iald hC dX5_sum_139 hf (fun v34 hf => ?_)
      refine xj_lconst (v := 1) hC dX5_sum_140 (by decide) ?_
      obtain ⟨w36, hc35, hf⟩ := xm_bind hf
      obtain ⟨_, hob, _⟩ := xm_bind hc35
      refine xj_retv (xr_V hC (mX5_comes l D ks b hc35) hob rfl xw_cod_X5_comes xw_ini_X5 xw_ins_X5_comes xw_sel_X5_comes xw_ml_X5_247 xds_X5_comes ⟨Nat.le_of_ble_eq_true rfl, Nat.le_of_ble_eq_true rfl⟩ rfl rfl (Nat.le_of_ble_eq_true rfl) ⟨Nat.le_of_ble_eq_true rfl, Nat.le_of_ble_eq_true rfl⟩ dX5_sum_141) ?_
      refine xj_iinc (v := (p5 + (1 : Int32))) (lv' := [(5, xI (p5 + (1 : Int32))), (0, xR p0), (1, xI p1), (2, xI p2), (4, xI p4)]) hC dX5_sum_144 4 rfl rfl (by decide) rfl ?_
      refine xj_goto (tgt := 114) hC dX5_sum_147 (by decide) ?_
      refine xj_lv [1, 2, 3, 4, 0] rfl ?_
      exact ih w36 (p0) (p1) (p2) (p4) ((p5 + (1 : Int32)))  hf
def fX5_sum_L48 : Nat → xmW → (Option Nat) → Int32 → Int32 → Int32 → Int32 → Int32 → Option (Int32 × xmW)
  | 0, _, _, _, _, _, _, _ => none
  | n + 1, w, p0, p1, p2, p4, p5, p6 => ((xmgR w p0 5 8).bind fun v37 => ((xmild w v37 0 p1).bind fun v38 => (if v38 ≤ p6 then (xmb2 (fX5_ends w (p0) (p5)) fun v40 w41 => (some (v40, w41))) else (if p5 < 0 then (xmb2 (fX5_ends w (p0) (p5)) fun v43 w44 => (some (v43, w44))) else ((xmgR w p0 5 9).bind fun v45 => ((xmild w v45 0 (((16 : Int32) * p1) + p6)).bind fun v46 => (xmb2 (fX5_acted w (p0) (p4) ((0 : Int32)) (p5) (v46) (p2)) fun v48 w49 => (fX5_sum_L48 n w49 (p0) (p1) (p2) (p4) (v48) ((p6 + (1 : Int32))) ))))))))
set_option maxHeartbeats 4000000 in
set_option maxRecDepth 100000 in
theorem lX5_sum_L48 {p : Program} {l : Launch} {e : Env} {s : State} {m : MethodId} {args : Array Value} {below : List Frame} {meth : Method} {c : Code} {D : va_G} {ks : Nat → ClassId} {b : Nat} (hC : xmC p s m args meth c D ks b 7 cX5_sum RX5) (hr : meth.sig.returnType = (some (FieldType.int))) {y : Int32} {wz : xmW} : ∀ (n : Nat) (w : xmW) (p0 : (Option Nat)) (p1 : Int32) (p2 : Int32) (p4 : Int32) (p5 : Int32) (p6 : Int32), fX5_sum_L48 n w p0 p1 p2 p4 p5 p6 = some (y, wz) → xmJ p l e ({ frames := 8, cells := 0, slots := 0, locals := 203 } : Room) s m args below meth c D ks b 7 (MQ below (xmQ D ks b (some (xI y)) wz) args s 0 0 (xmA b)) w 0 0 48 [(0, xR p0), (1, xI p1), (2, xI p2), (4, xI p4), (5, xI p5), (6, xI p6)] [] := by
  intro n
  induction n with
  | zero => intro w p0 p1 p2 p4 p5 p6 hf; simp [fX5_sum_L48] at hf
  | succ n ih =>
    intro w p0 p1 p2 p4 p5 p6 hf
    rw [fX5_sum_L48] at hf
    refine xj_iload hC dX5_sum_48 5 rfl ?_
    refine xj_aload_n hC dX5_sum_50 rfl 0 rfl ?_
    refine xb_getR hC 5 8 xcl_5 (by decide) xw_fl_X5_32 dX5_sum_51 hf (fun v37 hf => ?_)
    refine xj_iload_n hC dX5_sum_54 rfl 1 rfl ?_
    refine xb_iald hC dX5_sum_55 hf (fun v38 hf => ?_)
    refine xb_ic_ge (tgt := 94) hC dX5_sum_56 (by decide) hf (fun hf => ?_) (fun hf => ?_)
    · refine xj_aload_n hC dX5_sum_94 rfl 0 rfl ?_
      refine xj_iload hC dX5_sum_95 4 rfl ?_
      obtain ⟨v40, w41, hc39, hf⟩ := xm_b2 hf
      obtain ⟨_, hob, _⟩ := xm_bind hc39
      refine xj_reti (xr_V hC (mX5_ends l D ks b hc39) hob rfl xw_cod_X5_ends xw_ini_X5 xw_ins_X5_ends xw_sel_X5_ends xw_ml_X5_183 xds_X5_ends ⟨Nat.le_of_ble_eq_true rfl, Nat.le_of_ble_eq_true rfl⟩ rfl rfl (Nat.le_of_ble_eq_true rfl) ⟨Nat.le_of_ble_eq_true rfl, Nat.le_of_ble_eq_true rfl⟩ dX5_sum_97) ?_
      obtain ⟨he, hw⟩ := Prod.mk.inj (Option.some.inj hf)
      exact xj_iret hC hr (by decide) (by decide) dX5_sum_100 he hw
    · refine xj_iload hC dX5_sum_59 4 rfl ?_
      refine xb_if_lt (tgt := 94) hC dX5_sum_61 (by decide) hf (fun hf => ?_) (fun hf => ?_)
      · refine xj_aload_n hC dX5_sum_94 rfl 0 rfl ?_
        refine xj_iload hC dX5_sum_95 4 rfl ?_
        obtain ⟨v43, w44, hc42, hf⟩ := xm_b2 hf
        obtain ⟨_, hob, _⟩ := xm_bind hc42
        refine xj_reti (xr_V hC (mX5_ends l D ks b hc42) hob rfl xw_cod_X5_ends xw_ini_X5 xw_ins_X5_ends xw_sel_X5_ends xw_ml_X5_183 xds_X5_ends ⟨Nat.le_of_ble_eq_true rfl, Nat.le_of_ble_eq_true rfl⟩ rfl rfl (Nat.le_of_ble_eq_true rfl) ⟨Nat.le_of_ble_eq_true rfl, Nat.le_of_ble_eq_true rfl⟩ dX5_sum_97) ?_
        obtain ⟨he, hw⟩ := Prod.mk.inj (Option.some.inj hf)
        exact xj_iret hC hr (by decide) (by decide) dX5_sum_100 he hw
      · refine xj_aload_n hC dX5_sum_64 rfl 0 rfl ?_
        refine xj_iload hC dX5_sum_65 3 rfl ?_
        refine xj_iconst (v := 0) hC dX5_sum_67 (by decide) ?_
        refine xj_iload hC dX5_sum_68 4 rfl ?_
        refine xj_aload_n hC dX5_sum_70 rfl 0 rfl ?_
        refine xb_getR hC 5 9 xcl_5 (by decide) xw_fl_X5_35 dX5_sum_71 hf (fun v45 hf => ?_)
        refine xj_bipush (v := 16) hC dX5_sum_74 (by decide) ?_
        refine xj_iload_n hC dX5_sum_76 rfl 1 rfl ?_
        refine xj_imul hC dX5_sum_77 ?_
        refine xj_iload hC dX5_sum_78 5 rfl ?_
        refine xj_iadd hC dX5_sum_80 ?_
        refine xb_iald hC dX5_sum_81 hf (fun v46 hf => ?_)
        refine xj_iload_n hC dX5_sum_82 rfl 2 rfl ?_
        obtain ⟨v48, w49, hc47, hf⟩ := xm_b2 hf
        obtain ⟨_, hob, _⟩ := xm_bind hc47
        refine xj_reti (xr_V hC (mX5_acted l D ks b hc47) hob rfl xw_cod_X5_acted xw_ini_X5 xw_ins_X5_acted xw_sel_X5_acted xw_ml_X5_226 xds_X5_acted ⟨Nat.le_of_ble_eq_true rfl, Nat.le_of_ble_eq_true rfl⟩ rfl rfl (Nat.le_of_ble_eq_true rfl) ⟨Nat.le_of_ble_eq_true rfl, Nat.le_of_ble_eq_true rfl⟩ dX5_sum_83) ?_
        refine xj_istore (lv' := [(5, xI v48), (0, xR p0), (1, xI p1), (2, xI p2), (4, xI p4), (6, xI p6)]) hC dX5_sum_86 (by decide) rfl ?_
        refine xj_iinc (v := (p6 + (1 : Int32))) (lv' := [(6, xI (p6 + (1 : Int32))), (5, xI v48), (0, xR p0), (1, xI p1), (2, xI p2), (4, xI p4)]) hC dX5_sum_88 5 rfl rfl (by decide) rfl ?_
        refine xj_goto (tgt := 48) hC dX5_sum_91 (by decide) ?_
        refine xj_lv [2, 3, 4, 5, 1, 0] rfl ?_
        exact ih w49 (p0) (p1) (p2) (p4) (v48) ((p6 + (1 : Int32)))  hf
def fX5_sum (w : xmW) (th : (Option Nat)) (a1 : Int32) (a2 : Int32) (a3 : Int32) : Option (Int32 × xmW) := ((xmob w th 5).bind fun _ => ((fX5_isRow w (th) (a1)).bind fun v2 => (if v2 = 0 then (xmb2 (fX5_refused w (th) ((-1 : Int32))) fun v4 w5 => (some (v4, w5))) else ((fX5_in w ((a2).toInt64) ((0 : Int64)) ((5 : Int64))).bind fun v7 => (if v7 = 0 then (xmb2 (fX5_refused w (th) ((-1 : Int32))) fun v15 w16 => (some (v15, w16))) else ((xmgR w th 5 7).bind fun v8 => ((xmild w v8 0 a1).bind fun v9 => ((fX5_begins w (th) ).bind fun w11 => (if a3 = 0 then ((xmput w11 th 5 23 (xI (0 : Int32))).bind fun w12 => ((xmput w12 th 5 24 (xL (0 : Int64))).bind fun w13 => (fX5_sum_L114 xmN w13 (th) (a1) (a2) (v9) ((0 : Int32)) ))) else (fX5_sum_L48 xmN w11 (th) (a1) (a2) (v9) ((0 : Int32)) ((0 : Int32)) ))))))))))
set_option maxHeartbeats 4000000 in
set_option maxRecDepth 100000 in
theorem mX5_sum (l : Launch) (D : va_G) (ks : Nat → ClassId) (b : Nat) {w : xmW} {th : (Option Nat)} {a1 : Int32} {a2 : Int32} {a3 : Int32} {y : Int32} {wz : xmW} (hf : fX5_sum w th a1 a2 a3 = some (y, wz)) : xmM l yX5_sum (Cond.code yX5_sum cX5_sum 7 (some (FieldType.int)) :: xmTs) 8 203 0 0 D ks b w [xR th, xI a1, xI a2, xI a3] (some (xI y)) wz := by
  unfold fX5_sum at hf
  obtain ⟨_, _, hf⟩ := xm_bind hf
  refine xmM.of (own := RX5) (lv0 := [(0, xR th), (1, xI a1), (2, xI a2), (3, xI a3)]) (by decide) rfl (Nat.le_of_ble_eq_true rfl) rfl ?_
  intro p e s m args below meth c hC hr hnm
  refine xj_aload_n hC dX5_sum_0 rfl 0 rfl ?_
  refine xj_iload_n hC dX5_sum_1 rfl 1 rfl ?_
  obtain ⟨v2, hc1, hf⟩ := xm_bind hf
  obtain ⟨_, hob, _⟩ := xm_bind hc1
  refine xj_reti (xr_V hC (mX5_isRow l D ks b hc1) hob rfl xw_cod_X5_isRow xw_ini_X5 xw_ins_X5_isRow xw_sel_X5_isRow xw_ml_X5_257 xds_X5_isRow ⟨Nat.le_of_ble_eq_true rfl, Nat.le_of_ble_eq_true rfl⟩ rfl rfl (Nat.le_of_ble_eq_true rfl) ⟨Nat.le_of_ble_eq_true rfl, Nat.le_of_ble_eq_true rfl⟩ dX5_sum_2) ?_
  refine xb_if_eq (tgt := 20) hC dX5_sum_5 (by decide) hf (fun hf => ?_) (fun hf => ?_)
  · refine xj_aload_n hC dX5_sum_20 rfl 0 rfl ?_
    refine xj_iconst (v := -1) hC dX5_sum_21 (by decide) ?_
    obtain ⟨v4, w5, hc3, hf⟩ := xm_b2 hf
    obtain ⟨_, hob, _⟩ := xm_bind hc3
    refine xj_reti (xr_V hC (mX5_refused l D ks b hc3) hob rfl xw_cod_X5_refused xw_ini_X5 xw_ins_X5_refused xw_sel_X5_refused xw_ml_X5_57 xds_X5_refused ⟨Nat.le_of_ble_eq_true rfl, Nat.le_of_ble_eq_true rfl⟩ rfl rfl (Nat.le_of_ble_eq_true rfl) ⟨Nat.le_of_ble_eq_true rfl, Nat.le_of_ble_eq_true rfl⟩ dX5_sum_22) ?_
    obtain ⟨he, hw⟩ := Prod.mk.inj (Option.some.inj hf)
    exact xj_iret hC hr (by decide) (by decide) dX5_sum_25 he hw
  · refine xj_iload_n hC dX5_sum_8 rfl 2 rfl ?_
    refine xj_i2l hC dX5_sum_9 ?_
    refine xj_lconst (v := 0) hC dX5_sum_10 (by decide) ?_
    refine xj_ldc2 hC xw_cst_X5_105 dX5_sum_11 ?_
    obtain ⟨v7, hc6, hf⟩ := xm_bind hf
    refine xj_reti (xr_S hC (mX5_in l D ks b hc6) xw_cod_X5_in xw_ini_X5 xw_sta_X5_in xw_ml_X5_70 xds_X5_in ⟨Nat.le_of_ble_eq_true rfl, Nat.le_of_ble_eq_true rfl⟩ rfl rfl (Nat.le_of_ble_eq_true rfl) ⟨Nat.le_of_ble_eq_true rfl, Nat.le_of_ble_eq_true rfl⟩ dX5_sum_14) ?_
    refine xb_if_ne (tgt := 26) hC dX5_sum_17 (by decide) hf (fun hf => ?_) (fun hf => ?_)
    · refine xj_aload_n hC dX5_sum_26 rfl 0 rfl ?_
      refine xb_getR hC 5 7 xcl_5 (by decide) xw_fl_X5_29 dX5_sum_27 hf (fun v8 hf => ?_)
      refine xj_iload_n hC dX5_sum_30 rfl 1 rfl ?_
      refine xb_iald hC dX5_sum_31 hf (fun v9 hf => ?_)
      refine xj_istore (lv' := [(4, xI v9), (0, xR th), (1, xI a1), (2, xI a2), (3, xI a3)]) hC dX5_sum_32 (by decide) rfl ?_
      refine xj_aload_n hC dX5_sum_34 rfl 1 rfl ?_
      obtain ⟨w11, hc10, hf⟩ := xm_bind hf
      obtain ⟨_, hob, _⟩ := xm_bind hc10
      refine xj_retv (xr_V hC (mX5_begins l D ks b hc10) hob rfl xw_cod_X5_begins xw_ini_X5 xw_ins_X5_begins xw_sel_X5_begins xw_ml_X5_176 xds_X5_begins ⟨Nat.le_of_ble_eq_true rfl, Nat.le_of_ble_eq_true rfl⟩ rfl rfl (Nat.le_of_ble_eq_true rfl) ⟨Nat.le_of_ble_eq_true rfl, Nat.le_of_ble_eq_true rfl⟩ dX5_sum_35) ?_
      refine xj_iload_n hC dX5_sum_38 rfl 4 rfl ?_
      refine xb_if_eq (tgt := 101) hC dX5_sum_39 (by decide) hf (fun hf => ?_) (fun hf => ?_)
      · refine xj_aload_n hC dX5_sum_101 rfl 1 rfl ?_
        refine xj_iconst (v := 0) hC dX5_sum_102 (by decide) ?_
        refine xb_put hC 5 23 xcl_5 (by decide) xw_fl_X5_230 rfl (xmfit_i _) dX5_sum_103 hf (fun w12 hf => ?_)
        refine xj_aload_n hC dX5_sum_106 rfl 1 rfl ?_
        refine xj_lconst (v := 0) hC dX5_sum_107 (by decide) ?_
        refine xb_put hC 5 24 xcl_5 (by decide) xw_fl_X5_240 rfl (xmfit_l _) dX5_sum_108 hf (fun w13 hf => ?_)
        refine xj_iconst (v := 0) hC dX5_sum_111 (by decide) ?_
        refine xj_istore (lv' := [(5, xI (0 : Int32)), (4, xI v9), (0, xR th), (1, xI a1), (2, xI a2), (3, xI a3)]) hC dX5_sum_112 (by decide) rfl ?_
        refine xj_lv [2, 3, 4, 1, 0] rfl ?_
        exact lX5_sum_L114 hC hr  xmN w13 (th) (a1) (a2) (v9) ((0 : Int32))  hf
      · refine xj_iconst (v := 0) hC dX5_sum_42 (by decide) ?_
        refine xj_istore (lv' := [(5, xI (0 : Int32)), (4, xI v9), (0, xR th), (1, xI a1), (2, xI a2), (3, xI a3)]) hC dX5_sum_43 (by decide) rfl ?_
        refine xj_iconst (v := 0) hC dX5_sum_45 (by decide) ?_
        refine xj_istore (lv' := [(6, xI (0 : Int32)), (5, xI (0 : Int32)), (4, xI v9), (0, xR th), (1, xI a1), (2, xI a2), (3, xI a3)]) hC dX5_sum_46 (by decide) rfl ?_
        refine xj_lv [3, 4, 5, 2, 1, 0] rfl ?_
        exact lX5_sum_L48 hC hr  xmN w11 (th) (a1) (a2) (v9) ((0 : Int32)) ((0 : Int32))  hf
    · refine xj_aload_n hC dX5_sum_20 rfl 0 rfl ?_
      refine xj_iconst (v := -1) hC dX5_sum_21 (by decide) ?_
      obtain ⟨v15, w16, hc14, hf⟩ := xm_b2 hf
      obtain ⟨_, hob, _⟩ := xm_bind hc14
      refine xj_reti (xr_V hC (mX5_refused l D ks b hc14) hob rfl xw_cod_X5_refused xw_ini_X5 xw_ins_X5_refused xw_sel_X5_refused xw_ml_X5_57 xds_X5_refused ⟨Nat.le_of_ble_eq_true rfl, Nat.le_of_ble_eq_true rfl⟩ rfl rfl (Nat.le_of_ble_eq_true rfl) ⟨Nat.le_of_ble_eq_true rfl, Nat.le_of_ble_eq_true rfl⟩ dX5_sum_22) ?_
      obtain ⟨he, hw⟩ := Prod.mk.inj (Option.some.inj hf)
      exact xj_iret hC hr (by decide) (by decide) dX5_sum_25 he hw
def fX5_dot_L203 : Nat → xmW → (Option Nat) → Int32 → Int32 → Int32 → Int32 → Int32 → Int32 → Option (Int32 × xmW)
  | 0, _, _, _, _, _, _, _, _ => none
  | n + 1, w, p0, p1, p2, p3, p5, p6, p7 => (if p6 ≤ p7 then ((fX5_scale w (p0) (p5)).bind fun v36 => (if p3 = (3 : Int32) then (xmb2 (fX5_whatCame w (p0) (p5) (((1 : Int64) <<< ((v36).toInt64 &&& 63))) (p3) ((if p6 ≤ 0 then (0 : Int32) else (1 : Int32)))) fun v44 w45 => (xmb2 (fX5_ends w45 (p0) (v44)) fun v47 w48 => (some (v47, w48)))) else (xmb2 (fX5_whatCame w (p0) (p5) (((1 : Int64) <<< ((v36).toInt64 &&& 63))) (p3) ((0 : Int32))) fun v38 w39 => (xmb2 (fX5_ends w39 (p0) (v38)) fun v41 w42 => (some (v41, w42)))))) else ((xmgR w p0 5 9).bind fun v49 => ((xmild w v49 0 (((16 : Int32) * p1) + p7)).bind fun v50 => ((xmgR w p0 5 9).bind fun v51 => ((xmild w v51 0 (((16 : Int32) * p2) + p7)).bind fun v52 => ((fX5_comesProduct w (p0) (p5) (v50) (v52)).bind fun w54 => (fX5_dot_L203 n w54 (p0) (p1) (p2) (p3) (p5) (p6) ((p7 + (1 : Int32))) )))))))
set_option maxHeartbeats 4000000 in
set_option maxRecDepth 100000 in
theorem lX5_dot_L203 {p : Program} {l : Launch} {e : Env} {s : State} {m : MethodId} {args : Array Value} {below : List Frame} {meth : Method} {c : Code} {D : va_G} {ks : Nat → ClassId} {b : Nat} (hC : xmC p s m args meth c D ks b 10 cX5_dot RX5) (hr : meth.sig.returnType = (some (FieldType.int))) {y : Int32} {wz : xmW} : ∀ (n : Nat) (w : xmW) (p0 : (Option Nat)) (p1 : Int32) (p2 : Int32) (p3 : Int32) (p5 : Int32) (p6 : Int32) (p7 : Int32), fX5_dot_L203 n w p0 p1 p2 p3 p5 p6 p7 = some (y, wz) → xmJ p l e ({ frames := 8, cells := 0, slots := 0, locals := 203 } : Room) s m args below meth c D ks b 10 (MQ below (xmQ D ks b (some (xI y)) wz) args s 0 0 (xmA b)) w 0 0 203 [(0, xR p0), (1, xI p1), (2, xI p2), (3, xI p3), (5, xI p5), (6, xI p6), (7, xI p7)] [] := by
  intro n
  induction n with
  | zero => intro w p0 p1 p2 p3 p5 p6 p7 hf; simp [fX5_dot_L203] at hf
  | succ n ih =>
    intro w p0 p1 p2 p3 p5 p6 p7 hf
    rw [fX5_dot_L203] at hf
    refine xj_iload hC dX5_dot_203 6 rfl ?_
    refine xj_iload hC dX5_dot_205 5 rfl ?_
    refine xb_ic_ge (tgt := 246) hC dX5_dot_207 (by decide) hf (fun hf => ?_) (fun hf => ?_)
    · refine xj_aload_n hC dX5_dot_246 rfl 0 rfl ?_
      refine xj_aload_n hC dX5_dot_247 rfl 0 rfl ?_
      refine xj_iload hC dX5_dot_248 4 rfl ?_
      refine xj_lconst (v := 1) hC dX5_dot_250 (by decide) ?_
      refine xj_aload_n hC dX5_dot_251 rfl 0 rfl ?_
      refine xj_iload hC dX5_dot_252 4 rfl ?_
      obtain ⟨v36, hc35, hf⟩ := xm_bind hf
      obtain ⟨_, hob, _⟩ := xm_bind hc35
      refine xj_reti (xr_V hC (mX5_scale l D ks b hc35) hob rfl xw_cod_X5_scale xw_ini_X5 xw_ins_X5_scale xw_sel_X5_scale xw_ml_X5_127 xds_X5_scale ⟨Nat.le_of_ble_eq_true rfl, Nat.le_of_ble_eq_true rfl⟩ rfl rfl (Nat.le_of_ble_eq_true rfl) ⟨Nat.le_of_ble_eq_true rfl, Nat.le_of_ble_eq_true rfl⟩ dX5_dot_254) ?_
      refine xj_lshl hC dX5_dot_257 ?_
      refine xj_iload_n hC dX5_dot_258 rfl 3 rfl ?_
      refine xj_iload_n hC dX5_dot_259 rfl 3 rfl ?_
      refine xj_iconst (v := 3) hC dX5_dot_260 (by decide) ?_
      refine xb_ic_ne (tgt := 273) hC dX5_dot_261 (by decide) hf (fun hf => ?_) (fun hf => ?_)
      · refine xj_iconst (v := 0) hC dX5_dot_273 (by decide) ?_
        obtain ⟨v38, w39, hc37, hf⟩ := xm_b2 hf
        obtain ⟨_, hob, _⟩ := xm_bind hc37
        refine xj_reti (xr_V hC (mX5_whatCame l D ks b hc37) hob rfl xw_cod_X5_whatCame xw_ini_X5 xw_ins_X5_whatCame xw_sel_X5_whatCame xw_ml_X5_251 xds_X5_whatCame ⟨Nat.le_of_ble_eq_true rfl, Nat.le_of_ble_eq_true rfl⟩ rfl rfl (Nat.le_of_ble_eq_true rfl) ⟨Nat.le_of_ble_eq_true rfl, Nat.le_of_ble_eq_true rfl⟩ dX5_dot_274) ?_
        obtain ⟨v41, w42, hc40, hf⟩ := xm_b2 hf
        obtain ⟨_, hob, _⟩ := xm_bind hc40
        refine xj_reti (xr_V hC (mX5_ends l D ks b hc40) hob rfl xw_cod_X5_ends xw_ini_X5 xw_ins_X5_ends xw_sel_X5_ends xw_ml_X5_183 xds_X5_ends ⟨Nat.le_of_ble_eq_true rfl, Nat.le_of_ble_eq_true rfl⟩ rfl rfl (Nat.le_of_ble_eq_true rfl) ⟨Nat.le_of_ble_eq_true rfl, Nat.le_of_ble_eq_true rfl⟩ dX5_dot_277) ?_
        obtain ⟨he, hw⟩ := Prod.mk.inj (Option.some.inj hf)
        exact xj_iret hC hr (by decide) (by decide) dX5_dot_280 he hw
      · refine xj_iload hC dX5_dot_264 5 rfl ?_
        refine xj_dia (cnd := p6 ≤ 0) (x := 0) (y := 1) (pc2 := 274) (st2 := [xI p3, xL ((1 : Int64) <<< ((v36).toInt64 &&& 63)), xI p5, xR p0, xR p0]) (fun hc hk => ?_) (fun hc hk => ?_) ?_
        · exact xj_if_le (tgt := 273) hC dX5_dot_266 (by decide) (fun _ => xj_iconst (v := 0) hC dX5_dot_273 (by decide) hk) (fun hn => absurd hc hn)
        · exact xj_if_le (tgt := 273) hC dX5_dot_266 (by decide) (fun hn => absurd hn hc) (fun _ => xj_iconst (v := 1) hC dX5_dot_269 (by decide) (xj_goto (tgt := 274) hC dX5_dot_270 (by decide) hk))
        obtain ⟨v44, w45, hc43, hf⟩ := xm_b2 hf
        obtain ⟨_, hob, _⟩ := xm_bind hc43
        refine xj_reti (xr_V hC (mX5_whatCame l D ks b hc43) hob rfl xw_cod_X5_whatCame xw_ini_X5 xw_ins_X5_whatCame xw_sel_X5_whatCame xw_ml_X5_251 xds_X5_whatCame ⟨Nat.le_of_ble_eq_true rfl, Nat.le_of_ble_eq_true rfl⟩ rfl rfl (Nat.le_of_ble_eq_true rfl) ⟨Nat.le_of_ble_eq_true rfl, Nat.le_of_ble_eq_true rfl⟩ dX5_dot_274) ?_
        obtain ⟨v47, w48, hc46, hf⟩ := xm_b2 hf
        obtain ⟨_, hob, _⟩ := xm_bind hc46
        refine xj_reti (xr_V hC (mX5_ends l D ks b hc46) hob rfl xw_cod_X5_ends xw_ini_X5 xw_ins_X5_ends xw_sel_X5_ends xw_ml_X5_183 xds_X5_ends ⟨Nat.le_of_ble_eq_true rfl, Nat.le_of_ble_eq_true rfl⟩ rfl rfl (Nat.le_of_ble_eq_true rfl) ⟨Nat.le_of_ble_eq_true rfl, Nat.le_of_ble_eq_true rfl⟩ dX5_dot_277) ?_
        obtain ⟨he, hw⟩ := Prod.mk.inj (Option.some.inj hf)
        exact xj_iret hC hr (by decide) (by decide) dX5_dot_280 he hw
    · refine xj_aload_n hC dX5_dot_210 rfl 0 rfl ?_
      refine xj_iload hC dX5_dot_211 4 rfl ?_
      refine xj_aload_n hC dX5_dot_213 rfl 0 rfl ?_
      refine xb_getR hC 5 9 xcl_5 (by decide) xw_fl_X5_35 dX5_dot_214 hf (fun v49 hf => ?_)
      refine xj_bipush (v := 16) hC dX5_dot_217 (by decide) ?_
      refine xj_iload_n hC dX5_dot_219 rfl 1 rfl ?_
      refine xj_imul hC dX5_dot_220 ?_
      refine xj_iload hC dX5_dot_221 6 rfl ?_
      refine xj_iadd hC dX5_dot_223 ?_
      refine xb_iald hC dX5_dot_224 hf (fun v50 hf => ?_)
      refine xj_aload_n hC dX5_dot_225 rfl 0 rfl ?_
      refine xb_getR hC 5 9 xcl_5 (by decide) xw_fl_X5_35 dX5_dot_226 hf (fun v51 hf => ?_)
      refine xj_bipush (v := 16) hC dX5_dot_229 (by decide) ?_
      refine xj_iload_n hC dX5_dot_231 rfl 2 rfl ?_
      refine xj_imul hC dX5_dot_232 ?_
      refine xj_iload hC dX5_dot_233 6 rfl ?_
      refine xj_iadd hC dX5_dot_235 ?_
      refine xb_iald hC dX5_dot_236 hf (fun v52 hf => ?_)
      obtain ⟨w54, hc53, hf⟩ := xm_bind hf
      obtain ⟨_, hob, _⟩ := xm_bind hc53
      refine xj_retv (xr_V hC (mX5_comesProduct l D ks b hc53) hob rfl xw_cod_X5_comesProduct xw_ini_X5 xw_ins_X5_comesProduct xw_sel_X5_comesProduct xw_ml_X5_243 xds_X5_comesProduct ⟨Nat.le_of_ble_eq_true rfl, Nat.le_of_ble_eq_true rfl⟩ rfl rfl (Nat.le_of_ble_eq_true rfl) ⟨Nat.le_of_ble_eq_true rfl, Nat.le_of_ble_eq_true rfl⟩ dX5_dot_237) ?_
      refine xj_iinc (v := (p7 + (1 : Int32))) (lv' := [(7, xI (p7 + (1 : Int32))), (0, xR p0), (1, xI p1), (2, xI p2), (3, xI p3), (5, xI p5), (6, xI p6)]) hC dX5_dot_240 6 rfl rfl (by decide) rfl ?_
      refine xj_goto (tgt := 203) hC dX5_dot_243 (by decide) ?_
      refine xj_lv [1, 2, 3, 4, 5, 6, 0] rfl ?_
      exact ih w54 (p0) (p1) (p2) (p3) (p5) (p6) ((p7 + (1 : Int32)))  hf
def fX5_dot_L107 : Nat → xmW → (Option Nat) → Int32 → Int32 → Int32 → Int32 → Int32 → Int32 → Int32 → Option (Int32 × xmW)
  | 0, _, _, _, _, _, _, _, _, _ => none
  | n + 1, w, p0, p1, p2, p3, p5, p6, p7, p8 => (if p6 ≤ p8 then (xmb2 (fX5_ends w (p0) (p7)) fun v56 w57 => (some (v56, w57))) else (if p7 < 0 then (xmb2 (fX5_ends w (p0) (p7)) fun v59 w60 => (some (v59, w60))) else ((xmgR w p0 5 9).bind fun v61 => ((xmild w v61 0 (((16 : Int32) * p1) + p8)).bind fun v62 => ((xmgR w p0 5 9).bind fun v63 => ((xmild w v63 0 (((16 : Int32) * p2) + p8)).bind fun v64 => (xmb2 (fX5_acted w (p0) (p5) ((2 : Int32)) (v62) (v64) (p3)) fun v66 w67 => (if 0 ≤ v66 then (xmb2 (fX5_acted w67 (p0) (p5) ((0 : Int32)) (p7) (v66) (p3)) fun v69 w70 => (fX5_dot_L107 n w70 (p0) (p1) (p2) (p3) (p5) (p6) (v69) ((p8 + (1 : Int32))) )) else (fX5_dot_L107 n w67 (p0) (p1) (p2) (p3) (p5) (p6) (v66) ((p8 + (1 : Int32))) )))))))))
set_option maxHeartbeats 4000000 in
set_option maxRecDepth 100000 in
theorem lX5_dot_L107 {p : Program} {l : Launch} {e : Env} {s : State} {m : MethodId} {args : Array Value} {below : List Frame} {meth : Method} {c : Code} {D : va_G} {ks : Nat → ClassId} {b : Nat} (hC : xmC p s m args meth c D ks b 10 cX5_dot RX5) (hr : meth.sig.returnType = (some (FieldType.int))) {y : Int32} {wz : xmW} : ∀ (n : Nat) (w : xmW) (p0 : (Option Nat)) (p1 : Int32) (p2 : Int32) (p3 : Int32) (p5 : Int32) (p6 : Int32) (p7 : Int32) (p8 : Int32), fX5_dot_L107 n w p0 p1 p2 p3 p5 p6 p7 p8 = some (y, wz) → xmJ p l e ({ frames := 8, cells := 0, slots := 0, locals := 203 } : Room) s m args below meth c D ks b 10 (MQ below (xmQ D ks b (some (xI y)) wz) args s 0 0 (xmA b)) w 0 0 107 [(0, xR p0), (1, xI p1), (2, xI p2), (3, xI p3), (5, xI p5), (6, xI p6), (7, xI p7), (8, xI p8)] [] := by
  intro n
  induction n with
  | zero => intro w p0 p1 p2 p3 p5 p6 p7 p8 hf; simp [fX5_dot_L107] at hf
  | succ n ih =>
    intro w p0 p1 p2 p3 p5 p6 p7 p8 hf
    rw [fX5_dot_L107] at hf
    refine xj_iload hC dX5_dot_107 7 rfl ?_
    refine xj_iload hC dX5_dot_109 5 rfl ?_
    refine xb_ic_ge (tgt := 183) hC dX5_dot_111 (by decide) hf (fun hf => ?_) (fun hf => ?_)
    · refine xj_aload_n hC dX5_dot_183 rfl 0 rfl ?_
      refine xj_iload hC dX5_dot_184 6 rfl ?_
      obtain ⟨v56, w57, hc55, hf⟩ := xm_b2 hf
      obtain ⟨_, hob, _⟩ := xm_bind hc55
      refine xj_reti (xr_V hC (mX5_ends l D ks b hc55) hob rfl xw_cod_X5_ends xw_ini_X5 xw_ins_X5_ends xw_sel_X5_ends xw_ml_X5_183 xds_X5_ends ⟨Nat.le_of_ble_eq_true rfl, Nat.le_of_ble_eq_true rfl⟩ rfl rfl (Nat.le_of_ble_eq_true rfl) ⟨Nat.le_of_ble_eq_true rfl, Nat.le_of_ble_eq_true rfl⟩ dX5_dot_186) ?_
      obtain ⟨he, hw⟩ := Prod.mk.inj (Option.some.inj hf)
      exact xj_iret hC hr (by decide) (by decide) dX5_dot_189 he hw
    · refine xj_iload hC dX5_dot_114 6 rfl ?_
      refine xb_if_lt (tgt := 183) hC dX5_dot_116 (by decide) hf (fun hf => ?_) (fun hf => ?_)
      · refine xj_aload_n hC dX5_dot_183 rfl 0 rfl ?_
        refine xj_iload hC dX5_dot_184 6 rfl ?_
        obtain ⟨v59, w60, hc58, hf⟩ := xm_b2 hf
        obtain ⟨_, hob, _⟩ := xm_bind hc58
        refine xj_reti (xr_V hC (mX5_ends l D ks b hc58) hob rfl xw_cod_X5_ends xw_ini_X5 xw_ins_X5_ends xw_sel_X5_ends xw_ml_X5_183 xds_X5_ends ⟨Nat.le_of_ble_eq_true rfl, Nat.le_of_ble_eq_true rfl⟩ rfl rfl (Nat.le_of_ble_eq_true rfl) ⟨Nat.le_of_ble_eq_true rfl, Nat.le_of_ble_eq_true rfl⟩ dX5_dot_186) ?_
        obtain ⟨he, hw⟩ := Prod.mk.inj (Option.some.inj hf)
        exact xj_iret hC hr (by decide) (by decide) dX5_dot_189 he hw
      · refine xj_aload_n hC dX5_dot_119 rfl 0 rfl ?_
        refine xj_iload hC dX5_dot_120 4 rfl ?_
        refine xj_iconst (v := 2) hC dX5_dot_122 (by decide) ?_
        refine xj_aload_n hC dX5_dot_123 rfl 0 rfl ?_
        refine xb_getR hC 5 9 xcl_5 (by decide) xw_fl_X5_35 dX5_dot_124 hf (fun v61 hf => ?_)
        refine xj_bipush (v := 16) hC dX5_dot_127 (by decide) ?_
        refine xj_iload_n hC dX5_dot_129 rfl 1 rfl ?_
        refine xj_imul hC dX5_dot_130 ?_
        refine xj_iload hC dX5_dot_131 7 rfl ?_
        refine xj_iadd hC dX5_dot_133 ?_
        refine xb_iald hC dX5_dot_134 hf (fun v62 hf => ?_)
        refine xj_aload_n hC dX5_dot_135 rfl 0 rfl ?_
        refine xb_getR hC 5 9 xcl_5 (by decide) xw_fl_X5_35 dX5_dot_136 hf (fun v63 hf => ?_)
        refine xj_bipush (v := 16) hC dX5_dot_139 (by decide) ?_
        refine xj_iload_n hC dX5_dot_141 rfl 2 rfl ?_
        refine xj_imul hC dX5_dot_142 ?_
        refine xj_iload hC dX5_dot_143 7 rfl ?_
        refine xj_iadd hC dX5_dot_145 ?_
        refine xb_iald hC dX5_dot_146 hf (fun v64 hf => ?_)
        refine xj_iload_n hC dX5_dot_147 rfl 3 rfl ?_
        obtain ⟨v66, w67, hc65, hf⟩ := xm_b2 hf
        obtain ⟨_, hob, _⟩ := xm_bind hc65
        refine xj_reti (xr_V hC (mX5_acted l D ks b hc65) hob rfl xw_cod_X5_acted xw_ini_X5 xw_ins_X5_acted xw_sel_X5_acted xw_ml_X5_226 xds_X5_acted ⟨Nat.le_of_ble_eq_true rfl, Nat.le_of_ble_eq_true rfl⟩ rfl rfl (Nat.le_of_ble_eq_true rfl) ⟨Nat.le_of_ble_eq_true rfl, Nat.le_of_ble_eq_true rfl⟩ dX5_dot_148) ?_
        refine xj_istore (lv' := [(9, xI v66), (0, xR p0), (1, xI p1), (2, xI p2), (3, xI p3), (5, xI p5), (6, xI p6), (7, xI p7), (8, xI p8)]) hC dX5_dot_151 (by decide) rfl ?_
        refine xj_iload hC dX5_dot_153 0 rfl ?_
        refine xb_if_ge (tgt := 163) hC dX5_dot_155 (by decide) hf (fun hf => ?_) (fun hf => ?_)
        · refine xj_aload_n hC dX5_dot_163 rfl 1 rfl ?_
          refine xj_iload hC dX5_dot_164 5 rfl ?_
          refine xj_iconst (v := 0) hC dX5_dot_166 (by decide) ?_
          refine xj_iload hC dX5_dot_167 7 rfl ?_
          refine xj_iload hC dX5_dot_169 0 rfl ?_
          refine xj_iload_n hC dX5_dot_171 rfl 4 rfl ?_
          obtain ⟨v69, w70, hc68, hf⟩ := xm_b2 hf
          obtain ⟨_, hob, _⟩ := xm_bind hc68
          refine xj_reti (xr_V hC (mX5_acted l D ks b hc68) hob rfl xw_cod_X5_acted xw_ini_X5 xw_ins_X5_acted xw_sel_X5_acted xw_ml_X5_226 xds_X5_acted ⟨Nat.le_of_ble_eq_true rfl, Nat.le_of_ble_eq_true rfl⟩ rfl rfl (Nat.le_of_ble_eq_true rfl) ⟨Nat.le_of_ble_eq_true rfl, Nat.le_of_ble_eq_true rfl⟩ dX5_dot_172) ?_
          refine xj_istore (lv' := [(7, xI v69), (9, xI v66), (0, xR p0), (1, xI p1), (2, xI p2), (3, xI p3), (5, xI p5), (6, xI p6), (8, xI p8)]) hC dX5_dot_175 (by decide) rfl ?_
          refine xj_iinc (v := (p8 + (1 : Int32))) (lv' := [(8, xI (p8 + (1 : Int32))), (7, xI v69), (9, xI v66), (0, xR p0), (1, xI p1), (2, xI p2), (3, xI p3), (5, xI p5), (6, xI p6)]) hC dX5_dot_177 8 rfl rfl (by decide) rfl ?_
          refine xj_goto (tgt := 107) hC dX5_dot_180 (by decide) ?_
          refine xj_lv [3, 4, 5, 6, 7, 8, 1, 0] rfl ?_
          exact ih w70 (p0) (p1) (p2) (p3) (p5) (p6) (v69) ((p8 + (1 : Int32)))  hf
        · refine xj_iload hC dX5_dot_158 0 rfl ?_
          refine xj_goto (tgt := 175) hC dX5_dot_160 (by decide) ?_
          refine xj_istore (lv' := [(7, xI v66), (9, xI v66), (0, xR p0), (1, xI p1), (2, xI p2), (3, xI p3), (5, xI p5), (6, xI p6), (8, xI p8)]) hC dX5_dot_175 (by decide) rfl ?_
          refine xj_iinc (v := (p8 + (1 : Int32))) (lv' := [(8, xI (p8 + (1 : Int32))), (7, xI v66), (9, xI v66), (0, xR p0), (1, xI p1), (2, xI p2), (3, xI p3), (5, xI p5), (6, xI p6)]) hC dX5_dot_177 8 rfl rfl (by decide) rfl ?_
          refine xj_goto (tgt := 107) hC dX5_dot_180 (by decide) ?_
          refine xj_lv [3, 4, 5, 6, 7, 8, 1, 0] rfl ?_
          exact ih w67 (p0) (p1) (p2) (p3) (p5) (p6) (v66) ((p8 + (1 : Int32)))  hf
def fX5_dot_L90 (w : xmW) (p0 : (Option Nat)) (p1 : Int32) (p2 : Int32) (p3 : Int32) (p4 : Int32) (p5 : Int32) (s0 : Int32) : Option (Int32 × xmW) := ((fX5_begins w (p0) ).bind fun w32 => (if p4 = 0 then ((xmput w32 p0 5 23 (xI (0 : Int32))).bind fun w33 => ((xmput w33 p0 5 24 (xL (0 : Int64))).bind fun w34 => (fX5_dot_L203 xmN w34 (p0) (p1) (p2) (p3) (p5) (s0) ((0 : Int32)) ))) else (fX5_dot_L107 xmN w32 (p0) (p1) (p2) (p3) (p5) (s0) ((0 : Int32)) ((0 : Int32)) )))
set_option maxHeartbeats 4000000 in
set_option maxRecDepth 100000 in
theorem lX5_dot_L90 {p : Program} {l : Launch} {e : Env} {s : State} {m : MethodId} {args : Array Value} {below : List Frame} {meth : Method} {c : Code} {D : va_G} {ks : Nat → ClassId} {b : Nat} (hC : xmC p s m args meth c D ks b 10 cX5_dot RX5) (hr : meth.sig.returnType = (some (FieldType.int))) {y : Int32} {wz : xmW} (w : xmW) (p0 : (Option Nat)) (p1 : Int32) (p2 : Int32) (p3 : Int32) (p4 : Int32) (p5 : Int32) (s0 : Int32) (hf : fX5_dot_L90 w p0 p1 p2 p3 p4 p5 s0 = some (y, wz)) : xmJ p l e ({ frames := 8, cells := 0, slots := 0, locals := 203 } : Room) s m args below meth c D ks b 10 (MQ below (xmQ D ks b (some (xI y)) wz) args s 0 0 (xmA b)) w 0 0 90 [(0, xR p0), (1, xI p1), (2, xI p2), (3, xI p3), (4, xI p4), (5, xI p5)] [xI s0] := by
  unfold fX5_dot_L90 at hf
  refine xj_istore (lv' := [(6, xI s0), (0, xR p0), (1, xI p1), (2, xI p2), (3, xI p3), (4, xI p4), (5, xI p5)]) hC dX5_dot_90 (by decide) rfl ?_
  refine xj_aload_n hC dX5_dot_92 rfl 1 rfl ?_
  obtain ⟨w32, hc31, hf⟩ := xm_bind hf
  obtain ⟨_, hob, _⟩ := xm_bind hc31
  refine xj_retv (xr_V hC (mX5_begins l D ks b hc31) hob rfl xw_cod_X5_begins xw_ini_X5 xw_ins_X5_begins xw_sel_X5_begins xw_ml_X5_176 xds_X5_begins ⟨Nat.le_of_ble_eq_true rfl, Nat.le_of_ble_eq_true rfl⟩ rfl rfl (Nat.le_of_ble_eq_true rfl) ⟨Nat.le_of_ble_eq_true rfl, Nat.le_of_ble_eq_true rfl⟩ dX5_dot_93) ?_
  refine xj_iload hC dX5_dot_96 5 rfl ?_
  refine xb_if_eq (tgt := 190) hC dX5_dot_98 (by decide) hf (fun hf => ?_) (fun hf => ?_)
  · refine xj_aload_n hC dX5_dot_190 rfl 1 rfl ?_
    refine xj_iconst (v := 0) hC dX5_dot_191 (by decide) ?_
    refine xb_put hC 5 23 xcl_5 (by decide) xw_fl_X5_230 rfl (xmfit_i _) dX5_dot_192 hf (fun w33 hf => ?_)
    refine xj_aload_n hC dX5_dot_195 rfl 1 rfl ?_
    refine xj_lconst (v := 0) hC dX5_dot_196 (by decide) ?_
    refine xb_put hC 5 24 xcl_5 (by decide) xw_fl_X5_240 rfl (xmfit_l _) dX5_dot_197 hf (fun w34 hf => ?_)
    refine xj_iconst (v := 0) hC dX5_dot_200 (by decide) ?_
    refine xj_istore (lv' := [(7, xI (0 : Int32)), (6, xI s0), (0, xR p0), (1, xI p1), (2, xI p2), (3, xI p3), (4, xI p4), (5, xI p5)]) hC dX5_dot_201 (by decide) rfl ?_
    refine xj_lv [2, 3, 4, 5, 7, 1, 0] rfl ?_
    exact lX5_dot_L203 hC hr  xmN w34 (p0) (p1) (p2) (p3) (p5) (s0) ((0 : Int32))  hf
  · refine xj_iconst (v := 0) hC dX5_dot_101 (by decide) ?_
    refine xj_istore (lv' := [(7, xI (0 : Int32)), (6, xI s0), (0, xR p0), (1, xI p1), (2, xI p2), (3, xI p3), (4, xI p4), (5, xI p5)]) hC dX5_dot_102 (by decide) rfl ?_
    refine xj_iconst (v := 0) hC dX5_dot_104 (by decide) ?_
    refine xj_istore (lv' := [(8, xI (0 : Int32)), (7, xI (0 : Int32)), (6, xI s0), (0, xR p0), (1, xI p1), (2, xI p2), (3, xI p3), (4, xI p4), (5, xI p5)]) hC dX5_dot_105 (by decide) rfl ?_
    refine xj_lv [3, 4, 5, 6, 8, 2, 1, 0] rfl ?_
    exact lX5_dot_L107 hC hr  xmN w32 (p0) (p1) (p2) (p3) (p5) (s0) ((0 : Int32)) ((0 : Int32))  hf
def fX5_dot (w : xmW) (th : (Option Nat)) (a1 : Int32) (a2 : Int32) (a3 : Int32) (a4 : Int32) : Option (Int32 × xmW) := ((xmob w th 5).bind fun _ => ((fX5_isRow w (th) (a1)).bind fun v2 => (if v2 = 0 then (xmb2 (fX5_refused w (th) ((-1 : Int32))) fun v4 w5 => (some (v4, w5))) else ((fX5_isRow w (th) (a2)).bind fun v7 => (if v7 = 0 then (xmb2 (fX5_refused w (th) ((-1 : Int32))) fun v9 w10 => (some (v9, w10))) else ((fX5_in w ((a3).toInt64) ((0 : Int64)) ((5 : Int64))).bind fun v12 => (if v12 = 0 then (xmb2 (fX5_refused w (th) ((-1 : Int32))) fun v29 w30 => (some (v29, w30))) else ((xmgR w th 5 7).bind fun v13 => ((xmild w v13 0 a1).bind fun v14 => ((xmgR w th 5 7).bind fun v15 => ((xmild w v15 0 a2).bind fun v16 => (if v14 = v16 then ((xmgR w th 5 8).bind fun v17 => ((xmild w v17 0 a1).bind fun v18 => ((xmgR w th 5 8).bind fun v19 => ((xmild w v19 0 a2).bind fun v20 => (if v20 ≤ v18 then ((xmgR w th 5 8).bind fun v21 => ((xmild w v21 0 a2).bind fun v22 => (fX5_dot_L90 w (th) (a1) (a2) (a3) (a4) (v14) (v22)))) else ((xmgR w th 5 8).bind fun v23 => ((xmild w v23 0 a1).bind fun v24 => (fX5_dot_L90 w (th) (a1) (a2) (a3) (a4) (v14) (v24))))))))) else (xmb2 (fX5_refused w (th) ((-2 : Int32))) fun v26 w27 => (some (v26, w27)))))))))))))))
set_option maxHeartbeats 4000000 in
set_option maxRecDepth 100000 in
theorem mX5_dot (l : Launch) (D : va_G) (ks : Nat → ClassId) (b : Nat) {w : xmW} {th : (Option Nat)} {a1 : Int32} {a2 : Int32} {a3 : Int32} {a4 : Int32} {y : Int32} {wz : xmW} (hf : fX5_dot w th a1 a2 a3 a4 = some (y, wz)) : xmM l yX5_dot (Cond.code yX5_dot cX5_dot 10 (some (FieldType.int)) :: xmTs) 8 203 0 0 D ks b w [xR th, xI a1, xI a2, xI a3, xI a4] (some (xI y)) wz := by
  unfold fX5_dot at hf
  obtain ⟨_, _, hf⟩ := xm_bind hf
  refine xmM.of (own := RX5) (lv0 := [(0, xR th), (1, xI a1), (2, xI a2), (3, xI a3), (4, xI a4)]) (by decide) rfl (Nat.le_of_ble_eq_true rfl) rfl ?_
  intro p e s m args below meth c hC hr hnm
  refine xj_aload_n hC dX5_dot_0 rfl 0 rfl ?_
  refine xj_iload_n hC dX5_dot_1 rfl 1 rfl ?_
  obtain ⟨v2, hc1, hf⟩ := xm_bind hf
  obtain ⟨_, hob, _⟩ := xm_bind hc1
  refine xj_reti (xr_V hC (mX5_isRow l D ks b hc1) hob rfl xw_cod_X5_isRow xw_ini_X5 xw_ins_X5_isRow xw_sel_X5_isRow xw_ml_X5_257 xds_X5_isRow ⟨Nat.le_of_ble_eq_true rfl, Nat.le_of_ble_eq_true rfl⟩ rfl rfl (Nat.le_of_ble_eq_true rfl) ⟨Nat.le_of_ble_eq_true rfl, Nat.le_of_ble_eq_true rfl⟩ dX5_dot_2) ?_
  refine xb_if_eq (tgt := 28) hC dX5_dot_5 (by decide) hf (fun hf => ?_) (fun hf => ?_)
  · refine xj_aload_n hC dX5_dot_28 rfl 0 rfl ?_
    refine xj_iconst (v := -1) hC dX5_dot_29 (by decide) ?_
    obtain ⟨v4, w5, hc3, hf⟩ := xm_b2 hf
    obtain ⟨_, hob, _⟩ := xm_bind hc3
    refine xj_reti (xr_V hC (mX5_refused l D ks b hc3) hob rfl xw_cod_X5_refused xw_ini_X5 xw_ins_X5_refused xw_sel_X5_refused xw_ml_X5_57 xds_X5_refused ⟨Nat.le_of_ble_eq_true rfl, Nat.le_of_ble_eq_true rfl⟩ rfl rfl (Nat.le_of_ble_eq_true rfl) ⟨Nat.le_of_ble_eq_true rfl, Nat.le_of_ble_eq_true rfl⟩ dX5_dot_30) ?_
    obtain ⟨he, hw⟩ := Prod.mk.inj (Option.some.inj hf)
    exact xj_iret hC hr (by decide) (by decide) dX5_dot_33 he hw
  · refine xj_aload_n hC dX5_dot_8 rfl 0 rfl ?_
    refine xj_iload_n hC dX5_dot_9 rfl 2 rfl ?_
    obtain ⟨v7, hc6, hf⟩ := xm_bind hf
    obtain ⟨_, hob, _⟩ := xm_bind hc6
    refine xj_reti (xr_V hC (mX5_isRow l D ks b hc6) hob rfl xw_cod_X5_isRow xw_ini_X5 xw_ins_X5_isRow xw_sel_X5_isRow xw_ml_X5_257 xds_X5_isRow ⟨Nat.le_of_ble_eq_true rfl, Nat.le_of_ble_eq_true rfl⟩ rfl rfl (Nat.le_of_ble_eq_true rfl) ⟨Nat.le_of_ble_eq_true rfl, Nat.le_of_ble_eq_true rfl⟩ dX5_dot_10) ?_
    refine xb_if_eq (tgt := 28) hC dX5_dot_13 (by decide) hf (fun hf => ?_) (fun hf => ?_)
    · refine xj_aload_n hC dX5_dot_28 rfl 0 rfl ?_
      refine xj_iconst (v := -1) hC dX5_dot_29 (by decide) ?_
      obtain ⟨v9, w10, hc8, hf⟩ := xm_b2 hf
      obtain ⟨_, hob, _⟩ := xm_bind hc8
      refine xj_reti (xr_V hC (mX5_refused l D ks b hc8) hob rfl xw_cod_X5_refused xw_ini_X5 xw_ins_X5_refused xw_sel_X5_refused xw_ml_X5_57 xds_X5_refused ⟨Nat.le_of_ble_eq_true rfl, Nat.le_of_ble_eq_true rfl⟩ rfl rfl (Nat.le_of_ble_eq_true rfl) ⟨Nat.le_of_ble_eq_true rfl, Nat.le_of_ble_eq_true rfl⟩ dX5_dot_30) ?_
      obtain ⟨he, hw⟩ := Prod.mk.inj (Option.some.inj hf)
      exact xj_iret hC hr (by decide) (by decide) dX5_dot_33 he hw
    · refine xj_iload_n hC dX5_dot_16 rfl 3 rfl ?_
      refine xj_i2l hC dX5_dot_17 ?_
      refine xj_lconst (v := 0) hC dX5_dot_18 (by decide) ?_
      refine xj_ldc2 hC xw_cst_X5_105 dX5_dot_19 ?_
      obtain ⟨v12, hc11, hf⟩ := xm_bind hf
      refine xj_reti (xr_S hC (mX5_in l D ks b hc11) xw_cod_X5_in xw_ini_X5 xw_sta_X5_in xw_ml_X5_70 xds_X5_in ⟨Nat.le_of_ble_eq_true rfl, Nat.le_of_ble_eq_true rfl⟩ rfl rfl (Nat.le_of_ble_eq_true rfl) ⟨Nat.le_of_ble_eq_true rfl, Nat.le_of_ble_eq_true rfl⟩ dX5_dot_22) ?_
      refine xb_if_ne (tgt := 34) hC dX5_dot_25 (by decide) hf (fun hf => ?_) (fun hf => ?_)
      · refine xj_aload_n hC dX5_dot_34 rfl 0 rfl ?_
        refine xb_getR hC 5 7 xcl_5 (by decide) xw_fl_X5_29 dX5_dot_35 hf (fun v13 hf => ?_)
        refine xj_iload_n hC dX5_dot_38 rfl 1 rfl ?_
        refine xb_iald hC dX5_dot_39 hf (fun v14 hf => ?_)
        refine xj_istore (lv' := [(5, xI v14), (0, xR th), (1, xI a1), (2, xI a2), (3, xI a3), (4, xI a4)]) hC dX5_dot_40 (by decide) rfl ?_
        refine xj_iload hC dX5_dot_42 0 rfl ?_
        refine xj_aload_n hC dX5_dot_44 rfl 1 rfl ?_
        refine xb_getR hC 5 7 xcl_5 (by decide) xw_fl_X5_29 dX5_dot_45 hf (fun v15 hf => ?_)
        refine xj_iload_n hC dX5_dot_48 rfl 3 rfl ?_
        refine xb_iald hC dX5_dot_49 hf (fun v16 hf => ?_)
        refine xb_ic_eq (tgt := 60) hC dX5_dot_50 (by decide) hf (fun hf => ?_) (fun hf => ?_)
        · refine xj_aload_n hC dX5_dot_60 rfl 1 rfl ?_
          refine xb_getR hC 5 8 xcl_5 (by decide) xw_fl_X5_32 dX5_dot_61 hf (fun v17 hf => ?_)
          refine xj_iload_n hC dX5_dot_64 rfl 2 rfl ?_
          refine xb_iald hC dX5_dot_65 hf (fun v18 hf => ?_)
          refine xj_aload_n hC dX5_dot_66 rfl 1 rfl ?_
          refine xb_getR hC 5 8 xcl_5 (by decide) xw_fl_X5_32 dX5_dot_67 hf (fun v19 hf => ?_)
          refine xj_iload_n hC dX5_dot_70 rfl 3 rfl ?_
          refine xb_iald hC dX5_dot_71 hf (fun v20 hf => ?_)
          refine xb_ic_ge (tgt := 84) hC dX5_dot_72 (by decide) hf (fun hf => ?_) (fun hf => ?_)
          · refine xj_aload_n hC dX5_dot_84 rfl 1 rfl ?_
            refine xb_getR hC 5 8 xcl_5 (by decide) xw_fl_X5_32 dX5_dot_85 hf (fun v21 hf => ?_)
            refine xj_iload_n hC dX5_dot_88 rfl 3 rfl ?_
            refine xb_iald hC dX5_dot_89 hf (fun v22 hf => ?_)
            refine xj_lv [1, 2, 3, 4, 5, 0] rfl ?_
            exact lX5_dot_L90 hC hr  w (th) (a1) (a2) (a3) (a4) (v14) (v22) hf
          · refine xj_aload_n hC dX5_dot_75 rfl 1 rfl ?_
            refine xb_getR hC 5 8 xcl_5 (by decide) xw_fl_X5_32 dX5_dot_76 hf (fun v23 hf => ?_)
            refine xj_iload_n hC dX5_dot_79 rfl 2 rfl ?_
            refine xb_iald hC dX5_dot_80 hf (fun v24 hf => ?_)
            refine xj_goto (tgt := 90) hC dX5_dot_81 (by decide) ?_
            refine xj_lv [1, 2, 3, 4, 5, 0] rfl ?_
            exact lX5_dot_L90 hC hr  w (th) (a1) (a2) (a3) (a4) (v14) (v24) hf
        · refine xj_aload_n hC dX5_dot_53 rfl 1 rfl ?_
          refine xj_bipush (v := -2) hC dX5_dot_54 (by decide) ?_
          obtain ⟨v26, w27, hc25, hf⟩ := xm_b2 hf
          obtain ⟨_, hob, _⟩ := xm_bind hc25
          refine xj_reti (xr_V hC (mX5_refused l D ks b hc25) hob rfl xw_cod_X5_refused xw_ini_X5 xw_ins_X5_refused xw_sel_X5_refused xw_ml_X5_57 xds_X5_refused ⟨Nat.le_of_ble_eq_true rfl, Nat.le_of_ble_eq_true rfl⟩ rfl rfl (Nat.le_of_ble_eq_true rfl) ⟨Nat.le_of_ble_eq_true rfl, Nat.le_of_ble_eq_true rfl⟩ dX5_dot_56) ?_
          obtain ⟨he, hw⟩ := Prod.mk.inj (Option.some.inj hf)
          exact xj_iret hC hr (by decide) (by decide) dX5_dot_59 he hw
      · refine xj_aload_n hC dX5_dot_28 rfl 0 rfl ?_
        refine xj_iconst (v := -1) hC dX5_dot_29 (by decide) ?_
        obtain ⟨v29, w30, hc28, hf⟩ := xm_b2 hf
        obtain ⟨_, hob, _⟩ := xm_bind hc28
        refine xj_reti (xr_V hC (mX5_refused l D ks b hc28) hob rfl xw_cod_X5_refused xw_ini_X5 xw_ins_X5_refused xw_sel_X5_refused xw_ml_X5_57 xds_X5_refused ⟨Nat.le_of_ble_eq_true rfl, Nat.le_of_ble_eq_true rfl⟩ rfl rfl (Nat.le_of_ble_eq_true rfl) ⟨Nat.le_of_ble_eq_true rfl, Nat.le_of_ble_eq_true rfl⟩ dX5_dot_30) ?_
        obtain ⟨he, hw⟩ := Prod.mk.inj (Option.some.inj hf)
        exact xj_iret hC hr (by decide) (by decide) dX5_dot_33 he hw
def fX5_table (w : xmW) (th : (Option Nat)) (a1 : Int32) (a2 : Int32) (a3 : Int32) : Option (Int32 × xmW) := ((xmob w th 5).bind fun _ => ((fX5_isFormat w (th) (a1)).bind fun v2 => (if v2 = 0 then (xmb2 (fX5_refused w (th) ((-1 : Int32))) fun v4 w5 => (some (v4, w5))) else ((fX5_in w ((a2).toInt64) ((0 : Int64)) ((6 : Int64))).bind fun v7 => (if v7 = 0 then (xmb2 (fX5_refused w (th) ((-1 : Int32))) fun v9 w10 => (some (v9, w10))) else ((fX5_in w ((a3).toInt64) ((0 : Int64)) ((5 : Int64))).bind fun v12 => (if v12 = 0 then (xmb2 (fX5_refused w (th) ((-1 : Int32))) fun v33 w34 => (some (v33, w34))) else ((fX5_bits w (th) (a1)).bind fun v14 => (if v14 ≤ (6 : Int32) then ((xmgI w th 5 10).bind fun v15 => (if v15 = (100 : Int32) then (xmb2 (fX5_refused w (th) ((-3 : Int32))) fun v27 w28 => (some (v27, w28))) else ((xmgI w th 5 10).bind fun v16 => ((xmput w th 5 10 (xI (v16 + (1 : Int32)))).bind fun w17 => ((xmput w17 th 5 11 (xI a1)).bind fun w18 => ((xmput w18 th 5 12 (xI a2)).bind fun w19 => ((xmput w19 th 5 13 (xI a3)).bind fun w20 => ((fX5_bits w20 (th) (a1)).bind fun v22 => (xmb2 (fX5_fine w20 (th) (((1 : Int32) <<< (((2 : Int32) * v22) &&& 31)))) fun v24 w25 => (some (v24, w25))))))))))) else (xmb2 (fX5_refused w (th) ((-2 : Int32))) fun v30 w31 => (some (v30, w31))))))))))))
set_option maxHeartbeats 4000000 in
set_option maxRecDepth 100000 in
theorem mX5_table (l : Launch) (D : va_G) (ks : Nat → ClassId) (b : Nat) {w : xmW} {th : (Option Nat)} {a1 : Int32} {a2 : Int32} {a3 : Int32} {y : Int32} {wz : xmW} (hf : fX5_table w th a1 a2 a3 = some (y, wz)) : xmM l yX5_table (Cond.code yX5_table cX5_table 4 (some (FieldType.int)) :: xmTs) 2 46 0 0 D ks b w [xR th, xI a1, xI a2, xI a3] (some (xI y)) wz := by
  unfold fX5_table at hf
  obtain ⟨_, _, hf⟩ := xm_bind hf
  refine xmM.of (own := RX5) (lv0 := [(0, xR th), (1, xI a1), (2, xI a2), (3, xI a3)]) (by decide) rfl (Nat.le_of_ble_eq_true rfl) rfl ?_
  intro p e s m args below meth c hC hr hnm
  refine xj_aload_n hC dX5_table_0 rfl 0 rfl ?_
  refine xj_iload_n hC dX5_table_1 rfl 1 rfl ?_
  obtain ⟨v2, hc1, hf⟩ := xm_bind hf
  obtain ⟨_, hob, _⟩ := xm_bind hc1
  refine xj_reti (xr_V hC (mX5_isFormat l D ks b hc1) hob rfl xw_cod_X5_isFormat xw_ini_X5 xw_ins_X5_isFormat xw_sel_X5_isFormat xw_ml_X5_109 xds_X5_isFormat ⟨Nat.le_of_ble_eq_true rfl, Nat.le_of_ble_eq_true rfl⟩ rfl rfl (Nat.le_of_ble_eq_true rfl) ⟨Nat.le_of_ble_eq_true rfl, Nat.le_of_ble_eq_true rfl⟩ dX5_table_2) ?_
  refine xb_if_eq (tgt := 32) hC dX5_table_5 (by decide) hf (fun hf => ?_) (fun hf => ?_)
  · refine xj_aload_n hC dX5_table_32 rfl 0 rfl ?_
    refine xj_iconst (v := -1) hC dX5_table_33 (by decide) ?_
    obtain ⟨v4, w5, hc3, hf⟩ := xm_b2 hf
    obtain ⟨_, hob, _⟩ := xm_bind hc3
    refine xj_reti (xr_V hC (mX5_refused l D ks b hc3) hob rfl xw_cod_X5_refused xw_ini_X5 xw_ins_X5_refused xw_sel_X5_refused xw_ml_X5_57 xds_X5_refused ⟨Nat.le_of_ble_eq_true rfl, Nat.le_of_ble_eq_true rfl⟩ rfl rfl (Nat.le_of_ble_eq_true rfl) ⟨Nat.le_of_ble_eq_true rfl, Nat.le_of_ble_eq_true rfl⟩ dX5_table_34) ?_
    obtain ⟨he, hw⟩ := Prod.mk.inj (Option.some.inj hf)
    exact xj_iret hC hr (by decide) (by decide) dX5_table_37 he hw
  · refine xj_iload_n hC dX5_table_8 rfl 2 rfl ?_
    refine xj_i2l hC dX5_table_9 ?_
    refine xj_lconst (v := 0) hC dX5_table_10 (by decide) ?_
    refine xj_ldc2 hC xw_cst_X5_113 dX5_table_11 ?_
    obtain ⟨v7, hc6, hf⟩ := xm_bind hf
    refine xj_reti (xr_S hC (mX5_in l D ks b hc6) xw_cod_X5_in xw_ini_X5 xw_sta_X5_in xw_ml_X5_70 xds_X5_in ⟨Nat.le_of_ble_eq_true rfl, Nat.le_of_ble_eq_true rfl⟩ rfl rfl (Nat.le_of_ble_eq_true rfl) ⟨Nat.le_of_ble_eq_true rfl, Nat.le_of_ble_eq_true rfl⟩ dX5_table_14) ?_
    refine xb_if_eq (tgt := 32) hC dX5_table_17 (by decide) hf (fun hf => ?_) (fun hf => ?_)
    · refine xj_aload_n hC dX5_table_32 rfl 0 rfl ?_
      refine xj_iconst (v := -1) hC dX5_table_33 (by decide) ?_
      obtain ⟨v9, w10, hc8, hf⟩ := xm_b2 hf
      obtain ⟨_, hob, _⟩ := xm_bind hc8
      refine xj_reti (xr_V hC (mX5_refused l D ks b hc8) hob rfl xw_cod_X5_refused xw_ini_X5 xw_ins_X5_refused xw_sel_X5_refused xw_ml_X5_57 xds_X5_refused ⟨Nat.le_of_ble_eq_true rfl, Nat.le_of_ble_eq_true rfl⟩ rfl rfl (Nat.le_of_ble_eq_true rfl) ⟨Nat.le_of_ble_eq_true rfl, Nat.le_of_ble_eq_true rfl⟩ dX5_table_34) ?_
      obtain ⟨he, hw⟩ := Prod.mk.inj (Option.some.inj hf)
      exact xj_iret hC hr (by decide) (by decide) dX5_table_37 he hw
    · refine xj_iload_n hC dX5_table_20 rfl 3 rfl ?_
      refine xj_i2l hC dX5_table_21 ?_
      refine xj_lconst (v := 0) hC dX5_table_22 (by decide) ?_
      refine xj_ldc2 hC xw_cst_X5_105 dX5_table_23 ?_
      obtain ⟨v12, hc11, hf⟩ := xm_bind hf
      refine xj_reti (xr_S hC (mX5_in l D ks b hc11) xw_cod_X5_in xw_ini_X5 xw_sta_X5_in xw_ml_X5_70 xds_X5_in ⟨Nat.le_of_ble_eq_true rfl, Nat.le_of_ble_eq_true rfl⟩ rfl rfl (Nat.le_of_ble_eq_true rfl) ⟨Nat.le_of_ble_eq_true rfl, Nat.le_of_ble_eq_true rfl⟩ dX5_table_26) ?_
      refine xb_if_ne (tgt := 38) hC dX5_table_29 (by decide) hf (fun hf => ?_) (fun hf => ?_)
      · refine xj_aload_n hC dX5_table_38 rfl 0 rfl ?_
        refine xj_iload_n hC dX5_table_39 rfl 1 rfl ?_
        obtain ⟨v14, hc13, hf⟩ := xm_bind hf
        obtain ⟨_, hob, _⟩ := xm_bind hc13
        refine xj_reti (xr_V hC (mX5_bits l D ks b hc13) hob rfl xw_cod_X5_bits xw_ini_X5 xw_ins_X5_bits xw_sel_X5_bits xw_ml_X5_74 xds_X5_bits ⟨Nat.le_of_ble_eq_true rfl, Nat.le_of_ble_eq_true rfl⟩ rfl rfl (Nat.le_of_ble_eq_true rfl) ⟨Nat.le_of_ble_eq_true rfl, Nat.le_of_ble_eq_true rfl⟩ dX5_table_40) ?_
        refine xj_bipush (v := 6) hC dX5_table_43 (by decide) ?_
        refine xb_ic_le (tgt := 55) hC dX5_table_45 (by decide) hf (fun hf => ?_) (fun hf => ?_)
        · refine xj_aload_n hC dX5_table_55 rfl 0 rfl ?_
          refine xb_getI hC 5 10 xcl_5 (by decide) xw_fl_X5_260 dX5_table_56 hf (fun v15 hf => ?_)
          refine xj_bipush (v := 100) hC dX5_table_59 (by decide) ?_
          refine xb_ic_ne (tgt := 71) hC dX5_table_61 (by decide) hf (fun hf => ?_) (fun hf => ?_)
          · refine xj_aload_n hC dX5_table_71 rfl 0 rfl ?_
            refine xj_dup hC dX5_table_72 rfl ?_
            refine xb_getI hC 5 10 xcl_5 (by decide) xw_fl_X5_260 dX5_table_73 hf (fun v16 hf => ?_)
            refine xj_iconst (v := 1) hC dX5_table_76 (by decide) ?_
            refine xj_iadd hC dX5_table_77 ?_
            refine xb_put hC 5 10 xcl_5 (by decide) xw_fl_X5_260 rfl (xmfit_i _) dX5_table_78 hf (fun w17 hf => ?_)
            refine xj_aload_n hC dX5_table_81 rfl 0 rfl ?_
            refine xj_iload_n hC dX5_table_82 rfl 1 rfl ?_
            refine xb_put hC 5 11 xcl_5 (by decide) xw_fl_X5_38 rfl (xmfit_i _) dX5_table_83 hf (fun w18 hf => ?_)
            refine xj_aload_n hC dX5_table_86 rfl 0 rfl ?_
            refine xj_iload_n hC dX5_table_87 rfl 2 rfl ?_
            refine xb_put hC 5 12 xcl_5 (by decide) xw_fl_X5_263 rfl (xmfit_i _) dX5_table_88 hf (fun w19 hf => ?_)
            refine xj_aload_n hC dX5_table_91 rfl 0 rfl ?_
            refine xj_iload_n hC dX5_table_92 rfl 3 rfl ?_
            refine xb_put hC 5 13 xcl_5 (by decide) xw_fl_X5_266 rfl (xmfit_i _) dX5_table_93 hf (fun w20 hf => ?_)
            refine xj_aload_n hC dX5_table_96 rfl 0 rfl ?_
            refine xj_iconst (v := 1) hC dX5_table_97 (by decide) ?_
            refine xj_iconst (v := 2) hC dX5_table_98 (by decide) ?_
            refine xj_aload_n hC dX5_table_99 rfl 0 rfl ?_
            refine xj_iload_n hC dX5_table_100 rfl 1 rfl ?_
            obtain ⟨v22, hc21, hf⟩ := xm_bind hf
            obtain ⟨_, hob, _⟩ := xm_bind hc21
            refine xj_reti (xr_V hC (mX5_bits l D ks b hc21) hob rfl xw_cod_X5_bits xw_ini_X5 xw_ins_X5_bits xw_sel_X5_bits xw_ml_X5_74 xds_X5_bits ⟨Nat.le_of_ble_eq_true rfl, Nat.le_of_ble_eq_true rfl⟩ rfl rfl (Nat.le_of_ble_eq_true rfl) ⟨Nat.le_of_ble_eq_true rfl, Nat.le_of_ble_eq_true rfl⟩ dX5_table_101) ?_
            refine xj_imul hC dX5_table_104 ?_
            refine xj_ishl hC dX5_table_105 ?_
            obtain ⟨v24, w25, hc23, hf⟩ := xm_b2 hf
            obtain ⟨_, hob, _⟩ := xm_bind hc23
            refine xj_reti (xr_V hC (mX5_fine l D ks b hc23) hob rfl xw_cod_X5_fine xw_ini_X5 xw_ins_X5_fine xw_sel_X5_fine xw_ml_X5_67 xds_X5_fine ⟨Nat.le_of_ble_eq_true rfl, Nat.le_of_ble_eq_true rfl⟩ rfl rfl (Nat.le_of_ble_eq_true rfl) ⟨Nat.le_of_ble_eq_true rfl, Nat.le_of_ble_eq_true rfl⟩ dX5_table_106) ?_
            obtain ⟨he, hw⟩ := Prod.mk.inj (Option.some.inj hf)
            exact xj_iret hC hr (by decide) (by decide) dX5_table_109 he hw
          · refine xj_aload_n hC dX5_table_64 rfl 0 rfl ?_
            refine xj_bipush (v := -3) hC dX5_table_65 (by decide) ?_
            obtain ⟨v27, w28, hc26, hf⟩ := xm_b2 hf
            obtain ⟨_, hob, _⟩ := xm_bind hc26
            refine xj_reti (xr_V hC (mX5_refused l D ks b hc26) hob rfl xw_cod_X5_refused xw_ini_X5 xw_ins_X5_refused xw_sel_X5_refused xw_ml_X5_57 xds_X5_refused ⟨Nat.le_of_ble_eq_true rfl, Nat.le_of_ble_eq_true rfl⟩ rfl rfl (Nat.le_of_ble_eq_true rfl) ⟨Nat.le_of_ble_eq_true rfl, Nat.le_of_ble_eq_true rfl⟩ dX5_table_67) ?_
            obtain ⟨he, hw⟩ := Prod.mk.inj (Option.some.inj hf)
            exact xj_iret hC hr (by decide) (by decide) dX5_table_70 he hw
        · refine xj_aload_n hC dX5_table_48 rfl 0 rfl ?_
          refine xj_bipush (v := -2) hC dX5_table_49 (by decide) ?_
          obtain ⟨v30, w31, hc29, hf⟩ := xm_b2 hf
          obtain ⟨_, hob, _⟩ := xm_bind hc29
          refine xj_reti (xr_V hC (mX5_refused l D ks b hc29) hob rfl xw_cod_X5_refused xw_ini_X5 xw_ins_X5_refused xw_sel_X5_refused xw_ml_X5_57 xds_X5_refused ⟨Nat.le_of_ble_eq_true rfl, Nat.le_of_ble_eq_true rfl⟩ rfl rfl (Nat.le_of_ble_eq_true rfl) ⟨Nat.le_of_ble_eq_true rfl, Nat.le_of_ble_eq_true rfl⟩ dX5_table_51) ?_
          obtain ⟨he, hw⟩ := Prod.mk.inj (Option.some.inj hf)
          exact xj_iret hC hr (by decide) (by decide) dX5_table_54 he hw
      · refine xj_aload_n hC dX5_table_32 rfl 0 rfl ?_
        refine xj_iconst (v := -1) hC dX5_table_33 (by decide) ?_
        obtain ⟨v33, w34, hc32, hf⟩ := xm_b2 hf
        obtain ⟨_, hob, _⟩ := xm_bind hc32
        refine xj_reti (xr_V hC (mX5_refused l D ks b hc32) hob rfl xw_cod_X5_refused xw_ini_X5 xw_ins_X5_refused xw_sel_X5_refused xw_ml_X5_57 xds_X5_refused ⟨Nat.le_of_ble_eq_true rfl, Nat.le_of_ble_eq_true rfl⟩ rfl rfl (Nat.le_of_ble_eq_true rfl) ⟨Nat.le_of_ble_eq_true rfl, Nat.le_of_ble_eq_true rfl⟩ dX5_table_34) ?_
        obtain ⟨he, hw⟩ := Prod.mk.inj (Option.some.inj hf)
        exact xj_iret hC hr (by decide) (by decide) dX5_table_37 he hw
def fX5_lookup (w : xmW) (th : (Option Nat)) (a1 : Int32) (a2 : Int32) : Option (Int32 × xmW) := ((xmob w th 5).bind fun _ => ((xmgI w th 5 11).bind fun v1 => (if 0 ≤ v1 then ((xmgI w th 5 11).bind fun v2 => ((fX5_isCode w (th) (v2) (a1)).bind fun v4 => (if v4 = 0 then (xmb2 (fX5_refused w (th) ((-1 : Int32))) fun v6 w7 => (some (v6, w7))) else ((xmgI w th 5 11).bind fun v8 => ((fX5_isCode w (th) (v8) (a2)).bind fun v10 => (if v10 = 0 then (xmb2 (fX5_refused w (th) ((-1 : Int32))) fun v28 w29 => (some (v28, w29))) else ((xmgI w th 5 16).bind fun v11 => ((fX5_begins w (th) ).bind fun w13 => ((xmgI w13 th 5 11).bind fun v14 => ((xmgI w13 th 5 12).bind fun v15 => ((xmgI w13 th 5 13).bind fun v16 => (xmb2 (fX5_acted w13 (th) (v14) (v15) (a1) (a2) (v16)) fun v18 w19 => ((xmput w19 th 5 16 (xI v11)).bind fun w20 => (if 0 ≤ v18 then (xmb2 (fX5_fine w20 (th) (v18)) fun v22 w23 => (some (v22, w23))) else (xmb2 (fX5_fine w20 (th) ((-1 : Int32))) fun v25 w26 => (some (v25, w26))))))))))))))))) else (xmb2 (fX5_refused w (th) ((-2 : Int32))) fun v31 w32 => (some (v31, w32))))))
set_option maxHeartbeats 4000000 in
set_option maxRecDepth 100000 in
theorem mX5_lookup (l : Launch) (D : va_G) (ks : Nat → ClassId) (b : Nat) {w : xmW} {th : (Option Nat)} {a1 : Int32} {a2 : Int32} {y : Int32} {wz : xmW} (hf : fX5_lookup w th a1 a2 = some (y, wz)) : xmM l yX5_lookup (Cond.code yX5_lookup cX5_lookup 5 (some (FieldType.int)) :: xmTs) 8 203 0 0 D ks b w [xR th, xI a1, xI a2] (some (xI y)) wz := by
  unfold fX5_lookup at hf
  obtain ⟨_, _, hf⟩ := xm_bind hf
  refine xmM.of (own := RX5) (lv0 := [(0, xR th), (1, xI a1), (2, xI a2)]) (by decide) rfl (Nat.le_of_ble_eq_true rfl) rfl ?_
  intro p e s m args below meth c hC hr hnm
  refine xj_aload_n hC dX5_lookup_0 rfl 0 rfl ?_
  refine xb_getI hC 5 11 xcl_5 (by decide) xw_fl_X5_38 dX5_lookup_1 hf (fun v1 hf => ?_)
  refine xb_if_ge (tgt := 14) hC dX5_lookup_4 (by decide) hf (fun hf => ?_) (fun hf => ?_)
  · refine xj_aload_n hC dX5_lookup_14 rfl 0 rfl ?_
    refine xj_aload_n hC dX5_lookup_15 rfl 0 rfl ?_
    refine xb_getI hC 5 11 xcl_5 (by decide) xw_fl_X5_38 dX5_lookup_16 hf (fun v2 hf => ?_)
    refine xj_iload_n hC dX5_lookup_19 rfl 1 rfl ?_
    obtain ⟨v4, hc3, hf⟩ := xm_bind hf
    obtain ⟨_, hob, _⟩ := xm_bind hc3
    refine xj_reti (xr_V hC (mX5_isCode l D ks b hc3) hob rfl xw_cod_X5_isCode xw_ini_X5 xw_ins_X5_isCode xw_sel_X5_isCode xw_ml_X5_130 xds_X5_isCode ⟨Nat.le_of_ble_eq_true rfl, Nat.le_of_ble_eq_true rfl⟩ rfl rfl (Nat.le_of_ble_eq_true rfl) ⟨Nat.le_of_ble_eq_true rfl, Nat.le_of_ble_eq_true rfl⟩ dX5_lookup_20) ?_
    refine xb_if_eq (tgt := 38) hC dX5_lookup_23 (by decide) hf (fun hf => ?_) (fun hf => ?_)
    · refine xj_aload_n hC dX5_lookup_38 rfl 0 rfl ?_
      refine xj_iconst (v := -1) hC dX5_lookup_39 (by decide) ?_
      obtain ⟨v6, w7, hc5, hf⟩ := xm_b2 hf
      obtain ⟨_, hob, _⟩ := xm_bind hc5
      refine xj_reti (xr_V hC (mX5_refused l D ks b hc5) hob rfl xw_cod_X5_refused xw_ini_X5 xw_ins_X5_refused xw_sel_X5_refused xw_ml_X5_57 xds_X5_refused ⟨Nat.le_of_ble_eq_true rfl, Nat.le_of_ble_eq_true rfl⟩ rfl rfl (Nat.le_of_ble_eq_true rfl) ⟨Nat.le_of_ble_eq_true rfl, Nat.le_of_ble_eq_true rfl⟩ dX5_lookup_40) ?_
      obtain ⟨he, hw⟩ := Prod.mk.inj (Option.some.inj hf)
      exact xj_iret hC hr (by decide) (by decide) dX5_lookup_43 he hw
    · refine xj_aload_n hC dX5_lookup_26 rfl 0 rfl ?_
      refine xj_aload_n hC dX5_lookup_27 rfl 0 rfl ?_
      refine xb_getI hC 5 11 xcl_5 (by decide) xw_fl_X5_38 dX5_lookup_28 hf (fun v8 hf => ?_)
      refine xj_iload_n hC dX5_lookup_31 rfl 2 rfl ?_
      obtain ⟨v10, hc9, hf⟩ := xm_bind hf
      obtain ⟨_, hob, _⟩ := xm_bind hc9
      refine xj_reti (xr_V hC (mX5_isCode l D ks b hc9) hob rfl xw_cod_X5_isCode xw_ini_X5 xw_ins_X5_isCode xw_sel_X5_isCode xw_ml_X5_130 xds_X5_isCode ⟨Nat.le_of_ble_eq_true rfl, Nat.le_of_ble_eq_true rfl⟩ rfl rfl (Nat.le_of_ble_eq_true rfl) ⟨Nat.le_of_ble_eq_true rfl, Nat.le_of_ble_eq_true rfl⟩ dX5_lookup_32) ?_
      refine xb_if_ne (tgt := 44) hC dX5_lookup_35 (by decide) hf (fun hf => ?_) (fun hf => ?_)
      · refine xj_aload_n hC dX5_lookup_44 rfl 0 rfl ?_
        refine xb_getI hC 5 16 xcl_5 (by decide) xw_fl_X5_186 dX5_lookup_45 hf (fun v11 hf => ?_)
        refine xj_istore_n (lv' := [(3, xI v11), (0, xR th), (1, xI a1), (2, xI a2)]) hC dX5_lookup_48 rfl (by decide) rfl ?_
        refine xj_aload_n hC dX5_lookup_49 rfl 1 rfl ?_
        obtain ⟨w13, hc12, hf⟩ := xm_bind hf
        obtain ⟨_, hob, _⟩ := xm_bind hc12
        refine xj_retv (xr_V hC (mX5_begins l D ks b hc12) hob rfl xw_cod_X5_begins xw_ini_X5 xw_ins_X5_begins xw_sel_X5_begins xw_ml_X5_176 xds_X5_begins ⟨Nat.le_of_ble_eq_true rfl, Nat.le_of_ble_eq_true rfl⟩ rfl rfl (Nat.le_of_ble_eq_true rfl) ⟨Nat.le_of_ble_eq_true rfl, Nat.le_of_ble_eq_true rfl⟩ dX5_lookup_50) ?_
        refine xj_aload_n hC dX5_lookup_53 rfl 1 rfl ?_
        refine xj_aload_n hC dX5_lookup_54 rfl 1 rfl ?_
        refine xb_getI hC 5 11 xcl_5 (by decide) xw_fl_X5_38 dX5_lookup_55 hf (fun v14 hf => ?_)
        refine xj_aload_n hC dX5_lookup_58 rfl 1 rfl ?_
        refine xb_getI hC 5 12 xcl_5 (by decide) xw_fl_X5_263 dX5_lookup_59 hf (fun v15 hf => ?_)
        refine xj_iload_n hC dX5_lookup_62 rfl 2 rfl ?_
        refine xj_iload_n hC dX5_lookup_63 rfl 3 rfl ?_
        refine xj_aload_n hC dX5_lookup_64 rfl 1 rfl ?_
        refine xb_getI hC 5 13 xcl_5 (by decide) xw_fl_X5_266 dX5_lookup_65 hf (fun v16 hf => ?_)
        obtain ⟨v18, w19, hc17, hf⟩ := xm_b2 hf
        obtain ⟨_, hob, _⟩ := xm_bind hc17
        refine xj_reti (xr_V hC (mX5_acted l D ks b hc17) hob rfl xw_cod_X5_acted xw_ini_X5 xw_ins_X5_acted xw_sel_X5_acted xw_ml_X5_226 xds_X5_acted ⟨Nat.le_of_ble_eq_true rfl, Nat.le_of_ble_eq_true rfl⟩ rfl rfl (Nat.le_of_ble_eq_true rfl) ⟨Nat.le_of_ble_eq_true rfl, Nat.le_of_ble_eq_true rfl⟩ dX5_lookup_68) ?_
        refine xj_istore (lv' := [(4, xI v18), (3, xI v11), (0, xR th), (1, xI a1), (2, xI a2)]) hC dX5_lookup_71 (by decide) rfl ?_
        refine xj_aload_n hC dX5_lookup_73 rfl 2 rfl ?_
        refine xj_iload_n hC dX5_lookup_74 rfl 1 rfl ?_
        refine xb_put hC 5 16 xcl_5 (by decide) xw_fl_X5_186 rfl (xmfit_i _) dX5_lookup_75 hf (fun w20 hf => ?_)
        refine xj_aload_n hC dX5_lookup_78 rfl 2 rfl ?_
        refine xj_iload hC dX5_lookup_79 0 rfl ?_
        refine xb_if_ge (tgt := 88) hC dX5_lookup_81 (by decide) hf (fun hf => ?_) (fun hf => ?_)
        · refine xj_iload hC dX5_lookup_88 0 rfl ?_
          obtain ⟨v22, w23, hc21, hf⟩ := xm_b2 hf
          obtain ⟨_, hob, _⟩ := xm_bind hc21
          refine xj_reti (xr_V hC (mX5_fine l D ks b hc21) hob rfl xw_cod_X5_fine xw_ini_X5 xw_ins_X5_fine xw_sel_X5_fine xw_ml_X5_67 xds_X5_fine ⟨Nat.le_of_ble_eq_true rfl, Nat.le_of_ble_eq_true rfl⟩ rfl rfl (Nat.le_of_ble_eq_true rfl) ⟨Nat.le_of_ble_eq_true rfl, Nat.le_of_ble_eq_true rfl⟩ dX5_lookup_90) ?_
          obtain ⟨he, hw⟩ := Prod.mk.inj (Option.some.inj hf)
          exact xj_iret hC hr (by decide) (by decide) dX5_lookup_93 he hw
        · refine xj_iconst (v := -1) hC dX5_lookup_84 (by decide) ?_
          refine xj_goto (tgt := 90) hC dX5_lookup_85 (by decide) ?_
          obtain ⟨v25, w26, hc24, hf⟩ := xm_b2 hf
          obtain ⟨_, hob, _⟩ := xm_bind hc24
          refine xj_reti (xr_V hC (mX5_fine l D ks b hc24) hob rfl xw_cod_X5_fine xw_ini_X5 xw_ins_X5_fine xw_sel_X5_fine xw_ml_X5_67 xds_X5_fine ⟨Nat.le_of_ble_eq_true rfl, Nat.le_of_ble_eq_true rfl⟩ rfl rfl (Nat.le_of_ble_eq_true rfl) ⟨Nat.le_of_ble_eq_true rfl, Nat.le_of_ble_eq_true rfl⟩ dX5_lookup_90) ?_
          obtain ⟨he, hw⟩ := Prod.mk.inj (Option.some.inj hf)
          exact xj_iret hC hr (by decide) (by decide) dX5_lookup_93 he hw
      · refine xj_aload_n hC dX5_lookup_38 rfl 0 rfl ?_
        refine xj_iconst (v := -1) hC dX5_lookup_39 (by decide) ?_
        obtain ⟨v28, w29, hc27, hf⟩ := xm_b2 hf
        obtain ⟨_, hob, _⟩ := xm_bind hc27
        refine xj_reti (xr_V hC (mX5_refused l D ks b hc27) hob rfl xw_cod_X5_refused xw_ini_X5 xw_ins_X5_refused xw_sel_X5_refused xw_ml_X5_57 xds_X5_refused ⟨Nat.le_of_ble_eq_true rfl, Nat.le_of_ble_eq_true rfl⟩ rfl rfl (Nat.le_of_ble_eq_true rfl) ⟨Nat.le_of_ble_eq_true rfl, Nat.le_of_ble_eq_true rfl⟩ dX5_lookup_40) ?_
        obtain ⟨he, hw⟩ := Prod.mk.inj (Option.some.inj hf)
        exact xj_iret hC hr (by decide) (by decide) dX5_lookup_43 he hw
  · refine xj_aload_n hC dX5_lookup_7 rfl 0 rfl ?_
    refine xj_bipush (v := -2) hC dX5_lookup_8 (by decide) ?_
    obtain ⟨v31, w32, hc30, hf⟩ := xm_b2 hf
    obtain ⟨_, hob, _⟩ := xm_bind hc30
    refine xj_reti (xr_V hC (mX5_refused l D ks b hc30) hob rfl xw_cod_X5_refused xw_ini_X5 xw_ins_X5_refused xw_sel_X5_refused xw_ml_X5_57 xds_X5_refused ⟨Nat.le_of_ble_eq_true rfl, Nat.le_of_ble_eq_true rfl⟩ rfl rfl (Nat.le_of_ble_eq_true rfl) ⟨Nat.le_of_ble_eq_true rfl, Nat.le_of_ble_eq_true rfl⟩ dX5_lookup_10) ?_
    obtain ⟨he, hw⟩ := Prod.mk.inj (Option.some.inj hf)
    exact xj_iret hC hr (by decide) (by decide) dX5_lookup_13 he hw
def fX5_count (w : xmW) (th : (Option Nat)) (a1 : Int32) : Option Int32 := ((xmob w th 5).bind fun _ => (if a1 = (0 : Int32) then ((xmgI w th 5 14).bind fun v2 => (some v2)) else (if a1 = (1 : Int32) then ((xmgI w th 5 15).bind fun v4 => (some v4)) else (if a1 = (2 : Int32) then ((xmgI w th 5 16).bind fun v6 => (some v6)) else (if a1 = (3 : Int32) then ((xmgI w th 5 0).bind fun v8 => (some v8)) else (some (-1 : Int32)))))))
set_option maxHeartbeats 4000000 in
set_option maxRecDepth 100000 in
theorem mX5_count (l : Launch) (D : va_G) (ks : Nat → ClassId) (b : Nat) {w : xmW} {th : (Option Nat)} {a1 : Int32} {y : Int32} (hf : fX5_count w th a1 = some y) : xmM l yX5_count (Cond.code yX5_count cX5_count 2 (some (FieldType.int)) :: xmTs) 0 0 0 0 D ks b w [xR th, xI a1] (some (xI y)) w := by
  unfold fX5_count at hf
  obtain ⟨_, _, hf⟩ := xm_bind hf
  refine xmM.of (own := RX5) (lv0 := [(0, xR th), (1, xI a1)]) (by decide) rfl (Nat.le_of_ble_eq_true rfl) rfl ?_
  intro p e s m args below meth c hC hr hnm
  refine xj_iload_n hC dX5_count_0 rfl 1 rfl ?_
  refine xb_case hf (fun hx hf => ?_) (fun hn1 hf => ?_)
  · refine xj_tableIn (tgt := 32) hC (31) dX5_count_1 hx (by decide) (by decide) (by decide) (by decide) ?_
    refine xj_aload_n hC dX5_count_32 rfl 0 rfl ?_
    refine xb_getI hC 5 14 xcl_5 (by decide) xw_fl_X5_61 dX5_count_33 hf (fun v2 hf => ?_)
    exact xj_iret hC hr (by decide) (by decide) dX5_count_36 (Option.some.inj hf) rfl
  · refine xb_case hf (fun hx hf => ?_) (fun hn3 hf => ?_)
    · refine xj_tableIn (tgt := 37) hC (36) dX5_count_1 hx (by decide) (by decide) (by decide) (by decide) ?_
      refine xj_aload_n hC dX5_count_37 rfl 0 rfl ?_
      refine xb_getI hC 5 15 xcl_5 (by decide) xw_fl_X5_64 dX5_count_38 hf (fun v4 hf => ?_)
      exact xj_iret hC hr (by decide) (by decide) dX5_count_41 (Option.some.inj hf) rfl
    · refine xb_case hf (fun hx hf => ?_) (fun hn5 hf => ?_)
      · refine xj_tableIn (tgt := 42) hC (41) dX5_count_1 hx (by decide) (by decide) (by decide) (by decide) ?_
        refine xj_aload_n hC dX5_count_42 rfl 0 rfl ?_
        refine xb_getI hC 5 16 xcl_5 (by decide) xw_fl_X5_186 dX5_count_43 hf (fun v6 hf => ?_)
        exact xj_iret hC hr (by decide) (by decide) dX5_count_46 (Option.some.inj hf) rfl
      · refine xb_case hf (fun hx hf => ?_) (fun hn7 hf => ?_)
        · refine xj_tableIn (tgt := 47) hC (46) dX5_count_1 hx (by decide) (by decide) (by decide) (by decide) ?_
          refine xj_aload_n hC dX5_count_47 rfl 0 rfl ?_
          refine xb_getI hC 5 0 xcl_5 (by decide) xw_fl_X5_45 dX5_count_48 hf (fun v8 hf => ?_)
          exact xj_iret hC hr (by decide) (by decide) dX5_count_51 (Option.some.inj hf) rfl
        · have hx0 := lv_neT hn1 (a := 0) (by decide)
          have hx1 := lv_neT hn3 (a := 1) (by decide)
          have hx2 := lv_neT hn5 (a := 2) (by decide)
          have hx3 := lv_neT hn7 (a := 3) (by decide)
          refine xj_tableOut (tgt := 52) hC dX5_count_1 (by omega) (by decide) ?_
          refine xj_iconst (v := -1) hC dX5_count_52 (by decide) ?_
          exact xj_iret hC hr (by decide) (by decide) dX5_count_53 (Option.some.inj hf) rfl
def fX5_told (w : xmW) (th : (Option Nat)) : Option Int32 := ((xmob w th 5).bind fun _ => ((xmgI w th 5 17).bind fun v1 => (some v1)))
set_option maxHeartbeats 4000000 in
set_option maxRecDepth 100000 in
theorem mX5_told (l : Launch) (D : va_G) (ks : Nat → ClassId) (b : Nat) {w : xmW} {th : (Option Nat)} {y : Int32} (hf : fX5_told w th = some y) : xmM l yX5_told (Cond.code yX5_told cX5_told 1 (some (FieldType.int)) :: xmTs) 0 0 0 0 D ks b w [xR th] (some (xI y)) w := by
  unfold fX5_told at hf
  obtain ⟨_, _, hf⟩ := xm_bind hf
  refine xmM.of (own := RX5) (lv0 := [(0, xR th)]) (by decide) rfl (Nat.le_of_ble_eq_true rfl) rfl ?_
  intro p e s m args below meth c hC hr hnm
  refine xj_aload_n hC dX5_told_0 rfl 0 rfl ?_
  refine xb_getI hC 5 17 xcl_5 (by decide) xw_fl_X5_48 dX5_told_1 hf (fun v1 hf => ?_)
  exact xj_iret hC hr (by decide) (by decide) dX5_told_4 (Option.some.inj hf) rfl
