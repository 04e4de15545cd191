def fX4_init (w : xmW) (th : (Option Nat)) : Option xmW := (th.bind fun k41 => ((xmnaq w 2 10).bind fun w1 => ((xmput w1 th 4 0 (xR (some w.length))).bind fun w2 => ((xmput w2 th 4 1 (xI (0 : Int32))).bind fun w3 => ((xmnaq w3 3 4).bind fun w4 => ((xmput w4 th 4 2 (xR (some w3.length))).bind fun w5 => ((xmnai w5 0 16).bind fun w6 => ((xmput w6 th 4 3 (xR (some w5.length))).bind fun w7 => ((xmnew w7 0 [xR none]).bind fun w8 => ((fX0_init w8 ((some w7.length)) ).bind fun w10 => ((xmput w10 th 4 4 (xR (some w7.length))).bind fun w11 => ((xmnew w11 3 [xI 0, xI 0, xI 0]).bind fun w12 => ((fX3_init w12 ((some w11.length)) ).bind fun w14 => ((xmput w14 th 4 5 (xR (some w11.length))).bind fun w15 => ((xmput w15 th 4 6 (xI (0 : Int32))).bind fun w16 => ((xmput w16 th 4 7 (xR none)).bind fun w17 => ((xmput w17 th 4 8 (xI (0 : Int32))).bind fun w18 => ((xmput w18 th 4 9 (xI (0 : Int32))).bind fun w19 => ((xmput w19 th 4 10 (xI (0 : Int32))).bind fun w20 => ((xmgR w20 th 4 2).bind fun v21 => ((xmnew w20 2 [xR none, xI 0, xR none]).bind fun w22 => ((fX2_init w22 ((some w20.length)) ).bind fun w24 => ((xmqst w24 v21 3 2 (0 : Int32) (some w20.length)).bind fun w25 => ((xmgR w25 th 4 2).bind fun v26 => ((xmnew w25 2 [xR none, xI 0, xR none]).bind fun w27 => ((fX2_init w27 ((some w25.length)) ).bind fun w29 => ((xmqst w29 v26 3 2 (1 : Int32) (some w25.length)).bind fun w30 => ((xmgR w30 th 4 2).bind fun v31 => ((xmnew w30 2 [xR none, xI 0, xR none]).bind fun w32 => ((fX2_init w32 ((some w30.length)) ).bind fun w34 => ((xmqst w34 v31 3 2 (2 : Int32) (some w30.length)).bind fun w35 => ((xmgR w35 th 4 2).bind fun v36 => ((xmnew w35 2 [xR none, xI 0, xR none]).bind fun w37 => ((fX2_init w37 ((some w35.length)) ).bind fun w39 => ((xmqst w39 v36 3 2 (3 : Int32) (some w35.length)).bind fun w40 => (some w40))))))))))))))))))))))))))))))))))))
set_option maxHeartbeats 4000000 in
set_option maxRecDepth 100000 in
theorem mX4_init (l : Launch) (D : va_G) (ks : Nat → ClassId) (b : Nat) {w : xmW} {th : (Option Nat)} {wz : xmW} (hf : fX4_init w th = some wz) : xmM l yX4_init (Cond.code yX4_init cX4_init 2 none :: xmTs) 3 60 14 113 D ks b w [xR th] none wz := by
  unfold fX4_init at hf
  refine xmM.of (own := RX4) (lv0 := [(0, xR th)]) (by decide) rfl (Nat.le_of_ble_eq_true rfl) rfl ?_
  intro p e s m args below meth c hC hr hnm
  refine xj_aload_n hC dX4_init_0 rfl 0 rfl ?_
  obtain ⟨k41, hkk41, hf⟩ := xm_bind hf
  refine xj_objInit hC hkk41 xw_ml_X4_3 xw_ins_obj xw_cod_obj dX4_init_1 ⟨Nat.le_of_ble_eq_true rfl, Nat.le_of_ble_eq_true rfl⟩ ?_
  refine xj_aload_n hC dX4_init_4 rfl 0 rfl ?_
  refine xj_bipush (v := 10) hC dX4_init_5 (by decide) ?_
  refine xb_anew2 hC (N := 10) xw_cl_X4_11 (by decide) (by decide) (by decide) (by decide) (by decide) dX4_init_7 hf (fun w1 hf => ?_)
  refine xb_putF hC 4 0 xcl_4 (by decide) xw_fl_X4_13 rfl hnm rfl (xmfit_a _ _) dX4_init_10 hf (fun w2 hf => ?_)
  refine xj_aload_n hC dX4_init_13 rfl 0 rfl ?_
  refine xj_iconst (v := 0) hC dX4_init_14 (by decide) ?_
  refine xb_put hC 4 1 xcl_4 (by decide) xw_fl_X4_17 rfl (xmfit_i _) dX4_init_15 hf (fun w3 hf => ?_)
  refine xj_aload_n hC dX4_init_18 rfl 0 rfl ?_
  refine xj_iconst (v := 4) hC dX4_init_19 (by decide) ?_
  refine xb_anew3 hC (N := 4) xw_cl_X4_21 (by decide) (by decide) (by decide) (by decide) (by decide) dX4_init_20 hf (fun w4 hf => ?_)
  refine xb_putF hC 4 2 xcl_4 (by decide) xw_fl_X4_23 rfl hnm rfl (xmfit_a _ _) dX4_init_23 hf (fun w5 hf => ?_)
  refine xj_aload_n hC dX4_init_26 rfl 0 rfl ?_
  refine xj_bipush (v := 16) hC dX4_init_27 (by decide) ?_
  refine xb_newarr hC (N := 16) 0 (by decide) xw_arr_int (by decide) (by decide) (by decide) (by decide) (by decide) dX4_init_29 hf (fun w6 hf => ?_)
  refine xb_putF hC 4 3 xcl_4 (by decide) xw_fl_X4_27 rfl hnm rfl (xmfit_a _ _) dX4_init_31 hf (fun w7 hf => ?_)
  refine xj_aload_n hC dX4_init_34 rfl 0 rfl ?_
  refine xb_new hC 0 xcl_0 xw_cl_X4_31 xw_inst_X0 xw_ini_X0 xdf_0 (by decide) (by decide) dX4_init_35 hf (fun w8 hf => ?_)
  refine xj_dup hC dX4_init_38 rfl ?_
  obtain ⟨w10, hc9, hf⟩ := xm_bind hf
  refine xj_retvM (xr_IN hC (mX0_init l D ks b hc9) rfl xw_cod_X0_init xw_ini_X0 xw_ins_X0_init hC.hk.2.2.2.1 xds_X0_init ⟨Nat.le_of_ble_eq_true rfl, Nat.le_of_ble_eq_true rfl⟩ rfl rfl (Nat.le_of_ble_eq_true rfl) ⟨Nat.le_of_ble_eq_true rfl, Nat.le_of_ble_eq_true rfl⟩ dX4_init_39) ?_
  refine xb_putF hC 4 4 xcl_4 (by decide) xw_fl_X4_34 rfl hnm rfl (xmfit_q _ _) dX4_init_42 hf (fun w11 hf => ?_)
  refine xj_aload_n hC dX4_init_45 rfl 0 rfl ?_
  refine xb_new hC 3 xcl_3 xw_cl_X4_38 xw_inst_X3 xw_ini_X3 xdf_3 (by decide) (by decide) dX4_init_46 hf (fun w12 hf => ?_)
  refine xj_dup hC dX4_init_49 rfl ?_
  obtain ⟨w14, hc13, hf⟩ := xm_bind hf
  refine xj_retv (xr_IN hC (mX3_init l D ks b hc13) rfl xw_cod_X3_init xw_ini_X3 xw_ins_X3_init hC.hk.2.2.2.2.2.1 xds_X3_init ⟨Nat.le_of_ble_eq_true rfl, Nat.le_of_ble_eq_true rfl⟩ rfl rfl (Nat.le_of_ble_eq_true rfl) ⟨Nat.le_of_ble_eq_true rfl, Nat.le_of_ble_eq_true rfl⟩ dX4_init_50) ?_
  refine xb_putF hC 4 5 xcl_4 (by decide) xw_fl_X4_41 rfl hnm rfl (xmfit_q _ _) dX4_init_53 hf (fun w15 hf => ?_)
  refine xj_aload_n hC dX4_init_56 rfl 0 rfl ?_
  refine xj_iconst (v := 0) hC dX4_init_57 (by decide) ?_
  refine xb_put hC 4 6 xcl_4 (by decide) xw_fl_X4_45 rfl (xmfit_i _) dX4_init_58 hf (fun w16 hf => ?_)
  refine xj_aload_n hC dX4_init_61 rfl 0 rfl ?_
  refine xj_null hC dX4_init_62 ?_
  refine xb_put hC 4 7 xcl_4 (by decide) xw_fl_X4_48 rfl (xmfit_q _ _) dX4_init_63 hf (fun w17 hf => ?_)
  refine xj_aload_n hC dX4_init_66 rfl 0 rfl ?_
  refine xj_iconst (v := 0) hC dX4_init_67 (by decide) ?_
  refine xb_put hC 4 8 xcl_4 (by decide) xw_fl_X4_52 rfl (xmfit_i _) dX4_init_68 hf (fun w18 hf => ?_)
  refine xj_aload_n hC dX4_init_71 rfl 0 rfl ?_
  refine xj_iconst (v := 0) hC dX4_init_72 (by decide) ?_
  refine xb_put hC 4 9 xcl_4 (by decide) xw_fl_X4_55 rfl (xmfit_i _) dX4_init_73 hf (fun w19 hf => ?_)
  refine xj_aload_n hC dX4_init_76 rfl 0 rfl ?_
  refine xj_iconst (v := 0) hC dX4_init_77 (by decide) ?_
  refine xb_put hC 4 10 xcl_4 (by decide) xw_fl_X4_58 rfl (xmfit_i _) dX4_init_78 hf (fun w20 hf => ?_)
  refine xj_iconst (v := 0) hC dX4_init_81 (by decide) ?_
  refine xj_istore_n (lv' := [(1, xI (0 : Int32)), (0, xR th)]) hC dX4_init_82 rfl (by decide) rfl ?_
  refine xj_iload_n hC dX4_init_83 rfl 0 rfl ?_
  refine xj_iconst (v := 4) hC dX4_init_84 (by decide) ?_
  refine xj_ic_ge (tgt := 107) hC dX4_init_85 (by decide) (fun hc => absurd hc (by decide)) (fun _ => ?_)
  refine xj_aload_n hC dX4_init_88 rfl 1 rfl ?_
  refine xb_getR hC 4 2 xcl_4 (by decide) xw_fl_X4_23 dX4_init_89 hf (fun v21 hf => ?_)
  refine xj_iload_n hC dX4_init_92 rfl 0 rfl ?_
  refine xb_new hC 2 xcl_2 xw_cl_X4_21 xw_inst_X2 xw_ini_X2 xdf_2 (by decide) (by decide) dX4_init_93 hf (fun w22 hf => ?_)
  refine xj_dup hC dX4_init_96 rfl ?_
  obtain ⟨w24, hc23, hf⟩ := xm_bind hf
  refine xj_retvM (xr_IN hC (mX2_init l D ks b hc23) rfl xw_cod_X2_init xw_ini_X2 xw_ins_X2_init hC.hk.2.2.2.2.2.2 xds_X2_init ⟨Nat.le_of_ble_eq_true rfl, Nat.le_of_ble_eq_true rfl⟩ rfl rfl (Nat.le_of_ble_eq_true rfl) ⟨Nat.le_of_ble_eq_true rfl, Nat.le_of_ble_eq_true rfl⟩ dX4_init_97) ?_
  refine xb_qast3 hC dX4_init_100 hf (fun w25 hf => ?_)
  refine xj_iinc (v := (1 : Int32)) (lv' := [(1, xI (1 : Int32)), (0, xR th)]) hC dX4_init_101 0 rfl (by decide) (by decide) rfl ?_
  refine xj_goto (tgt := 83) hC dX4_init_104 (by decide) ?_
  refine xj_iload_n hC dX4_init_83 rfl 0 rfl ?_
  refine xj_iconst (v := 4) hC dX4_init_84 (by decide) ?_
  refine xj_ic_ge (tgt := 107) hC dX4_init_85 (by decide) (fun hc => absurd hc (by decide)) (fun _ => ?_)
  refine xj_aload_n hC dX4_init_88 rfl 1 rfl ?_
  refine xb_getR hC 4 2 xcl_4 (by decide) xw_fl_X4_23 dX4_init_89 hf (fun v26 hf => ?_)
  refine xj_iload_n hC dX4_init_92 rfl 0 rfl ?_
  refine xb_new hC 2 xcl_2 xw_cl_X4_21 xw_inst_X2 xw_ini_X2 xdf_2 (by decide) (by decide) dX4_init_93 hf (fun w27 hf => ?_)
  refine xj_dup hC dX4_init_96 rfl ?_
  obtain ⟨w29, hc28, hf⟩ := xm_bind hf
  refine xj_retvM (xr_IN hC (mX2_init l D ks b hc28) rfl xw_cod_X2_init xw_ini_X2 xw_ins_X2_init hC.hk.2.2.2.2.2.2 xds_X2_init ⟨Nat.le_of_ble_eq_true rfl, Nat.le_of_ble_eq_true rfl⟩ rfl rfl (Nat.le_of_ble_eq_true rfl) ⟨Nat.le_of_ble_eq_true rfl, Nat.le_of_ble_eq_true rfl⟩ dX4_init_97) ?_
  refine xb_qast3 hC dX4_init_100 hf (fun w30 hf => ?_)
  refine xj_iinc (v := (2 : Int32)) (lv' := [(1, xI (2 : Int32)), (0, xR th)]) hC dX4_init_101 0 rfl (by decide) (by decide) rfl ?_
  refine xj_goto (tgt := 83) hC dX4_init_104 (by decide) ?_
  refine xj_iload_n hC dX4_init_83 rfl 0 rfl ?_
  refine xj_iconst (v := 4) hC dX4_init_84 (by decide) ?_
  refine xj_ic_ge (tgt := 107) hC dX4_init_85 (by decide) (fun hc => absurd hc (by decide)) (fun _ => ?_)
  refine xj_aload_n hC dX4_init_88 rfl 1 rfl ?_
  refine xb_getR hC 4 2 xcl_4 (by decide) xw_fl_X4_23 dX4_init_89 hf (fun v31 hf => ?_)
  refine xj_iload_n hC dX4_init_92 rfl 0 rfl ?_
  refine xb_new hC 2 xcl_2 xw_cl_X4_21 xw_inst_X2 xw_ini_X2 xdf_2 (by decide) (by decide) dX4_init_93 hf (fun w32 hf => ?_)
  refine xj_dup hC dX4_init_96 rfl ?_
  obtain ⟨w34, hc33, hf⟩ := xm_bind hf
  refine xj_retvM (xr_IN hC (mX2_init l D ks b hc33) rfl xw_cod_X2_init xw_ini_X2 xw_ins_X2_init hC.hk.2.2.2.2.2.2 xds_X2_init ⟨Nat.le_of_ble_eq_true rfl, Nat.le_of_ble_eq_true rfl⟩ rfl rfl (Nat.le_of_ble_eq_true rfl) ⟨Nat.le_of_ble_eq_true rfl, Nat.le_of_ble_eq_true rfl⟩ dX4_init_97) ?_
  refine xb_qast3 hC dX4_init_100 hf (fun w35 hf => ?_)
  refine xj_iinc (v := (3 : Int32)) (lv' := [(1, xI (3 : Int32)), (0, xR th)]) hC dX4_init_101 0 rfl (by decide) (by decide) rfl ?_
  refine xj_goto (tgt := 83) hC dX4_init_104 (by decide) ?_
  refine xj_iload_n hC dX4_init_83 rfl 0 rfl ?_
  refine xj_iconst (v := 4) hC dX4_init_84 (by decide) ?_
  refine xj_ic_ge (tgt := 107) hC dX4_init_85 (by decide) (fun hc => absurd hc (by decide)) (fun _ => ?_)
  refine xj_aload_n hC dX4_init_88 rfl 1 rfl ?_
  refine xb_getR hC 4 2 xcl_4 (by decide) xw_fl_X4_23 dX4_init_89 hf (fun v36 hf => ?_)
  refine xj_iload_n hC dX4_init_92 rfl 0 rfl ?_
  refine xb_new hC 2 xcl_2 xw_cl_X4_21 xw_inst_X2 xw_ini_X2 xdf_2 (by decide) (by decide) dX4_init_93 hf (fun w37 hf => ?_)
  refine xj_dup hC dX4_init_96 rfl ?_
  obtain ⟨w39, hc38, hf⟩ := xm_bind hf
  refine xj_retvM (xr_IN hC (mX2_init l D ks b hc38) rfl xw_cod_X2_init xw_ini_X2 xw_ins_X2_init hC.hk.2.2.2.2.2.2 xds_X2_init ⟨Nat.le_of_ble_eq_true rfl, Nat.le_of_ble_eq_true rfl⟩ rfl rfl (Nat.le_of_ble_eq_true rfl) ⟨Nat.le_of_ble_eq_true rfl, Nat.le_of_ble_eq_true rfl⟩ dX4_init_97) ?_
  refine xb_qast3 hC dX4_init_100 hf (fun w40 hf => ?_)
  refine xj_iinc (v := (4 : Int32)) (lv' := [(1, xI (4 : Int32)), (0, xR th)]) hC dX4_init_101 0 rfl (by decide) (by decide) rfl ?_
  refine xj_goto (tgt := 83) hC dX4_init_104 (by decide) ?_
  refine xj_iload_n hC dX4_init_83 rfl 0 rfl ?_
  refine xj_iconst (v := 4) hC dX4_init_84 (by decide) ?_
  refine xj_ic_ge (tgt := 107) hC dX4_init_85 (by decide) (fun _ => ?_) (fun hc => absurd hc (by decide))
  exact xj_vret hC hr (by decide) (by decide) dX4_init_107 (Option.some.inj hf)
def fX4_answered (w : xmW) (th : (Option Nat)) (a1 : Int32) : Option (Int32 × xmW) := ((xmob w th 4).bind fun _ => ((xmput w th 4 6 (xI (0 : Int32))).bind fun w1 => (some (a1, w1))))
set_option maxHeartbeats 4000000 in
set_option maxRecDepth 100000 in
theorem mX4_answered (l : Launch) (D : va_G) (ks : Nat → ClassId) (b : Nat) {w : xmW} {th : (Option Nat)} {a1 : Int32} {y : Int32} {wz : xmW} (hf : fX4_answered w th a1 = some (y, wz)) : xmM l yX4_answered (Cond.code yX4_answered cX4_answered 2 (some (FieldType.int)) :: xmTs) 0 0 0 0 D ks b w [xR th, xI a1] (some (xI y)) wz := by
  unfold fX4_answered at hf
  obtain ⟨_, _, hf⟩ := xm_bind hf
  refine xmM.of (own := RX4) (lv0 := [(0, xR th), (1, xI a1)]) (by decide) rfl (Nat.le_of_ble_eq_true rfl) rfl ?_
  intro p e s m args below meth c hC hr hnm
  refine xj_aload_n hC dX4_answered_0 rfl 0 rfl ?_
  refine xj_iconst (v := 0) hC dX4_answered_1 (by decide) ?_
  refine xb_put hC 4 6 xcl_4 (by decide) xw_fl_X4_45 rfl (xmfit_i _) dX4_answered_2 hf (fun w1 hf => ?_)
  refine xj_iload_n hC dX4_answered_5 rfl 1 rfl ?_
  obtain ⟨he, hw⟩ := Prod.mk.inj (Option.some.inj hf)
  exact xj_iret hC hr (by decide) (by decide) dX4_answered_6 he hw
def fX4_within (w : xmW) (a1 : Int32) (a2 : Int32) (a3 : Int32) : Option Int32 := (if a1 < a2 then (xmbz (0 : Int32)) else (xmbz (if a3 < a1 then (0 : Int32) else (1 : Int32))))
set_option maxHeartbeats 4000000 in
set_option maxRecDepth 100000 in
theorem mX4_within (l : Launch) (D : va_G) (ks : Nat → ClassId) (b : Nat) {w : xmW} {a1 : Int32} {a2 : Int32} {a3 : Int32} {y : Int32} (hf : fX4_within w a1 a2 a3 = some y) : xmM l yX4_within (Cond.code yX4_within cX4_within 3 (some (FieldType.boolean)) :: xmTs) 0 0 0 0 D ks b w [xI a1, xI a2, xI a3] (some (xI y)) w := by
  unfold fX4_within at hf
  refine xmM.of (own := RX4) (lv0 := [(0, xI a1), (1, xI a2), (2, xI a3)]) (by decide) rfl (Nat.le_of_ble_eq_true rfl) rfl ?_
  intro p e s m args below meth c hC hr hnm
  refine xj_iload_n hC dX4_within_0 rfl 1 rfl ?_
  refine xj_iload_n hC dX4_within_1 rfl 0 rfl ?_
  refine xb_ic_gt (tgt := 14) hC dX4_within_2 (by decide) hf (fun hf => ?_) (fun hf => ?_)
  · refine xj_iconst (v := 0) hC dX4_within_14 (by decide) ?_
    exact xj_zret hC hr (by decide) (by decide) dX4_within_15 hf rfl
  · refine xj_iload_n hC dX4_within_5 rfl 0 rfl ?_
    refine xj_iload_n hC dX4_within_6 rfl 2 rfl ?_
    refine xj_dia (cnd := a3 < a1) (x := 0) (y := 1) (pc2 := 15) (st2 := []) (fun hc hk => ?_) (fun hc hk => ?_) ?_
    · exact xj_ic_gt (tgt := 14) hC dX4_within_7 (by decide) (fun _ => xj_iconst (v := 0) hC dX4_within_14 (by decide) hk) (fun hn => absurd hc hn)
    · exact xj_ic_gt (tgt := 14) hC dX4_within_7 (by decide) (fun hn => absurd hn hc) (fun _ => xj_iconst (v := 1) hC dX4_within_10 (by decide) (xj_goto (tgt := 15) hC dX4_within_11 (by decide) hk))
    exact xj_zret hC hr (by decide) (by decide) dX4_within_15 hf rfl
def fX4_formatAt (w : xmW) (th : (Option Nat)) (a1 : Int32) : Option (Option Nat) := ((xmob w th 4).bind fun _ => ((fX4_within w (a1) ((0 : Int32)) ((9 : Int32))).bind fun v2 => (if v2 = 0 then (some none) else ((xmgR w th 4 0).bind fun v3 => ((xmqld w v3 2 a1).bind fun v4 => (some v4))))))
set_option maxHeartbeats 4000000 in
set_option maxRecDepth 100000 in
theorem mX4_formatAt (l : Launch) (D : va_G) (ks : Nat → ClassId) (b : Nat) {w : xmW} {th : (Option Nat)} {a1 : Int32} {y : (Option Nat)} (hf : fX4_formatAt w th a1 = some y) : xmM l yX4_formatAt (Cond.code yX4_formatAt cX4_formatAt 2 (some (FieldType.object "SmallFloats$Format")) :: xmTs) 1 22 0 0 D ks b w [xR th, xI a1] (some (xR y)) w := by
  unfold fX4_formatAt at hf
  obtain ⟨_, _, hf⟩ := xm_bind hf
  refine xmM.of (own := RX4) (lv0 := [(0, xR th), (1, xI a1)]) (by decide) rfl (Nat.le_of_ble_eq_true rfl) rfl ?_
  intro p e s m args below meth c hC hr hnm
  refine xj_iload_n hC dX4_formatAt_0 rfl 1 rfl ?_
  refine xj_iconst (v := 0) hC dX4_formatAt_1 (by decide) ?_
  refine xj_bipush (v := 9) hC dX4_formatAt_2 (by decide) ?_
  obtain ⟨v2, hc1, hf⟩ := xm_bind hf
  refine xj_reti (xr_S hC (mX4_within l D ks b hc1) xw_cod_X4_within xw_ini_X4 xw_sta_X4_within xw_ml_X4_62 xds_X4_within ⟨Nat.le_of_ble_eq_true rfl, Nat.le_of_ble_eq_true rfl⟩ rfl rfl (Nat.le_of_ble_eq_true rfl) ⟨Nat.le_of_ble_eq_true rfl, Nat.le_of_ble_eq_true rfl⟩ dX4_formatAt_4) ?_
  refine xb_if_eq (tgt := 19) hC dX4_formatAt_7 (by decide) hf (fun hf => ?_) (fun hf => ?_)
  · refine xj_null hC dX4_formatAt_19 ?_
    exact xj_aret hC hr (by decide) (by decide) dX4_formatAt_20 (Option.some.inj hf) rfl
  · refine xj_aload_n hC dX4_formatAt_10 rfl 0 rfl ?_
    refine xb_getR hC 4 0 xcl_4 (by decide) xw_fl_X4_13 dX4_formatAt_11 hf (fun v3 hf => ?_)
    refine xj_iload_n hC dX4_formatAt_14 rfl 1 rfl ?_
    refine xb_qald2 hC dX4_formatAt_15 hf (fun v4 hf => ?_)
    refine xj_goto (tgt := 20) hC dX4_formatAt_16 (by decide) ?_
    exact xj_aret hC hr (by decide) (by decide) dX4_formatAt_20 (Option.some.inj hf) rfl
def fX4_refused (w : xmW) (th : (Option Nat)) (a1 : Int32) : Option (Int32 × xmW) := ((xmob w th 4).bind fun _ => ((xmput w th 4 6 (xI a1)).bind fun w1 => (some (a1, w1))))
set_option maxHeartbeats 4000000 in
set_option maxRecDepth 100000 in
theorem mX4_refused (l : Launch) (D : va_G) (ks : Nat → ClassId) (b : Nat) {w : xmW} {th : (Option Nat)} {a1 : Int32} {y : Int32} {wz : xmW} (hf : fX4_refused w th a1 = some (y, wz)) : xmM l yX4_refused (Cond.code yX4_refused cX4_refused 2 (some (FieldType.int)) :: xmTs) 0 0 0 0 D ks b w [xR th, xI a1] (some (xI y)) wz := by
  unfold fX4_refused at hf
  obtain ⟨_, _, hf⟩ := xm_bind hf
  refine xmM.of (own := RX4) (lv0 := [(0, xR th), (1, xI a1)]) (by decide) rfl (Nat.le_of_ble_eq_true rfl) rfl ?_
  intro p e s m args below meth c hC hr hnm
  refine xj_aload_n hC dX4_refused_0 rfl 0 rfl ?_
  refine xj_iload_n hC dX4_refused_1 rfl 1 rfl ?_
  refine xb_put hC 4 6 xcl_4 (by decide) xw_fl_X4_45 rfl (xmfit_i _) dX4_refused_2 hf (fun w1 hf => ?_)
  refine xj_iload_n hC dX4_refused_5 rfl 1 rfl ?_
  obtain ⟨he, hw⟩ := Prod.mk.inj (Option.some.inj hf)
  exact xj_iret hC hr (by decide) (by decide) dX4_refused_6 he hw
def fX4_format_L90 : Nat → xmW → (Option Nat) → (Option Nat) → Int32 → Option (Int32 × xmW)
  | 0, _, _, _, _ => none
  | n + 1, w, p0, p7, p8 => ((xmgI w p0 4 1).bind fun v32 => (if v32 ≤ p8 then ((xmgI w p0 4 1).bind fun v33 => (if v33 < (10 : Int32) then ((xmgR w p0 4 0).bind fun v34 => ((xmgI w p0 4 1).bind fun v35 => ((xmqst w v34 2 1 v35 p7).bind fun w36 => ((xmgI w36 p0 4 1).bind fun v37 => ((xmput w36 p0 4 1 (xI (v37 + (1 : Int32)))).bind fun w38 => ((xmgI w38 p0 4 1).bind fun v39 => (xmb2 (fX4_answered w38 (p0) ((v39 - (1 : Int32)))) fun v41 w42 => (some (v41, w42))))))))) else (xmb2 (fX4_refused w (p0) ((-3 : Int32))) fun v44 w45 => (some (v44, w45))))) else ((fX4_formatAt w (p0) (p8)).bind fun v47 => (if v47 = none then (fX4_format_L90 n w (p0) (p7) ((p8 + (1 : Int32))) ) else ((fX1_isAlike w (v47) (p7)).bind fun v49 => (if v49 = 0 then (fX4_format_L90 n w (p0) (p7) ((p8 + (1 : Int32))) ) else (xmb2 (fX4_answered w (p0) (p8)) fun v51 w52 => (some (v51, w52)))))))))
set_option maxHeartbeats 4000000 in
set_option maxRecDepth 100000 in
theorem lX4_format_L90 {p : Program} {l : Launch} {e : Env} {s : State} {m : MethodId} {args : Array Value} {below : List Frame} {meth : Method} {c : Code} {D : va_G} {ks : Nat → ClassId} {b : Nat} (hC : xmC p s m args meth c D ks b 10 cX4_format RX4) (hr : meth.sig.returnType = (some (FieldType.int))) {y : Int32} {wz : xmW} : ∀ (n : Nat) (w : xmW) (p0 : (Option Nat)) (p7 : (Option Nat)) (p8 : Int32), fX4_format_L90 n w p0 p7 p8 = some (y, wz) → xmJ p l e ({ frames := 2, cells := 1, slots := 7, locals := 47 } : Room) s m args below meth c D ks b 10 (MQ below (xmQ D ks b (some (xI y)) wz) args s 1 7 (xmA b)) w 1 7 90 [(0, xR p0), (7, xR p7), (8, xI p8)] [] := by
  intro n
  induction n with
  | zero => intro w p0 p7 p8 hf; simp [fX4_format_L90] at hf
  | succ n ih =>
    intro w p0 p7 p8 hf
    rw [fX4_format_L90] at hf
    refine xj_iload hC dX4_format_90 2 rfl ?_
    refine xj_aload_n hC dX4_format_92 rfl 0 rfl ?_
    refine xb_getI hC 4 1 xcl_4 (by decide) xw_fl_X4_17 dX4_format_93 hf (fun v32 hf => ?_)
    refine xb_ic_ge (tgt := 135) hC dX4_format_96 (by decide) hf (fun hf => ?_) (fun hf => ?_)
    · refine xj_aload_n hC dX4_format_135 rfl 0 rfl ?_
      refine xb_getI hC 4 1 xcl_4 (by decide) xw_fl_X4_17 dX4_format_136 hf (fun v33 hf => ?_)
      refine xj_bipush (v := 10) hC dX4_format_139 (by decide) ?_
      refine xb_ic_lt (tgt := 151) hC dX4_format_141 (by decide) hf (fun hf => ?_) (fun hf => ?_)
      · refine xj_aload_n hC dX4_format_151 rfl 0 rfl ?_
        refine xb_getR hC 4 0 xcl_4 (by decide) xw_fl_X4_13 dX4_format_152 hf (fun v34 hf => ?_)
        refine xj_aload_n hC dX4_format_155 rfl 0 rfl ?_
        refine xb_getI hC 4 1 xcl_4 (by decide) xw_fl_X4_17 dX4_format_156 hf (fun v35 hf => ?_)
        refine xj_aload hC dX4_format_159 1 rfl ?_
        refine xb_qast2 hC dX4_format_161 hf (fun w36 hf => ?_)
        refine xj_aload_n hC dX4_format_162 rfl 0 rfl ?_
        refine xj_dup hC dX4_format_163 rfl ?_
        refine xb_getI hC 4 1 xcl_4 (by decide) xw_fl_X4_17 dX4_format_164 hf (fun v37 hf => ?_)
        refine xj_iconst (v := 1) hC dX4_format_167 (by decide) ?_
        refine xj_iadd hC dX4_format_168 ?_
        refine xb_put hC 4 1 xcl_4 (by decide) xw_fl_X4_17 rfl (xmfit_i _) dX4_format_169 hf (fun w38 hf => ?_)
        refine xj_aload_n hC dX4_format_172 rfl 0 rfl ?_
        refine xj_aload_n hC dX4_format_173 rfl 0 rfl ?_
        refine xb_getI hC 4 1 xcl_4 (by decide) xw_fl_X4_17 dX4_format_174 hf (fun v39 hf => ?_)
        refine xj_iconst (v := 1) hC dX4_format_177 (by decide) ?_
        refine xj_isub hC dX4_format_178 ?_
        obtain ⟨v41, w42, hc40, hf⟩ := xm_b2 hf
        obtain ⟨_, hob, _⟩ := xm_bind hc40
        refine xj_reti (xr_V hC (mX4_answered l D ks b hc40) hob rfl xw_cod_X4_answered xw_ini_X4 xw_ins_X4_answered xw_sel_X4_answered xw_ml_X4_81 xds_X4_answered ⟨Nat.le_of_ble_eq_true rfl, Nat.le_of_ble_eq_true rfl⟩ rfl rfl (Nat.le_of_ble_eq_true rfl) ⟨Nat.le_of_ble_eq_true rfl, Nat.le_of_ble_eq_true rfl⟩ dX4_format_179) ?_
        obtain ⟨he, hw⟩ := Prod.mk.inj (Option.some.inj hf)
        exact xj_iret hC hr (by decide) (by decide) dX4_format_182 he hw
      · refine xj_aload_n hC dX4_format_144 rfl 0 rfl ?_
        refine xj_bipush (v := -3) hC dX4_format_145 (by decide) ?_
        obtain ⟨v44, w45, hc43, hf⟩ := xm_b2 hf
        obtain ⟨_, hob, _⟩ := xm_bind hc43
        refine xj_reti (xr_V hC (mX4_refused l D ks b hc43) hob rfl xw_cod_X4_refused xw_ini_X4 xw_ins_X4_refused xw_sel_X4_refused xw_ml_X4_66 xds_X4_refused ⟨Nat.le_of_ble_eq_true rfl, Nat.le_of_ble_eq_true rfl⟩ rfl rfl (Nat.le_of_ble_eq_true rfl) ⟨Nat.le_of_ble_eq_true rfl, Nat.le_of_ble_eq_true rfl⟩ dX4_format_147) ?_
        obtain ⟨he, hw⟩ := Prod.mk.inj (Option.some.inj hf)
        exact xj_iret hC hr (by decide) (by decide) dX4_format_150 he hw
    · refine xj_aload_n hC dX4_format_99 rfl 0 rfl ?_
      refine xj_iload hC dX4_format_100 2 rfl ?_
      obtain ⟨v47, hc46, hf⟩ := xm_bind hf
      obtain ⟨_, hob, _⟩ := xm_bind hc46
      refine xj_retr (xr_V hC (mX4_formatAt l D ks b hc46) hob rfl xw_cod_X4_formatAt xw_ini_X4 xw_ins_X4_formatAt xw_sel_X4_formatAt xw_ml_X4_73 xds_X4_formatAt ⟨Nat.le_of_ble_eq_true rfl, Nat.le_of_ble_eq_true rfl⟩ rfl rfl (Nat.le_of_ble_eq_true rfl) ⟨Nat.le_of_ble_eq_true rfl, Nat.le_of_ble_eq_true rfl⟩ dX4_format_102) ?_
      refine xj_astore (lv' := [(9, xR v47), (0, xR p0), (7, xR p7), (8, xI p8)]) hC dX4_format_105 (by decide) rfl ?_
      refine xj_aload hC dX4_format_107 0 rfl ?_
      refine xb_ifnull (tgt := 129) hC dX4_format_109 (by decide) hf (fun hf => ?_) (fun hf => ?_)
      · refine xj_iinc (v := (p8 + (1 : Int32))) (lv' := [(8, xI (p8 + (1 : Int32))), (9, xR v47), (0, xR p0), (7, xR p7)]) hC dX4_format_129 3 rfl rfl (by decide) rfl ?_
        refine xj_goto (tgt := 90) hC dX4_format_132 (by decide) ?_
        refine xj_lv [2, 3, 0] rfl ?_
        exact ih w (p0) (p7) ((p8 + (1 : Int32)))  hf
      · refine xj_aload hC dX4_format_112 0 rfl ?_
        refine xj_aload hC dX4_format_114 2 rfl ?_
        obtain ⟨v49, hc48, hf⟩ := xm_bind hf
        obtain ⟨_, hob, _⟩ := xm_bind hc48
        refine xj_reti (xr_V hC (mX1_isAlike l D ks b hc48) hob rfl xw_cod_X1_isAlike xw_ini_X1 xw_ins_X1_isAlike xw_sel_X1_isAlike xw_ml_X4_77 xds_X1_isAlike ⟨Nat.le_of_ble_eq_true rfl, Nat.le_of_ble_eq_true rfl⟩ rfl rfl (Nat.le_of_ble_eq_true rfl) ⟨Nat.le_of_ble_eq_true rfl, Nat.le_of_ble_eq_true rfl⟩ dX4_format_116) ?_
        refine xb_if_eq (tgt := 129) hC dX4_format_119 (by decide) hf (fun hf => ?_) (fun hf => ?_)
        · refine xj_iinc (v := (p8 + (1 : Int32))) (lv' := [(8, xI (p8 + (1 : Int32))), (9, xR v47), (0, xR p0), (7, xR p7)]) hC dX4_format_129 3 rfl rfl (by decide) rfl ?_
          refine xj_goto (tgt := 90) hC dX4_format_132 (by decide) ?_
          refine xj_lv [2, 3, 0] rfl ?_
          exact ih w (p0) (p7) ((p8 + (1 : Int32)))  hf
        · refine xj_aload_n hC dX4_format_122 rfl 1 rfl ?_
          refine xj_iload hC dX4_format_123 3 rfl ?_
          obtain ⟨v51, w52, hc50, hf⟩ := xm_b2 hf
          obtain ⟨_, hob, _⟩ := xm_bind hc50
          refine xj_reti (xr_V hC (mX4_answered l D ks b hc50) hob rfl xw_cod_X4_answered xw_ini_X4 xw_ins_X4_answered xw_sel_X4_answered xw_ml_X4_81 xds_X4_answered ⟨Nat.le_of_ble_eq_true rfl, Nat.le_of_ble_eq_true rfl⟩ rfl rfl (Nat.le_of_ble_eq_true rfl) ⟨Nat.le_of_ble_eq_true rfl, Nat.le_of_ble_eq_true rfl⟩ dX4_format_125) ?_
          obtain ⟨he, hw⟩ := Prod.mk.inj (Option.some.inj hf)
          exact xj_iret hC hr (by decide) (by decide) dX4_format_128 he hw
def fX4_format (w : xmW) (th : (Option Nat)) (a1 : Int32) (a2 : Int32) (a3 : Int32) (a4 : Int32) (a5 : Int32) (a6 : Int32) : Option (Int32 × xmW) := ((xmob w th 4).bind fun _ => ((fX4_within w (a1) ((0 : Int32)) ((1 : Int32))).bind fun v2 => (if v2 = 0 then (xmb2 (fX4_refused w (th) ((-1 : Int32))) fun v4 w5 => (some (v4, w5))) else ((fX4_within w (a2) ((1 : Int32)) ((4 : Int32))).bind fun v7 => (if v7 = 0 then (xmb2 (fX4_refused w (th) ((-1 : Int32))) fun v9 w10 => (some (v9, w10))) else ((fX4_within w (a3) ((0 : Int32)) ((5 : Int32))).bind fun v12 => (if v12 = 0 then (xmb2 (fX4_refused w (th) ((-1 : Int32))) fun v14 w15 => (some (v14, w15))) else (if (3 : Int32) ≤ ((a1 + a2) + a3) then ((fX4_within w (a4) ((0 : Int32)) ((15 : Int32))).bind fun v17 => (if v17 = 0 then (xmb2 (fX4_refused w (th) ((-1 : Int32))) fun v19 w20 => (some (v19, w20))) else ((fX4_within w (a6) ((0 : Int32)) ((2 : Int32))).bind fun v22 => (if v22 = 0 then (xmb2 (fX4_refused w (th) ((-1 : Int32))) fun v27 w28 => (some (v27, w28))) else ((xmnew w 1 [xI 0, xI 0, xI 0, xI 0, xI 0, xI 0, xI 0]).bind fun w23 => ((fX1_init w23 ((some w.length)) (a1) (a2) (a3) (a4) (a5) (a6)).bind fun w25 => (fX4_format_L90 xmN w25 (th) ((some w.length)) ((0 : Int32)) ))))))) else (xmb2 (fX4_refused w (th) ((-1 : Int32))) fun v30 w31 => (some (v30, w31)))))))))))
set_option maxHeartbeats 4000000 in
set_option maxRecDepth 100000 in
theorem mX4_format (l : Launch) (D : va_G) (ks : Nat → ClassId) (b : Nat) {w : xmW} {th : (Option Nat)} {a1 : Int32} {a2 : Int32} {a3 : Int32} {a4 : Int32} {a5 : Int32} {a6 : Int32} {y : Int32} {wz : xmW} (hf : fX4_format w th a1 a2 a3 a4 a5 a6 = some (y, wz)) : xmM l yX4_format (Cond.code yX4_format cX4_format 10 (some (FieldType.int)) :: xmTs) 2 47 1 7 D ks b w [xR th, xI a1, xI a2, xI a3, xI a4, xI a5, xI a6] (some (xI y)) wz := by
  unfold fX4_format at hf
  obtain ⟨_, _, hf⟩ := xm_bind hf
  refine xmM.of (own := RX4) (lv0 := [(0, xR th), (1, xI a1), (2, xI a2), (3, xI a3), (4, xI a4), (5, xI a5), (6, xI a6)]) (by decide) rfl (Nat.le_of_ble_eq_true rfl) rfl ?_
  intro p e s m args below meth c hC hr hnm
  refine xj_iload_n hC dX4_format_0 rfl 1 rfl ?_
  refine xj_iconst (v := 0) hC dX4_format_1 (by decide) ?_
  refine xj_iconst (v := 1) hC dX4_format_2 (by decide) ?_
  obtain ⟨v2, hc1, hf⟩ := xm_bind hf
  refine xj_reti (xr_S hC (mX4_within l D ks b hc1) xw_cod_X4_within xw_ini_X4 xw_sta_X4_within xw_ml_X4_62 xds_X4_within ⟨Nat.le_of_ble_eq_true rfl, Nat.le_of_ble_eq_true rfl⟩ rfl rfl (Nat.le_of_ble_eq_true rfl) ⟨Nat.le_of_ble_eq_true rfl, Nat.le_of_ble_eq_true rfl⟩ dX4_format_3) ?_
  refine xb_if_eq (tgt := 36) hC dX4_format_6 (by decide) hf (fun hf => ?_) (fun hf => ?_)
  · refine xj_aload_n hC dX4_format_36 rfl 0 rfl ?_
    refine xj_iconst (v := -1) hC dX4_format_37 (by decide) ?_
    obtain ⟨v4, w5, hc3, hf⟩ := xm_b2 hf
    obtain ⟨_, hob, _⟩ := xm_bind hc3
    refine xj_reti (xr_V hC (mX4_refused l D ks b hc3) hob rfl xw_cod_X4_refused xw_ini_X4 xw_ins_X4_refused xw_sel_X4_refused xw_ml_X4_66 xds_X4_refused ⟨Nat.le_of_ble_eq_true rfl, Nat.le_of_ble_eq_true rfl⟩ rfl rfl (Nat.le_of_ble_eq_true rfl) ⟨Nat.le_of_ble_eq_true rfl, Nat.le_of_ble_eq_true rfl⟩ dX4_format_38) ?_
    obtain ⟨he, hw⟩ := Prod.mk.inj (Option.some.inj hf)
    exact xj_iret hC hr (by decide) (by decide) dX4_format_41 he hw
  · refine xj_iload_n hC dX4_format_9 rfl 2 rfl ?_
    refine xj_iconst (v := 1) hC dX4_format_10 (by decide) ?_
    refine xj_iconst (v := 4) hC dX4_format_11 (by decide) ?_
    obtain ⟨v7, hc6, hf⟩ := xm_bind hf
    refine xj_reti (xr_S hC (mX4_within l D ks b hc6) xw_cod_X4_within xw_ini_X4 xw_sta_X4_within xw_ml_X4_62 xds_X4_within ⟨Nat.le_of_ble_eq_true rfl, Nat.le_of_ble_eq_true rfl⟩ rfl rfl (Nat.le_of_ble_eq_true rfl) ⟨Nat.le_of_ble_eq_true rfl, Nat.le_of_ble_eq_true rfl⟩ dX4_format_12) ?_
    refine xb_if_eq (tgt := 36) hC dX4_format_15 (by decide) hf (fun hf => ?_) (fun hf => ?_)
    · refine xj_aload_n hC dX4_format_36 rfl 0 rfl ?_
      refine xj_iconst (v := -1) hC dX4_format_37 (by decide) ?_
      obtain ⟨v9, w10, hc8, hf⟩ := xm_b2 hf
      obtain ⟨_, hob, _⟩ := xm_bind hc8
      refine xj_reti (xr_V hC (mX4_refused l D ks b hc8) hob rfl xw_cod_X4_refused xw_ini_X4 xw_ins_X4_refused xw_sel_X4_refused xw_ml_X4_66 xds_X4_refused ⟨Nat.le_of_ble_eq_true rfl, Nat.le_of_ble_eq_true rfl⟩ rfl rfl (Nat.le_of_ble_eq_true rfl) ⟨Nat.le_of_ble_eq_true rfl, Nat.le_of_ble_eq_true rfl⟩ dX4_format_38) ?_
      obtain ⟨he, hw⟩ := Prod.mk.inj (Option.some.inj hf)
      exact xj_iret hC hr (by decide) (by decide) dX4_format_41 he hw
    · refine xj_iload_n hC dX4_format_18 rfl 3 rfl ?_
      refine xj_iconst (v := 0) hC dX4_format_19 (by decide) ?_
      refine xj_iconst (v := 5) hC dX4_format_20 (by decide) ?_
      obtain ⟨v12, hc11, hf⟩ := xm_bind hf
      refine xj_reti (xr_S hC (mX4_within l D ks b hc11) xw_cod_X4_within xw_ini_X4 xw_sta_X4_within xw_ml_X4_62 xds_X4_within ⟨Nat.le_of_ble_eq_true rfl, Nat.le_of_ble_eq_true rfl⟩ rfl rfl (Nat.le_of_ble_eq_true rfl) ⟨Nat.le_of_ble_eq_true rfl, Nat.le_of_ble_eq_true rfl⟩ dX4_format_21) ?_
      refine xb_if_eq (tgt := 36) hC dX4_format_24 (by decide) hf (fun hf => ?_) (fun hf => ?_)
      · refine xj_aload_n hC dX4_format_36 rfl 0 rfl ?_
        refine xj_iconst (v := -1) hC dX4_format_37 (by decide) ?_
        obtain ⟨v14, w15, hc13, hf⟩ := xm_b2 hf
        obtain ⟨_, hob, _⟩ := xm_bind hc13
        refine xj_reti (xr_V hC (mX4_refused l D ks b hc13) hob rfl xw_cod_X4_refused xw_ini_X4 xw_ins_X4_refused xw_sel_X4_refused xw_ml_X4_66 xds_X4_refused ⟨Nat.le_of_ble_eq_true rfl, Nat.le_of_ble_eq_true rfl⟩ rfl rfl (Nat.le_of_ble_eq_true rfl) ⟨Nat.le_of_ble_eq_true rfl, Nat.le_of_ble_eq_true rfl⟩ dX4_format_38) ?_
        obtain ⟨he, hw⟩ := Prod.mk.inj (Option.some.inj hf)
        exact xj_iret hC hr (by decide) (by decide) dX4_format_41 he hw
      · refine xj_iload_n hC dX4_format_27 rfl 1 rfl ?_
        refine xj_iload_n hC dX4_format_28 rfl 2 rfl ?_
        refine xj_iadd hC dX4_format_29 ?_
        refine xj_iload_n hC dX4_format_30 rfl 3 rfl ?_
        refine xj_iadd hC dX4_format_31 ?_
        refine xj_iconst (v := 3) hC dX4_format_32 (by decide) ?_
        refine xb_ic_ge (tgt := 42) hC dX4_format_33 (by decide) hf (fun hf => ?_) (fun hf => ?_)
        · refine xj_iload hC dX4_format_42 4 rfl ?_
          refine xj_iconst (v := 0) hC dX4_format_44 (by decide) ?_
          refine xj_bipush (v := 15) hC dX4_format_45 (by decide) ?_
          obtain ⟨v17, hc16, hf⟩ := xm_bind hf
          refine xj_reti (xr_S hC (mX4_within l D ks b hc16) xw_cod_X4_within xw_ini_X4 xw_sta_X4_within xw_ml_X4_62 xds_X4_within ⟨Nat.le_of_ble_eq_true rfl, Nat.le_of_ble_eq_true rfl⟩ rfl rfl (Nat.le_of_ble_eq_true rfl) ⟨Nat.le_of_ble_eq_true rfl, Nat.le_of_ble_eq_true rfl⟩ dX4_format_47) ?_
          refine xb_if_eq (tgt := 63) hC dX4_format_50 (by decide) hf (fun hf => ?_) (fun hf => ?_)
          · refine xj_aload_n hC dX4_format_63 rfl 0 rfl ?_
            refine xj_iconst (v := -1) hC dX4_format_64 (by decide) ?_
            obtain ⟨v19, w20, hc18, hf⟩ := xm_b2 hf
            obtain ⟨_, hob, _⟩ := xm_bind hc18
            refine xj_reti (xr_V hC (mX4_refused l D ks b hc18) hob rfl xw_cod_X4_refused xw_ini_X4 xw_ins_X4_refused xw_sel_X4_refused xw_ml_X4_66 xds_X4_refused ⟨Nat.le_of_ble_eq_true rfl, Nat.le_of_ble_eq_true rfl⟩ rfl rfl (Nat.le_of_ble_eq_true rfl) ⟨Nat.le_of_ble_eq_true rfl, Nat.le_of_ble_eq_true rfl⟩ dX4_format_65) ?_
            obtain ⟨he, hw⟩ := Prod.mk.inj (Option.some.inj hf)
            exact xj_iret hC hr (by decide) (by decide) dX4_format_68 he hw
          · refine xj_iload hC dX4_format_53 6 rfl ?_
            refine xj_iconst (v := 0) hC dX4_format_55 (by decide) ?_
            refine xj_iconst (v := 2) hC dX4_format_56 (by decide) ?_
            obtain ⟨v22, hc21, hf⟩ := xm_bind hf
            refine xj_reti (xr_S hC (mX4_within l D ks b hc21) xw_cod_X4_within xw_ini_X4 xw_sta_X4_within xw_ml_X4_62 xds_X4_within ⟨Nat.le_of_ble_eq_true rfl, Nat.le_of_ble_eq_true rfl⟩ rfl rfl (Nat.le_of_ble_eq_true rfl) ⟨Nat.le_of_ble_eq_true rfl, Nat.le_of_ble_eq_true rfl⟩ dX4_format_57) ?_
            refine xb_if_ne (tgt := 69) hC dX4_format_60 (by decide) hf (fun hf => ?_) (fun hf => ?_)
            · refine xb_new hC 1 xcl_1 xw_cl_X4_11 xw_inst_X1 xw_ini_X1 xdf_1 (by decide) (by decide) dX4_format_69 hf (fun w23 hf => ?_)
              refine xj_dup hC dX4_format_72 rfl ?_
              refine xj_iload_n hC dX4_format_73 rfl 1 rfl ?_
              refine xj_iload_n hC dX4_format_74 rfl 2 rfl ?_
              refine xj_iload_n hC dX4_format_75 rfl 3 rfl ?_
              refine xj_iload hC dX4_format_76 4 rfl ?_
              refine xj_iload hC dX4_format_78 5 rfl ?_
              refine xj_iload hC dX4_format_80 6 rfl ?_
              obtain ⟨w25, hc24, hf⟩ := xm_bind hf
              refine xj_retv (xr_I hC (mX1_init l D ks b hc24) rfl xw_cod_X1_init xw_ini_X1 xw_ins_X1_init xw_ml_X4_70 xds_X1_init ⟨Nat.le_of_ble_eq_true rfl, Nat.le_of_ble_eq_true rfl⟩ rfl rfl (Nat.le_of_ble_eq_true rfl) ⟨Nat.le_of_ble_eq_true rfl, Nat.le_of_ble_eq_true rfl⟩ dX4_format_82) ?_
              refine xj_astore (lv' := [(7, xR (some w.length)), (0, xR th), (1, xI a1), (2, xI a2), (3, xI a3), (4, xI a4), (5, xI a5), (6, xI a6)]) hC dX4_format_85 (by decide) rfl ?_
              refine xj_iconst (v := 0) hC dX4_format_87 (by decide) ?_
              refine xj_istore (lv' := [(8, xI (0 : Int32)), (7, xR (some w.length)), (0, xR th), (1, xI a1), (2, xI a2), (3, xI a3), (4, xI a4), (5, xI a5), (6, xI a6)]) hC dX4_format_88 (by decide) rfl ?_
              refine xj_lv [2, 1, 0] rfl ?_
              exact lX4_format_L90 hC hr  xmN w25 (th) ((some w.length)) ((0 : Int32))  hf
            · refine xj_aload_n hC dX4_format_63 rfl 0 rfl ?_
              refine xj_iconst (v := -1) hC dX4_format_64 (by decide) ?_
              obtain ⟨v27, w28, hc26, hf⟩ := xm_b2 hf
              obtain ⟨_, hob, _⟩ := xm_bind hc26
              refine xj_reti (xr_V hC (mX4_refused l D ks b hc26) hob rfl xw_cod_X4_refused xw_ini_X4 xw_ins_X4_refused xw_sel_X4_refused xw_ml_X4_66 xds_X4_refused ⟨Nat.le_of_ble_eq_true rfl, Nat.le_of_ble_eq_true rfl⟩ rfl rfl (Nat.le_of_ble_eq_true rfl) ⟨Nat.le_of_ble_eq_true rfl, Nat.le_of_ble_eq_true rfl⟩ dX4_format_65) ?_
              obtain ⟨he, hw⟩ := Prod.mk.inj (Option.some.inj hf)
              exact xj_iret hC hr (by decide) (by decide) dX4_format_68 he hw
        · refine xj_aload_n hC dX4_format_36 rfl 0 rfl ?_
          refine xj_iconst (v := -1) hC dX4_format_37 (by decide) ?_
          obtain ⟨v30, w31, hc29, hf⟩ := xm_b2 hf
          obtain ⟨_, hob, _⟩ := xm_bind hc29
          refine xj_reti (xr_V hC (mX4_refused l D ks b hc29) hob rfl xw_cod_X4_refused xw_ini_X4 xw_ins_X4_refused xw_sel_X4_refused xw_ml_X4_66 xds_X4_refused ⟨Nat.le_of_ble_eq_true rfl, Nat.le_of_ble_eq_true rfl⟩ rfl rfl (Nat.le_of_ble_eq_true rfl) ⟨Nat.le_of_ble_eq_true rfl, Nat.le_of_ble_eq_true rfl⟩ dX4_format_38) ?_
          obtain ⟨he, hw⟩ := Prod.mk.inj (Option.some.inj hf)
          exact xj_iret hC hr (by decide) (by decide) dX4_format_41 he hw
def fX4_about (w : xmW) (th : (Option Nat)) (a1 : Int32) (a2 : Int32) : Option (Int32 × xmW) := ((xmob w th 4).bind fun _ => ((fX4_formatAt w (th) (a1)).bind fun v2 => (if v2 = none then (xmb2 (fX4_refused w (th) ((-1 : Int32))) fun v4 w5 => (some (v4, w5))) else ((fX4_within w (a2) ((0 : Int32)) ((6 : Int32))).bind fun v7 => (if v7 = 0 then (xmb2 (fX4_refused w (th) ((-1 : Int32))) fun v52 w53 => (some (v52, w53))) else (if a2 = (0 : Int32) then ((fX1_bits w (v2) ).bind fun v10 => (xmb2 (fX4_answered w (th) (v10)) fun v12 w13 => (some (v12, w13)))) else (if a2 = (1 : Int32) then ((xmgI w v2 1 6).bind fun v15 => (xmb2 (fX4_answered w (th) (v15)) fun v17 w18 => (some (v17, w18)))) else (if a2 = (2 : Int32) then ((xmgI w v2 1 6).bind fun v20 => (xmb2 (fX4_answered w (th) ((v20 - (1 : Int32)))) fun v22 w23 => (some (v22, w23)))) else (if a2 = (3 : Int32) then ((fX1_noneCode w (v2) ).bind fun v26 => (xmb2 (fX4_answered w (th) (v26)) fun v28 w29 => (some (v28, w29)))) else (if a2 = (4 : Int32) then ((xmgI w v2 1 5).bind fun v31 => (if v31 = 0 then ((fX1_beyond w (v2) ((0 : Int32))).bind fun v36 => (xmb2 (fX4_answered w (th) (v36)) fun v38 w39 => (some (v38, w39)))) else (xmb2 (fX4_answered w (th) ((-9 : Int32))) fun v33 w34 => (some (v33, w34))))) else (if a2 = (5 : Int32) then ((xmgI w v2 1 6).bind fun v41 => ((xmgI w v2 1 0).bind fun v42 => (xmb2 (fX4_answered w (th) (((v41 + (1 : Int32)) <<< (v42 &&& 31)))) fun v44 w45 => (some (v44, w45))))) else ((fX1_scale w (v2) ).bind fun v47 => (xmb2 (fX4_answered w (th) (v47)) fun v49 w50 => (some (v49, w50)))))))))))))))
set_option maxHeartbeats 4000000 in
set_option maxRecDepth 100000 in
theorem mX4_about (l : Launch) (D : va_G) (ks : Nat → ClassId) (b : Nat) {w : xmW} {th : (Option Nat)} {a1 : Int32} {a2 : Int32} {y : Int32} {wz : xmW} (hf : fX4_about w th a1 a2 = some (y, wz)) : xmM l yX4_about (Cond.code yX4_about cX4_about 4 (some (FieldType.int)) :: xmTs) 2 43 0 0 D ks b w [xR th, xI a1, xI a2] (some (xI y)) wz := by
  unfold fX4_about at hf
  obtain ⟨_, _, hf⟩ := xm_bind hf
  refine xmM.of (own := RX4) (lv0 := [(0, xR th), (1, xI a1), (2, xI a2)]) (by decide) rfl (Nat.le_of_ble_eq_true rfl) rfl ?_
  intro p e s m args below meth c hC hr hnm
  refine xj_aload_n hC dX4_about_0 rfl 0 rfl ?_
  refine xj_iload_n hC dX4_about_1 rfl 1 rfl ?_
  obtain ⟨v2, hc1, hf⟩ := xm_bind hf
  obtain ⟨_, hob, _⟩ := xm_bind hc1
  refine xj_retr (xr_V hC (mX4_formatAt l D ks b hc1) hob rfl xw_cod_X4_formatAt xw_ini_X4 xw_ins_X4_formatAt xw_sel_X4_formatAt xw_ml_X4_73 xds_X4_formatAt ⟨Nat.le_of_ble_eq_true rfl, Nat.le_of_ble_eq_true rfl⟩ rfl rfl (Nat.le_of_ble_eq_true rfl) ⟨Nat.le_of_ble_eq_true rfl, Nat.le_of_ble_eq_true rfl⟩ dX4_about_2) ?_
  refine xj_astore_n (lv' := [(3, xR v2), (0, xR th), (1, xI a1), (2, xI a2)]) hC dX4_about_5 rfl (by decide) rfl ?_
  refine xj_aload_n hC dX4_about_6 rfl 0 rfl ?_
  refine xb_ifnull (tgt := 20) hC dX4_about_7 (by decide) hf (fun hf => ?_) (fun hf => ?_)
  · refine xj_aload_n hC dX4_about_20 rfl 1 rfl ?_
    refine xj_iconst (v := -1) hC dX4_about_21 (by decide) ?_
    obtain ⟨v4, w5, hc3, hf⟩ := xm_b2 hf
    obtain ⟨_, hob, _⟩ := xm_bind hc3
    refine xj_reti (xr_V hC (mX4_refused l D ks b hc3) hob rfl xw_cod_X4_refused xw_ini_X4 xw_ins_X4_refused xw_sel_X4_refused xw_ml_X4_66 xds_X4_refused ⟨Nat.le_of_ble_eq_true rfl, Nat.le_of_ble_eq_true rfl⟩ rfl rfl (Nat.le_of_ble_eq_true rfl) ⟨Nat.le_of_ble_eq_true rfl, Nat.le_of_ble_eq_true rfl⟩ dX4_about_22) ?_
    obtain ⟨he, hw⟩ := Prod.mk.inj (Option.some.inj hf)
    exact xj_iret hC hr (by decide) (by decide) dX4_about_25 he hw
  · refine xj_iload_n hC dX4_about_10 rfl 3 rfl ?_
    refine xj_iconst (v := 0) hC dX4_about_11 (by decide) ?_
    refine xj_bipush (v := 6) hC dX4_about_12 (by decide) ?_
    obtain ⟨v7, hc6, hf⟩ := xm_bind hf
    refine xj_reti (xr_S hC (mX4_within l D ks b hc6) xw_cod_X4_within xw_ini_X4 xw_sta_X4_within xw_ml_X4_62 xds_X4_within ⟨Nat.le_of_ble_eq_true rfl, Nat.le_of_ble_eq_true rfl⟩ rfl rfl (Nat.le_of_ble_eq_true rfl) ⟨Nat.le_of_ble_eq_true rfl, Nat.le_of_ble_eq_true rfl⟩ dX4_about_14) ?_
    refine xb_if_ne (tgt := 26) hC dX4_about_17 (by decide) hf (fun hf => ?_) (fun hf => ?_)
    · refine xj_iload_n hC dX4_about_26 rfl 3 rfl ?_
      refine xb_case hf (fun hx hf => ?_) (fun hn8 hf => ?_)
      · refine xj_tableIn (tgt := 64) hC (37) dX4_about_27 hx (by decide) (by decide) (by decide) (by decide) ?_
        refine xj_aload_n hC dX4_about_64 rfl 1 rfl ?_
        refine xj_aload_n hC dX4_about_65 rfl 0 rfl ?_
        obtain ⟨v10, hc9, hf⟩ := xm_bind hf
        obtain ⟨_, hob, _⟩ := xm_bind hc9
        refine xj_reti (xr_V hC (mX1_bits l D ks b hc9) hob rfl xw_cod_X1_bits xw_ini_X1 xw_ins_X1_bits xw_sel_X1_bits xw_ml_X4_84 xds_X1_bits ⟨Nat.le_of_ble_eq_true rfl, Nat.le_of_ble_eq_true rfl⟩ rfl rfl (Nat.le_of_ble_eq_true rfl) ⟨Nat.le_of_ble_eq_true rfl, Nat.le_of_ble_eq_true rfl⟩ dX4_about_66) ?_
        obtain ⟨v12, w13, hc11, hf⟩ := xm_b2 hf
        obtain ⟨_, hob, _⟩ := xm_bind hc11
        refine xj_reti (xr_V hC (mX4_answered l D ks b hc11) hob rfl xw_cod_X4_answered xw_ini_X4 xw_ins_X4_answered xw_sel_X4_answered xw_ml_X4_81 xds_X4_answered ⟨Nat.le_of_ble_eq_true rfl, Nat.le_of_ble_eq_true rfl⟩ rfl rfl (Nat.le_of_ble_eq_true rfl) ⟨Nat.le_of_ble_eq_true rfl, Nat.le_of_ble_eq_true rfl⟩ dX4_about_69) ?_
        obtain ⟨he, hw⟩ := Prod.mk.inj (Option.some.inj hf)
        exact xj_iret hC hr (by decide) (by decide) dX4_about_72 he hw
      · refine xb_case hf (fun hx hf => ?_) (fun hn14 hf => ?_)
        · refine xj_tableIn (tgt := 73) hC (46) dX4_about_27 hx (by decide) (by decide) (by decide) (by decide) ?_
          refine xj_aload_n hC dX4_about_73 rfl 1 rfl ?_
          refine xj_aload_n hC dX4_about_74 rfl 0 rfl ?_
          refine xb_getI hC 1 6 xcl_1 (by decide) xw_fl_X4_88 dX4_about_75 hf (fun v15 hf => ?_)
          obtain ⟨v17, w18, hc16, hf⟩ := xm_b2 hf
          obtain ⟨_, hob, _⟩ := xm_bind hc16
          refine xj_reti (xr_V hC (mX4_answered l D ks b hc16) hob rfl xw_cod_X4_answered xw_ini_X4 xw_ins_X4_answered xw_sel_X4_answered xw_ml_X4_81 xds_X4_answered ⟨Nat.le_of_ble_eq_true rfl, Nat.le_of_ble_eq_true rfl⟩ rfl rfl (Nat.le_of_ble_eq_true rfl) ⟨Nat.le_of_ble_eq_true rfl, Nat.le_of_ble_eq_true rfl⟩ dX4_about_78) ?_
          obtain ⟨he, hw⟩ := Prod.mk.inj (Option.some.inj hf)
          exact xj_iret hC hr (by decide) (by decide) dX4_about_81 he hw
        · refine xb_case hf (fun hx hf => ?_) (fun hn19 hf => ?_)
          · refine xj_tableIn (tgt := 82) hC (55) dX4_about_27 hx (by decide) (by decide) (by decide) (by decide) ?_
            refine xj_aload_n hC dX4_about_82 rfl 1 rfl ?_
            refine xj_aload_n hC dX4_about_83 rfl 0 rfl ?_
            refine xb_getI hC 1 6 xcl_1 (by decide) xw_fl_X4_88 dX4_about_84 hf (fun v20 hf => ?_)
            refine xj_iconst (v := 1) hC dX4_about_87 (by decide) ?_
            refine xj_isub hC dX4_about_88 ?_
            obtain ⟨v22, w23, hc21, hf⟩ := xm_b2 hf
            obtain ⟨_, hob, _⟩ := xm_bind hc21
            refine xj_reti (xr_V hC (mX4_answered l D ks b hc21) hob rfl xw_cod_X4_answered xw_ini_X4 xw_ins_X4_answered xw_sel_X4_answered xw_ml_X4_81 xds_X4_answered ⟨Nat.le_of_ble_eq_true rfl, Nat.le_of_ble_eq_true rfl⟩ rfl rfl (Nat.le_of_ble_eq_true rfl) ⟨Nat.le_of_ble_eq_true rfl, Nat.le_of_ble_eq_true rfl⟩ dX4_about_89) ?_
            obtain ⟨he, hw⟩ := Prod.mk.inj (Option.some.inj hf)
            exact xj_iret hC hr (by decide) (by decide) dX4_about_92 he hw
          · refine xb_case hf (fun hx hf => ?_) (fun hn24 hf => ?_)
            · refine xj_tableIn (tgt := 93) hC (66) dX4_about_27 hx (by decide) (by decide) (by decide) (by decide) ?_
              refine xj_aload_n hC dX4_about_93 rfl 1 rfl ?_
              refine xj_aload_n hC dX4_about_94 rfl 0 rfl ?_
              obtain ⟨v26, hc25, hf⟩ := xm_bind hf
              obtain ⟨_, hob, _⟩ := xm_bind hc25
              refine xj_reti (xr_V hC (mX1_noneCode l D ks b hc25) hob rfl xw_cod_X1_noneCode xw_ini_X1 xw_ins_X1_noneCode xw_sel_X1_noneCode xw_ml_X4_91 xds_X1_noneCode ⟨Nat.le_of_ble_eq_true rfl, Nat.le_of_ble_eq_true rfl⟩ rfl rfl (Nat.le_of_ble_eq_true rfl) ⟨Nat.le_of_ble_eq_true rfl, Nat.le_of_ble_eq_true rfl⟩ dX4_about_95) ?_
              obtain ⟨v28, w29, hc27, hf⟩ := xm_b2 hf
              obtain ⟨_, hob, _⟩ := xm_bind hc27
              refine xj_reti (xr_V hC (mX4_answered l D ks b hc27) hob rfl xw_cod_X4_answered xw_ini_X4 xw_ins_X4_answered xw_sel_X4_answered xw_ml_X4_81 xds_X4_answered ⟨Nat.le_of_ble_eq_true rfl, Nat.le_of_ble_eq_true rfl⟩ rfl rfl (Nat.le_of_ble_eq_true rfl) ⟨Nat.le_of_ble_eq_true rfl, Nat.le_of_ble_eq_true rfl⟩ dX4_about_98) ?_
              obtain ⟨he, hw⟩ := Prod.mk.inj (Option.some.inj hf)
              exact xj_iret hC hr (by decide) (by decide) dX4_about_101 he hw
            · refine xb_case hf (fun hx hf => ?_) (fun hn30 hf => ?_)
              · refine xj_tableIn (tgt := 102) hC (75) dX4_about_27 hx (by decide) (by decide) (by decide) (by decide) ?_
                refine xj_aload_n hC dX4_about_102 rfl 1 rfl ?_
                refine xj_aload_n hC dX4_about_103 rfl 0 rfl ?_
                refine xb_getI hC 1 5 xcl_1 (by decide) xw_fl_X4_94 dX4_about_104 hf (fun v31 hf => ?_)
                refine xb_if_ne (tgt := 118) hC dX4_about_107 (by decide) hf (fun hf => ?_) (fun hf => ?_)
                · refine xj_bipush (v := -9) hC dX4_about_118 (by decide) ?_
                  obtain ⟨v33, w34, hc32, hf⟩ := xm_b2 hf
                  obtain ⟨_, hob, _⟩ := xm_bind hc32
                  refine xj_reti (xr_V hC (mX4_answered l D ks b hc32) hob rfl xw_cod_X4_answered xw_ini_X4 xw_ins_X4_answered xw_sel_X4_answered xw_ml_X4_81 xds_X4_answered ⟨Nat.le_of_ble_eq_true rfl, Nat.le_of_ble_eq_true rfl⟩ rfl rfl (Nat.le_of_ble_eq_true rfl) ⟨Nat.le_of_ble_eq_true rfl, Nat.le_of_ble_eq_true rfl⟩ dX4_about_120) ?_
                  obtain ⟨he, hw⟩ := Prod.mk.inj (Option.some.inj hf)
                  exact xj_iret hC hr (by decide) (by decide) dX4_about_123 he hw
                · refine xj_aload_n hC dX4_about_110 rfl 0 rfl ?_
                  refine xj_iconst (v := 0) hC dX4_about_111 (by decide) ?_
                  obtain ⟨v36, hc35, hf⟩ := xm_bind hf
                  obtain ⟨_, hob, _⟩ := xm_bind hc35
                  refine xj_reti (xr_V hC (mX1_beyond l D ks b hc35) hob rfl xw_cod_X1_beyond xw_ini_X1 xw_ins_X1_beyond xw_sel_X1_beyond xw_ml_X4_97 xds_X1_beyond ⟨Nat.le_of_ble_eq_true rfl, Nat.le_of_ble_eq_true rfl⟩ rfl rfl (Nat.le_of_ble_eq_true rfl) ⟨Nat.le_of_ble_eq_true rfl, Nat.le_of_ble_eq_true rfl⟩ dX4_about_112) ?_
                  refine xj_goto (tgt := 120) hC dX4_about_115 (by decide) ?_
                  obtain ⟨v38, w39, hc37, hf⟩ := xm_b2 hf
                  obtain ⟨_, hob, _⟩ := xm_bind hc37
                  refine xj_reti (xr_V hC (mX4_answered l D ks b hc37) hob rfl xw_cod_X4_answered xw_ini_X4 xw_ins_X4_answered xw_sel_X4_answered xw_ml_X4_81 xds_X4_answered ⟨Nat.le_of_ble_eq_true rfl, Nat.le_of_ble_eq_true rfl⟩ rfl rfl (Nat.le_of_ble_eq_true rfl) ⟨Nat.le_of_ble_eq_true rfl, Nat.le_of_ble_eq_true rfl⟩ dX4_about_120) ?_
                  obtain ⟨he, hw⟩ := Prod.mk.inj (Option.some.inj hf)
                  exact xj_iret hC hr (by decide) (by decide) dX4_about_123 he hw
              · refine xb_case hf (fun hx hf => ?_) (fun hn40 hf => ?_)
                · refine xj_tableIn (tgt := 124) hC (97) dX4_about_27 hx (by decide) (by decide) (by decide) (by decide) ?_
                  refine xj_aload_n hC dX4_about_124 rfl 1 rfl ?_
                  refine xj_aload_n hC dX4_about_125 rfl 0 rfl ?_
                  refine xb_getI hC 1 6 xcl_1 (by decide) xw_fl_X4_88 dX4_about_126 hf (fun v41 hf => ?_)
                  refine xj_iconst (v := 1) hC dX4_about_129 (by decide) ?_
                  refine xj_iadd hC dX4_about_130 ?_
                  refine xj_aload_n hC dX4_about_131 rfl 0 rfl ?_
                  refine xb_getI hC 1 0 xcl_1 (by decide) xw_fl_X4_101 dX4_about_132 hf (fun v42 hf => ?_)
                  refine xj_ishl hC dX4_about_135 ?_
                  obtain ⟨v44, w45, hc43, hf⟩ := xm_b2 hf
                  obtain ⟨_, hob, _⟩ := xm_bind hc43
                  refine xj_reti (xr_V hC (mX4_answered l D ks b hc43) hob rfl xw_cod_X4_answered xw_ini_X4 xw_ins_X4_answered xw_sel_X4_answered xw_ml_X4_81 xds_X4_answered ⟨Nat.le_of_ble_eq_true rfl, Nat.le_of_ble_eq_true rfl⟩ rfl rfl (Nat.le_of_ble_eq_true rfl) ⟨Nat.le_of_ble_eq_true rfl, Nat.le_of_ble_eq_true rfl⟩ dX4_about_136) ?_
                  obtain ⟨he, hw⟩ := Prod.mk.inj (Option.some.inj hf)
                  exact xj_iret hC hr (by decide) (by decide) dX4_about_139 he hw
                · have hx0 := lv_neT hn8 (a := 0) (by decide)
                  have hx1 := lv_neT hn14 (a := 1) (by decide)
                  have hx2 := lv_neT hn19 (a := 2) (by decide)
                  have hx3 := lv_neT hn24 (a := 3) (by decide)
                  have hx4 := lv_neT hn30 (a := 4) (by decide)
                  have hx5 := lv_neT hn40 (a := 5) (by decide)
                  refine xj_tableOut (tgt := 140) hC dX4_about_27 (by omega) (by decide) ?_
                  refine xj_aload_n hC dX4_about_140 rfl 1 rfl ?_
                  refine xj_aload_n hC dX4_about_141 rfl 0 rfl ?_
                  obtain ⟨v47, hc46, hf⟩ := xm_bind hf
                  obtain ⟨_, hob, _⟩ := xm_bind hc46
                  refine xj_reti (xr_V hC (mX1_scale l D ks b hc46) hob rfl xw_cod_X1_scale xw_ini_X1 xw_ins_X1_scale xw_sel_X1_scale xw_ml_X4_104 xds_X1_scale ⟨Nat.le_of_ble_eq_true rfl, Nat.le_of_ble_eq_true rfl⟩ rfl rfl (Nat.le_of_ble_eq_true rfl) ⟨Nat.le_of_ble_eq_true rfl, Nat.le_of_ble_eq_true rfl⟩ dX4_about_142) ?_
                  obtain ⟨v49, w50, hc48, hf⟩ := xm_b2 hf
                  obtain ⟨_, hob, _⟩ := xm_bind hc48
                  refine xj_reti (xr_V hC (mX4_answered l D ks b hc48) hob rfl xw_cod_X4_answered xw_ini_X4 xw_ins_X4_answered xw_sel_X4_answered xw_ml_X4_81 xds_X4_answered ⟨Nat.le_of_ble_eq_true rfl, Nat.le_of_ble_eq_true rfl⟩ rfl rfl (Nat.le_of_ble_eq_true rfl) ⟨Nat.le_of_ble_eq_true rfl, Nat.le_of_ble_eq_true rfl⟩ dX4_about_145) ?_
                  obtain ⟨he, hw⟩ := Prod.mk.inj (Option.some.inj hf)
                  exact xj_iret hC hr (by decide) (by decide) dX4_about_148 he hw
    · refine xj_aload_n hC dX4_about_20 rfl 1 rfl ?_
      refine xj_iconst (v := -1) hC dX4_about_21 (by decide) ?_
      obtain ⟨v52, w53, hc51, hf⟩ := xm_b2 hf
      obtain ⟨_, hob, _⟩ := xm_bind hc51
      refine xj_reti (xr_V hC (mX4_refused l D ks b hc51) hob rfl xw_cod_X4_refused xw_ini_X4 xw_ins_X4_refused xw_sel_X4_refused xw_ml_X4_66 xds_X4_refused ⟨Nat.le_of_ble_eq_true rfl, Nat.le_of_ble_eq_true rfl⟩ rfl rfl (Nat.le_of_ble_eq_true rfl) ⟨Nat.le_of_ble_eq_true rfl, Nat.le_of_ble_eq_true rfl⟩ dX4_about_22) ?_
      obtain ⟨he, hw⟩ := Prod.mk.inj (Option.some.inj hf)
      exact xj_iret hC hr (by decide) (by decide) dX4_about_25 he hw
def fX4_kind (w : xmW) (th : (Option Nat)) (a1 : Int32) (a2 : Int32) (a3 : Int32) : Option (Int32 × xmW) := ((xmob w th 4).bind fun _ => ((fX4_formatAt w (th) (a1)).bind fun v2 => (if v2 = none then (xmb2 (fX4_refused w (th) ((-1 : Int32))) fun v4 w5 => (some (v4, w5))) else ((fX1_hasCode w (v2) (a2)).bind fun v7 => (if v7 = 0 then (xmb2 (fX4_refused w (th) ((-1 : Int32))) fun v9 w10 => (some (v9, w10))) else ((fX4_within w (a3) ((0 : Int32)) ((1 : Int32))).bind fun v12 => (if v12 = 0 then (xmb2 (fX4_refused w (th) ((-1 : Int32))) fun v24 w25 => (some (v24, w25))) else (if a3 = (1 : Int32) then ((fX1_isMinus w (v2) (a2)).bind fun v19 => (xmb2 (fX4_answered w (th) ((if v19 = 0 then (0 : Int32) else (1 : Int32)))) fun v21 w22 => (some (v21, w22)))) else ((fX1_kindOf w (v2) (a2)).bind fun v14 => (xmb2 (fX4_answered w (th) (v14)) fun v16 w17 => (some (v16, w17))))))))))))
set_option maxHeartbeats 4000000 in
set_option maxRecDepth 100000 in
theorem mX4_kind (l : Launch) (D : va_G) (ks : Nat → ClassId) (b : Nat) {w : xmW} {th : (Option Nat)} {a1 : Int32} {a2 : Int32} {a3 : Int32} {y : Int32} {wz : xmW} (hf : fX4_kind w th a1 a2 a3 = some (y, wz)) : xmM l yX4_kind (Cond.code yX4_kind cX4_kind 5 (some (FieldType.int)) :: xmTs) 4 85 0 0 D ks b w [xR th, xI a1, xI a2, xI a3] (some (xI y)) wz := by
  unfold fX4_kind at hf
  obtain ⟨_, _, hf⟩ := xm_bind hf
  refine xmM.of (own := RX4) (lv0 := [(0, xR th), (1, xI a1), (2, xI a2), (3, xI a3)]) (by decide) rfl (Nat.le_of_ble_eq_true rfl) rfl ?_
  intro p e s m args below meth c hC hr hnm
  refine xj_aload_n hC dX4_kind_0 rfl 0 rfl ?_
  refine xj_iload_n hC dX4_kind_1 rfl 1 rfl ?_
  obtain ⟨v2, hc1, hf⟩ := xm_bind hf
  obtain ⟨_, hob, _⟩ := xm_bind hc1
  refine xj_retr (xr_V hC (mX4_formatAt l D ks b hc1) hob rfl xw_cod_X4_formatAt xw_ini_X4 xw_ins_X4_formatAt xw_sel_X4_formatAt xw_ml_X4_73 xds_X4_formatAt ⟨Nat.le_of_ble_eq_true rfl, Nat.le_of_ble_eq_true rfl⟩ rfl rfl (Nat.le_of_ble_eq_true rfl) ⟨Nat.le_of_ble_eq_true rfl, Nat.le_of_ble_eq_true rfl⟩ dX4_kind_2) ?_
  refine xj_astore (lv' := [(4, xR v2), (0, xR th), (1, xI a1), (2, xI a2), (3, xI a3)]) hC dX4_kind_5 (by decide) rfl ?_
  refine xj_aload hC dX4_kind_7 0 rfl ?_
  refine xb_ifnull (tgt := 30) hC dX4_kind_9 (by decide) hf (fun hf => ?_) (fun hf => ?_)
  · refine xj_aload_n hC dX4_kind_30 rfl 1 rfl ?_
    refine xj_iconst (v := -1) hC dX4_kind_31 (by decide) ?_
    obtain ⟨v4, w5, hc3, hf⟩ := xm_b2 hf
    obtain ⟨_, hob, _⟩ := xm_bind hc3
    refine xj_reti (xr_V hC (mX4_refused l D ks b hc3) hob rfl xw_cod_X4_refused xw_ini_X4 xw_ins_X4_refused xw_sel_X4_refused xw_ml_X4_66 xds_X4_refused ⟨Nat.le_of_ble_eq_true rfl, Nat.le_of_ble_eq_true rfl⟩ rfl rfl (Nat.le_of_ble_eq_true rfl) ⟨Nat.le_of_ble_eq_true rfl, Nat.le_of_ble_eq_true rfl⟩ dX4_kind_32) ?_
    obtain ⟨he, hw⟩ := Prod.mk.inj (Option.some.inj hf)
    exact xj_iret hC hr (by decide) (by decide) dX4_kind_35 he hw
  · refine xj_aload hC dX4_kind_12 0 rfl ?_
    refine xj_iload_n hC dX4_kind_14 rfl 3 rfl ?_
    obtain ⟨v7, hc6, hf⟩ := xm_bind hf
    obtain ⟨_, hob, _⟩ := xm_bind hc6
    refine xj_reti (xr_V hC (mX1_hasCode l D ks b hc6) hob rfl xw_cod_X1_hasCode xw_ini_X1 xw_ins_X1_hasCode xw_sel_X1_hasCode xw_ml_X4_107 xds_X1_hasCode ⟨Nat.le_of_ble_eq_true rfl, Nat.le_of_ble_eq_true rfl⟩ rfl rfl (Nat.le_of_ble_eq_true rfl) ⟨Nat.le_of_ble_eq_true rfl, Nat.le_of_ble_eq_true rfl⟩ dX4_kind_15) ?_
    refine xb_if_eq (tgt := 30) hC dX4_kind_18 (by decide) hf (fun hf => ?_) (fun hf => ?_)
    · refine xj_aload_n hC dX4_kind_30 rfl 1 rfl ?_
      refine xj_iconst (v := -1) hC dX4_kind_31 (by decide) ?_
      obtain ⟨v9, w10, hc8, hf⟩ := xm_b2 hf
      obtain ⟨_, hob, _⟩ := xm_bind hc8
      refine xj_reti (xr_V hC (mX4_refused l D ks b hc8) hob rfl xw_cod_X4_refused xw_ini_X4 xw_ins_X4_refused xw_sel_X4_refused xw_ml_X4_66 xds_X4_refused ⟨Nat.le_of_ble_eq_true rfl, Nat.le_of_ble_eq_true rfl⟩ rfl rfl (Nat.le_of_ble_eq_true rfl) ⟨Nat.le_of_ble_eq_true rfl, Nat.le_of_ble_eq_true rfl⟩ dX4_kind_32) ?_
      obtain ⟨he, hw⟩ := Prod.mk.inj (Option.some.inj hf)
      exact xj_iret hC hr (by decide) (by decide) dX4_kind_35 he hw
    · refine xj_iload_n hC dX4_kind_21 rfl 4 rfl ?_
      refine xj_iconst (v := 0) hC dX4_kind_22 (by decide) ?_
      refine xj_iconst (v := 1) hC dX4_kind_23 (by decide) ?_
      obtain ⟨v12, hc11, hf⟩ := xm_bind hf
      refine xj_reti (xr_S hC (mX4_within l D ks b hc11) xw_cod_X4_within xw_ini_X4 xw_sta_X4_within xw_ml_X4_62 xds_X4_within ⟨Nat.le_of_ble_eq_true rfl, Nat.le_of_ble_eq_true rfl⟩ rfl rfl (Nat.le_of_ble_eq_true rfl) ⟨Nat.le_of_ble_eq_true rfl, Nat.le_of_ble_eq_true rfl⟩ dX4_kind_24) ?_
      refine xb_if_ne (tgt := 36) hC dX4_kind_27 (by decide) hf (fun hf => ?_) (fun hf => ?_)
      · refine xj_iload_n hC dX4_kind_36 rfl 4 rfl ?_
        refine xj_iconst (v := 1) hC dX4_kind_37 (by decide) ?_
        refine xb_ic_ne (tgt := 60) hC dX4_kind_38 (by decide) hf (fun hf => ?_) (fun hf => ?_)
        · refine xj_aload_n hC dX4_kind_60 rfl 1 rfl ?_
          refine xj_aload hC dX4_kind_61 0 rfl ?_
          refine xj_iload_n hC dX4_kind_63 rfl 3 rfl ?_
          obtain ⟨v14, hc13, hf⟩ := xm_bind hf
          obtain ⟨_, hob, _⟩ := xm_bind hc13
          refine xj_reti (xr_V hC (mX1_kindOf l D ks b hc13) hob rfl xw_cod_X1_kindOf xw_ini_X1 xw_ins_X1_kindOf xw_sel_X1_kindOf xw_ml_X4_114 xds_X1_kindOf ⟨Nat.le_of_ble_eq_true rfl, Nat.le_of_ble_eq_true rfl⟩ rfl rfl (Nat.le_of_ble_eq_true rfl) ⟨Nat.le_of_ble_eq_true rfl, Nat.le_of_ble_eq_true rfl⟩ dX4_kind_64) ?_
          obtain ⟨v16, w17, hc15, hf⟩ := xm_b2 hf
          obtain ⟨_, hob, _⟩ := xm_bind hc15
          refine xj_reti (xr_V hC (mX4_answered l D ks b hc15) hob rfl xw_cod_X4_answered xw_ini_X4 xw_ins_X4_answered xw_sel_X4_answered xw_ml_X4_81 xds_X4_answered ⟨Nat.le_of_ble_eq_true rfl, Nat.le_of_ble_eq_true rfl⟩ rfl rfl (Nat.le_of_ble_eq_true rfl) ⟨Nat.le_of_ble_eq_true rfl, Nat.le_of_ble_eq_true rfl⟩ dX4_kind_67) ?_
          obtain ⟨he, hw⟩ := Prod.mk.inj (Option.some.inj hf)
          exact xj_iret hC hr (by decide) (by decide) dX4_kind_70 he hw
        · refine xj_aload_n hC dX4_kind_41 rfl 1 rfl ?_
          refine xj_aload hC dX4_kind_42 0 rfl ?_
          refine xj_iload_n hC dX4_kind_44 rfl 3 rfl ?_
          obtain ⟨v19, hc18, hf⟩ := xm_bind hf
          obtain ⟨_, hob, _⟩ := xm_bind hc18
          refine xj_reti (xr_V hC (mX1_isMinus l D ks b hc18) hob rfl xw_cod_X1_isMinus xw_ini_X1 xw_ins_X1_isMinus xw_sel_X1_isMinus xw_ml_X4_111 xds_X1_isMinus ⟨Nat.le_of_ble_eq_true rfl, Nat.le_of_ble_eq_true rfl⟩ rfl rfl (Nat.le_of_ble_eq_true rfl) ⟨Nat.le_of_ble_eq_true rfl, Nat.le_of_ble_eq_true rfl⟩ dX4_kind_45) ?_
          refine xj_dia (cnd := v19 = 0) (x := 0) (y := 1) (pc2 := 56) (st2 := [xR th]) (fun hc hk => ?_) (fun hc hk => ?_) ?_
          · exact xj_if_eq (tgt := 55) hC dX4_kind_48 (by decide) (fun _ => xj_iconst (v := 0) hC dX4_kind_55 (by decide) hk) (fun hn => absurd hc hn)
          · exact xj_if_eq (tgt := 55) hC dX4_kind_48 (by decide) (fun hn => absurd hn hc) (fun _ => xj_iconst (v := 1) hC dX4_kind_51 (by decide) (xj_goto (tgt := 56) hC dX4_kind_52 (by decide) hk))
          obtain ⟨v21, w22, hc20, hf⟩ := xm_b2 hf
          obtain ⟨_, hob, _⟩ := xm_bind hc20
          refine xj_reti (xr_V hC (mX4_answered l D ks b hc20) hob rfl xw_cod_X4_answered xw_ini_X4 xw_ins_X4_answered xw_sel_X4_answered xw_ml_X4_81 xds_X4_answered ⟨Nat.le_of_ble_eq_true rfl, Nat.le_of_ble_eq_true rfl⟩ rfl rfl (Nat.le_of_ble_eq_true rfl) ⟨Nat.le_of_ble_eq_true rfl, Nat.le_of_ble_eq_true rfl⟩ dX4_kind_56) ?_
          obtain ⟨he, hw⟩ := Prod.mk.inj (Option.some.inj hf)
          exact xj_iret hC hr (by decide) (by decide) dX4_kind_59 he hw
      · refine xj_aload_n hC dX4_kind_30 rfl 1 rfl ?_
        refine xj_iconst (v := -1) hC dX4_kind_31 (by decide) ?_
        obtain ⟨v24, w25, hc23, hf⟩ := xm_b2 hf
        obtain ⟨_, hob, _⟩ := xm_bind hc23
        refine xj_reti (xr_V hC (mX4_refused l D ks b hc23) hob rfl xw_cod_X4_refused xw_ini_X4 xw_ins_X4_refused xw_sel_X4_refused xw_ml_X4_66 xds_X4_refused ⟨Nat.le_of_ble_eq_true rfl, Nat.le_of_ble_eq_true rfl⟩ rfl rfl (Nat.le_of_ble_eq_true rfl) ⟨Nat.le_of_ble_eq_true rfl, Nat.le_of_ble_eq_true rfl⟩ dX4_kind_32) ?_
        obtain ⟨he, hw⟩ := Prod.mk.inj (Option.some.inj hf)
        exact xj_iret hC hr (by decide) (by decide) dX4_kind_35 he hw
def fX4_units (w : xmW) (th : (Option Nat)) (a1 : Int32) (a2 : Int32) : Option (Int64 × xmW) := ((xmob w th 4).bind fun _ => ((fX4_formatAt w (th) (a1)).bind fun v2 => (if v2 = none then (xmb2 (fX4_refused w (th) ((-1 : Int32))) fun v4 w5 => (some ((-9223372036854775808 : Int64), w5))) else ((fX1_hasCode w (v2) (a2)).bind fun v7 => (if v7 = 0 then (xmb2 (fX4_refused w (th) ((-1 : Int32))) fun v16 w17 => (some ((-9223372036854775808 : Int64), w17))) else (xmb2 (fX4_answered w (th) ((0 : Int32))) fun v9 w10 => ((fX1_isNumber w10 (v2) (a2)).bind fun v12 => (if v12 = 0 then (some ((-9223372036854775808 : Int64), w10)) else ((fX1_unitsOf w10 (v2) (a2)).bind fun v14 => (some (v14, w10)))))))))))
set_option maxHeartbeats 4000000 in
set_option maxRecDepth 100000 in
theorem mX4_units (l : Launch) (D : va_G) (ks : Nat → ClassId) (b : Nat) {w : xmW} {th : (Option Nat)} {a1 : Int32} {a2 : Int32} {y : Int64} {wz : xmW} (hf : fX4_units w th a1 a2 = some (y, wz)) : xmM l yX4_units (Cond.code yX4_units cX4_units 4 (some (FieldType.long)) :: xmTs) 2 47 0 0 D ks b w [xR th, xI a1, xI a2] (some (xL y)) wz := by
  unfold fX4_units at hf
  obtain ⟨_, _, hf⟩ := xm_bind hf
  refine xmM.of (own := RX4) (lv0 := [(0, xR th), (1, xI a1), (2, xI a2)]) (by decide) rfl (Nat.le_of_ble_eq_true rfl) rfl ?_
  intro p e s m args below meth c hC hr hnm
  refine xj_aload_n hC dX4_units_0 rfl 0 rfl ?_
  refine xj_iload_n hC dX4_units_1 rfl 1 rfl ?_
  obtain ⟨v2, hc1, hf⟩ := xm_bind hf
  obtain ⟨_, hob, _⟩ := xm_bind hc1
  refine xj_retr (xr_V hC (mX4_formatAt l D ks b hc1) hob rfl xw_cod_X4_formatAt xw_ini_X4 xw_ins_X4_formatAt xw_sel_X4_formatAt xw_ml_X4_73 xds_X4_formatAt ⟨Nat.le_of_ble_eq_true rfl, Nat.le_of_ble_eq_true rfl⟩ rfl rfl (Nat.le_of_ble_eq_true rfl) ⟨Nat.le_of_ble_eq_true rfl, Nat.le_of_ble_eq_true rfl⟩ dX4_units_2) ?_
  refine xj_astore_n (lv' := [(3, xR v2), (0, xR th), (1, xI a1), (2, xI a2)]) hC dX4_units_5 rfl (by decide) rfl ?_
  refine xj_aload_n hC dX4_units_6 rfl 0 rfl ?_
  refine xb_ifnull (tgt := 18) hC dX4_units_7 (by decide) hf (fun hf => ?_) (fun hf => ?_)
  · refine xj_aload_n hC dX4_units_18 rfl 1 rfl ?_
    refine xj_iconst (v := -1) hC dX4_units_19 (by decide) ?_
    obtain ⟨v4, w5, hc3, hf⟩ := xm_b2 hf
    obtain ⟨_, hob, _⟩ := xm_bind hc3
    refine xj_reti (xr_V hC (mX4_refused l D ks b hc3) hob rfl xw_cod_X4_refused xw_ini_X4 xw_ins_X4_refused xw_sel_X4_refused xw_ml_X4_66 xds_X4_refused ⟨Nat.le_of_ble_eq_true rfl, Nat.le_of_ble_eq_true rfl⟩ rfl rfl (Nat.le_of_ble_eq_true rfl) ⟨Nat.le_of_ble_eq_true rfl, Nat.le_of_ble_eq_true rfl⟩ dX4_units_20) ?_
    refine xj_pop hC dX4_units_23 rfl ?_
    refine xj_ldc2 hC xw_cst_X4_117 dX4_units_24 ?_
    obtain ⟨he, hw⟩ := Prod.mk.inj (Option.some.inj hf)
    exact xj_lret hC hr (by decide) (by decide) dX4_units_27 he hw
  · refine xj_aload_n hC dX4_units_10 rfl 0 rfl ?_
    refine xj_iload_n hC dX4_units_11 rfl 3 rfl ?_
    obtain ⟨v7, hc6, hf⟩ := xm_bind hf
    obtain ⟨_, hob, _⟩ := xm_bind hc6
    refine xj_reti (xr_V hC (mX1_hasCode l D ks b hc6) hob rfl xw_cod_X1_hasCode xw_ini_X1 xw_ins_X1_hasCode xw_sel_X1_hasCode xw_ml_X4_107 xds_X1_hasCode ⟨Nat.le_of_ble_eq_true rfl, Nat.le_of_ble_eq_true rfl⟩ rfl rfl (Nat.le_of_ble_eq_true rfl) ⟨Nat.le_of_ble_eq_true rfl, Nat.le_of_ble_eq_true rfl⟩ dX4_units_12) ?_
    refine xb_if_ne (tgt := 28) hC dX4_units_15 (by decide) hf (fun hf => ?_) (fun hf => ?_)
    · refine xj_aload_n hC dX4_units_28 rfl 1 rfl ?_
      refine xj_iconst (v := 0) hC dX4_units_29 (by decide) ?_
      obtain ⟨v9, w10, hc8, hf⟩ := xm_b2 hf
      obtain ⟨_, hob, _⟩ := xm_bind hc8
      refine xj_reti (xr_V hC (mX4_answered l D ks b hc8) hob rfl xw_cod_X4_answered xw_ini_X4 xw_ins_X4_answered xw_sel_X4_answered xw_ml_X4_81 xds_X4_answered ⟨Nat.le_of_ble_eq_true rfl, Nat.le_of_ble_eq_true rfl⟩ rfl rfl (Nat.le_of_ble_eq_true rfl) ⟨Nat.le_of_ble_eq_true rfl, Nat.le_of_ble_eq_true rfl⟩ dX4_units_30) ?_
      refine xj_pop hC dX4_units_33 rfl ?_
      refine xj_aload_n hC dX4_units_34 rfl 0 rfl ?_
      refine xj_iload_n hC dX4_units_35 rfl 3 rfl ?_
      obtain ⟨v12, hc11, hf⟩ := xm_bind hf
      obtain ⟨_, hob, _⟩ := xm_bind hc11
      refine xj_reti (xr_V hC (mX1_isNumber l D ks b hc11) hob rfl xw_cod_X1_isNumber xw_ini_X1 xw_ins_X1_isNumber xw_sel_X1_isNumber xw_ml_X4_119 xds_X1_isNumber ⟨Nat.le_of_ble_eq_true rfl, Nat.le_of_ble_eq_true rfl⟩ rfl rfl (Nat.le_of_ble_eq_true rfl) ⟨Nat.le_of_ble_eq_true rfl, Nat.le_of_ble_eq_true rfl⟩ dX4_units_36) ?_
      refine xb_if_eq (tgt := 50) hC dX4_units_39 (by decide) hf (fun hf => ?_) (fun hf => ?_)
      · refine xj_ldc2 hC xw_cst_X4_117 dX4_units_50 ?_
        obtain ⟨he, hw⟩ := Prod.mk.inj (Option.some.inj hf)
        exact xj_lret hC hr (by decide) (by decide) dX4_units_53 he hw
      · refine xj_aload_n hC dX4_units_42 rfl 0 rfl ?_
        refine xj_iload_n hC dX4_units_43 rfl 3 rfl ?_
        obtain ⟨v14, hc13, hf⟩ := xm_bind hf
        obtain ⟨_, hob, _⟩ := xm_bind hc13
        refine xj_retl (xr_V hC (mX1_unitsOf l D ks b hc13) hob rfl xw_cod_X1_unitsOf xw_ini_X1 xw_ins_X1_unitsOf xw_sel_X1_unitsOf xw_ml_X4_122 xds_X1_unitsOf ⟨Nat.le_of_ble_eq_true rfl, Nat.le_of_ble_eq_true rfl⟩ rfl rfl (Nat.le_of_ble_eq_true rfl) ⟨Nat.le_of_ble_eq_true rfl, Nat.le_of_ble_eq_true rfl⟩ dX4_units_44) ?_
        refine xj_goto (tgt := 53) hC dX4_units_47 (by decide) ?_
        obtain ⟨he, hw⟩ := Prod.mk.inj (Option.some.inj hf)
        exact xj_lret hC hr (by decide) (by decide) dX4_units_53 he hw
    · refine xj_aload_n hC dX4_units_18 rfl 1 rfl ?_
      refine xj_iconst (v := -1) hC dX4_units_19 (by decide) ?_
      obtain ⟨v16, w17, hc15, hf⟩ := xm_b2 hf
      obtain ⟨_, hob, _⟩ := xm_bind hc15
      refine xj_reti (xr_V hC (mX4_refused l D ks b hc15) hob rfl xw_cod_X4_refused xw_ini_X4 xw_ins_X4_refused xw_sel_X4_refused xw_ml_X4_66 xds_X4_refused ⟨Nat.le_of_ble_eq_true rfl, Nat.le_of_ble_eq_true rfl⟩ rfl rfl (Nat.le_of_ble_eq_true rfl) ⟨Nat.le_of_ble_eq_true rfl, Nat.le_of_ble_eq_true rfl⟩ dX4_units_20) ?_
      refine xj_pop hC dX4_units_23 rfl ?_
      refine xj_ldc2 hC xw_cst_X4_117 dX4_units_24 ?_
      obtain ⟨he, hw⟩ := Prod.mk.inj (Option.some.inj hf)
      exact xj_lret hC hr (by decide) (by decide) dX4_units_27 he hw
def fX4_isMode (w : xmW) (a1 : Int32) : Option Int32 := ((fX4_within w (a1) ((0 : Int32)) ((5 : Int32))).bind fun v2 => (xmbz v2))
set_option maxHeartbeats 4000000 in
set_option maxRecDepth 100000 in
theorem mX4_isMode (l : Launch) (D : va_G) (ks : Nat → ClassId) (b : Nat) {w : xmW} {a1 : Int32} {y : Int32} (hf : fX4_isMode w a1 = some y) : xmM l yX4_isMode (Cond.code yX4_isMode cX4_isMode 1 (some (FieldType.boolean)) :: xmTs) 1 22 0 0 D ks b w [xI a1] (some (xI y)) w := by
  unfold fX4_isMode at hf
  refine xmM.of (own := RX4) (lv0 := [(0, xI a1)]) (by decide) rfl (Nat.le_of_ble_eq_true rfl) rfl ?_
  intro p e s m args below meth c hC hr hnm
  refine xj_iload_n hC dX4_isMode_0 rfl 0 rfl ?_
  refine xj_iconst (v := 0) hC dX4_isMode_1 (by decide) ?_
  refine xj_iconst (v := 5) hC dX4_isMode_2 (by decide) ?_
  obtain ⟨v2, hc1, hf⟩ := xm_bind hf
  refine xj_reti (xr_S hC (mX4_within l D ks b hc1) xw_cod_X4_within xw_ini_X4 xw_sta_X4_within xw_ml_X4_62 xds_X4_within ⟨Nat.le_of_ble_eq_true rfl, Nat.le_of_ble_eq_true rfl⟩ rfl rfl (Nat.le_of_ble_eq_true rfl) ⟨Nat.le_of_ble_eq_true rfl, Nat.le_of_ble_eq_true rfl⟩ dX4_isMode_3) ?_
  exact xj_zret hC hr (by decide) (by decide) dX4_isMode_6 hf rfl
def fX4_settled (w : xmW) (th : (Option Nat)) (a1 : Int32) : Option (Int32 × xmW) := ((xmob w th 4).bind fun _ => (if a1 = (-4 : Int32) then ((xmgR w th 4 5).bind fun v9 => ((xmgI w v9 3 2).bind fun v10 => ((xmput w v9 3 2 (xI (v10 + (1 : Int32)))).bind fun w11 => (xmb2 (fX4_refused w11 (th) ((-4 : Int32))) fun v13 w14 => (some (v13, w14)))))) else ((xmgR w th 4 5).bind fun v1 => ((xmgR w th 4 4).bind fun v2 => ((xmgR w v2 0 0).bind fun v3 => ((fX3_add w (v1) (v3)).bind fun w5 => (xmb2 (fX4_answered w5 (th) (a1)) fun v7 w8 => (some (v7, w8)))))))))
set_option maxHeartbeats 4000000 in
set_option maxRecDepth 100000 in
theorem mX4_settled (l : Launch) (D : va_G) (ks : Nat → ClassId) (b : Nat) {w : xmW} {th : (Option Nat)} {a1 : Int32} {y : Int32} {wz : xmW} (hf : fX4_settled w th a1 = some (y, wz)) : xmM l yX4_settled (Cond.code yX4_settled cX4_settled 2 (some (FieldType.int)) :: xmTs) 1 21 0 0 D ks b w [xR th, xI a1] (some (xI y)) wz := by
  unfold fX4_settled at hf
  obtain ⟨_, _, hf⟩ := xm_bind hf
  refine xmM.of (own := RX4) (lv0 := [(0, xR th), (1, xI a1)]) (by decide) rfl (Nat.le_of_ble_eq_true rfl) rfl ?_
  intro p e s m args below meth c hC hr hnm
  refine xj_iload_n hC dX4_settled_0 rfl 1 rfl ?_
  refine xj_bipush (v := -4) hC dX4_settled_1 (by decide) ?_
  refine xb_ic_ne (tgt := 26) hC dX4_settled_3 (by decide) hf (fun hf => ?_) (fun hf => ?_)
  · refine xj_aload_n hC dX4_settled_26 rfl 0 rfl ?_
    refine xb_getR hC 4 5 xcl_4 (by decide) xw_fl_X4_41 dX4_settled_27 hf (fun v1 hf => ?_)
    refine xj_aload_n hC dX4_settled_30 rfl 0 rfl ?_
    refine xb_getR hC 4 4 xcl_4 (by decide) xw_fl_X4_34 dX4_settled_31 hf (fun v2 hf => ?_)
    refine xb_getR hC 0 0 xcl_0 (by decide) xw_fl_X4_135 dX4_settled_34 hf (fun v3 hf => ?_)
    obtain ⟨w5, hc4, hf⟩ := xm_bind hf
    obtain ⟨_, hob, _⟩ := xm_bind hc4
    refine xj_retv (xr_V hC (mX3_add l D ks b hc4) hob rfl xw_cod_X3_add xw_ini_X3 xw_ins_X3_add xw_sel_X3_add xw_ml_X4_235 xds_X3_add ⟨Nat.le_of_ble_eq_true rfl, Nat.le_of_ble_eq_true rfl⟩ rfl rfl (Nat.le_of_ble_eq_true rfl) ⟨Nat.le_of_ble_eq_true rfl, Nat.le_of_ble_eq_true rfl⟩ dX4_settled_37) ?_
    refine xj_aload_n hC dX4_settled_40 rfl 0 rfl ?_
    refine xj_iload_n hC dX4_settled_41 rfl 1 rfl ?_
    obtain ⟨v7, w8, hc6, hf⟩ := xm_b2 hf
    obtain ⟨_, hob, _⟩ := xm_bind hc6
    refine xj_reti (xr_V hC (mX4_answered l D ks b hc6) hob rfl xw_cod_X4_answered xw_ini_X4 xw_ins_X4_answered xw_sel_X4_answered xw_ml_X4_81 xds_X4_answered ⟨Nat.le_of_ble_eq_true rfl, Nat.le_of_ble_eq_true rfl⟩ rfl rfl (Nat.le_of_ble_eq_true rfl) ⟨Nat.le_of_ble_eq_true rfl, Nat.le_of_ble_eq_true rfl⟩ dX4_settled_42) ?_
    obtain ⟨he, hw⟩ := Prod.mk.inj (Option.some.inj hf)
    exact xj_iret hC hr (by decide) (by decide) dX4_settled_45 he hw
  · refine xj_aload_n hC dX4_settled_6 rfl 0 rfl ?_
    refine xb_getR hC 4 5 xcl_4 (by decide) xw_fl_X4_41 dX4_settled_7 hf (fun v9 hf => ?_)
    refine xj_dup hC dX4_settled_10 rfl ?_
    refine xb_getI hC 3 2 xcl_3 (by decide) xw_fl_X4_232 dX4_settled_11 hf (fun v10 hf => ?_)
    refine xj_iconst (v := 1) hC dX4_settled_14 (by decide) ?_
    refine xj_iadd hC dX4_settled_15 ?_
    refine xb_put hC 3 2 xcl_3 (by decide) xw_fl_X4_232 rfl (xmfit_i _) dX4_settled_16 hf (fun w11 hf => ?_)
    refine xj_aload_n hC dX4_settled_19 rfl 0 rfl ?_
    refine xj_bipush (v := -4) hC dX4_settled_20 (by decide) ?_
    obtain ⟨v13, w14, hc12, hf⟩ := xm_b2 hf
    obtain ⟨_, hob, _⟩ := xm_bind hc12
    refine xj_reti (xr_V hC (mX4_refused l D ks b hc12) hob rfl xw_cod_X4_refused xw_ini_X4 xw_ins_X4_refused xw_sel_X4_refused xw_ml_X4_66 xds_X4_refused ⟨Nat.le_of_ble_eq_true rfl, Nat.le_of_ble_eq_true rfl⟩ rfl rfl (Nat.le_of_ble_eq_true rfl) ⟨Nat.le_of_ble_eq_true rfl, Nat.le_of_ble_eq_true rfl⟩ dX4_settled_22) ?_
    obtain ⟨he, hw⟩ := Prod.mk.inj (Option.some.inj hf)
    exact xj_iret hC hr (by decide) (by decide) dX4_settled_25 he hw
def fX4_code (w : xmW) (th : (Option Nat)) (a1 : Int32) (a2 : Int64) (a3 : Int64) (a4 : Int32) : Option (Int32 × xmW) := ((xmob w th 4).bind fun _ => ((fX4_formatAt w (th) (a1)).bind fun v2 => (if v2 = none then (xmb2 (fX4_refused w (th) ((-1 : Int32))) fun v4 w5 => (some (v4, w5))) else (if (lg_cmp a2 (-1099511627776 : Int64)) < 0 then (xmb2 (fX4_refused w (th) ((-1 : Int32))) fun v7 w8 => (some (v7, w8))) else (if 0 < (lg_cmp a2 (1099511627776 : Int64)) then (xmb2 (fX4_refused w (th) ((-1 : Int32))) fun v10 w11 => (some (v10, w11))) else (if (lg_cmp a3 (1 : Int64)) < 0 then (xmb2 (fX4_refused w (th) ((-1 : Int32))) fun v13 w14 => (some (v13, w14))) else (if 0 < (lg_cmp a3 (1048576 : Int64)) then (xmb2 (fX4_refused w (th) ((-1 : Int32))) fun v16 w17 => (some (v16, w17))) else ((fX4_isMode w (a4)).bind fun v19 => (if v19 = 0 then (xmb2 (fX4_refused w (th) ((-1 : Int32))) fun v32 w33 => (some (v32, w33))) else ((xmgR w th 4 4).bind fun v20 => ((xmgR w v20 0 0).bind fun v21 => ((fX3_clear w (v21) ).bind fun w23 => ((xmgR w23 th 4 4).bind fun v24 => (xmb2 (fX0_fraction w23 (v24) (v2) (a2) (a3) (a4)) fun v26 w27 => (xmb2 (fX4_settled w27 (th) (v26)) fun v29 w30 => (some (v29, w30)))))))))))))))))
set_option maxHeartbeats 4000000 in
set_option maxRecDepth 100000 in
theorem mX4_code (l : Launch) (D : va_G) (ks : Nat → ClassId) (b : Nat) {w : xmW} {th : (Option Nat)} {a1 : Int32} {a2 : Int64} {a3 : Int64} {a4 : Int32} {y : Int32} {wz : xmW} (hf : fX4_code w th a1 a2 a3 a4 = some (y, wz)) : xmM l yX4_code (Cond.code yX4_code cX4_code 8 (some (FieldType.int)) :: xmTs) 4 107 0 0 D ks b w [xR th, xI a1, xL a2, xL a3, xI a4] (some (xI y)) wz := by
  unfold fX4_code at hf
  obtain ⟨_, _, hf⟩ := xm_bind hf
  refine xmM.of (own := RX4) (lv0 := [(0, xR th), (1, xI a1), (2, xL a2), (4, xL a3), (6, xI a4)]) (by decide) rfl (Nat.le_of_ble_eq_true rfl) rfl ?_
  intro p e s m args below meth c hC hr hnm
  refine xj_aload_n hC dX4_code_0 rfl 0 rfl ?_
  refine xj_iload_n hC dX4_code_1 rfl 1 rfl ?_
  obtain ⟨v2, hc1, hf⟩ := xm_bind hf
  obtain ⟨_, hob, _⟩ := xm_bind hc1
  refine xj_retr (xr_V hC (mX4_formatAt l D ks b hc1) hob rfl xw_cod_X4_formatAt xw_ini_X4 xw_ins_X4_formatAt xw_sel_X4_formatAt xw_ml_X4_73 xds_X4_formatAt ⟨Nat.le_of_ble_eq_true rfl, Nat.le_of_ble_eq_true rfl⟩ rfl rfl (Nat.le_of_ble_eq_true rfl) ⟨Nat.le_of_ble_eq_true rfl, Nat.le_of_ble_eq_true rfl⟩ dX4_code_2) ?_
  refine xj_astore (lv' := [(7, xR v2), (0, xR th), (1, xI a1), (2, xL a2), (4, xL a3), (6, xI a4)]) hC dX4_code_5 (by decide) rfl ?_
  refine xj_aload hC dX4_code_7 0 rfl ?_
  refine xb_ifnull (tgt := 52) hC dX4_code_9 (by decide) hf (fun hf => ?_) (fun hf => ?_)
  · refine xj_aload_n hC dX4_code_52 rfl 1 rfl ?_
    refine xj_iconst (v := -1) hC dX4_code_53 (by decide) ?_
    obtain ⟨v4, w5, hc3, hf⟩ := xm_b2 hf
    obtain ⟨_, hob, _⟩ := xm_bind hc3
    refine xj_reti (xr_V hC (mX4_refused l D ks b hc3) hob rfl xw_cod_X4_refused xw_ini_X4 xw_ins_X4_refused xw_sel_X4_refused xw_ml_X4_66 xds_X4_refused ⟨Nat.le_of_ble_eq_true rfl, Nat.le_of_ble_eq_true rfl⟩ rfl rfl (Nat.le_of_ble_eq_true rfl) ⟨Nat.le_of_ble_eq_true rfl, Nat.le_of_ble_eq_true rfl⟩ dX4_code_54) ?_
    obtain ⟨he, hw⟩ := Prod.mk.inj (Option.some.inj hf)
    exact xj_iret hC hr (by decide) (by decide) dX4_code_57 he hw
  · refine xj_lload_n hC dX4_code_12 rfl 3 rfl ?_
    refine xj_ldc2 hC xw_cst_X4_126 dX4_code_13 ?_
    refine xj_lcmp hC dX4_code_16 ?_
    refine xb_if_lt (tgt := 52) hC dX4_code_17 (by decide) hf (fun hf => ?_) (fun hf => ?_)
    · refine xj_aload_n hC dX4_code_52 rfl 1 rfl ?_
      refine xj_iconst (v := -1) hC dX4_code_53 (by decide) ?_
      obtain ⟨v7, w8, hc6, hf⟩ := xm_b2 hf
      obtain ⟨_, hob, _⟩ := xm_bind hc6
      refine xj_reti (xr_V hC (mX4_refused l D ks b hc6) hob rfl xw_cod_X4_refused xw_ini_X4 xw_ins_X4_refused xw_sel_X4_refused xw_ml_X4_66 xds_X4_refused ⟨Nat.le_of_ble_eq_true rfl, Nat.le_of_ble_eq_true rfl⟩ rfl rfl (Nat.le_of_ble_eq_true rfl) ⟨Nat.le_of_ble_eq_true rfl, Nat.le_of_ble_eq_true rfl⟩ dX4_code_54) ?_
      obtain ⟨he, hw⟩ := Prod.mk.inj (Option.some.inj hf)
      exact xj_iret hC hr (by decide) (by decide) dX4_code_57 he hw
    · refine xj_lload_n hC dX4_code_20 rfl 3 rfl ?_
      refine xj_ldc2 hC xw_cst_X4_128 dX4_code_21 ?_
      refine xj_lcmp hC dX4_code_24 ?_
      refine xb_if_gt (tgt := 52) hC dX4_code_25 (by decide) hf (fun hf => ?_) (fun hf => ?_)
      · refine xj_aload_n hC dX4_code_52 rfl 1 rfl ?_
        refine xj_iconst (v := -1) hC dX4_code_53 (by decide) ?_
        obtain ⟨v10, w11, hc9, hf⟩ := xm_b2 hf
        obtain ⟨_, hob, _⟩ := xm_bind hc9
        refine xj_reti (xr_V hC (mX4_refused l D ks b hc9) hob rfl xw_cod_X4_refused xw_ini_X4 xw_ins_X4_refused xw_sel_X4_refused xw_ml_X4_66 xds_X4_refused ⟨Nat.le_of_ble_eq_true rfl, Nat.le_of_ble_eq_true rfl⟩ rfl rfl (Nat.le_of_ble_eq_true rfl) ⟨Nat.le_of_ble_eq_true rfl, Nat.le_of_ble_eq_true rfl⟩ dX4_code_54) ?_
        obtain ⟨he, hw⟩ := Prod.mk.inj (Option.some.inj hf)
        exact xj_iret hC hr (by decide) (by decide) dX4_code_57 he hw
      · refine xj_lload hC dX4_code_28 4 rfl ?_
        refine xj_lconst (v := 1) hC dX4_code_30 (by decide) ?_
        refine xj_lcmp hC dX4_code_31 ?_
        refine xb_if_lt (tgt := 52) hC dX4_code_32 (by decide) hf (fun hf => ?_) (fun hf => ?_)
        · refine xj_aload_n hC dX4_code_52 rfl 1 rfl ?_
          refine xj_iconst (v := -1) hC dX4_code_53 (by decide) ?_
          obtain ⟨v13, w14, hc12, hf⟩ := xm_b2 hf
          obtain ⟨_, hob, _⟩ := xm_bind hc12
          refine xj_reti (xr_V hC (mX4_refused l D ks b hc12) hob rfl xw_cod_X4_refused xw_ini_X4 xw_ins_X4_refused xw_sel_X4_refused xw_ml_X4_66 xds_X4_refused ⟨Nat.le_of_ble_eq_true rfl, Nat.le_of_ble_eq_true rfl⟩ rfl rfl (Nat.le_of_ble_eq_true rfl) ⟨Nat.le_of_ble_eq_true rfl, Nat.le_of_ble_eq_true rfl⟩ dX4_code_54) ?_
          obtain ⟨he, hw⟩ := Prod.mk.inj (Option.some.inj hf)
          exact xj_iret hC hr (by decide) (by decide) dX4_code_57 he hw
        · refine xj_lload hC dX4_code_35 4 rfl ?_
          refine xj_ldc2 hC xw_cst_X4_130 dX4_code_37 ?_
          refine xj_lcmp hC dX4_code_40 ?_
          refine xb_if_gt (tgt := 52) hC dX4_code_41 (by decide) hf (fun hf => ?_) (fun hf => ?_)
          · refine xj_aload_n hC dX4_code_52 rfl 1 rfl ?_
            refine xj_iconst (v := -1) hC dX4_code_53 (by decide) ?_
            obtain ⟨v16, w17, hc15, hf⟩ := xm_b2 hf
            obtain ⟨_, hob, _⟩ := xm_bind hc15
            refine xj_reti (xr_V hC (mX4_refused l D ks b hc15) hob rfl xw_cod_X4_refused xw_ini_X4 xw_ins_X4_refused xw_sel_X4_refused xw_ml_X4_66 xds_X4_refused ⟨Nat.le_of_ble_eq_true rfl, Nat.le_of_ble_eq_true rfl⟩ rfl rfl (Nat.le_of_ble_eq_true rfl) ⟨Nat.le_of_ble_eq_true rfl, Nat.le_of_ble_eq_true rfl⟩ dX4_code_54) ?_
            obtain ⟨he, hw⟩ := Prod.mk.inj (Option.some.inj hf)
            exact xj_iret hC hr (by decide) (by decide) dX4_code_57 he hw
          · refine xj_iload hC dX4_code_44 5 rfl ?_
            obtain ⟨v19, hc18, hf⟩ := xm_bind hf
            refine xj_reti (xr_S hC (mX4_isMode l D ks b hc18) xw_cod_X4_isMode xw_ini_X4 xw_sta_X4_isMode xw_ml_X4_132 xds_X4_isMode ⟨Nat.le_of_ble_eq_true rfl, Nat.le_of_ble_eq_true rfl⟩ rfl rfl (Nat.le_of_ble_eq_true rfl) ⟨Nat.le_of_ble_eq_true rfl, Nat.le_of_ble_eq_true rfl⟩ dX4_code_46) ?_
            refine xb_if_ne (tgt := 58) hC dX4_code_49 (by decide) hf (fun hf => ?_) (fun hf => ?_)
            · refine xj_aload_n hC dX4_code_58 rfl 1 rfl ?_
              refine xb_getR hC 4 4 xcl_4 (by decide) xw_fl_X4_34 dX4_code_59 hf (fun v20 hf => ?_)
              refine xb_getR hC 0 0 xcl_0 (by decide) xw_fl_X4_135 dX4_code_62 hf (fun v21 hf => ?_)
              obtain ⟨w23, hc22, hf⟩ := xm_bind hf
              obtain ⟨_, hob, _⟩ := xm_bind hc22
              refine xj_retv (xr_V hC (mX3_clear l D ks b hc22) hob rfl xw_cod_X3_clear xw_ini_X3 xw_ins_X3_clear xw_sel_X3_clear xw_ml_X4_138 xds_X3_clear ⟨Nat.le_of_ble_eq_true rfl, Nat.le_of_ble_eq_true rfl⟩ rfl rfl (Nat.le_of_ble_eq_true rfl) ⟨Nat.le_of_ble_eq_true rfl, Nat.le_of_ble_eq_true rfl⟩ dX4_code_65) ?_
              refine xj_aload_n hC dX4_code_68 rfl 1 rfl ?_
              refine xj_aload_n hC dX4_code_69 rfl 1 rfl ?_
              refine xb_getR hC 4 4 xcl_4 (by decide) xw_fl_X4_34 dX4_code_70 hf (fun v24 hf => ?_)
              refine xj_aload hC dX4_code_73 0 rfl ?_
              refine xj_lload_n hC dX4_code_75 rfl 3 rfl ?_
              refine xj_lload hC dX4_code_76 4 rfl ?_
              refine xj_iload hC dX4_code_78 5 rfl ?_
              obtain ⟨v26, w27, hc25, hf⟩ := xm_b2 hf
              obtain ⟨_, hob, _⟩ := xm_bind hc25
              refine xj_reti (xr_V hC (mX0_fraction l D ks b hc25) hob rfl xw_cod_X0_fraction xw_ini_X0 xw_ins_X0_fraction xw_sel_X0_fraction xw_ml_X4_141 xds_X0_fraction ⟨Nat.le_of_ble_eq_true rfl, Nat.le_of_ble_eq_true rfl⟩ rfl rfl (Nat.le_of_ble_eq_true rfl) ⟨Nat.le_of_ble_eq_true rfl, Nat.le_of_ble_eq_true rfl⟩ dX4_code_80) ?_
              obtain ⟨v29, w30, hc28, hf⟩ := xm_b2 hf
              obtain ⟨_, hob, _⟩ := xm_bind hc28
              refine xj_reti (xr_V hC (mX4_settled l D ks b hc28) hob rfl xw_cod_X4_settled xw_ini_X4 xw_ins_X4_settled xw_sel_X4_settled xw_ml_X4_145 xds_X4_settled ⟨Nat.le_of_ble_eq_true rfl, Nat.le_of_ble_eq_true rfl⟩ rfl rfl (Nat.le_of_ble_eq_true rfl) ⟨Nat.le_of_ble_eq_true rfl, Nat.le_of_ble_eq_true rfl⟩ dX4_code_83) ?_
              obtain ⟨he, hw⟩ := Prod.mk.inj (Option.some.inj hf)
              exact xj_iret hC hr (by decide) (by decide) dX4_code_86 he hw
            · refine xj_aload_n hC dX4_code_52 rfl 1 rfl ?_
              refine xj_iconst (v := -1) hC dX4_code_53 (by decide) ?_
              obtain ⟨v32, w33, hc31, hf⟩ := xm_b2 hf
              obtain ⟨_, hob, _⟩ := xm_bind hc31
              refine xj_reti (xr_V hC (mX4_refused l D ks b hc31) hob rfl xw_cod_X4_refused xw_ini_X4 xw_ins_X4_refused xw_sel_X4_refused xw_ml_X4_66 xds_X4_refused ⟨Nat.le_of_ble_eq_true rfl, Nat.le_of_ble_eq_true rfl⟩ rfl rfl (Nat.le_of_ble_eq_true rfl) ⟨Nat.le_of_ble_eq_true rfl, Nat.le_of_ble_eq_true rfl⟩ dX4_code_54) ?_
              obtain ⟨he, hw⟩ := Prod.mk.inj (Option.some.inj hf)
              exact xj_iret hC hr (by decide) (by decide) dX4_code_57 he hw
def fX4_cross (w : xmW) (th : (Option Nat)) (a1 : Int32) (a2 : Int32) (a3 : Int32) (a4 : Int32) : Option (Int32 × xmW) := ((xmob w th 4).bind fun _ => ((fX4_formatAt w (th) (a1)).bind fun v2 => ((fX4_formatAt w (th) (a3)).bind fun v4 => (if v2 = none then (xmb2 (fX4_refused w (th) ((-1 : Int32))) fun v6 w7 => (some (v6, w7))) else (if v4 = none then (xmb2 (fX4_refused w (th) ((-1 : Int32))) fun v9 w10 => (some (v9, w10))) else ((fX1_hasCode w (v2) (a2)).bind fun v12 => (if v12 = 0 then (xmb2 (fX4_refused w (th) ((-1 : Int32))) fun v14 w15 => (some (v14, w15))) else ((fX4_isMode w (a4)).bind fun v17 => (if v17 = 0 then (xmb2 (fX4_refused w (th) ((-1 : Int32))) fun v30 w31 => (some (v30, w31))) else ((xmgR w th 4 4).bind fun v18 => ((xmgR w v18 0 0).bind fun v19 => ((fX3_clear w (v19) ).bind fun w21 => ((xmgR w21 th 4 4).bind fun v22 => (xmb2 (fX0_crossed w21 (v22) (v2) (a2) (v4) (a4)) fun v24 w25 => (xmb2 (fX4_settled w25 (th) (v24)) fun v27 w28 => (some (v27, w28)))))))))))))))))
set_option maxHeartbeats 4000000 in
set_option maxRecDepth 100000 in
theorem mX4_cross (l : Launch) (D : va_G) (ks : Nat → ClassId) (b : Nat) {w : xmW} {th : (Option Nat)} {a1 : Int32} {a2 : Int32} {a3 : Int32} {a4 : Int32} {y : Int32} {wz : xmW} (hf : fX4_cross w th a1 a2 a3 a4 = some (y, wz)) : xmM l yX4_cross (Cond.code yX4_cross cX4_cross 7 (some (FieldType.int)) :: xmTs) 4 110 0 0 D ks b w [xR th, xI a1, xI a2, xI a3, xI a4] (some (xI y)) wz := by
  unfold fX4_cross at hf
  obtain ⟨_, _, hf⟩ := xm_bind hf
  refine xmM.of (own := RX4) (lv0 := [(0, xR th), (1, xI a1), (2, xI a2), (3, xI a3), (4, xI a4)]) (by decide) rfl (Nat.le_of_ble_eq_true rfl) rfl ?_
  intro p e s m args below meth c hC hr hnm
  refine xj_aload_n hC dX4_cross_0 rfl 0 rfl ?_
  refine xj_iload_n hC dX4_cross_1 rfl 1 rfl ?_
  obtain ⟨v2, hc1, hf⟩ := xm_bind hf
  obtain ⟨_, hob, _⟩ := xm_bind hc1
  refine xj_retr (xr_V hC (mX4_formatAt l D ks b hc1) hob rfl xw_cod_X4_formatAt xw_ini_X4 xw_ins_X4_formatAt xw_sel_X4_formatAt xw_ml_X4_73 xds_X4_formatAt ⟨Nat.le_of_ble_eq_true rfl, Nat.le_of_ble_eq_true rfl⟩ rfl rfl (Nat.le_of_ble_eq_true rfl) ⟨Nat.le_of_ble_eq_true rfl, Nat.le_of_ble_eq_true rfl⟩ dX4_cross_2) ?_
  refine xj_astore (lv' := [(5, xR v2), (0, xR th), (1, xI a1), (2, xI a2), (3, xI a3), (4, xI a4)]) hC dX4_cross_5 (by decide) rfl ?_
  refine xj_aload_n hC dX4_cross_7 rfl 1 rfl ?_
  refine xj_iload_n hC dX4_cross_8 rfl 4 rfl ?_
  obtain ⟨v4, hc3, hf⟩ := xm_bind hf
  obtain ⟨_, hob, _⟩ := xm_bind hc3
  refine xj_retr (xr_V hC (mX4_formatAt l D ks b hc3) hob rfl xw_cod_X4_formatAt xw_ini_X4 xw_ins_X4_formatAt xw_sel_X4_formatAt xw_ml_X4_73 xds_X4_formatAt ⟨Nat.le_of_ble_eq_true rfl, Nat.le_of_ble_eq_true rfl⟩ rfl rfl (Nat.le_of_ble_eq_true rfl) ⟨Nat.le_of_ble_eq_true rfl, Nat.le_of_ble_eq_true rfl⟩ dX4_cross_9) ?_
  refine xj_astore (lv' := [(6, xR v4), (5, xR v2), (0, xR th), (1, xI a1), (2, xI a2), (3, xI a3), (4, xI a4)]) hC dX4_cross_12 (by decide) rfl ?_
  refine xj_aload hC dX4_cross_14 1 rfl ?_
  refine xb_ifnull (tgt := 41) hC dX4_cross_16 (by decide) hf (fun hf => ?_) (fun hf => ?_)
  · refine xj_aload_n hC dX4_cross_41 rfl 2 rfl ?_
    refine xj_iconst (v := -1) hC dX4_cross_42 (by decide) ?_
    obtain ⟨v6, w7, hc5, hf⟩ := xm_b2 hf
    obtain ⟨_, hob, _⟩ := xm_bind hc5
    refine xj_reti (xr_V hC (mX4_refused l D ks b hc5) hob rfl xw_cod_X4_refused xw_ini_X4 xw_ins_X4_refused xw_sel_X4_refused xw_ml_X4_66 xds_X4_refused ⟨Nat.le_of_ble_eq_true rfl, Nat.le_of_ble_eq_true rfl⟩ rfl rfl (Nat.le_of_ble_eq_true rfl) ⟨Nat.le_of_ble_eq_true rfl, Nat.le_of_ble_eq_true rfl⟩ dX4_cross_43) ?_
    obtain ⟨he, hw⟩ := Prod.mk.inj (Option.some.inj hf)
    exact xj_iret hC hr (by decide) (by decide) dX4_cross_46 he hw
  · refine xj_aload hC dX4_cross_19 0 rfl ?_
    refine xb_ifnull (tgt := 41) hC dX4_cross_21 (by decide) hf (fun hf => ?_) (fun hf => ?_)
    · refine xj_aload_n hC dX4_cross_41 rfl 2 rfl ?_
      refine xj_iconst (v := -1) hC dX4_cross_42 (by decide) ?_
      obtain ⟨v9, w10, hc8, hf⟩ := xm_b2 hf
      obtain ⟨_, hob, _⟩ := xm_bind hc8
      refine xj_reti (xr_V hC (mX4_refused l D ks b hc8) hob rfl xw_cod_X4_refused xw_ini_X4 xw_ins_X4_refused xw_sel_X4_refused xw_ml_X4_66 xds_X4_refused ⟨Nat.le_of_ble_eq_true rfl, Nat.le_of_ble_eq_true rfl⟩ rfl rfl (Nat.le_of_ble_eq_true rfl) ⟨Nat.le_of_ble_eq_true rfl, Nat.le_of_ble_eq_true rfl⟩ dX4_cross_43) ?_
      obtain ⟨he, hw⟩ := Prod.mk.inj (Option.some.inj hf)
      exact xj_iret hC hr (by decide) (by decide) dX4_cross_46 he hw
    · refine xj_aload hC dX4_cross_24 1 rfl ?_
      refine xj_iload_n hC dX4_cross_26 rfl 4 rfl ?_
      obtain ⟨v12, hc11, hf⟩ := xm_bind hf
      obtain ⟨_, hob, _⟩ := xm_bind hc11
      refine xj_reti (xr_V hC (mX1_hasCode l D ks b hc11) hob rfl xw_cod_X1_hasCode xw_ini_X1 xw_ins_X1_hasCode xw_sel_X1_hasCode xw_ml_X4_107 xds_X1_hasCode ⟨Nat.le_of_ble_eq_true rfl, Nat.le_of_ble_eq_true rfl⟩ rfl rfl (Nat.le_of_ble_eq_true rfl) ⟨Nat.le_of_ble_eq_true rfl, Nat.le_of_ble_eq_true rfl⟩ dX4_cross_27) ?_
      refine xb_if_eq (tgt := 41) hC dX4_cross_30 (by decide) hf (fun hf => ?_) (fun hf => ?_)
      · refine xj_aload_n hC dX4_cross_41 rfl 2 rfl ?_
        refine xj_iconst (v := -1) hC dX4_cross_42 (by decide) ?_
        obtain ⟨v14, w15, hc13, hf⟩ := xm_b2 hf
        obtain ⟨_, hob, _⟩ := xm_bind hc13
        refine xj_reti (xr_V hC (mX4_refused l D ks b hc13) hob rfl xw_cod_X4_refused xw_ini_X4 xw_ins_X4_refused xw_sel_X4_refused xw_ml_X4_66 xds_X4_refused ⟨Nat.le_of_ble_eq_true rfl, Nat.le_of_ble_eq_true rfl⟩ rfl rfl (Nat.le_of_ble_eq_true rfl) ⟨Nat.le_of_ble_eq_true rfl, Nat.le_of_ble_eq_true rfl⟩ dX4_cross_43) ?_
        obtain ⟨he, hw⟩ := Prod.mk.inj (Option.some.inj hf)
        exact xj_iret hC hr (by decide) (by decide) dX4_cross_46 he hw
      · refine xj_iload hC dX4_cross_33 6 rfl ?_
        obtain ⟨v17, hc16, hf⟩ := xm_bind hf
        refine xj_reti (xr_S hC (mX4_isMode l D ks b hc16) xw_cod_X4_isMode xw_ini_X4 xw_sta_X4_isMode xw_ml_X4_132 xds_X4_isMode ⟨Nat.le_of_ble_eq_true rfl, Nat.le_of_ble_eq_true rfl⟩ rfl rfl (Nat.le_of_ble_eq_true rfl) ⟨Nat.le_of_ble_eq_true rfl, Nat.le_of_ble_eq_true rfl⟩ dX4_cross_35) ?_
        refine xb_if_ne (tgt := 47) hC dX4_cross_38 (by decide) hf (fun hf => ?_) (fun hf => ?_)
        · refine xj_aload_n hC dX4_cross_47 rfl 2 rfl ?_
          refine xb_getR hC 4 4 xcl_4 (by decide) xw_fl_X4_34 dX4_cross_48 hf (fun v18 hf => ?_)
          refine xb_getR hC 0 0 xcl_0 (by decide) xw_fl_X4_135 dX4_cross_51 hf (fun v19 hf => ?_)
          obtain ⟨w21, hc20, hf⟩ := xm_bind hf
          obtain ⟨_, hob, _⟩ := xm_bind hc20
          refine xj_retv (xr_V hC (mX3_clear l D ks b hc20) hob rfl xw_cod_X3_clear xw_ini_X3 xw_ins_X3_clear xw_sel_X3_clear xw_ml_X4_138 xds_X3_clear ⟨Nat.le_of_ble_eq_true rfl, Nat.le_of_ble_eq_true rfl⟩ rfl rfl (Nat.le_of_ble_eq_true rfl) ⟨Nat.le_of_ble_eq_true rfl, Nat.le_of_ble_eq_true rfl⟩ dX4_cross_54) ?_
          refine xj_aload_n hC dX4_cross_57 rfl 2 rfl ?_
          refine xj_aload_n hC dX4_cross_58 rfl 2 rfl ?_
          refine xb_getR hC 4 4 xcl_4 (by decide) xw_fl_X4_34 dX4_cross_59 hf (fun v22 hf => ?_)
          refine xj_aload hC dX4_cross_62 1 rfl ?_
          refine xj_iload_n hC dX4_cross_64 rfl 4 rfl ?_
          refine xj_aload hC dX4_cross_65 0 rfl ?_
          refine xj_iload hC dX4_cross_67 6 rfl ?_
          obtain ⟨v24, w25, hc23, hf⟩ := xm_b2 hf
          obtain ⟨_, hob, _⟩ := xm_bind hc23
          refine xj_reti (xr_V hC (mX0_crossed l D ks b hc23) hob rfl xw_cod_X0_crossed xw_ini_X0 xw_ins_X0_crossed xw_sel_X0_crossed xw_ml_X4_148 xds_X0_crossed ⟨Nat.le_of_ble_eq_true rfl, Nat.le_of_ble_eq_true rfl⟩ rfl rfl (Nat.le_of_ble_eq_true rfl) ⟨Nat.le_of_ble_eq_true rfl, Nat.le_of_ble_eq_true rfl⟩ dX4_cross_69) ?_
          obtain ⟨v27, w28, hc26, hf⟩ := xm_b2 hf
          obtain ⟨_, hob, _⟩ := xm_bind hc26
          refine xj_reti (xr_V hC (mX4_settled l D ks b hc26) hob rfl xw_cod_X4_settled xw_ini_X4 xw_ins_X4_settled xw_sel_X4_settled xw_ml_X4_145 xds_X4_settled ⟨Nat.le_of_ble_eq_true rfl, Nat.le_of_ble_eq_true rfl⟩ rfl rfl (Nat.le_of_ble_eq_true rfl) ⟨Nat.le_of_ble_eq_true rfl, Nat.le_of_ble_eq_true rfl⟩ dX4_cross_72) ?_
          obtain ⟨he, hw⟩ := Prod.mk.inj (Option.some.inj hf)
          exact xj_iret hC hr (by decide) (by decide) dX4_cross_75 he hw
        · refine xj_aload_n hC dX4_cross_41 rfl 2 rfl ?_
          refine xj_iconst (v := -1) hC dX4_cross_42 (by decide) ?_
          obtain ⟨v30, w31, hc29, hf⟩ := xm_b2 hf
          obtain ⟨_, hob, _⟩ := xm_bind hc29
          refine xj_reti (xr_V hC (mX4_refused l D ks b hc29) hob rfl xw_cod_X4_refused xw_ini_X4 xw_ins_X4_refused xw_sel_X4_refused xw_ml_X4_66 xds_X4_refused ⟨Nat.le_of_ble_eq_true rfl, Nat.le_of_ble_eq_true rfl⟩ rfl rfl (Nat.le_of_ble_eq_true rfl) ⟨Nat.le_of_ble_eq_true rfl, Nat.le_of_ble_eq_true rfl⟩ dX4_cross_43) ?_
          obtain ⟨he, hw⟩ := Prod.mk.inj (Option.some.inj hf)
          exact xj_iret hC hr (by decide) (by decide) dX4_cross_46 he hw
def fX4_act_L66 (w : xmW) (p0 : (Option Nat)) (p2 : Int32) (p3 : Int32) (p4 : Int32) (p5 : Int32) (p6 : (Option Nat)) : Option (Int32 × xmW) := ((xmgR w p0 4 4).bind fun v26 => ((xmgR w v26 0 0).bind fun v27 => ((fX3_clear w (v27) ).bind fun w29 => ((xmgR w29 p0 4 4).bind fun v30 => (xmb2 (fX0_acted w29 (v30) (p6) (p2) (p3) (p4) (p5)) fun v32 w33 => (xmb2 (fX4_settled w33 (p0) (v32)) fun v35 w36 => (some (v35, w36))))))))
set_option maxHeartbeats 4000000 in
set_option maxRecDepth 100000 in
theorem lX4_act_L66 {p : Program} {l : Launch} {e : Env} {s : State} {m : MethodId} {args : Array Value} {below : List Frame} {meth : Method} {c : Code} {D : va_G} {ks : Nat → ClassId} {b : Nat} (hC : xmC p s m args meth c D ks b 7 cX4_act RX4) (hr : meth.sig.returnType = (some (FieldType.int))) {y : Int32} {wz : xmW} (w : xmW) (p0 : (Option Nat)) (p2 : Int32) (p3 : Int32) (p4 : Int32) (p5 : Int32) (p6 : (Option Nat)) (hf : fX4_act_L66 w p0 p2 p3 p4 p5 p6 = some (y, wz)) : xmJ p l e ({ frames := 5, cells := 0, slots := 0, locals := 139 } : Room) s m args below meth c D ks b 7 (MQ below (xmQ D ks b (some (xI y)) wz) args s 0 0 (xmA b)) w 0 0 66 [(0, xR p0), (2, xI p2), (3, xI p3), (4, xI p4), (5, xI p5), (6, xR p6)] [] := by
  unfold fX4_act_L66 at hf
  refine xj_aload_n hC dX4_act_66 rfl 0 rfl ?_
  refine xb_getR hC 4 4 xcl_4 (by decide) xw_fl_X4_34 dX4_act_67 hf (fun v26 hf => ?_)
  refine xb_getR hC 0 0 xcl_0 (by decide) xw_fl_X4_135 dX4_act_70 hf (fun v27 hf => ?_)
  obtain ⟨w29, hc28, hf⟩ := xm_bind hf
  obtain ⟨_, hob, _⟩ := xm_bind hc28
  refine xj_retv (xr_V hC (mX3_clear l D ks b hc28) hob rfl xw_cod_X3_clear xw_ini_X3 xw_ins_X3_clear xw_sel_X3_clear xw_ml_X4_138 xds_X3_clear ⟨Nat.le_of_ble_eq_true rfl, Nat.le_of_ble_eq_true rfl⟩ rfl rfl (Nat.le_of_ble_eq_true rfl) ⟨Nat.le_of_ble_eq_true rfl, Nat.le_of_ble_eq_true rfl⟩ dX4_act_73) ?_
  refine xj_aload_n hC dX4_act_76 rfl 0 rfl ?_
  refine xj_aload_n hC dX4_act_77 rfl 0 rfl ?_
  refine xb_getR hC 4 4 xcl_4 (by decide) xw_fl_X4_34 dX4_act_78 hf (fun v30 hf => ?_)
  refine xj_aload hC dX4_act_81 5 rfl ?_
  refine xj_iload_n hC dX4_act_83 rfl 1 rfl ?_
  refine xj_iload_n hC dX4_act_84 rfl 2 rfl ?_
  refine xj_iload hC dX4_act_85 3 rfl ?_
  refine xj_iload hC dX4_act_87 4 rfl ?_
  obtain ⟨v32, w33, hc31, hf⟩ := xm_b2 hf
  obtain ⟨_, hob, _⟩ := xm_bind hc31
  refine xj_reti (xr_V hC (mX0_acted l D ks b hc31) hob rfl xw_cod_X0_acted xw_ini_X0 xw_ins_X0_acted xw_sel_X0_acted xw_ml_X4_152 xds_X0_acted ⟨Nat.le_of_ble_eq_true rfl, Nat.le_of_ble_eq_true rfl⟩ rfl rfl (Nat.le_of_ble_eq_true rfl) ⟨Nat.le_of_ble_eq_true rfl, Nat.le_of_ble_eq_true rfl⟩ dX4_act_89) ?_
  obtain ⟨v35, w36, hc34, hf⟩ := xm_b2 hf
  obtain ⟨_, hob, _⟩ := xm_bind hc34
  refine xj_reti (xr_V hC (mX4_settled l D ks b hc34) hob rfl xw_cod_X4_settled xw_ini_X4 xw_ins_X4_settled xw_sel_X4_settled xw_ml_X4_145 xds_X4_settled ⟨Nat.le_of_ble_eq_true rfl, Nat.le_of_ble_eq_true rfl⟩ rfl rfl (Nat.le_of_ble_eq_true rfl) ⟨Nat.le_of_ble_eq_true rfl, Nat.le_of_ble_eq_true rfl⟩ dX4_act_92) ?_
  obtain ⟨he, hw⟩ := Prod.mk.inj (Option.some.inj hf)
  exact xj_iret hC hr (by decide) (by decide) dX4_act_95 he hw
def fX4_act (w : xmW) (th : (Option Nat)) (a1 : Int32) (a2 : Int32) (a3 : Int32) (a4 : Int32) (a5 : Int32) : Option (Int32 × xmW) := ((xmob w th 4).bind fun _ => ((fX4_formatAt w (th) (a1)).bind fun v2 => (if v2 = none then (xmb2 (fX4_refused w (th) ((-1 : Int32))) fun v4 w5 => (some (v4, w5))) else ((fX4_within w (a2) ((0 : Int32)) ((6 : Int32))).bind fun v7 => (if v7 = 0 then (xmb2 (fX4_refused w (th) ((-1 : Int32))) fun v9 w10 => (some (v9, w10))) else ((fX1_hasCode w (v2) (a3)).bind fun v12 => (if v12 = 0 then (xmb2 (fX4_refused w (th) ((-1 : Int32))) fun v14 w15 => (some (v14, w15))) else ((fX4_isMode w (a5)).bind fun v17 => (if v17 = 0 then (xmb2 (fX4_refused w (th) ((-1 : Int32))) fun v24 w25 => (some (v24, w25))) else (if a2 = (4 : Int32) then (fX4_act_L66 w (th) (a2) (a3) (a4) (a5) (v2) ) else ((fX1_hasCode w (v2) (a4)).bind fun v19 => (if v19 = 0 then (xmb2 (fX4_refused w (th) ((-1 : Int32))) fun v21 w22 => (some (v21, w22))) else (fX4_act_L66 w (th) (a2) (a3) (a4) (a5) (v2) )))))))))))))
set_option maxHeartbeats 4000000 in
set_option maxRecDepth 100000 in
theorem mX4_act (l : Launch) (D : va_G) (ks : Nat → ClassId) (b : Nat) {w : xmW} {th : (Option Nat)} {a1 : Int32} {a2 : Int32} {a3 : Int32} {a4 : Int32} {a5 : Int32} {y : Int32} {wz : xmW} (hf : fX4_act w th a1 a2 a3 a4 a5 = some (y, wz)) : xmM l yX4_act (Cond.code yX4_act cX4_act 7 (some (FieldType.int)) :: xmTs) 5 139 0 0 D ks b w [xR th, xI a1, xI a2, xI a3, xI a4, xI a5] (some (xI y)) wz := by
  unfold fX4_act at hf
  obtain ⟨_, _, hf⟩ := xm_bind hf
  refine xmM.of (own := RX4) (lv0 := [(0, xR th), (1, xI a1), (2, xI a2), (3, xI a3), (4, xI a4), (5, xI a5)]) (by decide) rfl (Nat.le_of_ble_eq_true rfl) rfl ?_
  intro p e s m args below meth c hC hr hnm
  refine xj_aload_n hC dX4_act_0 rfl 0 rfl ?_
  refine xj_iload_n hC dX4_act_1 rfl 1 rfl ?_
  obtain ⟨v2, hc1, hf⟩ := xm_bind hf
  obtain ⟨_, hob, _⟩ := xm_bind hc1
  refine xj_retr (xr_V hC (mX4_formatAt l D ks b hc1) hob rfl xw_cod_X4_formatAt xw_ini_X4 xw_ins_X4_formatAt xw_sel_X4_formatAt xw_ml_X4_73 xds_X4_formatAt ⟨Nat.le_of_ble_eq_true rfl, Nat.le_of_ble_eq_true rfl⟩ rfl rfl (Nat.le_of_ble_eq_true rfl) ⟨Nat.le_of_ble_eq_true rfl, Nat.le_of_ble_eq_true rfl⟩ dX4_act_2) ?_
  refine xj_astore (lv' := [(6, xR v2), (0, xR th), (1, xI a1), (2, xI a2), (3, xI a3), (4, xI a4), (5, xI a5)]) hC dX4_act_5 (by decide) rfl ?_
  refine xj_aload hC dX4_act_7 0 rfl ?_
  refine xb_ifnull (tgt := 39) hC dX4_act_9 (by decide) hf (fun hf => ?_) (fun hf => ?_)
  · refine xj_aload_n hC dX4_act_39 rfl 1 rfl ?_
    refine xj_iconst (v := -1) hC dX4_act_40 (by decide) ?_
    obtain ⟨v4, w5, hc3, hf⟩ := xm_b2 hf
    obtain ⟨_, hob, _⟩ := xm_bind hc3
    refine xj_reti (xr_V hC (mX4_refused l D ks b hc3) hob rfl xw_cod_X4_refused xw_ini_X4 xw_ins_X4_refused xw_sel_X4_refused xw_ml_X4_66 xds_X4_refused ⟨Nat.le_of_ble_eq_true rfl, Nat.le_of_ble_eq_true rfl⟩ rfl rfl (Nat.le_of_ble_eq_true rfl) ⟨Nat.le_of_ble_eq_true rfl, Nat.le_of_ble_eq_true rfl⟩ dX4_act_41) ?_
    obtain ⟨he, hw⟩ := Prod.mk.inj (Option.some.inj hf)
    exact xj_iret hC hr (by decide) (by decide) dX4_act_44 he hw
  · refine xj_iload_n hC dX4_act_12 rfl 3 rfl ?_
    refine xj_iconst (v := 0) hC dX4_act_13 (by decide) ?_
    refine xj_bipush (v := 6) hC dX4_act_14 (by decide) ?_
    obtain ⟨v7, hc6, hf⟩ := xm_bind hf
    refine xj_reti (xr_S hC (mX4_within l D ks b hc6) xw_cod_X4_within xw_ini_X4 xw_sta_X4_within xw_ml_X4_62 xds_X4_within ⟨Nat.le_of_ble_eq_true rfl, Nat.le_of_ble_eq_true rfl⟩ rfl rfl (Nat.le_of_ble_eq_true rfl) ⟨Nat.le_of_ble_eq_true rfl, Nat.le_of_ble_eq_true rfl⟩ dX4_act_16) ?_
    refine xb_if_eq (tgt := 39) hC dX4_act_19 (by decide) hf (fun hf => ?_) (fun hf => ?_)
    · refine xj_aload_n hC dX4_act_39 rfl 1 rfl ?_
      refine xj_iconst (v := -1) hC dX4_act_40 (by decide) ?_
      obtain ⟨v9, w10, hc8, hf⟩ := xm_b2 hf
      obtain ⟨_, hob, _⟩ := xm_bind hc8
      refine xj_reti (xr_V hC (mX4_refused l D ks b hc8) hob rfl xw_cod_X4_refused xw_ini_X4 xw_ins_X4_refused xw_sel_X4_refused xw_ml_X4_66 xds_X4_refused ⟨Nat.le_of_ble_eq_true rfl, Nat.le_of_ble_eq_true rfl⟩ rfl rfl (Nat.le_of_ble_eq_true rfl) ⟨Nat.le_of_ble_eq_true rfl, Nat.le_of_ble_eq_true rfl⟩ dX4_act_41) ?_
      obtain ⟨he, hw⟩ := Prod.mk.inj (Option.some.inj hf)
      exact xj_iret hC hr (by decide) (by decide) dX4_act_44 he hw
    · refine xj_aload hC dX4_act_22 0 rfl ?_
      refine xj_iload_n hC dX4_act_24 rfl 4 rfl ?_
      obtain ⟨v12, hc11, hf⟩ := xm_bind hf
      obtain ⟨_, hob, _⟩ := xm_bind hc11
      refine xj_reti (xr_V hC (mX1_hasCode l D ks b hc11) hob rfl xw_cod_X1_hasCode xw_ini_X1 xw_ins_X1_hasCode xw_sel_X1_hasCode xw_ml_X4_107 xds_X1_hasCode ⟨Nat.le_of_ble_eq_true rfl, Nat.le_of_ble_eq_true rfl⟩ rfl rfl (Nat.le_of_ble_eq_true rfl) ⟨Nat.le_of_ble_eq_true rfl, Nat.le_of_ble_eq_true rfl⟩ dX4_act_25) ?_
      refine xb_if_eq (tgt := 39) hC dX4_act_28 (by decide) hf (fun hf => ?_) (fun hf => ?_)
      · refine xj_aload_n hC dX4_act_39 rfl 1 rfl ?_
        refine xj_iconst (v := -1) hC dX4_act_40 (by decide) ?_
        obtain ⟨v14, w15, hc13, hf⟩ := xm_b2 hf
        obtain ⟨_, hob, _⟩ := xm_bind hc13
        refine xj_reti (xr_V hC (mX4_refused l D ks b hc13) hob rfl xw_cod_X4_refused xw_ini_X4 xw_ins_X4_refused xw_sel_X4_refused xw_ml_X4_66 xds_X4_refused ⟨Nat.le_of_ble_eq_true rfl, Nat.le_of_ble_eq_true rfl⟩ rfl rfl (Nat.le_of_ble_eq_true rfl) ⟨Nat.le_of_ble_eq_true rfl, Nat.le_of_ble_eq_true rfl⟩ dX4_act_41) ?_
        obtain ⟨he, hw⟩ := Prod.mk.inj (Option.some.inj hf)
        exact xj_iret hC hr (by decide) (by decide) dX4_act_44 he hw
      · refine xj_iload hC dX4_act_31 6 rfl ?_
        obtain ⟨v17, hc16, hf⟩ := xm_bind hf
        refine xj_reti (xr_S hC (mX4_isMode l D ks b hc16) xw_cod_X4_isMode xw_ini_X4 xw_sta_X4_isMode xw_ml_X4_132 xds_X4_isMode ⟨Nat.le_of_ble_eq_true rfl, Nat.le_of_ble_eq_true rfl⟩ rfl rfl (Nat.le_of_ble_eq_true rfl) ⟨Nat.le_of_ble_eq_true rfl, Nat.le_of_ble_eq_true rfl⟩ dX4_act_33) ?_
        refine xb_if_ne (tgt := 45) hC dX4_act_36 (by decide) hf (fun hf => ?_) (fun hf => ?_)
        · refine xj_iload_n hC dX4_act_45 rfl 3 rfl ?_
          refine xj_iconst (v := 4) hC dX4_act_46 (by decide) ?_
          refine xb_ic_eq (tgt := 66) hC dX4_act_47 (by decide) hf (fun hf => ?_) (fun hf => ?_)
          · refine xj_lv [1, 3, 4, 5, 6, 0] rfl ?_
            exact lX4_act_L66 hC hr  w (th) (a2) (a3) (a4) (a5) (v2)  hf
          · refine xj_aload hC dX4_act_50 0 rfl ?_
            refine xj_iload hC dX4_act_52 5 rfl ?_
            obtain ⟨v19, hc18, hf⟩ := xm_bind hf
            obtain ⟨_, hob, _⟩ := xm_bind hc18
            refine xj_reti (xr_V hC (mX1_hasCode l D ks b hc18) hob rfl xw_cod_X1_hasCode xw_ini_X1 xw_ins_X1_hasCode xw_sel_X1_hasCode xw_ml_X4_107 xds_X1_hasCode ⟨Nat.le_of_ble_eq_true rfl, Nat.le_of_ble_eq_true rfl⟩ rfl rfl (Nat.le_of_ble_eq_true rfl) ⟨Nat.le_of_ble_eq_true rfl, Nat.le_of_ble_eq_true rfl⟩ dX4_act_54) ?_
            refine xb_if_ne (tgt := 66) hC dX4_act_57 (by decide) hf (fun hf => ?_) (fun hf => ?_)
            · refine xj_lv [1, 3, 4, 5, 6, 0] rfl ?_
              exact lX4_act_L66 hC hr  w (th) (a2) (a3) (a4) (a5) (v2)  hf
            · refine xj_aload_n hC dX4_act_60 rfl 1 rfl ?_
              refine xj_iconst (v := -1) hC dX4_act_61 (by decide) ?_
              obtain ⟨v21, w22, hc20, hf⟩ := xm_b2 hf
              obtain ⟨_, hob, _⟩ := xm_bind hc20
              refine xj_reti (xr_V hC (mX4_refused l D ks b hc20) hob rfl xw_cod_X4_refused xw_ini_X4 xw_ins_X4_refused xw_sel_X4_refused xw_ml_X4_66 xds_X4_refused ⟨Nat.le_of_ble_eq_true rfl, Nat.le_of_ble_eq_true rfl⟩ rfl rfl (Nat.le_of_ble_eq_true rfl) ⟨Nat.le_of_ble_eq_true rfl, Nat.le_of_ble_eq_true rfl⟩ dX4_act_62) ?_
              obtain ⟨he, hw⟩ := Prod.mk.inj (Option.some.inj hf)
              exact xj_iret hC hr (by decide) (by decide) dX4_act_65 he hw
        · refine xj_aload_n hC dX4_act_39 rfl 1 rfl ?_
          refine xj_iconst (v := -1) hC dX4_act_40 (by decide) ?_
          obtain ⟨v24, w25, hc23, hf⟩ := xm_b2 hf
          obtain ⟨_, hob, _⟩ := xm_bind hc23
          refine xj_reti (xr_V hC (mX4_refused l D ks b hc23) hob rfl xw_cod_X4_refused xw_ini_X4 xw_ins_X4_refused xw_sel_X4_refused xw_ml_X4_66 xds_X4_refused ⟨Nat.le_of_ble_eq_true rfl, Nat.le_of_ble_eq_true rfl⟩ rfl rfl (Nat.le_of_ble_eq_true rfl) ⟨Nat.le_of_ble_eq_true rfl, Nat.le_of_ble_eq_true rfl⟩ dX4_act_41) ?_
          obtain ⟨he, hw⟩ := Prod.mk.inj (Option.some.inj hf)
          exact xj_iret hC hr (by decide) (by decide) dX4_act_44 he hw
def fX4_fused (w : xmW) (th : (Option Nat)) (a1 : Int32) (a2 : Int32) (a3 : Int32) (a4 : Int32) (a5 : Int32) : Option (Int32 × xmW) := ((xmob w th 4).bind fun _ => ((fX4_formatAt w (th) (a1)).bind fun v2 => (if v2 = none then (xmb2 (fX4_refused w (th) ((-1 : Int32))) fun v4 w5 => (some (v4, w5))) else ((fX1_hasCode w (v2) (a2)).bind fun v7 => (if v7 = 0 then (xmb2 (fX4_refused w (th) ((-1 : Int32))) fun v9 w10 => (some (v9, w10))) else ((fX1_hasCode w (v2) (a3)).bind fun v12 => (if v12 = 0 then (xmb2 (fX4_refused w (th) ((-1 : Int32))) fun v14 w15 => (some (v14, w15))) else ((fX1_hasCode w (v2) (a4)).bind fun v17 => (if v17 = 0 then (xmb2 (fX4_refused w (th) ((-1 : Int32))) fun v19 w20 => (some (v19, w20))) else ((fX4_isMode w (a5)).bind fun v22 => (if v22 = 0 then (xmb2 (fX4_refused w (th) ((-1 : Int32))) fun v35 w36 => (some (v35, w36))) else ((xmgR w th 4 4).bind fun v23 => ((xmgR w v23 0 0).bind fun v24 => ((fX3_clear w (v24) ).bind fun w26 => ((xmgR w26 th 4 4).bind fun v27 => (xmb2 (fX0_fusedOf w26 (v27) (v2) (a2) (a3) (a4) (a5)) fun v29 w30 => (xmb2 (fX4_settled w30 (th) (v29)) fun v32 w33 => (some (v32, w33)))))))))))))))))))
set_option maxHeartbeats 4000000 in
set_option maxRecDepth 100000 in
theorem mX4_fused (l : Launch) (D : va_G) (ks : Nat → ClassId) (b : Nat) {w : xmW} {th : (Option Nat)} {a1 : Int32} {a2 : Int32} {a3 : Int32} {a4 : Int32} {a5 : Int32} {y : Int32} {wz : xmW} (hf : fX4_fused w th a1 a2 a3 a4 a5 = some (y, wz)) : xmM l yX4_fused (Cond.code yX4_fused cX4_fused 7 (some (FieldType.int)) :: xmTs) 4 115 0 0 D ks b w [xR th, xI a1, xI a2, xI a3, xI a4, xI a5] (some (xI y)) wz := by
  unfold fX4_fused at hf
  obtain ⟨_, _, hf⟩ := xm_bind hf
  refine xmM.of (own := RX4) (lv0 := [(0, xR th), (1, xI a1), (2, xI a2), (3, xI a3), (4, xI a4), (5, xI a5)]) (by decide) rfl (Nat.le_of_ble_eq_true rfl) rfl ?_
  intro p e s m args below meth c hC hr hnm
  refine xj_aload_n hC dX4_fused_0 rfl 0 rfl ?_
  refine xj_iload_n hC dX4_fused_1 rfl 1 rfl ?_
  obtain ⟨v2, hc1, hf⟩ := xm_bind hf
  obtain ⟨_, hob, _⟩ := xm_bind hc1
  refine xj_retr (xr_V hC (mX4_formatAt l D ks b hc1) hob rfl xw_cod_X4_formatAt xw_ini_X4 xw_ins_X4_formatAt xw_sel_X4_formatAt xw_ml_X4_73 xds_X4_formatAt ⟨Nat.le_of_ble_eq_true rfl, Nat.le_of_ble_eq_true rfl⟩ rfl rfl (Nat.le_of_ble_eq_true rfl) ⟨Nat.le_of_ble_eq_true rfl, Nat.le_of_ble_eq_true rfl⟩ dX4_fused_2) ?_
  refine xj_astore (lv' := [(6, xR v2), (0, xR th), (1, xI a1), (2, xI a2), (3, xI a3), (4, xI a4), (5, xI a5)]) hC dX4_fused_5 (by decide) rfl ?_
  refine xj_aload hC dX4_fused_7 0 rfl ?_
  refine xb_ifnull (tgt := 48) hC dX4_fused_9 (by decide) hf (fun hf => ?_) (fun hf => ?_)
  · refine xj_aload_n hC dX4_fused_48 rfl 1 rfl ?_
    refine xj_iconst (v := -1) hC dX4_fused_49 (by decide) ?_
    obtain ⟨v4, w5, hc3, hf⟩ := xm_b2 hf
    obtain ⟨_, hob, _⟩ := xm_bind hc3
    refine xj_reti (xr_V hC (mX4_refused l D ks b hc3) hob rfl xw_cod_X4_refused xw_ini_X4 xw_ins_X4_refused xw_sel_X4_refused xw_ml_X4_66 xds_X4_refused ⟨Nat.le_of_ble_eq_true rfl, Nat.le_of_ble_eq_true rfl⟩ rfl rfl (Nat.le_of_ble_eq_true rfl) ⟨Nat.le_of_ble_eq_true rfl, Nat.le_of_ble_eq_true rfl⟩ dX4_fused_50) ?_
    obtain ⟨he, hw⟩ := Prod.mk.inj (Option.some.inj hf)
    exact xj_iret hC hr (by decide) (by decide) dX4_fused_53 he hw
  · refine xj_aload hC dX4_fused_12 0 rfl ?_
    refine xj_iload_n hC dX4_fused_14 rfl 3 rfl ?_
    obtain ⟨v7, hc6, hf⟩ := xm_bind hf
    obtain ⟨_, hob, _⟩ := xm_bind hc6
    refine xj_reti (xr_V hC (mX1_hasCode l D ks b hc6) hob rfl xw_cod_X1_hasCode xw_ini_X1 xw_ins_X1_hasCode xw_sel_X1_hasCode xw_ml_X4_107 xds_X1_hasCode ⟨Nat.le_of_ble_eq_true rfl, Nat.le_of_ble_eq_true rfl⟩ rfl rfl (Nat.le_of_ble_eq_true rfl) ⟨Nat.le_of_ble_eq_true rfl, Nat.le_of_ble_eq_true rfl⟩ dX4_fused_15) ?_
    refine xb_if_eq (tgt := 48) hC dX4_fused_18 (by decide) hf (fun hf => ?_) (fun hf => ?_)
    · refine xj_aload_n hC dX4_fused_48 rfl 1 rfl ?_
      refine xj_iconst (v := -1) hC dX4_fused_49 (by decide) ?_
      obtain ⟨v9, w10, hc8, hf⟩ := xm_b2 hf
      obtain ⟨_, hob, _⟩ := xm_bind hc8
      refine xj_reti (xr_V hC (mX4_refused l D ks b hc8) hob rfl xw_cod_X4_refused xw_ini_X4 xw_ins_X4_refused xw_sel_X4_refused xw_ml_X4_66 xds_X4_refused ⟨Nat.le_of_ble_eq_true rfl, Nat.le_of_ble_eq_true rfl⟩ rfl rfl (Nat.le_of_ble_eq_true rfl) ⟨Nat.le_of_ble_eq_true rfl, Nat.le_of_ble_eq_true rfl⟩ dX4_fused_50) ?_
      obtain ⟨he, hw⟩ := Prod.mk.inj (Option.some.inj hf)
      exact xj_iret hC hr (by decide) (by decide) dX4_fused_53 he hw
    · refine xj_aload hC dX4_fused_21 0 rfl ?_
      refine xj_iload_n hC dX4_fused_23 rfl 4 rfl ?_
      obtain ⟨v12, hc11, hf⟩ := xm_bind hf
      obtain ⟨_, hob, _⟩ := xm_bind hc11
      refine xj_reti (xr_V hC (mX1_hasCode l D ks b hc11) hob rfl xw_cod_X1_hasCode xw_ini_X1 xw_ins_X1_hasCode xw_sel_X1_hasCode xw_ml_X4_107 xds_X1_hasCode ⟨Nat.le_of_ble_eq_true rfl, Nat.le_of_ble_eq_true rfl⟩ rfl rfl (Nat.le_of_ble_eq_true rfl) ⟨Nat.le_of_ble_eq_true rfl, Nat.le_of_ble_eq_true rfl⟩ dX4_fused_24) ?_
      refine xb_if_eq (tgt := 48) hC dX4_fused_27 (by decide) hf (fun hf => ?_) (fun hf => ?_)
      · refine xj_aload_n hC dX4_fused_48 rfl 1 rfl ?_
        refine xj_iconst (v := -1) hC dX4_fused_49 (by decide) ?_
        obtain ⟨v14, w15, hc13, hf⟩ := xm_b2 hf
        obtain ⟨_, hob, _⟩ := xm_bind hc13
        refine xj_reti (xr_V hC (mX4_refused l D ks b hc13) hob rfl xw_cod_X4_refused xw_ini_X4 xw_ins_X4_refused xw_sel_X4_refused xw_ml_X4_66 xds_X4_refused ⟨Nat.le_of_ble_eq_true rfl, Nat.le_of_ble_eq_true rfl⟩ rfl rfl (Nat.le_of_ble_eq_true rfl) ⟨Nat.le_of_ble_eq_true rfl, Nat.le_of_ble_eq_true rfl⟩ dX4_fused_50) ?_
        obtain ⟨he, hw⟩ := Prod.mk.inj (Option.some.inj hf)
        exact xj_iret hC hr (by decide) (by decide) dX4_fused_53 he hw
      · refine xj_aload hC dX4_fused_30 0 rfl ?_
        refine xj_iload hC dX4_fused_32 5 rfl ?_
        obtain ⟨v17, hc16, hf⟩ := xm_bind hf
        obtain ⟨_, hob, _⟩ := xm_bind hc16
        refine xj_reti (xr_V hC (mX1_hasCode l D ks b hc16) hob rfl xw_cod_X1_hasCode xw_ini_X1 xw_ins_X1_hasCode xw_sel_X1_hasCode xw_ml_X4_107 xds_X1_hasCode ⟨Nat.le_of_ble_eq_true rfl, Nat.le_of_ble_eq_true rfl⟩ rfl rfl (Nat.le_of_ble_eq_true rfl) ⟨Nat.le_of_ble_eq_true rfl, Nat.le_of_ble_eq_true rfl⟩ dX4_fused_34) ?_
        refine xb_if_eq (tgt := 48) hC dX4_fused_37 (by decide) hf (fun hf => ?_) (fun hf => ?_)
        · refine xj_aload_n hC dX4_fused_48 rfl 1 rfl ?_
          refine xj_iconst (v := -1) hC dX4_fused_49 (by decide) ?_
          obtain ⟨v19, w20, hc18, hf⟩ := xm_b2 hf
          obtain ⟨_, hob, _⟩ := xm_bind hc18
          refine xj_reti (xr_V hC (mX4_refused l D ks b hc18) hob rfl xw_cod_X4_refused xw_ini_X4 xw_ins_X4_refused xw_sel_X4_refused xw_ml_X4_66 xds_X4_refused ⟨Nat.le_of_ble_eq_true rfl, Nat.le_of_ble_eq_true rfl⟩ rfl rfl (Nat.le_of_ble_eq_true rfl) ⟨Nat.le_of_ble_eq_true rfl, Nat.le_of_ble_eq_true rfl⟩ dX4_fused_50) ?_
          obtain ⟨he, hw⟩ := Prod.mk.inj (Option.some.inj hf)
          exact xj_iret hC hr (by decide) (by decide) dX4_fused_53 he hw
        · refine xj_iload hC dX4_fused_40 6 rfl ?_
          obtain ⟨v22, hc21, hf⟩ := xm_bind hf
          refine xj_reti (xr_S hC (mX4_isMode l D ks b hc21) xw_cod_X4_isMode xw_ini_X4 xw_sta_X4_isMode xw_ml_X4_132 xds_X4_isMode ⟨Nat.le_of_ble_eq_true rfl, Nat.le_of_ble_eq_true rfl⟩ rfl rfl (Nat.le_of_ble_eq_true rfl) ⟨Nat.le_of_ble_eq_true rfl, Nat.le_of_ble_eq_true rfl⟩ dX4_fused_42) ?_
          refine xb_if_ne (tgt := 54) hC dX4_fused_45 (by decide) hf (fun hf => ?_) (fun hf => ?_)
          · refine xj_aload_n hC dX4_fused_54 rfl 1 rfl ?_
            refine xb_getR hC 4 4 xcl_4 (by decide) xw_fl_X4_34 dX4_fused_55 hf (fun v23 hf => ?_)
            refine xb_getR hC 0 0 xcl_0 (by decide) xw_fl_X4_135 dX4_fused_58 hf (fun v24 hf => ?_)
            obtain ⟨w26, hc25, hf⟩ := xm_bind hf
            obtain ⟨_, hob, _⟩ := xm_bind hc25
            refine xj_retv (xr_V hC (mX3_clear l D ks b hc25) hob rfl xw_cod_X3_clear xw_ini_X3 xw_ins_X3_clear xw_sel_X3_clear xw_ml_X4_138 xds_X3_clear ⟨Nat.le_of_ble_eq_true rfl, Nat.le_of_ble_eq_true rfl⟩ rfl rfl (Nat.le_of_ble_eq_true rfl) ⟨Nat.le_of_ble_eq_true rfl, Nat.le_of_ble_eq_true rfl⟩ dX4_fused_61) ?_
            refine xj_aload_n hC dX4_fused_64 rfl 1 rfl ?_
            refine xj_aload_n hC dX4_fused_65 rfl 1 rfl ?_
            refine xb_getR hC 4 4 xcl_4 (by decide) xw_fl_X4_34 dX4_fused_66 hf (fun v27 hf => ?_)
            refine xj_aload hC dX4_fused_69 0 rfl ?_
            refine xj_iload_n hC dX4_fused_71 rfl 3 rfl ?_
            refine xj_iload_n hC dX4_fused_72 rfl 4 rfl ?_
            refine xj_iload hC dX4_fused_73 5 rfl ?_
            refine xj_iload hC dX4_fused_75 6 rfl ?_
            obtain ⟨v29, w30, hc28, hf⟩ := xm_b2 hf
            obtain ⟨_, hob, _⟩ := xm_bind hc28
            refine xj_reti (xr_V hC (mX0_fusedOf l D ks b hc28) hob rfl xw_cod_X0_fusedOf xw_ini_X0 xw_ins_X0_fusedOf xw_sel_X0_fusedOf xw_ml_X4_156 xds_X0_fusedOf ⟨Nat.le_of_ble_eq_true rfl, Nat.le_of_ble_eq_true rfl⟩ rfl rfl (Nat.le_of_ble_eq_true rfl) ⟨Nat.le_of_ble_eq_true rfl, Nat.le_of_ble_eq_true rfl⟩ dX4_fused_77) ?_
            obtain ⟨v32, w33, hc31, hf⟩ := xm_b2 hf
            obtain ⟨_, hob, _⟩ := xm_bind hc31
            refine xj_reti (xr_V hC (mX4_settled l D ks b hc31) hob rfl xw_cod_X4_settled xw_ini_X4 xw_ins_X4_settled xw_sel_X4_settled xw_ml_X4_145 xds_X4_settled ⟨Nat.le_of_ble_eq_true rfl, Nat.le_of_ble_eq_true rfl⟩ rfl rfl (Nat.le_of_ble_eq_true rfl) ⟨Nat.le_of_ble_eq_true rfl, Nat.le_of_ble_eq_true rfl⟩ dX4_fused_80) ?_
            obtain ⟨he, hw⟩ := Prod.mk.inj (Option.some.inj hf)
            exact xj_iret hC hr (by decide) (by decide) dX4_fused_83 he hw
          · refine xj_aload_n hC dX4_fused_48 rfl 1 rfl ?_
            refine xj_iconst (v := -1) hC dX4_fused_49 (by decide) ?_
            obtain ⟨v35, w36, hc34, hf⟩ := xm_b2 hf
            obtain ⟨_, hob, _⟩ := xm_bind hc34
            refine xj_reti (xr_V hC (mX4_refused l D ks b hc34) hob rfl xw_cod_X4_refused xw_ini_X4 xw_ins_X4_refused xw_sel_X4_refused xw_ml_X4_66 xds_X4_refused ⟨Nat.le_of_ble_eq_true rfl, Nat.le_of_ble_eq_true rfl⟩ rfl rfl (Nat.le_of_ble_eq_true rfl) ⟨Nat.le_of_ble_eq_true rfl, Nat.le_of_ble_eq_true rfl⟩ dX4_fused_50) ?_
            obtain ⟨he, hw⟩ := Prod.mk.inj (Option.some.inj hf)
            exact xj_iret hC hr (by decide) (by decide) dX4_fused_53 he hw
def fX4_next (w : xmW) (th : (Option Nat)) (a1 : Int32) (a2 : Int32) (a3 : Int32) : Option (Int32 × xmW) := ((xmob w th 4).bind fun _ => ((fX4_formatAt w (th) (a1)).bind fun v2 => (if v2 = none then (xmb2 (fX4_refused w (th) ((-1 : Int32))) fun v4 w5 => (some (v4, w5))) else ((fX1_hasCode w (v2) (a2)).bind fun v7 => (if v7 = 0 then (xmb2 (fX4_refused w (th) ((-1 : Int32))) fun v9 w10 => (some (v9, w10))) else ((fX1_isNumber w (v2) (a2)).bind fun v12 => (if v12 = 0 then (xmb2 (fX4_refused w (th) ((-1 : Int32))) fun v19 w20 => (some (v19, w20))) else ((fX1_neighbour w (v2) (a2) (a3)).bind fun v14 => (xmb2 (fX4_answered w (th) (v14)) fun v16 w17 => (some (v16, w17)))))))))))
set_option maxHeartbeats 4000000 in
set_option maxRecDepth 100000 in
theorem mX4_next (l : Launch) (D : va_G) (ks : Nat → ClassId) (b : Nat) {w : xmW} {th : (Option Nat)} {a1 : Int32} {a2 : Int32} {a3 : Int32} {y : Int32} {wz : xmW} (hf : fX4_next w th a1 a2 a3 = some (y, wz)) : xmM l yX4_next (Cond.code yX4_next cX4_next 5 (some (FieldType.int)) :: xmTs) 3 67 0 0 D ks b w [xR th, xI a1, xI a2, xI a3] (some (xI y)) wz := by
  unfold fX4_next at hf
  obtain ⟨_, _, hf⟩ := xm_bind hf
  refine xmM.of (own := RX4) (lv0 := [(0, xR th), (1, xI a1), (2, xI a2), (3, xI a3)]) (by decide) rfl (Nat.le_of_ble_eq_true rfl) rfl ?_
  intro p e s m args below meth c hC hr hnm
  refine xj_aload_n hC dX4_next_0 rfl 0 rfl ?_
  refine xj_iload_n hC dX4_next_1 rfl 1 rfl ?_
  obtain ⟨v2, hc1, hf⟩ := xm_bind hf
  obtain ⟨_, hob, _⟩ := xm_bind hc1
  refine xj_retr (xr_V hC (mX4_formatAt l D ks b hc1) hob rfl xw_cod_X4_formatAt xw_ini_X4 xw_ins_X4_formatAt xw_sel_X4_formatAt xw_ml_X4_73 xds_X4_formatAt ⟨Nat.le_of_ble_eq_true rfl, Nat.le_of_ble_eq_true rfl⟩ rfl rfl (Nat.le_of_ble_eq_true rfl) ⟨Nat.le_of_ble_eq_true rfl, Nat.le_of_ble_eq_true rfl⟩ dX4_next_2) ?_
  refine xj_astore (lv' := [(4, xR v2), (0, xR th), (1, xI a1), (2, xI a2), (3, xI a3)]) hC dX4_next_5 (by decide) rfl ?_
  refine xj_aload hC dX4_next_7 0 rfl ?_
  refine xb_ifnull (tgt := 30) hC dX4_next_9 (by decide) hf (fun hf => ?_) (fun hf => ?_)
  · refine xj_aload_n hC dX4_next_30 rfl 1 rfl ?_
    refine xj_iconst (v := -1) hC dX4_next_31 (by decide) ?_
    obtain ⟨v4, w5, hc3, hf⟩ := xm_b2 hf
    obtain ⟨_, hob, _⟩ := xm_bind hc3
    refine xj_reti (xr_V hC (mX4_refused l D ks b hc3) hob rfl xw_cod_X4_refused xw_ini_X4 xw_ins_X4_refused xw_sel_X4_refused xw_ml_X4_66 xds_X4_refused ⟨Nat.le_of_ble_eq_true rfl, Nat.le_of_ble_eq_true rfl⟩ rfl rfl (Nat.le_of_ble_eq_true rfl) ⟨Nat.le_of_ble_eq_true rfl, Nat.le_of_ble_eq_true rfl⟩ dX4_next_32) ?_
    obtain ⟨he, hw⟩ := Prod.mk.inj (Option.some.inj hf)
    exact xj_iret hC hr (by decide) (by decide) dX4_next_35 he hw
  · refine xj_aload hC dX4_next_12 0 rfl ?_
    refine xj_iload_n hC dX4_next_14 rfl 3 rfl ?_
    obtain ⟨v7, hc6, hf⟩ := xm_bind hf
    obtain ⟨_, hob, _⟩ := xm_bind hc6
    refine xj_reti (xr_V hC (mX1_hasCode l D ks b hc6) hob rfl xw_cod_X1_hasCode xw_ini_X1 xw_ins_X1_hasCode xw_sel_X1_hasCode xw_ml_X4_107 xds_X1_hasCode ⟨Nat.le_of_ble_eq_true rfl, Nat.le_of_ble_eq_true rfl⟩ rfl rfl (Nat.le_of_ble_eq_true rfl) ⟨Nat.le_of_ble_eq_true rfl, Nat.le_of_ble_eq_true rfl⟩ dX4_next_15) ?_
    refine xb_if_eq (tgt := 30) hC dX4_next_18 (by decide) hf (fun hf => ?_) (fun hf => ?_)
    · refine xj_aload_n hC dX4_next_30 rfl 1 rfl ?_
      refine xj_iconst (v := -1) hC dX4_next_31 (by decide) ?_
      obtain ⟨v9, w10, hc8, hf⟩ := xm_b2 hf
      obtain ⟨_, hob, _⟩ := xm_bind hc8
      refine xj_reti (xr_V hC (mX4_refused l D ks b hc8) hob rfl xw_cod_X4_refused xw_ini_X4 xw_ins_X4_refused xw_sel_X4_refused xw_ml_X4_66 xds_X4_refused ⟨Nat.le_of_ble_eq_true rfl, Nat.le_of_ble_eq_true rfl⟩ rfl rfl (Nat.le_of_ble_eq_true rfl) ⟨Nat.le_of_ble_eq_true rfl, Nat.le_of_ble_eq_true rfl⟩ dX4_next_32) ?_
      obtain ⟨he, hw⟩ := Prod.mk.inj (Option.some.inj hf)
      exact xj_iret hC hr (by decide) (by decide) dX4_next_35 he hw
    · refine xj_aload hC dX4_next_21 0 rfl ?_
      refine xj_iload_n hC dX4_next_23 rfl 3 rfl ?_
      obtain ⟨v12, hc11, hf⟩ := xm_bind hf
      obtain ⟨_, hob, _⟩ := xm_bind hc11
      refine xj_reti (xr_V hC (mX1_isNumber l D ks b hc11) hob rfl xw_cod_X1_isNumber xw_ini_X1 xw_ins_X1_isNumber xw_sel_X1_isNumber xw_ml_X4_119 xds_X1_isNumber ⟨Nat.le_of_ble_eq_true rfl, Nat.le_of_ble_eq_true rfl⟩ rfl rfl (Nat.le_of_ble_eq_true rfl) ⟨Nat.le_of_ble_eq_true rfl, Nat.le_of_ble_eq_true rfl⟩ dX4_next_24) ?_
      refine xb_if_ne (tgt := 36) hC dX4_next_27 (by decide) hf (fun hf => ?_) (fun hf => ?_)
      · refine xj_aload_n hC dX4_next_36 rfl 1 rfl ?_
        refine xj_aload hC dX4_next_37 0 rfl ?_
        refine xj_iload_n hC dX4_next_39 rfl 3 rfl ?_
        refine xj_iload_n hC dX4_next_40 rfl 4 rfl ?_
        obtain ⟨v14, hc13, hf⟩ := xm_bind hf
        obtain ⟨_, hob, _⟩ := xm_bind hc13
        refine xj_reti (xr_V hC (mX1_neighbour l D ks b hc13) hob rfl xw_cod_X1_neighbour xw_ini_X1 xw_ins_X1_neighbour xw_sel_X1_neighbour xw_ml_X4_159 xds_X1_neighbour ⟨Nat.le_of_ble_eq_true rfl, Nat.le_of_ble_eq_true rfl⟩ rfl rfl (Nat.le_of_ble_eq_true rfl) ⟨Nat.le_of_ble_eq_true rfl, Nat.le_of_ble_eq_true rfl⟩ dX4_next_41) ?_
        obtain ⟨v16, w17, hc15, hf⟩ := xm_b2 hf
        obtain ⟨_, hob, _⟩ := xm_bind hc15
        refine xj_reti (xr_V hC (mX4_answered l D ks b hc15) hob rfl xw_cod_X4_answered xw_ini_X4 xw_ins_X4_answered xw_sel_X4_answered xw_ml_X4_81 xds_X4_answered ⟨Nat.le_of_ble_eq_true rfl, Nat.le_of_ble_eq_true rfl⟩ rfl rfl (Nat.le_of_ble_eq_true rfl) ⟨Nat.le_of_ble_eq_true rfl, Nat.le_of_ble_eq_true rfl⟩ dX4_next_44) ?_
        obtain ⟨he, hw⟩ := Prod.mk.inj (Option.some.inj hf)
        exact xj_iret hC hr (by decide) (by decide) dX4_next_47 he hw
      · refine xj_aload_n hC dX4_next_30 rfl 1 rfl ?_
        refine xj_iconst (v := -1) hC dX4_next_31 (by decide) ?_
        obtain ⟨v19, w20, hc18, hf⟩ := xm_b2 hf
        obtain ⟨_, hob, _⟩ := xm_bind hc18
        refine xj_reti (xr_V hC (mX4_refused l D ks b hc18) hob rfl xw_cod_X4_refused xw_ini_X4 xw_ins_X4_refused xw_sel_X4_refused xw_ml_X4_66 xds_X4_refused ⟨Nat.le_of_ble_eq_true rfl, Nat.le_of_ble_eq_true rfl⟩ rfl rfl (Nat.le_of_ble_eq_true rfl) ⟨Nat.le_of_ble_eq_true rfl, Nat.le_of_ble_eq_true rfl⟩ dX4_next_32) ?_
        obtain ⟨he, hw⟩ := Prod.mk.inj (Option.some.inj hf)
        exact xj_iret hC hr (by decide) (by decide) dX4_next_35 he hw
def fX4_order (w : xmW) (th : (Option Nat)) (a1 : Int32) (a2 : Int32) (a3 : Int32) : Option (Int32 × xmW) := ((xmob w th 4).bind fun _ => ((fX4_formatAt w (th) (a1)).bind fun v2 => (if v2 = none then (xmb2 (fX4_refused w (th) ((-1 : Int32))) fun v4 w5 => (some (v4, w5))) else ((fX1_hasCode w (v2) (a2)).bind fun v7 => (if v7 = 0 then (xmb2 (fX4_refused w (th) ((-1 : Int32))) fun v9 w10 => (some (v9, w10))) else ((fX1_hasCode w (v2) (a3)).bind fun v12 => (if v12 = 0 then (xmb2 (fX4_refused w (th) ((-1 : Int32))) fun v33 w34 => (some (v33, w34))) else ((fX1_isNone w (v2) (a2)).bind fun v14 => (if v14 = 0 then ((fX1_isNone w (v2) (a3)).bind fun v19 => (if v19 = 0 then ((fX1_rank w (v2) (a2)).bind fun v21 => ((fX1_rank w (v2) (a3)).bind fun v23 => ((fJ6_compare_7cf53 w (v21) (v23)).bind fun v25 => (xmb2 (fX4_answered w (th) (v25)) fun v27 w28 => (some (v27, w28)))))) else (xmb2 (fX4_answered w (th) ((2 : Int32))) fun v30 w31 => (some (v30, w31))))) else (xmb2 (fX4_answered w (th) ((2 : Int32))) fun v16 w17 => (some (v16, w17))))))))))))
set_option maxHeartbeats 4000000 in
set_option maxRecDepth 100000 in
theorem mX4_order (l : Launch) (D : va_G) (ks : Nat → ClassId) (b : Nat) {w : xmW} {th : (Option Nat)} {a1 : Int32} {a2 : Int32} {a3 : Int32} {y : Int32} {wz : xmW} (hf : fX4_order w th a1 a2 a3 = some (y, wz)) : xmM l yX4_order (Cond.code yX4_order cX4_order 5 (some (FieldType.int)) :: xmTs) 3 63 0 0 D ks b w [xR th, xI a1, xI a2, xI a3] (some (xI y)) wz := by
  unfold fX4_order at hf
  obtain ⟨_, _, hf⟩ := xm_bind hf
  refine xmM.of (own := RX4) (lv0 := [(0, xR th), (1, xI a1), (2, xI a2), (3, xI a3)]) (by decide) rfl (Nat.le_of_ble_eq_true rfl) rfl ?_
  intro p e s m args below meth c hC hr hnm
  refine xj_aload_n hC dX4_order_0 rfl 0 rfl ?_
  refine xj_iload_n hC dX4_order_1 rfl 1 rfl ?_
  obtain ⟨v2, hc1, hf⟩ := xm_bind hf
  obtain ⟨_, hob, _⟩ := xm_bind hc1
  refine xj_retr (xr_V hC (mX4_formatAt l D ks b hc1) hob rfl xw_cod_X4_formatAt xw_ini_X4 xw_ins_X4_formatAt xw_sel_X4_formatAt xw_ml_X4_73 xds_X4_formatAt ⟨Nat.le_of_ble_eq_true rfl, Nat.le_of_ble_eq_true rfl⟩ rfl rfl (Nat.le_of_ble_eq_true rfl) ⟨Nat.le_of_ble_eq_true rfl, Nat.le_of_ble_eq_true rfl⟩ dX4_order_2) ?_
  refine xj_astore (lv' := [(4, xR v2), (0, xR th), (1, xI a1), (2, xI a2), (3, xI a3)]) hC dX4_order_5 (by decide) rfl ?_
  refine xj_aload hC dX4_order_7 0 rfl ?_
  refine xb_ifnull (tgt := 30) hC dX4_order_9 (by decide) hf (fun hf => ?_) (fun hf => ?_)
  · refine xj_aload_n hC dX4_order_30 rfl 1 rfl ?_
    refine xj_iconst (v := -1) hC dX4_order_31 (by decide) ?_
    obtain ⟨v4, w5, hc3, hf⟩ := xm_b2 hf
    obtain ⟨_, hob, _⟩ := xm_bind hc3
    refine xj_reti (xr_V hC (mX4_refused l D ks b hc3) hob rfl xw_cod_X4_refused xw_ini_X4 xw_ins_X4_refused xw_sel_X4_refused xw_ml_X4_66 xds_X4_refused ⟨Nat.le_of_ble_eq_true rfl, Nat.le_of_ble_eq_true rfl⟩ rfl rfl (Nat.le_of_ble_eq_true rfl) ⟨Nat.le_of_ble_eq_true rfl, Nat.le_of_ble_eq_true rfl⟩ dX4_order_32) ?_
    obtain ⟨he, hw⟩ := Prod.mk.inj (Option.some.inj hf)
    exact xj_iret hC hr (by decide) (by decide) dX4_order_35 he hw
  · refine xj_aload hC dX4_order_12 0 rfl ?_
    refine xj_iload_n hC dX4_order_14 rfl 3 rfl ?_
    obtain ⟨v7, hc6, hf⟩ := xm_bind hf
    obtain ⟨_, hob, _⟩ := xm_bind hc6
    refine xj_reti (xr_V hC (mX1_hasCode l D ks b hc6) hob rfl xw_cod_X1_hasCode xw_ini_X1 xw_ins_X1_hasCode xw_sel_X1_hasCode xw_ml_X4_107 xds_X1_hasCode ⟨Nat.le_of_ble_eq_true rfl, Nat.le_of_ble_eq_true rfl⟩ rfl rfl (Nat.le_of_ble_eq_true rfl) ⟨Nat.le_of_ble_eq_true rfl, Nat.le_of_ble_eq_true rfl⟩ dX4_order_15) ?_
    refine xb_if_eq (tgt := 30) hC dX4_order_18 (by decide) hf (fun hf => ?_) (fun hf => ?_)
    · refine xj_aload_n hC dX4_order_30 rfl 1 rfl ?_
      refine xj_iconst (v := -1) hC dX4_order_31 (by decide) ?_
      obtain ⟨v9, w10, hc8, hf⟩ := xm_b2 hf
      obtain ⟨_, hob, _⟩ := xm_bind hc8
      refine xj_reti (xr_V hC (mX4_refused l D ks b hc8) hob rfl xw_cod_X4_refused xw_ini_X4 xw_ins_X4_refused xw_sel_X4_refused xw_ml_X4_66 xds_X4_refused ⟨Nat.le_of_ble_eq_true rfl, Nat.le_of_ble_eq_true rfl⟩ rfl rfl (Nat.le_of_ble_eq_true rfl) ⟨Nat.le_of_ble_eq_true rfl, Nat.le_of_ble_eq_true rfl⟩ dX4_order_32) ?_
      obtain ⟨he, hw⟩ := Prod.mk.inj (Option.some.inj hf)
      exact xj_iret hC hr (by decide) (by decide) dX4_order_35 he hw
    · refine xj_aload hC dX4_order_21 0 rfl ?_
      refine xj_iload_n hC dX4_order_23 rfl 4 rfl ?_
      obtain ⟨v12, hc11, hf⟩ := xm_bind hf
      obtain ⟨_, hob, _⟩ := xm_bind hc11
      refine xj_reti (xr_V hC (mX1_hasCode l D ks b hc11) hob rfl xw_cod_X1_hasCode xw_ini_X1 xw_ins_X1_hasCode xw_sel_X1_hasCode xw_ml_X4_107 xds_X1_hasCode ⟨Nat.le_of_ble_eq_true rfl, Nat.le_of_ble_eq_true rfl⟩ rfl rfl (Nat.le_of_ble_eq_true rfl) ⟨Nat.le_of_ble_eq_true rfl, Nat.le_of_ble_eq_true rfl⟩ dX4_order_24) ?_
      refine xb_if_ne (tgt := 36) hC dX4_order_27 (by decide) hf (fun hf => ?_) (fun hf => ?_)
      · refine xj_aload hC dX4_order_36 0 rfl ?_
        refine xj_iload_n hC dX4_order_38 rfl 3 rfl ?_
        obtain ⟨v14, hc13, hf⟩ := xm_bind hf
        obtain ⟨_, hob, _⟩ := xm_bind hc13
        refine xj_reti (xr_V hC (mX1_isNone l D ks b hc13) hob rfl xw_cod_X1_isNone xw_ini_X1 xw_ins_X1_isNone xw_sel_X1_isNone xw_ml_X4_163 xds_X1_isNone ⟨Nat.le_of_ble_eq_true rfl, Nat.le_of_ble_eq_true rfl⟩ rfl rfl (Nat.le_of_ble_eq_true rfl) ⟨Nat.le_of_ble_eq_true rfl, Nat.le_of_ble_eq_true rfl⟩ dX4_order_39) ?_
        refine xb_if_ne (tgt := 54) hC dX4_order_42 (by decide) hf (fun hf => ?_) (fun hf => ?_)
        · refine xj_aload_n hC dX4_order_54 rfl 1 rfl ?_
          refine xj_iconst (v := 2) hC dX4_order_55 (by decide) ?_
          obtain ⟨v16, w17, hc15, hf⟩ := xm_b2 hf
          obtain ⟨_, hob, _⟩ := xm_bind hc15
          refine xj_reti (xr_V hC (mX4_answered l D ks b hc15) hob rfl xw_cod_X4_answered xw_ini_X4 xw_ins_X4_answered xw_sel_X4_answered xw_ml_X4_81 xds_X4_answered ⟨Nat.le_of_ble_eq_true rfl, Nat.le_of_ble_eq_true rfl⟩ rfl rfl (Nat.le_of_ble_eq_true rfl) ⟨Nat.le_of_ble_eq_true rfl, Nat.le_of_ble_eq_true rfl⟩ dX4_order_56) ?_
          obtain ⟨he, hw⟩ := Prod.mk.inj (Option.some.inj hf)
          exact xj_iret hC hr (by decide) (by decide) dX4_order_59 he hw
        · refine xj_aload hC dX4_order_45 0 rfl ?_
          refine xj_iload_n hC dX4_order_47 rfl 4 rfl ?_
          obtain ⟨v19, hc18, hf⟩ := xm_bind hf
          obtain ⟨_, hob, _⟩ := xm_bind hc18
          refine xj_reti (xr_V hC (mX1_isNone l D ks b hc18) hob rfl xw_cod_X1_isNone xw_ini_X1 xw_ins_X1_isNone xw_sel_X1_isNone xw_ml_X4_163 xds_X1_isNone ⟨Nat.le_of_ble_eq_true rfl, Nat.le_of_ble_eq_true rfl⟩ rfl rfl (Nat.le_of_ble_eq_true rfl) ⟨Nat.le_of_ble_eq_true rfl, Nat.le_of_ble_eq_true rfl⟩ dX4_order_48) ?_
          refine xb_if_eq (tgt := 60) hC dX4_order_51 (by decide) hf (fun hf => ?_) (fun hf => ?_)
          · refine xj_aload_n hC dX4_order_60 rfl 1 rfl ?_
            refine xj_aload hC dX4_order_61 0 rfl ?_
            refine xj_iload_n hC dX4_order_63 rfl 3 rfl ?_
            obtain ⟨v21, hc20, hf⟩ := xm_bind hf
            obtain ⟨_, hob, _⟩ := xm_bind hc20
            refine xj_reti (xr_V hC (mX1_rank l D ks b hc20) hob rfl xw_cod_X1_rank xw_ini_X1 xw_ins_X1_rank xw_sel_X1_rank xw_ml_X4_166 xds_X1_rank ⟨Nat.le_of_ble_eq_true rfl, Nat.le_of_ble_eq_true rfl⟩ rfl rfl (Nat.le_of_ble_eq_true rfl) ⟨Nat.le_of_ble_eq_true rfl, Nat.le_of_ble_eq_true rfl⟩ dX4_order_64) ?_
            refine xj_aload hC dX4_order_67 0 rfl ?_
            refine xj_iload_n hC dX4_order_69 rfl 4 rfl ?_
            obtain ⟨v23, hc22, hf⟩ := xm_bind hf
            obtain ⟨_, hob, _⟩ := xm_bind hc22
            refine xj_reti (xr_V hC (mX1_rank l D ks b hc22) hob rfl xw_cod_X1_rank xw_ini_X1 xw_ins_X1_rank xw_sel_X1_rank xw_ml_X4_166 xds_X1_rank ⟨Nat.le_of_ble_eq_true rfl, Nat.le_of_ble_eq_true rfl⟩ rfl rfl (Nat.le_of_ble_eq_true rfl) ⟨Nat.le_of_ble_eq_true rfl, Nat.le_of_ble_eq_true rfl⟩ dX4_order_70) ?_
            obtain ⟨v25, hc24, hf⟩ := xm_bind hf
            refine xj_reti (xr_S hC (mJ6_compare_7cf53 l D ks b hc24) xw_cod_J6_compare_7cf53 xw_ini_J6 xw_sta_J6_compare_7cf53 xw_ml_X4_169 xds_J6_compare_7cf53 ⟨Nat.le_of_ble_eq_true rfl, Nat.le_of_ble_eq_true rfl⟩ rfl rfl (Nat.le_of_ble_eq_true rfl) ⟨Nat.le_of_ble_eq_true rfl, Nat.le_of_ble_eq_true rfl⟩ dX4_order_73) ?_
            obtain ⟨v27, w28, hc26, hf⟩ := xm_b2 hf
            obtain ⟨_, hob, _⟩ := xm_bind hc26
            refine xj_reti (xr_V hC (mX4_answered l D ks b hc26) hob rfl xw_cod_X4_answered xw_ini_X4 xw_ins_X4_answered xw_sel_X4_answered xw_ml_X4_81 xds_X4_answered ⟨Nat.le_of_ble_eq_true rfl, Nat.le_of_ble_eq_true rfl⟩ rfl rfl (Nat.le_of_ble_eq_true rfl) ⟨Nat.le_of_ble_eq_true rfl, Nat.le_of_ble_eq_true rfl⟩ dX4_order_76) ?_
            obtain ⟨he, hw⟩ := Prod.mk.inj (Option.some.inj hf)
            exact xj_iret hC hr (by decide) (by decide) dX4_order_79 he hw
          · refine xj_aload_n hC dX4_order_54 rfl 1 rfl ?_
            refine xj_iconst (v := 2) hC dX4_order_55 (by decide) ?_
            obtain ⟨v30, w31, hc29, hf⟩ := xm_b2 hf
            obtain ⟨_, hob, _⟩ := xm_bind hc29
            refine xj_reti (xr_V hC (mX4_answered l D ks b hc29) hob rfl xw_cod_X4_answered xw_ini_X4 xw_ins_X4_answered xw_sel_X4_answered xw_ml_X4_81 xds_X4_answered ⟨Nat.le_of_ble_eq_true rfl, Nat.le_of_ble_eq_true rfl⟩ rfl rfl (Nat.le_of_ble_eq_true rfl) ⟨Nat.le_of_ble_eq_true rfl, Nat.le_of_ble_eq_true rfl⟩ dX4_order_56) ?_
            obtain ⟨he, hw⟩ := Prod.mk.inj (Option.some.inj hf)
            exact xj_iret hC hr (by decide) (by decide) dX4_order_59 he hw
      · refine xj_aload_n hC dX4_order_30 rfl 1 rfl ?_
        refine xj_iconst (v := -1) hC dX4_order_31 (by decide) ?_
        obtain ⟨v33, w34, hc32, hf⟩ := xm_b2 hf
        obtain ⟨_, hob, _⟩ := xm_bind hc32
        refine xj_reti (xr_V hC (mX4_refused l D ks b hc32) hob rfl xw_cod_X4_refused xw_ini_X4 xw_ins_X4_refused xw_sel_X4_refused xw_ml_X4_66 xds_X4_refused ⟨Nat.le_of_ble_eq_true rfl, Nat.le_of_ble_eq_true rfl⟩ rfl rfl (Nat.le_of_ble_eq_true rfl) ⟨Nat.le_of_ble_eq_true rfl, Nat.le_of_ble_eq_true rfl⟩ dX4_order_32) ?_
        obtain ⟨he, hw⟩ := Prod.mk.inj (Option.some.inj hf)
        exact xj_iret hC hr (by decide) (by decide) dX4_order_35 he hw
def fX4_numbers (w : xmW) (th : (Option Nat)) (a1 : Int32) (a2 : Int64) (a3 : Int64) : Option (Int32 × xmW) := ((xmob w th 4).bind fun _ => ((fX4_formatAt w (th) (a1)).bind fun v2 => (if v2 = none then (xmb2 (fX4_refused w (th) ((-1 : Int32))) fun v9 w10 => (some (v9, w10))) else ((fX1_numbersBetween w (v2) (a2) (a3)).bind fun v4 => (xmb2 (fX4_answered w (th) (v4)) fun v6 w7 => (some (v6, w7)))))))
set_option maxHeartbeats 4000000 in
set_option maxRecDepth 100000 in
theorem mX4_numbers (l : Launch) (D : va_G) (ks : Nat → ClassId) (b : Nat) {w : xmW} {th : (Option Nat)} {a1 : Int32} {a2 : Int64} {a3 : Int64} {y : Int32} {wz : xmW} (hf : fX4_numbers w th a1 a2 a3 = some (y, wz)) : xmM l yX4_numbers (Cond.code yX4_numbers cX4_numbers 7 (some (FieldType.int)) :: xmTs) 3 80 0 0 D ks b w [xR th, xI a1, xL a2, xL a3] (some (xI y)) wz := by
  unfold fX4_numbers at hf
  obtain ⟨_, _, hf⟩ := xm_bind hf
  refine xmM.of (own := RX4) (lv0 := [(0, xR th), (1, xI a1), (2, xL a2), (4, xL a3)]) (by decide) rfl (Nat.le_of_ble_eq_true rfl) rfl ?_
  intro p e s m args below meth c hC hr hnm
  refine xj_aload_n hC dX4_numbers_0 rfl 0 rfl ?_
  refine xj_iload_n hC dX4_numbers_1 rfl 1 rfl ?_
  obtain ⟨v2, hc1, hf⟩ := xm_bind hf
  obtain ⟨_, hob, _⟩ := xm_bind hc1
  refine xj_retr (xr_V hC (mX4_formatAt l D ks b hc1) hob rfl xw_cod_X4_formatAt xw_ini_X4 xw_ins_X4_formatAt xw_sel_X4_formatAt xw_ml_X4_73 xds_X4_formatAt ⟨Nat.le_of_ble_eq_true rfl, Nat.le_of_ble_eq_true rfl⟩ rfl rfl (Nat.le_of_ble_eq_true rfl) ⟨Nat.le_of_ble_eq_true rfl, Nat.le_of_ble_eq_true rfl⟩ dX4_numbers_2) ?_
  refine xj_astore (lv' := [(6, xR v2), (0, xR th), (1, xI a1), (2, xL a2), (4, xL a3)]) hC dX4_numbers_5 (by decide) rfl ?_
  refine xj_aload hC dX4_numbers_7 0 rfl ?_
  refine xb_ifnonnull (tgt := 18) hC dX4_numbers_9 (by decide) hf (fun hf => ?_) (fun hf => ?_)
  · refine xj_aload_n hC dX4_numbers_18 rfl 1 rfl ?_
    refine xj_aload hC dX4_numbers_19 0 rfl ?_
    refine xj_lload_n hC dX4_numbers_21 rfl 3 rfl ?_
    refine xj_lload hC dX4_numbers_22 4 rfl ?_
    obtain ⟨v4, hc3, hf⟩ := xm_bind hf
    obtain ⟨_, hob, _⟩ := xm_bind hc3
    refine xj_reti (xr_V hC (mX1_numbersBetween l D ks b hc3) hob rfl xw_cod_X1_numbersBetween xw_ini_X1 xw_ins_X1_numbersBetween xw_sel_X1_numbersBetween xw_ml_X4_175 xds_X1_numbersBetween ⟨Nat.le_of_ble_eq_true rfl, Nat.le_of_ble_eq_true rfl⟩ rfl rfl (Nat.le_of_ble_eq_true rfl) ⟨Nat.le_of_ble_eq_true rfl, Nat.le_of_ble_eq_true rfl⟩ dX4_numbers_24) ?_
    obtain ⟨v6, w7, hc5, hf⟩ := xm_b2 hf
    obtain ⟨_, hob, _⟩ := xm_bind hc5
    refine xj_reti (xr_V hC (mX4_answered l D ks b hc5) hob rfl xw_cod_X4_answered xw_ini_X4 xw_ins_X4_answered xw_sel_X4_answered xw_ml_X4_81 xds_X4_answered ⟨Nat.le_of_ble_eq_true rfl, Nat.le_of_ble_eq_true rfl⟩ rfl rfl (Nat.le_of_ble_eq_true rfl) ⟨Nat.le_of_ble_eq_true rfl, Nat.le_of_ble_eq_true rfl⟩ dX4_numbers_27) ?_
    obtain ⟨he, hw⟩ := Prod.mk.inj (Option.some.inj hf)
    exact xj_iret hC hr (by decide) (by decide) dX4_numbers_30 he hw
  · refine xj_aload_n hC dX4_numbers_12 rfl 1 rfl ?_
    refine xj_iconst (v := -1) hC dX4_numbers_13 (by decide) ?_
    obtain ⟨v9, w10, hc8, hf⟩ := xm_b2 hf
    obtain ⟨_, hob, _⟩ := xm_bind hc8
    refine xj_reti (xr_V hC (mX4_refused l D ks b hc8) hob rfl xw_cod_X4_refused xw_ini_X4 xw_ins_X4_refused xw_sel_X4_refused xw_ml_X4_66 xds_X4_refused ⟨Nat.le_of_ble_eq_true rfl, Nat.le_of_ble_eq_true rfl⟩ rfl rfl (Nat.le_of_ble_eq_true rfl) ⟨Nat.le_of_ble_eq_true rfl, Nat.le_of_ble_eq_true rfl⟩ dX4_numbers_14) ?_
    obtain ⟨he, hw⟩ := Prod.mk.inj (Option.some.inj hf)
    exact xj_iret hC hr (by decide) (by decide) dX4_numbers_17 he hw
def fX4_row (w : xmW) (th : (Option Nat)) (a1 : Int32) (a2 : Int32) (a3 : Int32) : Option (Int32 × xmW) := ((xmob w th 4).bind fun _ => ((fX4_formatAt w (th) (a2)).bind fun v2 => ((fX4_within w (a1) ((0 : Int32)) ((3 : Int32))).bind fun v4 => (if v4 = 0 then (xmb2 (fX4_refused w (th) ((-1 : Int32))) fun v6 w7 => (some (v6, w7))) else (if v2 = none then (xmb2 (fX4_refused w (th) ((-1 : Int32))) fun v9 w10 => (some (v9, w10))) else ((fX4_within w (a3) ((0 : Int32)) ((16 : Int32))).bind fun v12 => (if v12 = 0 then (xmb2 (fX4_refused w (th) ((-1 : Int32))) fun v21 w22 => (some (v21, w22))) else ((xmgR w th 4 2).bind fun v13 => ((xmqld w v13 3 a1).bind fun v14 => ((fX2_become w (v14) (v2) (a3)).bind fun w16 => (xmb2 (fX4_answered w16 (th) ((1 : Int32))) fun v18 w19 => (some (v18, w19)))))))))))))
set_option maxHeartbeats 4000000 in
set_option maxRecDepth 100000 in
theorem mX4_row (l : Launch) (D : va_G) (ks : Nat → ClassId) (b : Nat) {w : xmW} {th : (Option Nat)} {a1 : Int32} {a2 : Int32} {a3 : Int32} {y : Int32} {wz : xmW} (hf : fX4_row w th a1 a2 a3 = some (y, wz)) : xmM l yX4_row (Cond.code yX4_row cX4_row 5 (some (FieldType.int)) :: xmTs) 2 46 0 0 D ks b w [xR th, xI a1, xI a2, xI a3] (some (xI y)) wz := by
  unfold fX4_row at hf
  obtain ⟨_, _, hf⟩ := xm_bind hf
  refine xmM.of (own := RX4) (lv0 := [(0, xR th), (1, xI a1), (2, xI a2), (3, xI a3)]) (by decide) rfl (Nat.le_of_ble_eq_true rfl) rfl ?_
  intro p e s m args below meth c hC hr hnm
  refine xj_aload_n hC dX4_row_0 rfl 0 rfl ?_
  refine xj_iload_n hC dX4_row_1 rfl 2 rfl ?_
  obtain ⟨v2, hc1, hf⟩ := xm_bind hf
  obtain ⟨_, hob, _⟩ := xm_bind hc1
  refine xj_retr (xr_V hC (mX4_formatAt l D ks b hc1) hob rfl xw_cod_X4_formatAt xw_ini_X4 xw_ins_X4_formatAt xw_sel_X4_formatAt xw_ml_X4_73 xds_X4_formatAt ⟨Nat.le_of_ble_eq_true rfl, Nat.le_of_ble_eq_true rfl⟩ rfl rfl (Nat.le_of_ble_eq_true rfl) ⟨Nat.le_of_ble_eq_true rfl, Nat.le_of_ble_eq_true rfl⟩ dX4_row_2) ?_
  refine xj_astore (lv' := [(4, xR v2), (0, xR th), (1, xI a1), (2, xI a2), (3, xI a3)]) hC dX4_row_5 (by decide) rfl ?_
  refine xj_iload_n hC dX4_row_7 rfl 2 rfl ?_
  refine xj_iconst (v := 0) hC dX4_row_8 (by decide) ?_
  refine xj_iconst (v := 3) hC dX4_row_9 (by decide) ?_
  obtain ⟨v4, hc3, hf⟩ := xm_bind hf
  refine xj_reti (xr_S hC (mX4_within l D ks b hc3) xw_cod_X4_within xw_ini_X4 xw_sta_X4_within xw_ml_X4_62 xds_X4_within ⟨Nat.le_of_ble_eq_true rfl, Nat.le_of_ble_eq_true rfl⟩ rfl rfl (Nat.le_of_ble_eq_true rfl) ⟨Nat.le_of_ble_eq_true rfl, Nat.le_of_ble_eq_true rfl⟩ dX4_row_10) ?_
  refine xb_if_eq (tgt := 31) hC dX4_row_13 (by decide) hf (fun hf => ?_) (fun hf => ?_)
  · refine xj_aload_n hC dX4_row_31 rfl 1 rfl ?_
    refine xj_iconst (v := -1) hC dX4_row_32 (by decide) ?_
    obtain ⟨v6, w7, hc5, hf⟩ := xm_b2 hf
    obtain ⟨_, hob, _⟩ := xm_bind hc5
    refine xj_reti (xr_V hC (mX4_refused l D ks b hc5) hob rfl xw_cod_X4_refused xw_ini_X4 xw_ins_X4_refused xw_sel_X4_refused xw_ml_X4_66 xds_X4_refused ⟨Nat.le_of_ble_eq_true rfl, Nat.le_of_ble_eq_true rfl⟩ rfl rfl (Nat.le_of_ble_eq_true rfl) ⟨Nat.le_of_ble_eq_true rfl, Nat.le_of_ble_eq_true rfl⟩ dX4_row_33) ?_
    obtain ⟨he, hw⟩ := Prod.mk.inj (Option.some.inj hf)
    exact xj_iret hC hr (by decide) (by decide) dX4_row_36 he hw
  · refine xj_aload hC dX4_row_16 0 rfl ?_
    refine xb_ifnull (tgt := 31) hC dX4_row_18 (by decide) hf (fun hf => ?_) (fun hf => ?_)
    · refine xj_aload_n hC dX4_row_31 rfl 1 rfl ?_
      refine xj_iconst (v := -1) hC dX4_row_32 (by decide) ?_
      obtain ⟨v9, w10, hc8, hf⟩ := xm_b2 hf
      obtain ⟨_, hob, _⟩ := xm_bind hc8
      refine xj_reti (xr_V hC (mX4_refused l D ks b hc8) hob rfl xw_cod_X4_refused xw_ini_X4 xw_ins_X4_refused xw_sel_X4_refused xw_ml_X4_66 xds_X4_refused ⟨Nat.le_of_ble_eq_true rfl, Nat.le_of_ble_eq_true rfl⟩ rfl rfl (Nat.le_of_ble_eq_true rfl) ⟨Nat.le_of_ble_eq_true rfl, Nat.le_of_ble_eq_true rfl⟩ dX4_row_33) ?_
      obtain ⟨he, hw⟩ := Prod.mk.inj (Option.some.inj hf)
      exact xj_iret hC hr (by decide) (by decide) dX4_row_36 he hw
    · refine xj_iload_n hC dX4_row_21 rfl 4 rfl ?_
      refine xj_iconst (v := 0) hC dX4_row_22 (by decide) ?_
      refine xj_bipush (v := 16) hC dX4_row_23 (by decide) ?_
      obtain ⟨v12, hc11, hf⟩ := xm_bind hf
      refine xj_reti (xr_S hC (mX4_within l D ks b hc11) xw_cod_X4_within xw_ini_X4 xw_sta_X4_within xw_ml_X4_62 xds_X4_within ⟨Nat.le_of_ble_eq_true rfl, Nat.le_of_ble_eq_true rfl⟩ rfl rfl (Nat.le_of_ble_eq_true rfl) ⟨Nat.le_of_ble_eq_true rfl, Nat.le_of_ble_eq_true rfl⟩ dX4_row_25) ?_
      refine xb_if_ne (tgt := 37) hC dX4_row_28 (by decide) hf (fun hf => ?_) (fun hf => ?_)
      · refine xj_aload_n hC dX4_row_37 rfl 1 rfl ?_
        refine xb_getR hC 4 2 xcl_4 (by decide) xw_fl_X4_23 dX4_row_38 hf (fun v13 hf => ?_)
        refine xj_iload_n hC dX4_row_41 rfl 2 rfl ?_
        refine xb_qald3 hC dX4_row_42 hf (fun v14 hf => ?_)
        refine xj_aload hC dX4_row_43 0 rfl ?_
        refine xj_iload_n hC dX4_row_45 rfl 4 rfl ?_
        obtain ⟨w16, hc15, hf⟩ := xm_bind hf
        obtain ⟨_, hob, _⟩ := xm_bind hc15
        refine xj_retv (xr_V hC (mX2_become l D ks b hc15) hob rfl xw_cod_X2_become xw_ini_X2 xw_ins_X2_become xw_sel_X2_become xw_ml_X4_179 xds_X2_become ⟨Nat.le_of_ble_eq_true rfl, Nat.le_of_ble_eq_true rfl⟩ rfl rfl (Nat.le_of_ble_eq_true rfl) ⟨Nat.le_of_ble_eq_true rfl, Nat.le_of_ble_eq_true rfl⟩ dX4_row_46) ?_
        refine xj_aload_n hC dX4_row_49 rfl 1 rfl ?_
        refine xj_iconst (v := 1) hC dX4_row_50 (by decide) ?_
        obtain ⟨v18, w19, hc17, hf⟩ := xm_b2 hf
        obtain ⟨_, hob, _⟩ := xm_bind hc17
        refine xj_reti (xr_V hC (mX4_answered l D ks b hc17) hob rfl xw_cod_X4_answered xw_ini_X4 xw_ins_X4_answered xw_sel_X4_answered xw_ml_X4_81 xds_X4_answered ⟨Nat.le_of_ble_eq_true rfl, Nat.le_of_ble_eq_true rfl⟩ rfl rfl (Nat.le_of_ble_eq_true rfl) ⟨Nat.le_of_ble_eq_true rfl, Nat.le_of_ble_eq_true rfl⟩ dX4_row_51) ?_
        obtain ⟨he, hw⟩ := Prod.mk.inj (Option.some.inj hf)
        exact xj_iret hC hr (by decide) (by decide) dX4_row_54 he hw
      · refine xj_aload_n hC dX4_row_31 rfl 1 rfl ?_
        refine xj_iconst (v := -1) hC dX4_row_32 (by decide) ?_
        obtain ⟨v21, w22, hc20, hf⟩ := xm_b2 hf
        obtain ⟨_, hob, _⟩ := xm_bind hc20
        refine xj_reti (xr_V hC (mX4_refused l D ks b hc20) hob rfl xw_cod_X4_refused xw_ini_X4 xw_ins_X4_refused xw_sel_X4_refused xw_ml_X4_66 xds_X4_refused ⟨Nat.le_of_ble_eq_true rfl, Nat.le_of_ble_eq_true rfl⟩ rfl rfl (Nat.le_of_ble_eq_true rfl) ⟨Nat.le_of_ble_eq_true rfl, Nat.le_of_ble_eq_true rfl⟩ dX4_row_33) ?_
        obtain ⟨he, hw⟩ := Prod.mk.inj (Option.some.inj hf)
        exact xj_iret hC hr (by decide) (by decide) dX4_row_36 he hw
def fX4_rowAt (w : xmW) (th : (Option Nat)) (a1 : Int32) : Option (Option Nat) := ((xmob w th 4).bind fun _ => ((fX4_within w (a1) ((0 : Int32)) ((3 : Int32))).bind fun v2 => (if v2 = 0 then (some none) else ((xmgR w th 4 2).bind fun v3 => ((xmqld w v3 3 a1).bind fun v4 => ((xmgR w v4 2 0).bind fun v5 => (if v5 = none then (some none) else ((xmgR w th 4 2).bind fun v6 => ((xmqld w v6 3 a1).bind fun v7 => (some v7))))))))))
set_option maxHeartbeats 4000000 in
set_option maxRecDepth 100000 in
theorem mX4_rowAt (l : Launch) (D : va_G) (ks : Nat → ClassId) (b : Nat) {w : xmW} {th : (Option Nat)} {a1 : Int32} {y : (Option Nat)} (hf : fX4_rowAt w th a1 = some y) : xmM l yX4_rowAt (Cond.code yX4_rowAt cX4_rowAt 2 (some (FieldType.object "SmallFloats$Row")) :: xmTs) 1 22 0 0 D ks b w [xR th, xI a1] (some (xR y)) w := by
  unfold fX4_rowAt at hf
  obtain ⟨_, _, hf⟩ := xm_bind hf
  refine xmM.of (own := RX4) (lv0 := [(0, xR th), (1, xI a1)]) (by decide) rfl (Nat.le_of_ble_eq_true rfl) rfl ?_
  intro p e s m args below meth c hC hr hnm
  refine xj_iload_n hC dX4_rowAt_0 rfl 1 rfl ?_
  refine xj_iconst (v := 0) hC dX4_rowAt_1 (by decide) ?_
  refine xj_iconst (v := 3) hC dX4_rowAt_2 (by decide) ?_
  obtain ⟨v2, hc1, hf⟩ := xm_bind hf
  refine xj_reti (xr_S hC (mX4_within l D ks b hc1) xw_cod_X4_within xw_ini_X4 xw_sta_X4_within xw_ml_X4_62 xds_X4_within ⟨Nat.le_of_ble_eq_true rfl, Nat.le_of_ble_eq_true rfl⟩ rfl rfl (Nat.le_of_ble_eq_true rfl) ⟨Nat.le_of_ble_eq_true rfl, Nat.le_of_ble_eq_true rfl⟩ dX4_rowAt_3) ?_
  refine xb_if_eq (tgt := 30) hC dX4_rowAt_6 (by decide) hf (fun hf => ?_) (fun hf => ?_)
  · refine xj_null hC dX4_rowAt_30 ?_
    exact xj_aret hC hr (by decide) (by decide) dX4_rowAt_31 (Option.some.inj hf) rfl
  · refine xj_aload_n hC dX4_rowAt_9 rfl 0 rfl ?_
    refine xb_getR hC 4 2 xcl_4 (by decide) xw_fl_X4_23 dX4_rowAt_10 hf (fun v3 hf => ?_)
    refine xj_iload_n hC dX4_rowAt_13 rfl 1 rfl ?_
    refine xb_qald3 hC dX4_rowAt_14 hf (fun v4 hf => ?_)
    refine xb_getR hC 2 0 xcl_2 (by decide) xw_fl_X4_190 dX4_rowAt_15 hf (fun v5 hf => ?_)
    refine xb_ifnull (tgt := 30) hC dX4_rowAt_18 (by decide) hf (fun hf => ?_) (fun hf => ?_)
    · refine xj_null hC dX4_rowAt_30 ?_
      exact xj_aret hC hr (by decide) (by decide) dX4_rowAt_31 (Option.some.inj hf) rfl
    · refine xj_aload_n hC dX4_rowAt_21 rfl 0 rfl ?_
      refine xb_getR hC 4 2 xcl_4 (by decide) xw_fl_X4_23 dX4_rowAt_22 hf (fun v6 hf => ?_)
      refine xj_iload_n hC dX4_rowAt_25 rfl 1 rfl ?_
      refine xb_qald3 hC dX4_rowAt_26 hf (fun v7 hf => ?_)
      refine xj_goto (tgt := 31) hC dX4_rowAt_27 (by decide) ?_
      exact xj_aret hC hr (by decide) (by decide) dX4_rowAt_31 (Option.some.inj hf) rfl
def fX4_put (w : xmW) (th : (Option Nat)) (a1 : Int32) (a2 : Int32) (a3 : Int32) : Option (Int32 × xmW) := ((xmob w th 4).bind fun _ => ((fX4_rowAt w (th) (a1)).bind fun v2 => (if v2 = none then (xmb2 (fX4_refused w (th) ((-1 : Int32))) fun v4 w5 => (some (v4, w5))) else ((fX2_hasPlace w (v2) (a2)).bind fun v7 => (if v7 = 0 then (xmb2 (fX4_refused w (th) ((-1 : Int32))) fun v9 w10 => (some (v9, w10))) else ((xmgR w v2 2 0).bind fun v11 => ((fX1_hasCode w (v11) (a3)).bind fun v13 => (if v13 = 0 then (xmb2 (fX4_refused w (th) ((-1 : Int32))) fun v22 w23 => (some (v22, w23))) else ((fX2_codeAt w (v2) (a2)).bind fun v15 => ((fX2_setCode w (v2) (a2) (a3)).bind fun w17 => (xmb2 (fX4_answered w17 (th) (v15)) fun v19 w20 => (some (v19, w20)))))))))))))
set_option maxHeartbeats 4000000 in
set_option maxRecDepth 100000 in
theorem mX4_put (l : Launch) (D : va_G) (ks : Nat → ClassId) (b : Nat) {w : xmW} {th : (Option Nat)} {a1 : Int32} {a2 : Int32} {a3 : Int32} {y : Int32} {wz : xmW} (hf : fX4_put w th a1 a2 a3 = some (y, wz)) : xmM l yX4_put (Cond.code yX4_put cX4_put 6 (some (FieldType.int)) :: xmTs) 2 43 0 0 D ks b w [xR th, xI a1, xI a2, xI a3] (some (xI y)) wz := by
  unfold fX4_put at hf
  obtain ⟨_, _, hf⟩ := xm_bind hf
  refine xmM.of (own := RX4) (lv0 := [(0, xR th), (1, xI a1), (2, xI a2), (3, xI a3)]) (by decide) rfl (Nat.le_of_ble_eq_true rfl) rfl ?_
  intro p e s m args below meth c hC hr hnm
  refine xj_aload_n hC dX4_put_0 rfl 0 rfl ?_
  refine xj_iload_n hC dX4_put_1 rfl 1 rfl ?_
  obtain ⟨v2, hc1, hf⟩ := xm_bind hf
  obtain ⟨_, hob, _⟩ := xm_bind hc1
  refine xj_retr (xr_V hC (mX4_rowAt l D ks b hc1) hob rfl xw_cod_X4_rowAt xw_ini_X4 xw_ins_X4_rowAt xw_sel_X4_rowAt xw_ml_X4_183 xds_X4_rowAt ⟨Nat.le_of_ble_eq_true rfl, Nat.le_of_ble_eq_true rfl⟩ rfl rfl (Nat.le_of_ble_eq_true rfl) ⟨Nat.le_of_ble_eq_true rfl, Nat.le_of_ble_eq_true rfl⟩ dX4_put_2) ?_
  refine xj_astore (lv' := [(4, xR v2), (0, xR th), (1, xI a1), (2, xI a2), (3, xI a3)]) hC dX4_put_5 (by decide) rfl ?_
  refine xj_aload hC dX4_put_7 0 rfl ?_
  refine xb_ifnull (tgt := 33) hC dX4_put_9 (by decide) hf (fun hf => ?_) (fun hf => ?_)
  · refine xj_aload_n hC dX4_put_33 rfl 1 rfl ?_
    refine xj_iconst (v := -1) hC dX4_put_34 (by decide) ?_
    obtain ⟨v4, w5, hc3, hf⟩ := xm_b2 hf
    obtain ⟨_, hob, _⟩ := xm_bind hc3
    refine xj_reti (xr_V hC (mX4_refused l D ks b hc3) hob rfl xw_cod_X4_refused xw_ini_X4 xw_ins_X4_refused xw_sel_X4_refused xw_ml_X4_66 xds_X4_refused ⟨Nat.le_of_ble_eq_true rfl, Nat.le_of_ble_eq_true rfl⟩ rfl rfl (Nat.le_of_ble_eq_true rfl) ⟨Nat.le_of_ble_eq_true rfl, Nat.le_of_ble_eq_true rfl⟩ dX4_put_35) ?_
    obtain ⟨he, hw⟩ := Prod.mk.inj (Option.some.inj hf)
    exact xj_iret hC hr (by decide) (by decide) dX4_put_38 he hw
  · refine xj_aload hC dX4_put_12 0 rfl ?_
    refine xj_iload_n hC dX4_put_14 rfl 3 rfl ?_
    obtain ⟨v7, hc6, hf⟩ := xm_bind hf
    obtain ⟨_, hob, _⟩ := xm_bind hc6
    refine xj_reti (xr_V hC (mX2_hasPlace l D ks b hc6) hob rfl xw_cod_X2_hasPlace xw_ini_X2 xw_ins_X2_hasPlace xw_sel_X2_hasPlace xw_ml_X4_187 xds_X2_hasPlace ⟨Nat.le_of_ble_eq_true rfl, Nat.le_of_ble_eq_true rfl⟩ rfl rfl (Nat.le_of_ble_eq_true rfl) ⟨Nat.le_of_ble_eq_true rfl, Nat.le_of_ble_eq_true rfl⟩ dX4_put_15) ?_
    refine xb_if_eq (tgt := 33) hC dX4_put_18 (by decide) hf (fun hf => ?_) (fun hf => ?_)
    · refine xj_aload_n hC dX4_put_33 rfl 1 rfl ?_
      refine xj_iconst (v := -1) hC dX4_put_34 (by decide) ?_
      obtain ⟨v9, w10, hc8, hf⟩ := xm_b2 hf
      obtain ⟨_, hob, _⟩ := xm_bind hc8
      refine xj_reti (xr_V hC (mX4_refused l D ks b hc8) hob rfl xw_cod_X4_refused xw_ini_X4 xw_ins_X4_refused xw_sel_X4_refused xw_ml_X4_66 xds_X4_refused ⟨Nat.le_of_ble_eq_true rfl, Nat.le_of_ble_eq_true rfl⟩ rfl rfl (Nat.le_of_ble_eq_true rfl) ⟨Nat.le_of_ble_eq_true rfl, Nat.le_of_ble_eq_true rfl⟩ dX4_put_35) ?_
      obtain ⟨he, hw⟩ := Prod.mk.inj (Option.some.inj hf)
      exact xj_iret hC hr (by decide) (by decide) dX4_put_38 he hw
    · refine xj_aload hC dX4_put_21 0 rfl ?_
      refine xb_getR hC 2 0 xcl_2 (by decide) xw_fl_X4_190 dX4_put_23 hf (fun v11 hf => ?_)
      refine xj_iload_n hC dX4_put_26 rfl 4 rfl ?_
      obtain ⟨v13, hc12, hf⟩ := xm_bind hf
      obtain ⟨_, hob, _⟩ := xm_bind hc12
      refine xj_reti (xr_V hC (mX1_hasCode l D ks b hc12) hob rfl xw_cod_X1_hasCode xw_ini_X1 xw_ins_X1_hasCode xw_sel_X1_hasCode xw_ml_X4_107 xds_X1_hasCode ⟨Nat.le_of_ble_eq_true rfl, Nat.le_of_ble_eq_true rfl⟩ rfl rfl (Nat.le_of_ble_eq_true rfl) ⟨Nat.le_of_ble_eq_true rfl, Nat.le_of_ble_eq_true rfl⟩ dX4_put_27) ?_
      refine xb_if_ne (tgt := 39) hC dX4_put_30 (by decide) hf (fun hf => ?_) (fun hf => ?_)
      · refine xj_aload hC dX4_put_39 0 rfl ?_
        refine xj_iload_n hC dX4_put_41 rfl 3 rfl ?_
        obtain ⟨v15, hc14, hf⟩ := xm_bind hf
        obtain ⟨_, hob, _⟩ := xm_bind hc14
        refine xj_reti (xr_V hC (mX2_codeAt l D ks b hc14) hob rfl xw_cod_X2_codeAt xw_ini_X2 xw_ins_X2_codeAt xw_sel_X2_codeAt xw_ml_X4_193 xds_X2_codeAt ⟨Nat.le_of_ble_eq_true rfl, Nat.le_of_ble_eq_true rfl⟩ rfl rfl (Nat.le_of_ble_eq_true rfl) ⟨Nat.le_of_ble_eq_true rfl, Nat.le_of_ble_eq_true rfl⟩ dX4_put_42) ?_
        refine xj_istore (lv' := [(5, xI v15), (4, xR v2), (0, xR th), (1, xI a1), (2, xI a2), (3, xI a3)]) hC dX4_put_45 (by decide) rfl ?_
        refine xj_aload hC dX4_put_47 1 rfl ?_
        refine xj_iload_n hC dX4_put_49 rfl 4 rfl ?_
        refine xj_iload_n hC dX4_put_50 rfl 5 rfl ?_
        obtain ⟨w17, hc16, hf⟩ := xm_bind hf
        obtain ⟨_, hob, _⟩ := xm_bind hc16
        refine xj_retv (xr_V hC (mX2_setCode l D ks b hc16) hob rfl xw_cod_X2_setCode xw_ini_X2 xw_ins_X2_setCode xw_sel_X2_setCode xw_ml_X4_196 xds_X2_setCode ⟨Nat.le_of_ble_eq_true rfl, Nat.le_of_ble_eq_true rfl⟩ rfl rfl (Nat.le_of_ble_eq_true rfl) ⟨Nat.le_of_ble_eq_true rfl, Nat.le_of_ble_eq_true rfl⟩ dX4_put_51) ?_
        refine xj_aload_n hC dX4_put_54 rfl 2 rfl ?_
        refine xj_iload hC dX4_put_55 0 rfl ?_
        obtain ⟨v19, w20, hc18, hf⟩ := xm_b2 hf
        obtain ⟨_, hob, _⟩ := xm_bind hc18
        refine xj_reti (xr_V hC (mX4_answered l D ks b hc18) hob rfl xw_cod_X4_answered xw_ini_X4 xw_ins_X4_answered xw_sel_X4_answered xw_ml_X4_81 xds_X4_answered ⟨Nat.le_of_ble_eq_true rfl, Nat.le_of_ble_eq_true rfl⟩ rfl rfl (Nat.le_of_ble_eq_true rfl) ⟨Nat.le_of_ble_eq_true rfl, Nat.le_of_ble_eq_true rfl⟩ dX4_put_57) ?_
        obtain ⟨he, hw⟩ := Prod.mk.inj (Option.some.inj hf)
        exact xj_iret hC hr (by decide) (by decide) dX4_put_60 he hw
      · refine xj_aload_n hC dX4_put_33 rfl 1 rfl ?_
        refine xj_iconst (v := -1) hC dX4_put_34 (by decide) ?_
        obtain ⟨v22, w23, hc21, hf⟩ := xm_b2 hf
        obtain ⟨_, hob, _⟩ := xm_bind hc21
        refine xj_reti (xr_V hC (mX4_refused l D ks b hc21) hob rfl xw_cod_X4_refused xw_ini_X4 xw_ins_X4_refused xw_sel_X4_refused xw_ml_X4_66 xds_X4_refused ⟨Nat.le_of_ble_eq_true rfl, Nat.le_of_ble_eq_true rfl⟩ rfl rfl (Nat.le_of_ble_eq_true rfl) ⟨Nat.le_of_ble_eq_true rfl, Nat.le_of_ble_eq_true rfl⟩ dX4_put_35) ?_
        obtain ⟨he, hw⟩ := Prod.mk.inj (Option.some.inj hf)
        exact xj_iret hC hr (by decide) (by decide) dX4_put_38 he hw
def fX4_at (w : xmW) (th : (Option Nat)) (a1 : Int32) (a2 : Int32) : Option (Int32 × xmW) := ((xmob w th 4).bind fun _ => ((fX4_rowAt w (th) (a1)).bind fun v2 => (if v2 = none then (xmb2 (fX4_refused w (th) ((-1 : Int32))) fun v4 w5 => (some (v4, w5))) else ((fX2_hasPlace w (v2) (a2)).bind fun v7 => (if v7 = 0 then (xmb2 (fX4_refused w (th) ((-1 : Int32))) fun v14 w15 => (some (v14, w15))) else ((fX2_codeAt w (v2) (a2)).bind fun v9 => (xmb2 (fX4_answered w (th) (v9)) fun v11 w12 => (some (v11, w12)))))))))
set_option maxHeartbeats 4000000 in
set_option maxRecDepth 100000 in
theorem mX4_at (l : Launch) (D : va_G) (ks : Nat → ClassId) (b : Nat) {w : xmW} {th : (Option Nat)} {a1 : Int32} {a2 : Int32} {y : Int32} {wz : xmW} (hf : fX4_at w th a1 a2 = some (y, wz)) : xmM l yX4_at (Cond.code yX4_at cX4_at 4 (some (FieldType.int)) :: xmTs) 2 43 0 0 D ks b w [xR th, xI a1, xI a2] (some (xI y)) wz := by
  unfold fX4_at at hf
  obtain ⟨_, _, hf⟩ := xm_bind hf
  refine xmM.of (own := RX4) (lv0 := [(0, xR th), (1, xI a1), (2, xI a2)]) (by decide) rfl (Nat.le_of_ble_eq_true rfl) rfl ?_
  intro p e s m args below meth c hC hr hnm
  refine xj_aload_n hC dX4_at_0 rfl 0 rfl ?_
  refine xj_iload_n hC dX4_at_1 rfl 1 rfl ?_
  obtain ⟨v2, hc1, hf⟩ := xm_bind hf
  obtain ⟨_, hob, _⟩ := xm_bind hc1
  refine xj_retr (xr_V hC (mX4_rowAt l D ks b hc1) hob rfl xw_cod_X4_rowAt xw_ini_X4 xw_ins_X4_rowAt xw_sel_X4_rowAt xw_ml_X4_183 xds_X4_rowAt ⟨Nat.le_of_ble_eq_true rfl, Nat.le_of_ble_eq_true rfl⟩ rfl rfl (Nat.le_of_ble_eq_true rfl) ⟨Nat.le_of_ble_eq_true rfl, Nat.le_of_ble_eq_true rfl⟩ dX4_at_2) ?_
  refine xj_astore_n (lv' := [(3, xR v2), (0, xR th), (1, xI a1), (2, xI a2)]) hC dX4_at_5 rfl (by decide) rfl ?_
  refine xj_aload_n hC dX4_at_6 rfl 0 rfl ?_
  refine xb_ifnull (tgt := 18) hC dX4_at_7 (by decide) hf (fun hf => ?_) (fun hf => ?_)
  · refine xj_aload_n hC dX4_at_18 rfl 1 rfl ?_
    refine xj_iconst (v := -1) hC dX4_at_19 (by decide) ?_
    obtain ⟨v4, w5, hc3, hf⟩ := xm_b2 hf
    obtain ⟨_, hob, _⟩ := xm_bind hc3
    refine xj_reti (xr_V hC (mX4_refused l D ks b hc3) hob rfl xw_cod_X4_refused xw_ini_X4 xw_ins_X4_refused xw_sel_X4_refused xw_ml_X4_66 xds_X4_refused ⟨Nat.le_of_ble_eq_true rfl, Nat.le_of_ble_eq_true rfl⟩ rfl rfl (Nat.le_of_ble_eq_true rfl) ⟨Nat.le_of_ble_eq_true rfl, Nat.le_of_ble_eq_true rfl⟩ dX4_at_20) ?_
    obtain ⟨he, hw⟩ := Prod.mk.inj (Option.some.inj hf)
    exact xj_iret hC hr (by decide) (by decide) dX4_at_23 he hw
  · refine xj_aload_n hC dX4_at_10 rfl 0 rfl ?_
    refine xj_iload_n hC dX4_at_11 rfl 3 rfl ?_
    obtain ⟨v7, hc6, hf⟩ := xm_bind hf
    obtain ⟨_, hob, _⟩ := xm_bind hc6
    refine xj_reti (xr_V hC (mX2_hasPlace l D ks b hc6) hob rfl xw_cod_X2_hasPlace xw_ini_X2 xw_ins_X2_hasPlace xw_sel_X2_hasPlace xw_ml_X4_187 xds_X2_hasPlace ⟨Nat.le_of_ble_eq_true rfl, Nat.le_of_ble_eq_true rfl⟩ rfl rfl (Nat.le_of_ble_eq_true rfl) ⟨Nat.le_of_ble_eq_true rfl, Nat.le_of_ble_eq_true rfl⟩ dX4_at_12) ?_
    refine xb_if_ne (tgt := 24) hC dX4_at_15 (by decide) hf (fun hf => ?_) (fun hf => ?_)
    · refine xj_aload_n hC dX4_at_24 rfl 1 rfl ?_
      refine xj_aload_n hC dX4_at_25 rfl 0 rfl ?_
      refine xj_iload_n hC dX4_at_26 rfl 3 rfl ?_
      obtain ⟨v9, hc8, hf⟩ := xm_bind hf
      obtain ⟨_, hob, _⟩ := xm_bind hc8
      refine xj_reti (xr_V hC (mX2_codeAt l D ks b hc8) hob rfl xw_cod_X2_codeAt xw_ini_X2 xw_ins_X2_codeAt xw_sel_X2_codeAt xw_ml_X4_193 xds_X2_codeAt ⟨Nat.le_of_ble_eq_true rfl, Nat.le_of_ble_eq_true rfl⟩ rfl rfl (Nat.le_of_ble_eq_true rfl) ⟨Nat.le_of_ble_eq_true rfl, Nat.le_of_ble_eq_true rfl⟩ dX4_at_27) ?_
      obtain ⟨v11, w12, hc10, hf⟩ := xm_b2 hf
      obtain ⟨_, hob, _⟩ := xm_bind hc10
      refine xj_reti (xr_V hC (mX4_answered l D ks b hc10) hob rfl xw_cod_X4_answered xw_ini_X4 xw_ins_X4_answered xw_sel_X4_answered xw_ml_X4_81 xds_X4_answered ⟨Nat.le_of_ble_eq_true rfl, Nat.le_of_ble_eq_true rfl⟩ rfl rfl (Nat.le_of_ble_eq_true rfl) ⟨Nat.le_of_ble_eq_true rfl, Nat.le_of_ble_eq_true rfl⟩ dX4_at_30) ?_
      obtain ⟨he, hw⟩ := Prod.mk.inj (Option.some.inj hf)
      exact xj_iret hC hr (by decide) (by decide) dX4_at_33 he hw
    · refine xj_aload_n hC dX4_at_18 rfl 1 rfl ?_
      refine xj_iconst (v := -1) hC dX4_at_19 (by decide) ?_
      obtain ⟨v14, w15, hc13, hf⟩ := xm_b2 hf
      obtain ⟨_, hob, _⟩ := xm_bind hc13
      refine xj_reti (xr_V hC (mX4_refused l D ks b hc13) hob rfl xw_cod_X4_refused xw_ini_X4 xw_ins_X4_refused xw_sel_X4_refused xw_ml_X4_66 xds_X4_refused ⟨Nat.le_of_ble_eq_true rfl, Nat.le_of_ble_eq_true rfl⟩ rfl rfl (Nat.le_of_ble_eq_true rfl) ⟨Nat.le_of_ble_eq_true rfl, Nat.le_of_ble_eq_true rfl⟩ dX4_at_20) ?_
      obtain ⟨he, hw⟩ := Prod.mk.inj (Option.some.inj hf)
      exact xj_iret hC hr (by decide) (by decide) dX4_at_23 he hw
def fX4_packed (w : xmW) (th : (Option Nat)) (a1 : Int32) (a2 : Int32) : Option (Int32 × xmW) := ((xmob w th 4).bind fun _ => ((fX4_rowAt w (th) (a1)).bind fun v2 => (if v2 = none then (xmb2 (fX4_refused w (th) ((-1 : Int32))) fun v4 w5 => (some (v4, w5))) else ((fX2_byteCount w (v2) ).bind fun v7 => ((fX4_within w (a2) ((-1 : Int32)) ((v7 - (1 : Int32)))).bind fun v9 => (if v9 = 0 then (xmb2 (fX4_refused w (th) ((-1 : Int32))) fun v21 w22 => (some (v21, w22))) else (if a2 = (-1 : Int32) then ((fX2_byteCount w (v2) ).bind fun v16 => (xmb2 (fX4_answered w (th) (v16)) fun v18 w19 => (some (v18, w19)))) else ((fX2_byteAt w (v2) (a2)).bind fun v11 => (xmb2 (fX4_answered w (th) (v11)) fun v13 w14 => (some (v13, w14)))))))))))
set_option maxHeartbeats 4000000 in
set_option maxRecDepth 100000 in
theorem mX4_packed (l : Launch) (D : va_G) (ks : Nat → ClassId) (b : Nat) {w : xmW} {th : (Option Nat)} {a1 : Int32} {a2 : Int32} {y : Int32} {wz : xmW} (hf : fX4_packed w th a1 a2 = some (y, wz)) : xmM l yX4_packed (Cond.code yX4_packed cX4_packed 4 (some (FieldType.int)) :: xmTs) 2 45 0 0 D ks b w [xR th, xI a1, xI a2] (some (xI y)) wz := by
  unfold fX4_packed at hf
  obtain ⟨_, _, hf⟩ := xm_bind hf
  refine xmM.of (own := RX4) (lv0 := [(0, xR th), (1, xI a1), (2, xI a2)]) (by decide) rfl (Nat.le_of_ble_eq_true rfl) rfl ?_
  intro p e s m args below meth c hC hr hnm
  refine xj_aload_n hC dX4_packed_0 rfl 0 rfl ?_
  refine xj_iload_n hC dX4_packed_1 rfl 1 rfl ?_
  obtain ⟨v2, hc1, hf⟩ := xm_bind hf
  obtain ⟨_, hob, _⟩ := xm_bind hc1
  refine xj_retr (xr_V hC (mX4_rowAt l D ks b hc1) hob rfl xw_cod_X4_rowAt xw_ini_X4 xw_ins_X4_rowAt xw_sel_X4_rowAt xw_ml_X4_183 xds_X4_rowAt ⟨Nat.le_of_ble_eq_true rfl, Nat.le_of_ble_eq_true rfl⟩ rfl rfl (Nat.le_of_ble_eq_true rfl) ⟨Nat.le_of_ble_eq_true rfl, Nat.le_of_ble_eq_true rfl⟩ dX4_packed_2) ?_
  refine xj_astore_n (lv' := [(3, xR v2), (0, xR th), (1, xI a1), (2, xI a2)]) hC dX4_packed_5 rfl (by decide) rfl ?_
  refine xj_aload_n hC dX4_packed_6 rfl 0 rfl ?_
  refine xb_ifnull (tgt := 24) hC dX4_packed_7 (by decide) hf (fun hf => ?_) (fun hf => ?_)
  · refine xj_aload_n hC dX4_packed_24 rfl 1 rfl ?_
    refine xj_iconst (v := -1) hC dX4_packed_25 (by decide) ?_
    obtain ⟨v4, w5, hc3, hf⟩ := xm_b2 hf
    obtain ⟨_, hob, _⟩ := xm_bind hc3
    refine xj_reti (xr_V hC (mX4_refused l D ks b hc3) hob rfl xw_cod_X4_refused xw_ini_X4 xw_ins_X4_refused xw_sel_X4_refused xw_ml_X4_66 xds_X4_refused ⟨Nat.le_of_ble_eq_true rfl, Nat.le_of_ble_eq_true rfl⟩ rfl rfl (Nat.le_of_ble_eq_true rfl) ⟨Nat.le_of_ble_eq_true rfl, Nat.le_of_ble_eq_true rfl⟩ dX4_packed_26) ?_
    obtain ⟨he, hw⟩ := Prod.mk.inj (Option.some.inj hf)
    exact xj_iret hC hr (by decide) (by decide) dX4_packed_29 he hw
  · refine xj_iload_n hC dX4_packed_10 rfl 3 rfl ?_
    refine xj_iconst (v := -1) hC dX4_packed_11 (by decide) ?_
    refine xj_aload_n hC dX4_packed_12 rfl 0 rfl ?_
    obtain ⟨v7, hc6, hf⟩ := xm_bind hf
    obtain ⟨_, hob, _⟩ := xm_bind hc6
    refine xj_reti (xr_V hC (mX2_byteCount l D ks b hc6) hob rfl xw_cod_X2_byteCount xw_ini_X2 xw_ins_X2_byteCount xw_sel_X2_byteCount xw_ml_X4_200 xds_X2_byteCount ⟨Nat.le_of_ble_eq_true rfl, Nat.le_of_ble_eq_true rfl⟩ rfl rfl (Nat.le_of_ble_eq_true rfl) ⟨Nat.le_of_ble_eq_true rfl, Nat.le_of_ble_eq_true rfl⟩ dX4_packed_13) ?_
    refine xj_iconst (v := 1) hC dX4_packed_16 (by decide) ?_
    refine xj_isub hC dX4_packed_17 ?_
    obtain ⟨v9, hc8, hf⟩ := xm_bind hf
    refine xj_reti (xr_S hC (mX4_within l D ks b hc8) xw_cod_X4_within xw_ini_X4 xw_sta_X4_within xw_ml_X4_62 xds_X4_within ⟨Nat.le_of_ble_eq_true rfl, Nat.le_of_ble_eq_true rfl⟩ rfl rfl (Nat.le_of_ble_eq_true rfl) ⟨Nat.le_of_ble_eq_true rfl, Nat.le_of_ble_eq_true rfl⟩ dX4_packed_18) ?_
    refine xb_if_ne (tgt := 30) hC dX4_packed_21 (by decide) hf (fun hf => ?_) (fun hf => ?_)
    · refine xj_aload_n hC dX4_packed_30 rfl 1 rfl ?_
      refine xj_iload_n hC dX4_packed_31 rfl 3 rfl ?_
      refine xj_iconst (v := -1) hC dX4_packed_32 (by decide) ?_
      refine xb_ic_ne (tgt := 43) hC dX4_packed_33 (by decide) hf (fun hf => ?_) (fun hf => ?_)
      · refine xj_aload_n hC dX4_packed_43 rfl 0 rfl ?_
        refine xj_iload_n hC dX4_packed_44 rfl 3 rfl ?_
        obtain ⟨v11, hc10, hf⟩ := xm_bind hf
        obtain ⟨_, hob, _⟩ := xm_bind hc10
        refine xj_reti (xr_V hC (mX2_byteAt l D ks b hc10) hob rfl xw_cod_X2_byteAt xw_ini_X2 xw_ins_X2_byteAt xw_sel_X2_byteAt xw_ml_X4_203 xds_X2_byteAt ⟨Nat.le_of_ble_eq_true rfl, Nat.le_of_ble_eq_true rfl⟩ rfl rfl (Nat.le_of_ble_eq_true rfl) ⟨Nat.le_of_ble_eq_true rfl, Nat.le_of_ble_eq_true rfl⟩ dX4_packed_45) ?_
        obtain ⟨v13, w14, hc12, hf⟩ := xm_b2 hf
        obtain ⟨_, hob, _⟩ := xm_bind hc12
        refine xj_reti (xr_V hC (mX4_answered l D ks b hc12) hob rfl xw_cod_X4_answered xw_ini_X4 xw_ins_X4_answered xw_sel_X4_answered xw_ml_X4_81 xds_X4_answered ⟨Nat.le_of_ble_eq_true rfl, Nat.le_of_ble_eq_true rfl⟩ rfl rfl (Nat.le_of_ble_eq_true rfl) ⟨Nat.le_of_ble_eq_true rfl, Nat.le_of_ble_eq_true rfl⟩ dX4_packed_48) ?_
        obtain ⟨he, hw⟩ := Prod.mk.inj (Option.some.inj hf)
        exact xj_iret hC hr (by decide) (by decide) dX4_packed_51 he hw
      · refine xj_aload_n hC dX4_packed_36 rfl 0 rfl ?_
        obtain ⟨v16, hc15, hf⟩ := xm_bind hf
        obtain ⟨_, hob, _⟩ := xm_bind hc15
        refine xj_reti (xr_V hC (mX2_byteCount l D ks b hc15) hob rfl xw_cod_X2_byteCount xw_ini_X2 xw_ins_X2_byteCount xw_sel_X2_byteCount xw_ml_X4_200 xds_X2_byteCount ⟨Nat.le_of_ble_eq_true rfl, Nat.le_of_ble_eq_true rfl⟩ rfl rfl (Nat.le_of_ble_eq_true rfl) ⟨Nat.le_of_ble_eq_true rfl, Nat.le_of_ble_eq_true rfl⟩ dX4_packed_37) ?_
        refine xj_goto (tgt := 48) hC dX4_packed_40 (by decide) ?_
        obtain ⟨v18, w19, hc17, hf⟩ := xm_b2 hf
        obtain ⟨_, hob, _⟩ := xm_bind hc17
        refine xj_reti (xr_V hC (mX4_answered l D ks b hc17) hob rfl xw_cod_X4_answered xw_ini_X4 xw_ins_X4_answered xw_sel_X4_answered xw_ml_X4_81 xds_X4_answered ⟨Nat.le_of_ble_eq_true rfl, Nat.le_of_ble_eq_true rfl⟩ rfl rfl (Nat.le_of_ble_eq_true rfl) ⟨Nat.le_of_ble_eq_true rfl, Nat.le_of_ble_eq_true rfl⟩ dX4_packed_48) ?_
        obtain ⟨he, hw⟩ := Prod.mk.inj (Option.some.inj hf)
        exact xj_iret hC hr (by decide) (by decide) dX4_packed_51 he hw
    · refine xj_aload_n hC dX4_packed_24 rfl 1 rfl ?_
      refine xj_iconst (v := -1) hC dX4_packed_25 (by decide) ?_
      obtain ⟨v21, w22, hc20, hf⟩ := xm_b2 hf
      obtain ⟨_, hob, _⟩ := xm_bind hc20
      refine xj_reti (xr_V hC (mX4_refused l D ks b hc20) hob rfl xw_cod_X4_refused xw_ini_X4 xw_ins_X4_refused xw_sel_X4_refused xw_ml_X4_66 xds_X4_refused ⟨Nat.le_of_ble_eq_true rfl, Nat.le_of_ble_eq_true rfl⟩ rfl rfl (Nat.le_of_ble_eq_true rfl) ⟨Nat.le_of_ble_eq_true rfl, Nat.le_of_ble_eq_true rfl⟩ dX4_packed_26) ?_
      obtain ⟨he, hw⟩ := Prod.mk.inj (Option.some.inj hf)
      exact xj_iret hC hr (by decide) (by decide) dX4_packed_29 he hw
def fX4_quantise_L163 : Nat → xmW → (Option Nat) → (Option Nat) → Int32 → Option (Int32 × xmW)
  | 0, _, _, _, _ => none
  | n + 1, w, p0, p7, p8 => ((xmgI w p7 2 1).bind fun v50 => (if v50 ≤ p8 then (xmb2 (fX4_settled w (p0) ((1 : Int32))) fun v52 w53 => (some (v52, w53))) else ((xmgR w p0 4 3).bind fun v54 => ((xmlen w v54 0).bind fun v55 => (if v55 ≤ p8 then (xmb2 (fX4_settled w (p0) ((1 : Int32))) fun v57 w58 => (some (v57, w58))) else ((xmgR w p0 4 3).bind fun v59 => ((xmild w v59 0 p8).bind fun v60 => ((fX2_setCode w (p7) (p8) (v60)).bind fun w62 => (fX4_quantise_L163 n w62 (p0) (p7) ((p8 + (1 : Int32))) )))))))))
set_option maxHeartbeats 4000000 in
set_option maxRecDepth 100000 in
theorem lX4_quantise_L163 {p : Program} {l : Launch} {e : Env} {s : State} {m : MethodId} {args : Array Value} {below : List Frame} {meth : Method} {c : Code} {D : va_G} {ks : Nat → ClassId} {b : Nat} (hC : xmC p s m args meth c D ks b 9 cX4_quantise RX4) (hr : meth.sig.returnType = (some (FieldType.int))) {y : Int32} {wz : xmW} : ∀ (n : Nat) (w : xmW) (p0 : (Option Nat)) (p7 : (Option Nat)) (p8 : Int32), fX4_quantise_L163 n w p0 p7 p8 = some (y, wz) → xmJ p l e ({ frames := 4, cells := 0, slots := 0, locals := 110 } : Room) s m args below meth c D ks b 9 (MQ below (xmQ D ks b (some (xI y)) wz) args s 0 0 (xmA b)) w 0 0 163 [(0, xR p0), (7, xR p7), (8, xI p8)] [] := by
  intro n
  induction n with
  | zero => intro w p0 p7 p8 hf; simp [fX4_quantise_L163] at hf
  | succ n ih =>
    intro w p0 p7 p8 hf
    rw [fX4_quantise_L163] at hf
    refine xj_iload hC dX4_quantise_163 2 rfl ?_
    refine xj_aload hC dX4_quantise_165 1 rfl ?_
    refine xb_getI hC 2 1 xcl_2 (by decide) xw_fl_X4_206 dX4_quantise_167 hf (fun v50 hf => ?_)
    refine xb_ic_ge (tgt := 203) hC dX4_quantise_170 (by decide) hf (fun hf => ?_) (fun hf => ?_)
    · refine xj_aload_n hC dX4_quantise_203 rfl 0 rfl ?_
      refine xj_iconst (v := 1) hC dX4_quantise_204 (by decide) ?_
      obtain ⟨v52, w53, hc51, hf⟩ := xm_b2 hf
      obtain ⟨_, hob, _⟩ := xm_bind hc51
      refine xj_reti (xr_V hC (mX4_settled l D ks b hc51) hob rfl xw_cod_X4_settled xw_ini_X4 xw_ins_X4_settled xw_sel_X4_settled xw_ml_X4_145 xds_X4_settled ⟨Nat.le_of_ble_eq_true rfl, Nat.le_of_ble_eq_true rfl⟩ rfl rfl (Nat.le_of_ble_eq_true rfl) ⟨Nat.le_of_ble_eq_true rfl, Nat.le_of_ble_eq_true rfl⟩ dX4_quantise_205) ?_
      obtain ⟨he, hw⟩ := Prod.mk.inj (Option.some.inj hf)
      exact xj_iret hC hr (by decide) (by decide) dX4_quantise_208 he hw
    · refine xj_iload hC dX4_quantise_173 2 rfl ?_
      refine xj_aload_n hC dX4_quantise_175 rfl 0 rfl ?_
      refine xb_getR hC 4 3 xcl_4 (by decide) xw_fl_X4_27 dX4_quantise_176 hf (fun v54 hf => ?_)
      refine xb_alen hC dX4_quantise_179 hf (fun v55 hf => ?_)
      refine xb_ic_ge (tgt := 203) hC dX4_quantise_180 (by decide) hf (fun hf => ?_) (fun hf => ?_)
      · refine xj_aload_n hC dX4_quantise_203 rfl 0 rfl ?_
        refine xj_iconst (v := 1) hC dX4_quantise_204 (by decide) ?_
        obtain ⟨v57, w58, hc56, hf⟩ := xm_b2 hf
        obtain ⟨_, hob, _⟩ := xm_bind hc56
        refine xj_reti (xr_V hC (mX4_settled l D ks b hc56) hob rfl xw_cod_X4_settled xw_ini_X4 xw_ins_X4_settled xw_sel_X4_settled xw_ml_X4_145 xds_X4_settled ⟨Nat.le_of_ble_eq_true rfl, Nat.le_of_ble_eq_true rfl⟩ rfl rfl (Nat.le_of_ble_eq_true rfl) ⟨Nat.le_of_ble_eq_true rfl, Nat.le_of_ble_eq_true rfl⟩ dX4_quantise_205) ?_
        obtain ⟨he, hw⟩ := Prod.mk.inj (Option.some.inj hf)
        exact xj_iret hC hr (by decide) (by decide) dX4_quantise_208 he hw
      · refine xj_aload hC dX4_quantise_183 1 rfl ?_
        refine xj_iload hC dX4_quantise_185 2 rfl ?_
        refine xj_aload_n hC dX4_quantise_187 rfl 0 rfl ?_
        refine xb_getR hC 4 3 xcl_4 (by decide) xw_fl_X4_27 dX4_quantise_188 hf (fun v59 hf => ?_)
        refine xj_iload hC dX4_quantise_191 2 rfl ?_
        refine xb_iald hC dX4_quantise_193 hf (fun v60 hf => ?_)
        obtain ⟨w62, hc61, hf⟩ := xm_bind hf
        obtain ⟨_, hob, _⟩ := xm_bind hc61
        refine xj_retv (xr_V hC (mX2_setCode l D ks b hc61) hob rfl xw_cod_X2_setCode xw_ini_X2 xw_ins_X2_setCode xw_sel_X2_setCode xw_ml_X4_196 xds_X2_setCode ⟨Nat.le_of_ble_eq_true rfl, Nat.le_of_ble_eq_true rfl⟩ rfl rfl (Nat.le_of_ble_eq_true rfl) ⟨Nat.le_of_ble_eq_true rfl, Nat.le_of_ble_eq_true rfl⟩ dX4_quantise_194) ?_
        refine xj_iinc (v := (p8 + (1 : Int32))) (lv' := [(8, xI (p8 + (1 : Int32))), (0, xR p0), (7, xR p7)]) hC dX4_quantise_197 2 rfl rfl (by decide) rfl ?_
        refine xj_goto (tgt := 163) hC dX4_quantise_200 (by decide) ?_
        refine xj_lv [1, 2, 0] rfl ?_
        exact ih w62 (p0) (p7) ((p8 + (1 : Int32)))  hf
def fX4_quantise_L140 (w : xmW) (p0 : (Option Nat)) (p1 : Int32) (p5 : (Option Nat)) (p6 : (Option Nat)) : Option (Int32 × xmW) := ((xmgR w p0 4 2).bind fun v45 => ((xmqld w v45 3 p1).bind fun v46 => ((xmgI w p5 2 1).bind fun v47 => ((fX2_become w (v46) (p6) (v47)).bind fun w49 => (fX4_quantise_L163 xmN w49 (p0) (v46) ((0 : Int32)) )))))
set_option maxHeartbeats 4000000 in
set_option maxRecDepth 100000 in
theorem lX4_quantise_L140 {p : Program} {l : Launch} {e : Env} {s : State} {m : MethodId} {args : Array Value} {below : List Frame} {meth : Method} {c : Code} {D : va_G} {ks : Nat → ClassId} {b : Nat} (hC : xmC p s m args meth c D ks b 9 cX4_quantise RX4) (hr : meth.sig.returnType = (some (FieldType.int))) {y : Int32} {wz : xmW} (w : xmW) (p0 : (Option Nat)) (p1 : Int32) (p5 : (Option Nat)) (p6 : (Option Nat)) (hf : fX4_quantise_L140 w p0 p1 p5 p6 = some (y, wz)) : xmJ p l e ({ frames := 4, cells := 0, slots := 0, locals := 110 } : Room) s m args below meth c D ks b 9 (MQ below (xmQ D ks b (some (xI y)) wz) args s 0 0 (xmA b)) w 0 0 140 [(0, xR p0), (1, xI p1), (5, xR p5), (6, xR p6)] [] := by
  unfold fX4_quantise_L140 at hf
  refine xj_aload_n hC dX4_quantise_140 rfl 0 rfl ?_
  refine xb_getR hC 4 2 xcl_4 (by decide) xw_fl_X4_23 dX4_quantise_141 hf (fun v45 hf => ?_)
  refine xj_iload_n hC dX4_quantise_144 rfl 1 rfl ?_
  refine xb_qald3 hC dX4_quantise_145 hf (fun v46 hf => ?_)
  refine xj_astore (lv' := [(7, xR v46), (0, xR p0), (1, xI p1), (5, xR p5), (6, xR p6)]) hC dX4_quantise_146 (by decide) rfl ?_
  refine xj_aload hC dX4_quantise_148 0 rfl ?_
  refine xj_aload hC dX4_quantise_150 4 rfl ?_
  refine xj_aload hC dX4_quantise_152 3 rfl ?_
  refine xb_getI hC 2 1 xcl_2 (by decide) xw_fl_X4_206 dX4_quantise_154 hf (fun v47 hf => ?_)
  obtain ⟨w49, hc48, hf⟩ := xm_bind hf
  obtain ⟨_, hob, _⟩ := xm_bind hc48
  refine xj_retv (xr_V hC (mX2_become l D ks b hc48) hob rfl xw_cod_X2_become xw_ini_X2 xw_ins_X2_become xw_sel_X2_become xw_ml_X4_179 xds_X2_become ⟨Nat.le_of_ble_eq_true rfl, Nat.le_of_ble_eq_true rfl⟩ rfl rfl (Nat.le_of_ble_eq_true rfl) ⟨Nat.le_of_ble_eq_true rfl, Nat.le_of_ble_eq_true rfl⟩ dX4_quantise_157) ?_
  refine xj_iconst (v := 0) hC dX4_quantise_160 (by decide) ?_
  refine xj_istore (lv' := [(8, xI (0 : Int32)), (7, xR v46), (0, xR p0), (1, xI p1), (5, xR p5), (6, xR p6)]) hC dX4_quantise_161 (by decide) rfl ?_
  refine xj_lv [2, 1, 0] rfl ?_
  exact lX4_quantise_L163 hC hr  xmN w49 (p0) (v46) ((0 : Int32))  hf
def fX4_quantise_L65 : Nat → xmW → (Option Nat) → Int32 → Int32 → (Option Nat) → (Option Nat) → Int32 → Option (Int32 × xmW)
  | 0, _, _, _, _, _, _, _ => none
  | n + 1, w, p0, p1, p4, p5, p6, p7 => ((xmgI w p5 2 1).bind fun v28 => (if v28 ≤ p7 then (fX4_quantise_L140 w (p0) (p1) (p5) (p6) ) else ((xmgR w p0 4 3).bind fun v29 => ((xmlen w v29 0).bind fun v30 => (if v30 ≤ p7 then (fX4_quantise_L140 w (p0) (p1) (p5) (p6) ) else ((xmgR w p0 4 3).bind fun v31 => ((xmgR w p0 4 4).bind fun v32 => ((xmgR w p5 2 0).bind fun v33 => ((fX2_codeAt w (p5) (p7)).bind fun v35 => (xmb2 (fX0_crossed w (v32) (v33) (v35) (p6) (p4)) fun v37 w38 => ((xmist w38 v31 0 p7 v37).bind fun w39 => ((xmgR w39 p0 4 3).bind fun v40 => ((xmild w39 v40 0 p7).bind fun v41 => (if v41 = (-4 : Int32) then (xmb2 (fX4_settled w39 (p0) ((-4 : Int32))) fun v43 w44 => (some (v43, w44))) else (fX4_quantise_L65 n w39 (p0) (p1) (p4) (p5) (p6) ((p7 + (1 : Int32))) )))))))))))))))
set_option maxHeartbeats 4000000 in
set_option maxRecDepth 100000 in
theorem lX4_quantise_L65 {p : Program} {l : Launch} {e : Env} {s : State} {m : MethodId} {args : Array Value} {below : List Frame} {meth : Method} {c : Code} {D : va_G} {ks : Nat → ClassId} {b : Nat} (hC : xmC p s m args meth c D ks b 9 cX4_quantise RX4) (hr : meth.sig.returnType = (some (FieldType.int))) {y : Int32} {wz : xmW} : ∀ (n : Nat) (w : xmW) (p0 : (Option Nat)) (p1 : Int32) (p4 : Int32) (p5 : (Option Nat)) (p6 : (Option Nat)) (p7 : Int32), fX4_quantise_L65 n w p0 p1 p4 p5 p6 p7 = some (y, wz) → xmJ p l e ({ frames := 4, cells := 0, slots := 0, locals := 110 } : Room) s m args below meth c D ks b 9 (MQ below (xmQ D ks b (some (xI y)) wz) args s 0 0 (xmA b)) w 0 0 65 [(0, xR p0), (1, xI p1), (4, xI p4), (5, xR p5), (6, xR p6), (7, xI p7)] [] := by
  intro n
  induction n with
  | zero => intro w p0 p1 p4 p5 p6 p7 hf; simp [fX4_quantise_L65] at hf
  | succ n ih =>
    intro w p0 p1 p4 p5 p6 p7 hf
    rw [fX4_quantise_L65] at hf
    refine xj_iload hC dX4_quantise_65 5 rfl ?_
    refine xj_aload hC dX4_quantise_67 3 rfl ?_
    refine xb_getI hC 2 1 xcl_2 (by decide) xw_fl_X4_206 dX4_quantise_69 hf (fun v28 hf => ?_)
    refine xb_ic_ge (tgt := 140) hC dX4_quantise_72 (by decide) hf (fun hf => ?_) (fun hf => ?_)
    · refine xj_lv [0, 1, 3, 4] rfl ?_
      exact lX4_quantise_L140 hC hr  w (p0) (p1) (p5) (p6)  hf
    · refine xj_iload hC dX4_quantise_75 5 rfl ?_
      refine xj_aload_n hC dX4_quantise_77 rfl 0 rfl ?_
      refine xb_getR hC 4 3 xcl_4 (by decide) xw_fl_X4_27 dX4_quantise_78 hf (fun v29 hf => ?_)
      refine xb_alen hC dX4_quantise_81 hf (fun v30 hf => ?_)
      refine xb_ic_ge (tgt := 140) hC dX4_quantise_82 (by decide) hf (fun hf => ?_) (fun hf => ?_)
      · refine xj_lv [0, 1, 3, 4] rfl ?_
        exact lX4_quantise_L140 hC hr  w (p0) (p1) (p5) (p6)  hf
      · refine xj_aload_n hC dX4_quantise_85 rfl 0 rfl ?_
        refine xb_getR hC 4 3 xcl_4 (by decide) xw_fl_X4_27 dX4_quantise_86 hf (fun v31 hf => ?_)
        refine xj_iload hC dX4_quantise_89 5 rfl ?_
        refine xj_aload_n hC dX4_quantise_91 rfl 0 rfl ?_
        refine xb_getR hC 4 4 xcl_4 (by decide) xw_fl_X4_34 dX4_quantise_92 hf (fun v32 hf => ?_)
        refine xj_aload hC dX4_quantise_95 3 rfl ?_
        refine xb_getR hC 2 0 xcl_2 (by decide) xw_fl_X4_190 dX4_quantise_97 hf (fun v33 hf => ?_)
        refine xj_aload hC dX4_quantise_100 3 rfl ?_
        refine xj_iload hC dX4_quantise_102 5 rfl ?_
        obtain ⟨v35, hc34, hf⟩ := xm_bind hf
        obtain ⟨_, hob, _⟩ := xm_bind hc34
        refine xj_reti (xr_V hC (mX2_codeAt l D ks b hc34) hob rfl xw_cod_X2_codeAt xw_ini_X2 xw_ins_X2_codeAt xw_sel_X2_codeAt xw_ml_X4_193 xds_X2_codeAt ⟨Nat.le_of_ble_eq_true rfl, Nat.le_of_ble_eq_true rfl⟩ rfl rfl (Nat.le_of_ble_eq_true rfl) ⟨Nat.le_of_ble_eq_true rfl, Nat.le_of_ble_eq_true rfl⟩ dX4_quantise_104) ?_
        refine xj_aload hC dX4_quantise_107 4 rfl ?_
        refine xj_iload hC dX4_quantise_109 2 rfl ?_
        obtain ⟨v37, w38, hc36, hf⟩ := xm_b2 hf
        obtain ⟨_, hob, _⟩ := xm_bind hc36
        refine xj_reti (xr_V hC (mX0_crossed l D ks b hc36) hob rfl xw_cod_X0_crossed xw_ini_X0 xw_ins_X0_crossed xw_sel_X0_crossed xw_ml_X4_148 xds_X0_crossed ⟨Nat.le_of_ble_eq_true rfl, Nat.le_of_ble_eq_true rfl⟩ rfl rfl (Nat.le_of_ble_eq_true rfl) ⟨Nat.le_of_ble_eq_true rfl, Nat.le_of_ble_eq_true rfl⟩ dX4_quantise_111) ?_
        refine xb_iast hC dX4_quantise_114 hf (fun w39 hf => ?_)
        refine xj_aload_n hC dX4_quantise_115 rfl 0 rfl ?_
        refine xb_getR hC 4 3 xcl_4 (by decide) xw_fl_X4_27 dX4_quantise_116 hf (fun v40 hf => ?_)
        refine xj_iload hC dX4_quantise_119 5 rfl ?_
        refine xb_iald hC dX4_quantise_121 hf (fun v41 hf => ?_)
        refine xj_bipush (v := -4) hC dX4_quantise_122 (by decide) ?_
        refine xb_ic_ne (tgt := 134) hC dX4_quantise_124 (by decide) hf (fun hf => ?_) (fun hf => ?_)
        · refine xj_iinc (v := (p7 + (1 : Int32))) (lv' := [(7, xI (p7 + (1 : Int32))), (0, xR p0), (1, xI p1), (4, xI p4), (5, xR p5), (6, xR p6)]) hC dX4_quantise_134 5 rfl rfl (by decide) rfl ?_
          refine xj_goto (tgt := 65) hC dX4_quantise_137 (by decide) ?_
          refine xj_lv [1, 2, 3, 4, 5, 0] rfl ?_
          exact ih w39 (p0) (p1) (p4) (p5) (p6) ((p7 + (1 : Int32)))  hf
        · refine xj_aload_n hC dX4_quantise_127 rfl 0 rfl ?_
          refine xj_bipush (v := -4) hC dX4_quantise_128 (by decide) ?_
          obtain ⟨v43, w44, hc42, hf⟩ := xm_b2 hf
          obtain ⟨_, hob, _⟩ := xm_bind hc42
          refine xj_reti (xr_V hC (mX4_settled l D ks b hc42) hob rfl xw_cod_X4_settled xw_ini_X4 xw_ins_X4_settled xw_sel_X4_settled xw_ml_X4_145 xds_X4_settled ⟨Nat.le_of_ble_eq_true rfl, Nat.le_of_ble_eq_true rfl⟩ rfl rfl (Nat.le_of_ble_eq_true rfl) ⟨Nat.le_of_ble_eq_true rfl, Nat.le_of_ble_eq_true rfl⟩ dX4_quantise_130) ?_
          obtain ⟨he, hw⟩ := Prod.mk.inj (Option.some.inj hf)
          exact xj_iret hC hr (by decide) (by decide) dX4_quantise_133 he hw
def fX4_quantise (w : xmW) (th : (Option Nat)) (a1 : Int32) (a2 : Int32) (a3 : Int32) (a4 : Int32) : Option (Int32 × xmW) := ((xmob w th 4).bind fun _ => ((fX4_rowAt w (th) (a2)).bind fun v2 => ((fX4_formatAt w (th) (a3)).bind fun v4 => ((fX4_within w (a1) ((0 : Int32)) ((3 : Int32))).bind fun v6 => (if v6 = 0 then (xmb2 (fX4_refused w (th) ((-1 : Int32))) fun v8 w9 => (some (v8, w9))) else (if a1 = a2 then (xmb2 (fX4_refused w (th) ((-1 : Int32))) fun v11 w12 => (some (v11, w12))) else (if v2 = none then (xmb2 (fX4_refused w (th) ((-1 : Int32))) fun v14 w15 => (some (v14, w15))) else (if v4 = none then (xmb2 (fX4_refused w (th) ((-1 : Int32))) fun v17 w18 => (some (v17, w18))) else ((fX4_isMode w (a4)).bind fun v20 => (if v20 = 0 then (xmb2 (fX4_refused w (th) ((-1 : Int32))) fun v26 w27 => (some (v26, w27))) else ((xmgR w th 4 4).bind fun v21 => ((xmgR w v21 0 0).bind fun v22 => ((fX3_clear w (v22) ).bind fun w24 => (fX4_quantise_L65 xmN w24 (th) (a1) (a4) (v2) (v4) ((0 : Int32)) ))))))))))))))
set_option maxHeartbeats 4000000 in
set_option maxRecDepth 100000 in
theorem mX4_quantise (l : Launch) (D : va_G) (ks : Nat → ClassId) (b : Nat) {w : xmW} {th : (Option Nat)} {a1 : Int32} {a2 : Int32} {a3 : Int32} {a4 : Int32} {y : Int32} {wz : xmW} (hf : fX4_quantise w th a1 a2 a3 a4 = some (y, wz)) : xmM l yX4_quantise (Cond.code yX4_quantise cX4_quantise 9 (some (FieldType.int)) :: xmTs) 4 110 0 0 D ks b w [xR th, xI a1, xI a2, xI a3, xI a4] (some (xI y)) wz := by
  unfold fX4_quantise at hf
  obtain ⟨_, _, hf⟩ := xm_bind hf
  refine xmM.of (own := RX4) (lv0 := [(0, xR th), (1, xI a1), (2, xI a2), (3, xI a3), (4, xI a4)]) (by decide) rfl (Nat.le_of_ble_eq_true rfl) rfl ?_
  intro p e s m args below meth c hC hr hnm
  refine xj_aload_n hC dX4_quantise_0 rfl 0 rfl ?_
  refine xj_iload_n hC dX4_quantise_1 rfl 2 rfl ?_
  obtain ⟨v2, hc1, hf⟩ := xm_bind hf
  obtain ⟨_, hob, _⟩ := xm_bind hc1
  refine xj_retr (xr_V hC (mX4_rowAt l D ks b hc1) hob rfl xw_cod_X4_rowAt xw_ini_X4 xw_ins_X4_rowAt xw_sel_X4_rowAt xw_ml_X4_183 xds_X4_rowAt ⟨Nat.le_of_ble_eq_true rfl, Nat.le_of_ble_eq_true rfl⟩ rfl rfl (Nat.le_of_ble_eq_true rfl) ⟨Nat.le_of_ble_eq_true rfl, Nat.le_of_ble_eq_true rfl⟩ dX4_quantise_2) ?_
  refine xj_astore (lv' := [(5, xR v2), (0, xR th), (1, xI a1), (2, xI a2), (3, xI a3), (4, xI a4)]) hC dX4_quantise_5 (by decide) rfl ?_
  refine xj_aload_n hC dX4_quantise_7 rfl 1 rfl ?_
  refine xj_iload_n hC dX4_quantise_8 rfl 4 rfl ?_
  obtain ⟨v4, hc3, hf⟩ := xm_bind hf
  obtain ⟨_, hob, _⟩ := xm_bind hc3
  refine xj_retr (xr_V hC (mX4_formatAt l D ks b hc3) hob rfl xw_cod_X4_formatAt xw_ini_X4 xw_ins_X4_formatAt xw_sel_X4_formatAt xw_ml_X4_73 xds_X4_formatAt ⟨Nat.le_of_ble_eq_true rfl, Nat.le_of_ble_eq_true rfl⟩ rfl rfl (Nat.le_of_ble_eq_true rfl) ⟨Nat.le_of_ble_eq_true rfl, Nat.le_of_ble_eq_true rfl⟩ dX4_quantise_9) ?_
  refine xj_astore (lv' := [(6, xR v4), (5, xR v2), (0, xR th), (1, xI a1), (2, xI a2), (3, xI a3), (4, xI a4)]) hC dX4_quantise_12 (by decide) rfl ?_
  refine xj_iload_n hC dX4_quantise_14 rfl 3 rfl ?_
  refine xj_iconst (v := 0) hC dX4_quantise_15 (by decide) ?_
  refine xj_iconst (v := 3) hC dX4_quantise_16 (by decide) ?_
  obtain ⟨v6, hc5, hf⟩ := xm_bind hf
  refine xj_reti (xr_S hC (mX4_within l D ks b hc5) xw_cod_X4_within xw_ini_X4 xw_sta_X4_within xw_ml_X4_62 xds_X4_within ⟨Nat.le_of_ble_eq_true rfl, Nat.le_of_ble_eq_true rfl⟩ rfl rfl (Nat.le_of_ble_eq_true rfl) ⟨Nat.le_of_ble_eq_true rfl, Nat.le_of_ble_eq_true rfl⟩ dX4_quantise_17) ?_
  refine xb_if_eq (tgt := 46) hC dX4_quantise_20 (by decide) hf (fun hf => ?_) (fun hf => ?_)
  · refine xj_aload_n hC dX4_quantise_46 rfl 2 rfl ?_
    refine xj_iconst (v := -1) hC dX4_quantise_47 (by decide) ?_
    obtain ⟨v8, w9, hc7, hf⟩ := xm_b2 hf
    obtain ⟨_, hob, _⟩ := xm_bind hc7
    refine xj_reti (xr_V hC (mX4_refused l D ks b hc7) hob rfl xw_cod_X4_refused xw_ini_X4 xw_ins_X4_refused xw_sel_X4_refused xw_ml_X4_66 xds_X4_refused ⟨Nat.le_of_ble_eq_true rfl, Nat.le_of_ble_eq_true rfl⟩ rfl rfl (Nat.le_of_ble_eq_true rfl) ⟨Nat.le_of_ble_eq_true rfl, Nat.le_of_ble_eq_true rfl⟩ dX4_quantise_48) ?_
    obtain ⟨he, hw⟩ := Prod.mk.inj (Option.some.inj hf)
    exact xj_iret hC hr (by decide) (by decide) dX4_quantise_51 he hw
  · refine xj_iload_n hC dX4_quantise_23 rfl 3 rfl ?_
    refine xj_iload_n hC dX4_quantise_24 rfl 4 rfl ?_
    refine xb_ic_eq (tgt := 46) hC dX4_quantise_25 (by decide) hf (fun hf => ?_) (fun hf => ?_)
    · refine xj_aload_n hC dX4_quantise_46 rfl 2 rfl ?_
      refine xj_iconst (v := -1) hC dX4_quantise_47 (by decide) ?_
      obtain ⟨v11, w12, hc10, hf⟩ := xm_b2 hf
      obtain ⟨_, hob, _⟩ := xm_bind hc10
      refine xj_reti (xr_V hC (mX4_refused l D ks b hc10) hob rfl xw_cod_X4_refused xw_ini_X4 xw_ins_X4_refused xw_sel_X4_refused xw_ml_X4_66 xds_X4_refused ⟨Nat.le_of_ble_eq_true rfl, Nat.le_of_ble_eq_true rfl⟩ rfl rfl (Nat.le_of_ble_eq_true rfl) ⟨Nat.le_of_ble_eq_true rfl, Nat.le_of_ble_eq_true rfl⟩ dX4_quantise_48) ?_
      obtain ⟨he, hw⟩ := Prod.mk.inj (Option.some.inj hf)
      exact xj_iret hC hr (by decide) (by decide) dX4_quantise_51 he hw
    · refine xj_aload hC dX4_quantise_28 1 rfl ?_
      refine xb_ifnull (tgt := 46) hC dX4_quantise_30 (by decide) hf (fun hf => ?_) (fun hf => ?_)
      · refine xj_aload_n hC dX4_quantise_46 rfl 2 rfl ?_
        refine xj_iconst (v := -1) hC dX4_quantise_47 (by decide) ?_
        obtain ⟨v14, w15, hc13, hf⟩ := xm_b2 hf
        obtain ⟨_, hob, _⟩ := xm_bind hc13
        refine xj_reti (xr_V hC (mX4_refused l D ks b hc13) hob rfl xw_cod_X4_refused xw_ini_X4 xw_ins_X4_refused xw_sel_X4_refused xw_ml_X4_66 xds_X4_refused ⟨Nat.le_of_ble_eq_true rfl, Nat.le_of_ble_eq_true rfl⟩ rfl rfl (Nat.le_of_ble_eq_true rfl) ⟨Nat.le_of_ble_eq_true rfl, Nat.le_of_ble_eq_true rfl⟩ dX4_quantise_48) ?_
        obtain ⟨he, hw⟩ := Prod.mk.inj (Option.some.inj hf)
        exact xj_iret hC hr (by decide) (by decide) dX4_quantise_51 he hw
      · refine xj_aload hC dX4_quantise_33 0 rfl ?_
        refine xb_ifnull (tgt := 46) hC dX4_quantise_35 (by decide) hf (fun hf => ?_) (fun hf => ?_)
        · refine xj_aload_n hC dX4_quantise_46 rfl 2 rfl ?_
          refine xj_iconst (v := -1) hC dX4_quantise_47 (by decide) ?_
          obtain ⟨v17, w18, hc16, hf⟩ := xm_b2 hf
          obtain ⟨_, hob, _⟩ := xm_bind hc16
          refine xj_reti (xr_V hC (mX4_refused l D ks b hc16) hob rfl xw_cod_X4_refused xw_ini_X4 xw_ins_X4_refused xw_sel_X4_refused xw_ml_X4_66 xds_X4_refused ⟨Nat.le_of_ble_eq_true rfl, Nat.le_of_ble_eq_true rfl⟩ rfl rfl (Nat.le_of_ble_eq_true rfl) ⟨Nat.le_of_ble_eq_true rfl, Nat.le_of_ble_eq_true rfl⟩ dX4_quantise_48) ?_
          obtain ⟨he, hw⟩ := Prod.mk.inj (Option.some.inj hf)
          exact xj_iret hC hr (by decide) (by decide) dX4_quantise_51 he hw
        · refine xj_iload hC dX4_quantise_38 6 rfl ?_
          obtain ⟨v20, hc19, hf⟩ := xm_bind hf
          refine xj_reti (xr_S hC (mX4_isMode l D ks b hc19) xw_cod_X4_isMode xw_ini_X4 xw_sta_X4_isMode xw_ml_X4_132 xds_X4_isMode ⟨Nat.le_of_ble_eq_true rfl, Nat.le_of_ble_eq_true rfl⟩ rfl rfl (Nat.le_of_ble_eq_true rfl) ⟨Nat.le_of_ble_eq_true rfl, Nat.le_of_ble_eq_true rfl⟩ dX4_quantise_40) ?_
          refine xb_if_ne (tgt := 52) hC dX4_quantise_43 (by decide) hf (fun hf => ?_) (fun hf => ?_)
          · refine xj_aload_n hC dX4_quantise_52 rfl 2 rfl ?_
            refine xb_getR hC 4 4 xcl_4 (by decide) xw_fl_X4_34 dX4_quantise_53 hf (fun v21 hf => ?_)
            refine xb_getR hC 0 0 xcl_0 (by decide) xw_fl_X4_135 dX4_quantise_56 hf (fun v22 hf => ?_)
            obtain ⟨w24, hc23, hf⟩ := xm_bind hf
            obtain ⟨_, hob, _⟩ := xm_bind hc23
            refine xj_retv (xr_V hC (mX3_clear l D ks b hc23) hob rfl xw_cod_X3_clear xw_ini_X3 xw_ins_X3_clear xw_sel_X3_clear xw_ml_X4_138 xds_X3_clear ⟨Nat.le_of_ble_eq_true rfl, Nat.le_of_ble_eq_true rfl⟩ rfl rfl (Nat.le_of_ble_eq_true rfl) ⟨Nat.le_of_ble_eq_true rfl, Nat.le_of_ble_eq_true rfl⟩ dX4_quantise_59) ?_
            refine xj_iconst (v := 0) hC dX4_quantise_62 (by decide) ?_
            refine xj_istore (lv' := [(7, xI (0 : Int32)), (6, xR v4), (5, xR v2), (0, xR th), (1, xI a1), (2, xI a2), (3, xI a3), (4, xI a4)]) hC dX4_quantise_63 (by decide) rfl ?_
            refine xj_lv [3, 4, 7, 2, 1, 0] rfl ?_
            exact lX4_quantise_L65 hC hr  xmN w24 (th) (a1) (a4) (v2) (v4) ((0 : Int32))  hf
          · refine xj_aload_n hC dX4_quantise_46 rfl 2 rfl ?_
            refine xj_iconst (v := -1) hC dX4_quantise_47 (by decide) ?_
            obtain ⟨v26, w27, hc25, hf⟩ := xm_b2 hf
            obtain ⟨_, hob, _⟩ := xm_bind hc25
            refine xj_reti (xr_V hC (mX4_refused l D ks b hc25) hob rfl xw_cod_X4_refused xw_ini_X4 xw_ins_X4_refused xw_sel_X4_refused xw_ml_X4_66 xds_X4_refused ⟨Nat.le_of_ble_eq_true rfl, Nat.le_of_ble_eq_true rfl⟩ rfl rfl (Nat.le_of_ble_eq_true rfl) ⟨Nat.le_of_ble_eq_true rfl, Nat.le_of_ble_eq_true rfl⟩ dX4_quantise_48) ?_
            obtain ⟨he, hw⟩ := Prod.mk.inj (Option.some.inj hf)
            exact xj_iret hC hr (by decide) (by decide) dX4_quantise_51 he hw
def fX4_worst (w : xmW) (th : (Option Nat)) (a1 : Int32) (a2 : Int32) (a3 : Int32) : Option (Int32 × xmW) := ((xmob w th 4).bind fun _ => ((fX4_rowAt w (th) (a1)).bind fun v2 => ((fX4_rowAt w (th) (a2)).bind fun v4 => (if v2 = none then (xmb2 (fX4_refused w (th) ((-1 : Int32))) fun v6 w7 => (some (v6, w7))) else (if v4 = none then (xmb2 (fX4_refused w (th) ((-1 : Int32))) fun v9 w10 => (some (v9, w10))) else ((fX4_within w (a3) ((0 : Int32)) ((2 : Int32))).bind fun v12 => (if v12 = 0 then (xmb2 (fX4_refused w (th) ((-1 : Int32))) fun v36 w37 => (some (v36, w37))) else ((xmgI w v2 2 1).bind fun v13 => ((xmgI w v4 2 1).bind fun v14 => (if v13 = v14 then (if a3 = (0 : Int32) then ((fX2_worstPlace w (v2) (v4)).bind fun v17 => (xmb2 (fX4_answered w (th) (v17)) fun v19 w20 => (some (v19, w20)))) else (if a3 = (1 : Int32) then ((fX2_differences w (v2) (v4)).bind fun v23 => (xmb2 (fX4_answered w (th) (v23)) fun v25 w26 => (some (v25, w26)))) else ((fX2_noNumbers w (v2) (v4)).bind fun v28 => (xmb2 (fX4_answered w (th) (v28)) fun v30 w31 => (some (v30, w31)))))) else (xmb2 (fX4_refused w (th) ((-2 : Int32))) fun v33 w34 => (some (v33, w34)))))))))))))
set_option maxHeartbeats 4000000 in
set_option maxRecDepth 100000 in
theorem mX4_worst (l : Launch) (D : va_G) (ks : Nat → ClassId) (b : Nat) {w : xmW} {th : (Option Nat)} {a1 : Int32} {a2 : Int32} {a3 : Int32} {y : Int32} {wz : xmW} (hf : fX4_worst w th a1 a2 a3 = some (y, wz)) : xmM l yX4_worst (Cond.code yX4_worst cX4_worst 6 (some (FieldType.int)) :: xmTs) 4 99 0 0 D ks b w [xR th, xI a1, xI a2, xI a3] (some (xI y)) wz := by
  unfold fX4_worst at hf
  obtain ⟨_, _, hf⟩ := xm_bind hf
  refine xmM.of (own := RX4) (lv0 := [(0, xR th), (1, xI a1), (2, xI a2), (3, xI a3)]) (by decide) rfl (Nat.le_of_ble_eq_true rfl) rfl ?_
  intro p e s m args below meth c hC hr hnm
  refine xj_aload_n hC dX4_worst_0 rfl 0 rfl ?_
  refine xj_iload_n hC dX4_worst_1 rfl 1 rfl ?_
  obtain ⟨v2, hc1, hf⟩ := xm_bind hf
  obtain ⟨_, hob, _⟩ := xm_bind hc1
  refine xj_retr (xr_V hC (mX4_rowAt l D ks b hc1) hob rfl xw_cod_X4_rowAt xw_ini_X4 xw_ins_X4_rowAt xw_sel_X4_rowAt xw_ml_X4_183 xds_X4_rowAt ⟨Nat.le_of_ble_eq_true rfl, Nat.le_of_ble_eq_true rfl⟩ rfl rfl (Nat.le_of_ble_eq_true rfl) ⟨Nat.le_of_ble_eq_true rfl, Nat.le_of_ble_eq_true rfl⟩ dX4_worst_2) ?_
  refine xj_astore (lv' := [(4, xR v2), (0, xR th), (1, xI a1), (2, xI a2), (3, xI a3)]) hC dX4_worst_5 (by decide) rfl ?_
  refine xj_aload_n hC dX4_worst_7 rfl 1 rfl ?_
  refine xj_iload_n hC dX4_worst_8 rfl 3 rfl ?_
  obtain ⟨v4, hc3, hf⟩ := xm_bind hf
  obtain ⟨_, hob, _⟩ := xm_bind hc3
  refine xj_retr (xr_V hC (mX4_rowAt l D ks b hc3) hob rfl xw_cod_X4_rowAt xw_ini_X4 xw_ins_X4_rowAt xw_sel_X4_rowAt xw_ml_X4_183 xds_X4_rowAt ⟨Nat.le_of_ble_eq_true rfl, Nat.le_of_ble_eq_true rfl⟩ rfl rfl (Nat.le_of_ble_eq_true rfl) ⟨Nat.le_of_ble_eq_true rfl, Nat.le_of_ble_eq_true rfl⟩ dX4_worst_9) ?_
  refine xj_astore (lv' := [(5, xR v4), (4, xR v2), (0, xR th), (1, xI a1), (2, xI a2), (3, xI a3)]) hC dX4_worst_12 (by decide) rfl ?_
  refine xj_aload hC dX4_worst_14 1 rfl ?_
  refine xb_ifnull (tgt := 33) hC dX4_worst_16 (by decide) hf (fun hf => ?_) (fun hf => ?_)
  · refine xj_aload_n hC dX4_worst_33 rfl 2 rfl ?_
    refine xj_iconst (v := -1) hC dX4_worst_34 (by decide) ?_
    obtain ⟨v6, w7, hc5, hf⟩ := xm_b2 hf
    obtain ⟨_, hob, _⟩ := xm_bind hc5
    refine xj_reti (xr_V hC (mX4_refused l D ks b hc5) hob rfl xw_cod_X4_refused xw_ini_X4 xw_ins_X4_refused xw_sel_X4_refused xw_ml_X4_66 xds_X4_refused ⟨Nat.le_of_ble_eq_true rfl, Nat.le_of_ble_eq_true rfl⟩ rfl rfl (Nat.le_of_ble_eq_true rfl) ⟨Nat.le_of_ble_eq_true rfl, Nat.le_of_ble_eq_true rfl⟩ dX4_worst_35) ?_
    obtain ⟨he, hw⟩ := Prod.mk.inj (Option.some.inj hf)
    exact xj_iret hC hr (by decide) (by decide) dX4_worst_38 he hw
  · refine xj_aload hC dX4_worst_19 0 rfl ?_
    refine xb_ifnull (tgt := 33) hC dX4_worst_21 (by decide) hf (fun hf => ?_) (fun hf => ?_)
    · refine xj_aload_n hC dX4_worst_33 rfl 2 rfl ?_
      refine xj_iconst (v := -1) hC dX4_worst_34 (by decide) ?_
      obtain ⟨v9, w10, hc8, hf⟩ := xm_b2 hf
      obtain ⟨_, hob, _⟩ := xm_bind hc8
      refine xj_reti (xr_V hC (mX4_refused l D ks b hc8) hob rfl xw_cod_X4_refused xw_ini_X4 xw_ins_X4_refused xw_sel_X4_refused xw_ml_X4_66 xds_X4_refused ⟨Nat.le_of_ble_eq_true rfl, Nat.le_of_ble_eq_true rfl⟩ rfl rfl (Nat.le_of_ble_eq_true rfl) ⟨Nat.le_of_ble_eq_true rfl, Nat.le_of_ble_eq_true rfl⟩ dX4_worst_35) ?_
      obtain ⟨he, hw⟩ := Prod.mk.inj (Option.some.inj hf)
      exact xj_iret hC hr (by decide) (by decide) dX4_worst_38 he hw
    · refine xj_iload_n hC dX4_worst_24 rfl 5 rfl ?_
      refine xj_iconst (v := 0) hC dX4_worst_25 (by decide) ?_
      refine xj_iconst (v := 2) hC dX4_worst_26 (by decide) ?_
      obtain ⟨v12, hc11, hf⟩ := xm_bind hf
      refine xj_reti (xr_S hC (mX4_within l D ks b hc11) xw_cod_X4_within xw_ini_X4 xw_sta_X4_within xw_ml_X4_62 xds_X4_within ⟨Nat.le_of_ble_eq_true rfl, Nat.le_of_ble_eq_true rfl⟩ rfl rfl (Nat.le_of_ble_eq_true rfl) ⟨Nat.le_of_ble_eq_true rfl, Nat.le_of_ble_eq_true rfl⟩ dX4_worst_27) ?_
      refine xb_if_ne (tgt := 39) hC dX4_worst_30 (by decide) hf (fun hf => ?_) (fun hf => ?_)
      · refine xj_aload hC dX4_worst_39 1 rfl ?_
        refine xb_getI hC 2 1 xcl_2 (by decide) xw_fl_X4_206 dX4_worst_41 hf (fun v13 hf => ?_)
        refine xj_aload hC dX4_worst_44 0 rfl ?_
        refine xb_getI hC 2 1 xcl_2 (by decide) xw_fl_X4_206 dX4_worst_46 hf (fun v14 hf => ?_)
        refine xb_ic_eq (tgt := 59) hC dX4_worst_49 (by decide) hf (fun hf => ?_) (fun hf => ?_)
        · refine xj_iload_n hC dX4_worst_59 rfl 5 rfl ?_
          refine xb_case hf (fun hx hf => ?_) (fun hn15 hf => ?_)
          · refine xj_lookup (tgt := 88) (off := 28) hC dX4_worst_60 (by decide) (by rw [hx]; decide) (by decide) ?_
            refine xj_aload_n hC dX4_worst_88 rfl 2 rfl ?_
            refine xj_aload hC dX4_worst_89 1 rfl ?_
            refine xj_aload hC dX4_worst_91 0 rfl ?_
            obtain ⟨v17, hc16, hf⟩ := xm_bind hf
            obtain ⟨_, hob, _⟩ := xm_bind hc16
            refine xj_reti (xr_V hC (mX2_worstPlace l D ks b hc16) hob rfl xw_cod_X2_worstPlace xw_ini_X2 xw_ins_X2_worstPlace xw_sel_X2_worstPlace xw_ml_X4_209 xds_X2_worstPlace ⟨Nat.le_of_ble_eq_true rfl, Nat.le_of_ble_eq_true rfl⟩ rfl rfl (Nat.le_of_ble_eq_true rfl) ⟨Nat.le_of_ble_eq_true rfl, Nat.le_of_ble_eq_true rfl⟩ dX4_worst_93) ?_
            obtain ⟨v19, w20, hc18, hf⟩ := xm_b2 hf
            obtain ⟨_, hob, _⟩ := xm_bind hc18
            refine xj_reti (xr_V hC (mX4_answered l D ks b hc18) hob rfl xw_cod_X4_answered xw_ini_X4 xw_ins_X4_answered xw_sel_X4_answered xw_ml_X4_81 xds_X4_answered ⟨Nat.le_of_ble_eq_true rfl, Nat.le_of_ble_eq_true rfl⟩ rfl rfl (Nat.le_of_ble_eq_true rfl) ⟨Nat.le_of_ble_eq_true rfl, Nat.le_of_ble_eq_true rfl⟩ dX4_worst_96) ?_
            obtain ⟨he, hw⟩ := Prod.mk.inj (Option.some.inj hf)
            exact xj_iret hC hr (by decide) (by decide) dX4_worst_99 he hw
          · refine xb_case hf (fun hx hf => ?_) (fun hn21 hf => ?_)
            · refine xj_lookup (tgt := 100) (off := 40) hC dX4_worst_60 (by decide) (by rw [hx]; decide) (by decide) ?_
              refine xj_aload_n hC dX4_worst_100 rfl 2 rfl ?_
              refine xj_aload hC dX4_worst_101 1 rfl ?_
              refine xj_aload hC dX4_worst_103 0 rfl ?_
              obtain ⟨v23, hc22, hf⟩ := xm_bind hf
              obtain ⟨_, hob, _⟩ := xm_bind hc22
              refine xj_reti (xr_V hC (mX2_differences l D ks b hc22) hob rfl xw_cod_X2_differences xw_ini_X2 xw_ins_X2_differences xw_sel_X2_differences xw_ml_X4_213 xds_X2_differences ⟨Nat.le_of_ble_eq_true rfl, Nat.le_of_ble_eq_true rfl⟩ rfl rfl (Nat.le_of_ble_eq_true rfl) ⟨Nat.le_of_ble_eq_true rfl, Nat.le_of_ble_eq_true rfl⟩ dX4_worst_105) ?_
              obtain ⟨v25, w26, hc24, hf⟩ := xm_b2 hf
              obtain ⟨_, hob, _⟩ := xm_bind hc24
              refine xj_reti (xr_V hC (mX4_answered l D ks b hc24) hob rfl xw_cod_X4_answered xw_ini_X4 xw_ins_X4_answered xw_sel_X4_answered xw_ml_X4_81 xds_X4_answered ⟨Nat.le_of_ble_eq_true rfl, Nat.le_of_ble_eq_true rfl⟩ rfl rfl (Nat.le_of_ble_eq_true rfl) ⟨Nat.le_of_ble_eq_true rfl, Nat.le_of_ble_eq_true rfl⟩ dX4_worst_108) ?_
              obtain ⟨he, hw⟩ := Prod.mk.inj (Option.some.inj hf)
              exact xj_iret hC hr (by decide) (by decide) dX4_worst_111 he hw
            · refine xj_lookup (tgt := 112) (off := 52) hC dX4_worst_60 (by decide) (by show Op.lookupswitch.offset _ _ _ = _; rw [lv_osw hn15 (a := 0) (by decide)]; rw [lv_osw hn21 (a := 1) (by decide)]; rfl) (by decide) ?_
              refine xj_aload_n hC dX4_worst_112 rfl 2 rfl ?_
              refine xj_aload hC dX4_worst_113 1 rfl ?_
              refine xj_aload hC dX4_worst_115 0 rfl ?_
              obtain ⟨v28, hc27, hf⟩ := xm_bind hf
              obtain ⟨_, hob, _⟩ := xm_bind hc27
              refine xj_reti (xr_V hC (mX2_noNumbers l D ks b hc27) hob rfl xw_cod_X2_noNumbers xw_ini_X2 xw_ins_X2_noNumbers xw_sel_X2_noNumbers xw_ml_X4_216 xds_X2_noNumbers ⟨Nat.le_of_ble_eq_true rfl, Nat.le_of_ble_eq_true rfl⟩ rfl rfl (Nat.le_of_ble_eq_true rfl) ⟨Nat.le_of_ble_eq_true rfl, Nat.le_of_ble_eq_true rfl⟩ dX4_worst_117) ?_
              obtain ⟨v30, w31, hc29, hf⟩ := xm_b2 hf
              obtain ⟨_, hob, _⟩ := xm_bind hc29
              refine xj_reti (xr_V hC (mX4_answered l D ks b hc29) hob rfl xw_cod_X4_answered xw_ini_X4 xw_ins_X4_answered xw_sel_X4_answered xw_ml_X4_81 xds_X4_answered ⟨Nat.le_of_ble_eq_true rfl, Nat.le_of_ble_eq_true rfl⟩ rfl rfl (Nat.le_of_ble_eq_true rfl) ⟨Nat.le_of_ble_eq_true rfl, Nat.le_of_ble_eq_true rfl⟩ dX4_worst_120) ?_
              obtain ⟨he, hw⟩ := Prod.mk.inj (Option.some.inj hf)
              exact xj_iret hC hr (by decide) (by decide) dX4_worst_123 he hw
        · refine xj_aload_n hC dX4_worst_52 rfl 2 rfl ?_
          refine xj_bipush (v := -2) hC dX4_worst_53 (by decide) ?_
          obtain ⟨v33, w34, hc32, hf⟩ := xm_b2 hf
          obtain ⟨_, hob, _⟩ := xm_bind hc32
          refine xj_reti (xr_V hC (mX4_refused l D ks b hc32) hob rfl xw_cod_X4_refused xw_ini_X4 xw_ins_X4_refused xw_sel_X4_refused xw_ml_X4_66 xds_X4_refused ⟨Nat.le_of_ble_eq_true rfl, Nat.le_of_ble_eq_true rfl⟩ rfl rfl (Nat.le_of_ble_eq_true rfl) ⟨Nat.le_of_ble_eq_true rfl, Nat.le_of_ble_eq_true rfl⟩ dX4_worst_55) ?_
          obtain ⟨he, hw⟩ := Prod.mk.inj (Option.some.inj hf)
          exact xj_iret hC hr (by decide) (by decide) dX4_worst_58 he hw
      · refine xj_aload_n hC dX4_worst_33 rfl 2 rfl ?_
        refine xj_iconst (v := -1) hC dX4_worst_34 (by decide) ?_
        obtain ⟨v36, w37, hc35, hf⟩ := xm_b2 hf
        obtain ⟨_, hob, _⟩ := xm_bind hc35
        refine xj_reti (xr_V hC (mX4_refused l D ks b hc35) hob rfl xw_cod_X4_refused xw_ini_X4 xw_ins_X4_refused xw_sel_X4_refused xw_ml_X4_66 xds_X4_refused ⟨Nat.le_of_ble_eq_true rfl, Nat.le_of_ble_eq_true rfl⟩ rfl rfl (Nat.le_of_ble_eq_true rfl) ⟨Nat.le_of_ble_eq_true rfl, Nat.le_of_ble_eq_true rfl⟩ dX4_worst_35) ?_
        obtain ⟨he, hw⟩ := Prod.mk.inj (Option.some.inj hf)
        exact xj_iret hC hr (by decide) (by decide) dX4_worst_38 he hw
def fX4_sum (w : xmW) (th : (Option Nat)) (a1 : Int32) (a2 : Int32) (a3 : Int32) : Option (Int32 × xmW) := ((xmob w th 4).bind fun _ => ((fX4_rowAt w (th) (a1)).bind fun v2 => (if v2 = none then (xmb2 (fX4_refused w (th) ((-1 : Int32))) fun v4 w5 => (some (v4, w5))) else ((fX4_isMode w (a2)).bind fun v7 => (if v7 = 0 then (xmb2 (fX4_refused w (th) ((-1 : Int32))) fun v27 w28 => (some (v27, w28))) else ((xmgR w th 4 4).bind fun v8 => ((xmgR w v8 0 0).bind fun v9 => ((fX3_clear w (v9) ).bind fun w11 => (if a3 = 0 then ((xmgR w11 th 4 4).bind fun v12 => (xmb2 (fX0_exactTotal w11 (v12) (v2) (none) (a2)) fun v14 w15 => (xmb2 (fX4_settled w15 (th) (v14)) fun v17 w18 => (some (v17, w18))))) else ((xmgR w11 th 4 4).bind fun v19 => (xmb2 (fX0_stepwiseTotal w11 (v19) (v2) (none) (a2)) fun v21 w22 => (xmb2 (fX4_settled w22 (th) (v21)) fun v24 w25 => (some (v24, w25))))))))))))))
set_option maxHeartbeats 4000000 in
set_option maxRecDepth 100000 in
theorem mX4_sum (l : Launch) (D : va_G) (ks : Nat → ClassId) (b : Nat) {w : xmW} {th : (Option Nat)} {a1 : Int32} {a2 : Int32} {a3 : Int32} {y : Int32} {wz : xmW} (hf : fX4_sum w th a1 a2 a3 = some (y, wz)) : xmM l yX4_sum (Cond.code yX4_sum cX4_sum 5 (some (FieldType.int)) :: xmTs) 6 167 0 0 D ks b w [xR th, xI a1, xI a2, xI a3] (some (xI y)) wz := by
  unfold fX4_sum at hf
  obtain ⟨_, _, hf⟩ := xm_bind hf
  refine xmM.of (own := RX4) (lv0 := [(0, xR th), (1, xI a1), (2, xI a2), (3, xI a3)]) (by decide) rfl (Nat.le_of_ble_eq_true rfl) rfl ?_
  intro p e s m args below meth c hC hr hnm
  refine xj_aload_n hC dX4_sum_0 rfl 0 rfl ?_
  refine xj_iload_n hC dX4_sum_1 rfl 1 rfl ?_
  obtain ⟨v2, hc1, hf⟩ := xm_bind hf
  obtain ⟨_, hob, _⟩ := xm_bind hc1
  refine xj_retr (xr_V hC (mX4_rowAt l D ks b hc1) hob rfl xw_cod_X4_rowAt xw_ini_X4 xw_ins_X4_rowAt xw_sel_X4_rowAt xw_ml_X4_183 xds_X4_rowAt ⟨Nat.le_of_ble_eq_true rfl, Nat.le_of_ble_eq_true rfl⟩ rfl rfl (Nat.le_of_ble_eq_true rfl) ⟨Nat.le_of_ble_eq_true rfl, Nat.le_of_ble_eq_true rfl⟩ dX4_sum_2) ?_
  refine xj_astore (lv' := [(4, xR v2), (0, xR th), (1, xI a1), (2, xI a2), (3, xI a3)]) hC dX4_sum_5 (by decide) rfl ?_
  refine xj_aload hC dX4_sum_7 0 rfl ?_
  refine xb_ifnull (tgt := 19) hC dX4_sum_9 (by decide) hf (fun hf => ?_) (fun hf => ?_)
  · refine xj_aload_n hC dX4_sum_19 rfl 1 rfl ?_
    refine xj_iconst (v := -1) hC dX4_sum_20 (by decide) ?_
    obtain ⟨v4, w5, hc3, hf⟩ := xm_b2 hf
    obtain ⟨_, hob, _⟩ := xm_bind hc3
    refine xj_reti (xr_V hC (mX4_refused l D ks b hc3) hob rfl xw_cod_X4_refused xw_ini_X4 xw_ins_X4_refused xw_sel_X4_refused xw_ml_X4_66 xds_X4_refused ⟨Nat.le_of_ble_eq_true rfl, Nat.le_of_ble_eq_true rfl⟩ rfl rfl (Nat.le_of_ble_eq_true rfl) ⟨Nat.le_of_ble_eq_true rfl, Nat.le_of_ble_eq_true rfl⟩ dX4_sum_21) ?_
    obtain ⟨he, hw⟩ := Prod.mk.inj (Option.some.inj hf)
    exact xj_iret hC hr (by decide) (by decide) dX4_sum_24 he hw
  · refine xj_iload_n hC dX4_sum_12 rfl 3 rfl ?_
    obtain ⟨v7, hc6, hf⟩ := xm_bind hf
    refine xj_reti (xr_S hC (mX4_isMode l D ks b hc6) xw_cod_X4_isMode xw_ini_X4 xw_sta_X4_isMode xw_ml_X4_132 xds_X4_isMode ⟨Nat.le_of_ble_eq_true rfl, Nat.le_of_ble_eq_true rfl⟩ rfl rfl (Nat.le_of_ble_eq_true rfl) ⟨Nat.le_of_ble_eq_true rfl, Nat.le_of_ble_eq_true rfl⟩ dX4_sum_13) ?_
    refine xb_if_ne (tgt := 25) hC dX4_sum_16 (by decide) hf (fun hf => ?_) (fun hf => ?_)
    · refine xj_aload_n hC dX4_sum_25 rfl 1 rfl ?_
      refine xb_getR hC 4 4 xcl_4 (by decide) xw_fl_X4_34 dX4_sum_26 hf (fun v8 hf => ?_)
      refine xb_getR hC 0 0 xcl_0 (by decide) xw_fl_X4_135 dX4_sum_29 hf (fun v9 hf => ?_)
      obtain ⟨w11, hc10, hf⟩ := xm_bind hf
      obtain ⟨_, hob, _⟩ := xm_bind hc10
      refine xj_retv (xr_V hC (mX3_clear l D ks b hc10) hob rfl xw_cod_X3_clear xw_ini_X3 xw_ins_X3_clear xw_sel_X3_clear xw_ml_X4_138 xds_X3_clear ⟨Nat.le_of_ble_eq_true rfl, Nat.le_of_ble_eq_true rfl⟩ rfl rfl (Nat.le_of_ble_eq_true rfl) ⟨Nat.le_of_ble_eq_true rfl, Nat.le_of_ble_eq_true rfl⟩ dX4_sum_32) ?_
      refine xj_aload_n hC dX4_sum_35 rfl 1 rfl ?_
      refine xj_iload_n hC dX4_sum_36 rfl 4 rfl ?_
      refine xb_if_eq (tgt := 54) hC dX4_sum_37 (by decide) hf (fun hf => ?_) (fun hf => ?_)
      · refine xj_aload_n hC dX4_sum_54 rfl 1 rfl ?_
        refine xb_getR hC 4 4 xcl_4 (by decide) xw_fl_X4_34 dX4_sum_55 hf (fun v12 hf => ?_)
        refine xj_aload hC dX4_sum_58 0 rfl ?_
        refine xj_null hC dX4_sum_60 ?_
        refine xj_iload_n hC dX4_sum_61 rfl 3 rfl ?_
        obtain ⟨v14, w15, hc13, hf⟩ := xm_b2 hf
        obtain ⟨_, hob, _⟩ := xm_bind hc13
        refine xj_reti (xr_V hC (mX0_exactTotal l D ks b hc13) hob rfl xw_cod_X0_exactTotal xw_ini_X0 xw_ins_X0_exactTotal xw_sel_X0_exactTotal xw_ml_X4_223 xds_X0_exactTotal ⟨Nat.le_of_ble_eq_true rfl, Nat.le_of_ble_eq_true rfl⟩ rfl rfl (Nat.le_of_ble_eq_true rfl) ⟨Nat.le_of_ble_eq_true rfl, Nat.le_of_ble_eq_true rfl⟩ dX4_sum_62) ?_
        obtain ⟨v17, w18, hc16, hf⟩ := xm_b2 hf
        obtain ⟨_, hob, _⟩ := xm_bind hc16
        refine xj_reti (xr_V hC (mX4_settled l D ks b hc16) hob rfl xw_cod_X4_settled xw_ini_X4 xw_ins_X4_settled xw_sel_X4_settled xw_ml_X4_145 xds_X4_settled ⟨Nat.le_of_ble_eq_true rfl, Nat.le_of_ble_eq_true rfl⟩ rfl rfl (Nat.le_of_ble_eq_true rfl) ⟨Nat.le_of_ble_eq_true rfl, Nat.le_of_ble_eq_true rfl⟩ dX4_sum_65) ?_
        obtain ⟨he, hw⟩ := Prod.mk.inj (Option.some.inj hf)
        exact xj_iret hC hr (by decide) (by decide) dX4_sum_68 he hw
      · refine xj_aload_n hC dX4_sum_40 rfl 1 rfl ?_
        refine xb_getR hC 4 4 xcl_4 (by decide) xw_fl_X4_34 dX4_sum_41 hf (fun v19 hf => ?_)
        refine xj_aload hC dX4_sum_44 0 rfl ?_
        refine xj_null hC dX4_sum_46 ?_
        refine xj_iload_n hC dX4_sum_47 rfl 3 rfl ?_
        obtain ⟨v21, w22, hc20, hf⟩ := xm_b2 hf
        obtain ⟨_, hob, _⟩ := xm_bind hc20
        refine xj_reti (xr_V hC (mX0_stepwiseTotal l D ks b hc20) hob rfl xw_cod_X0_stepwiseTotal xw_ini_X0 xw_ins_X0_stepwiseTotal xw_sel_X0_stepwiseTotal xw_ml_X4_219 xds_X0_stepwiseTotal ⟨Nat.le_of_ble_eq_true rfl, Nat.le_of_ble_eq_true rfl⟩ rfl rfl (Nat.le_of_ble_eq_true rfl) ⟨Nat.le_of_ble_eq_true rfl, Nat.le_of_ble_eq_true rfl⟩ dX4_sum_48) ?_
        refine xj_goto (tgt := 65) hC dX4_sum_51 (by decide) ?_
        obtain ⟨v24, w25, hc23, hf⟩ := xm_b2 hf
        obtain ⟨_, hob, _⟩ := xm_bind hc23
        refine xj_reti (xr_V hC (mX4_settled l D ks b hc23) hob rfl xw_cod_X4_settled xw_ini_X4 xw_ins_X4_settled xw_sel_X4_settled xw_ml_X4_145 xds_X4_settled ⟨Nat.le_of_ble_eq_true rfl, Nat.le_of_ble_eq_true rfl⟩ rfl rfl (Nat.le_of_ble_eq_true rfl) ⟨Nat.le_of_ble_eq_true rfl, Nat.le_of_ble_eq_true rfl⟩ dX4_sum_65) ?_
        obtain ⟨he, hw⟩ := Prod.mk.inj (Option.some.inj hf)
        exact xj_iret hC hr (by decide) (by decide) dX4_sum_68 he hw
    · refine xj_aload_n hC dX4_sum_19 rfl 1 rfl ?_
      refine xj_iconst (v := -1) hC dX4_sum_20 (by decide) ?_
      obtain ⟨v27, w28, hc26, hf⟩ := xm_b2 hf
      obtain ⟨_, hob, _⟩ := xm_bind hc26
      refine xj_reti (xr_V hC (mX4_refused l D ks b hc26) hob rfl xw_cod_X4_refused xw_ini_X4 xw_ins_X4_refused xw_sel_X4_refused xw_ml_X4_66 xds_X4_refused ⟨Nat.le_of_ble_eq_true rfl, Nat.le_of_ble_eq_true rfl⟩ rfl rfl (Nat.le_of_ble_eq_true rfl) ⟨Nat.le_of_ble_eq_true rfl, Nat.le_of_ble_eq_true rfl⟩ dX4_sum_21) ?_
      obtain ⟨he, hw⟩ := Prod.mk.inj (Option.some.inj hf)
      exact xj_iret hC hr (by decide) (by decide) dX4_sum_24 he hw
def fX4_dot (w : xmW) (th : (Option Nat)) (a1 : Int32) (a2 : Int32) (a3 : Int32) (a4 : Int32) : Option (Int32 × xmW) := ((xmob w th 4).bind fun _ => ((fX4_rowAt w (th) (a1)).bind fun v2 => ((fX4_rowAt w (th) (a2)).bind fun v4 => (if v2 = none then (xmb2 (fX4_refused w (th) ((-1 : Int32))) fun v6 w7 => (some (v6, w7))) else (if v4 = none then (xmb2 (fX4_refused w (th) ((-1 : Int32))) fun v9 w10 => (some (v9, w10))) else ((fX4_isMode w (a3)).bind fun v12 => (if v12 = 0 then (xmb2 (fX4_refused w (th) ((-1 : Int32))) fun v39 w40 => (some (v39, w40))) else ((xmgR w v2 2 0).bind fun v13 => ((xmgR w v4 2 0).bind fun v14 => ((fX1_isAlike w (v13) (v14)).bind fun v16 => (if v16 = 0 then (xmb2 (fX4_refused w (th) ((-2 : Int32))) fun v36 w37 => (some (v36, w37))) else ((xmgR w th 4 4).bind fun v17 => ((xmgR w v17 0 0).bind fun v18 => ((fX3_clear w (v18) ).bind fun w20 => (if a4 = 0 then ((xmgR w20 th 4 4).bind fun v21 => (xmb2 (fX0_exactTotal w20 (v21) (v2) (v4) (a3)) fun v23 w24 => (xmb2 (fX4_settled w24 (th) (v23)) fun v26 w27 => (some (v26, w27))))) else ((xmgR w20 th 4 4).bind fun v28 => (xmb2 (fX0_stepwiseTotal w20 (v28) (v2) (v4) (a3)) fun v30 w31 => (xmb2 (fX4_settled w31 (th) (v30)) fun v33 w34 => (some (v33, w34))))))))))))))))))))
set_option maxHeartbeats 4000000 in
set_option maxRecDepth 100000 in
theorem mX4_dot (l : Launch) (D : va_G) (ks : Nat → ClassId) (b : Nat) {w : xmW} {th : (Option Nat)} {a1 : Int32} {a2 : Int32} {a3 : Int32} {a4 : Int32} {y : Int32} {wz : xmW} (hf : fX4_dot w th a1 a2 a3 a4 = some (y, wz)) : xmM l yX4_dot (Cond.code yX4_dot cX4_dot 7 (some (FieldType.int)) :: xmTs) 6 167 0 0 D ks b w [xR th, xI a1, xI a2, xI a3, xI a4] (some (xI y)) wz := by
  unfold fX4_dot at hf
  obtain ⟨_, _, hf⟩ := xm_bind hf
  refine xmM.of (own := RX4) (lv0 := [(0, xR th), (1, xI a1), (2, xI a2), (3, xI a3), (4, xI a4)]) (by decide) rfl (Nat.le_of_ble_eq_true rfl) rfl ?_
  intro p e s m args below meth c hC hr hnm
  refine xj_aload_n hC dX4_dot_0 rfl 0 rfl ?_
  refine xj_iload_n hC dX4_dot_1 rfl 1 rfl ?_
  obtain ⟨v2, hc1, hf⟩ := xm_bind hf
  obtain ⟨_, hob, _⟩ := xm_bind hc1
  refine xj_retr (xr_V hC (mX4_rowAt l D ks b hc1) hob rfl xw_cod_X4_rowAt xw_ini_X4 xw_ins_X4_rowAt xw_sel_X4_rowAt xw_ml_X4_183 xds_X4_rowAt ⟨Nat.le_of_ble_eq_true rfl, Nat.le_of_ble_eq_true rfl⟩ rfl rfl (Nat.le_of_ble_eq_true rfl) ⟨Nat.le_of_ble_eq_true rfl, Nat.le_of_ble_eq_true rfl⟩ dX4_dot_2) ?_
  refine xj_astore (lv' := [(5, xR v2), (0, xR th), (1, xI a1), (2, xI a2), (3, xI a3), (4, xI a4)]) hC dX4_dot_5 (by decide) rfl ?_
  refine xj_aload_n hC dX4_dot_7 rfl 1 rfl ?_
  refine xj_iload_n hC dX4_dot_8 rfl 3 rfl ?_
  obtain ⟨v4, hc3, hf⟩ := xm_bind hf
  obtain ⟨_, hob, _⟩ := xm_bind hc3
  refine xj_retr (xr_V hC (mX4_rowAt l D ks b hc3) hob rfl xw_cod_X4_rowAt xw_ini_X4 xw_ins_X4_rowAt xw_sel_X4_rowAt xw_ml_X4_183 xds_X4_rowAt ⟨Nat.le_of_ble_eq_true rfl, Nat.le_of_ble_eq_true rfl⟩ rfl rfl (Nat.le_of_ble_eq_true rfl) ⟨Nat.le_of_ble_eq_true rfl, Nat.le_of_ble_eq_true rfl⟩ dX4_dot_9) ?_
  refine xj_astore (lv' := [(6, xR v4), (5, xR v2), (0, xR th), (1, xI a1), (2, xI a2), (3, xI a3), (4, xI a4)]) hC dX4_dot_12 (by decide) rfl ?_
  refine xj_aload hC dX4_dot_14 1 rfl ?_
  refine xb_ifnull (tgt := 31) hC dX4_dot_16 (by decide) hf (fun hf => ?_) (fun hf => ?_)
  · refine xj_aload_n hC dX4_dot_31 rfl 2 rfl ?_
    refine xj_iconst (v := -1) hC dX4_dot_32 (by decide) ?_
    obtain ⟨v6, w7, hc5, hf⟩ := xm_b2 hf
    obtain ⟨_, hob, _⟩ := xm_bind hc5
    refine xj_reti (xr_V hC (mX4_refused l D ks b hc5) hob rfl xw_cod_X4_refused xw_ini_X4 xw_ins_X4_refused xw_sel_X4_refused xw_ml_X4_66 xds_X4_refused ⟨Nat.le_of_ble_eq_true rfl, Nat.le_of_ble_eq_true rfl⟩ rfl rfl (Nat.le_of_ble_eq_true rfl) ⟨Nat.le_of_ble_eq_true rfl, Nat.le_of_ble_eq_true rfl⟩ dX4_dot_33) ?_
    obtain ⟨he, hw⟩ := Prod.mk.inj (Option.some.inj hf)
    exact xj_iret hC hr (by decide) (by decide) dX4_dot_36 he hw
  · refine xj_aload hC dX4_dot_19 0 rfl ?_
    refine xb_ifnull (tgt := 31) hC dX4_dot_21 (by decide) hf (fun hf => ?_) (fun hf => ?_)
    · refine xj_aload_n hC dX4_dot_31 rfl 2 rfl ?_
      refine xj_iconst (v := -1) hC dX4_dot_32 (by decide) ?_
      obtain ⟨v9, w10, hc8, hf⟩ := xm_b2 hf
      obtain ⟨_, hob, _⟩ := xm_bind hc8
      refine xj_reti (xr_V hC (mX4_refused l D ks b hc8) hob rfl xw_cod_X4_refused xw_ini_X4 xw_ins_X4_refused xw_sel_X4_refused xw_ml_X4_66 xds_X4_refused ⟨Nat.le_of_ble_eq_true rfl, Nat.le_of_ble_eq_true rfl⟩ rfl rfl (Nat.le_of_ble_eq_true rfl) ⟨Nat.le_of_ble_eq_true rfl, Nat.le_of_ble_eq_true rfl⟩ dX4_dot_33) ?_
      obtain ⟨he, hw⟩ := Prod.mk.inj (Option.some.inj hf)
      exact xj_iret hC hr (by decide) (by decide) dX4_dot_36 he hw
    · refine xj_iload_n hC dX4_dot_24 rfl 5 rfl ?_
      obtain ⟨v12, hc11, hf⟩ := xm_bind hf
      refine xj_reti (xr_S hC (mX4_isMode l D ks b hc11) xw_cod_X4_isMode xw_ini_X4 xw_sta_X4_isMode xw_ml_X4_132 xds_X4_isMode ⟨Nat.le_of_ble_eq_true rfl, Nat.le_of_ble_eq_true rfl⟩ rfl rfl (Nat.le_of_ble_eq_true rfl) ⟨Nat.le_of_ble_eq_true rfl, Nat.le_of_ble_eq_true rfl⟩ dX4_dot_25) ?_
      refine xb_if_ne (tgt := 37) hC dX4_dot_28 (by decide) hf (fun hf => ?_) (fun hf => ?_)
      · refine xj_aload hC dX4_dot_37 1 rfl ?_
        refine xb_getR hC 2 0 xcl_2 (by decide) xw_fl_X4_190 dX4_dot_39 hf (fun v13 hf => ?_)
        refine xj_aload hC dX4_dot_42 0 rfl ?_
        refine xb_getR hC 2 0 xcl_2 (by decide) xw_fl_X4_190 dX4_dot_44 hf (fun v14 hf => ?_)
        obtain ⟨v16, hc15, hf⟩ := xm_bind hf
        obtain ⟨_, hob, _⟩ := xm_bind hc15
        refine xj_reti (xr_V hC (mX1_isAlike l D ks b hc15) hob rfl xw_cod_X1_isAlike xw_ini_X1 xw_ins_X1_isAlike xw_sel_X1_isAlike xw_ml_X4_77 xds_X1_isAlike ⟨Nat.le_of_ble_eq_true rfl, Nat.le_of_ble_eq_true rfl⟩ rfl rfl (Nat.le_of_ble_eq_true rfl) ⟨Nat.le_of_ble_eq_true rfl, Nat.le_of_ble_eq_true rfl⟩ dX4_dot_47) ?_
        refine xb_if_ne (tgt := 60) hC dX4_dot_50 (by decide) hf (fun hf => ?_) (fun hf => ?_)
        · refine xj_aload_n hC dX4_dot_60 rfl 2 rfl ?_
          refine xb_getR hC 4 4 xcl_4 (by decide) xw_fl_X4_34 dX4_dot_61 hf (fun v17 hf => ?_)
          refine xb_getR hC 0 0 xcl_0 (by decide) xw_fl_X4_135 dX4_dot_64 hf (fun v18 hf => ?_)
          obtain ⟨w20, hc19, hf⟩ := xm_bind hf
          obtain ⟨_, hob, _⟩ := xm_bind hc19
          refine xj_retv (xr_V hC (mX3_clear l D ks b hc19) hob rfl xw_cod_X3_clear xw_ini_X3 xw_ins_X3_clear xw_sel_X3_clear xw_ml_X4_138 xds_X3_clear ⟨Nat.le_of_ble_eq_true rfl, Nat.le_of_ble_eq_true rfl⟩ rfl rfl (Nat.le_of_ble_eq_true rfl) ⟨Nat.le_of_ble_eq_true rfl, Nat.le_of_ble_eq_true rfl⟩ dX4_dot_67) ?_
          refine xj_aload_n hC dX4_dot_70 rfl 2 rfl ?_
          refine xj_iload hC dX4_dot_71 6 rfl ?_
          refine xb_if_eq (tgt := 91) hC dX4_dot_73 (by decide) hf (fun hf => ?_) (fun hf => ?_)
          · refine xj_aload_n hC dX4_dot_91 rfl 2 rfl ?_
            refine xb_getR hC 4 4 xcl_4 (by decide) xw_fl_X4_34 dX4_dot_92 hf (fun v21 hf => ?_)
            refine xj_aload hC dX4_dot_95 1 rfl ?_
            refine xj_aload hC dX4_dot_97 0 rfl ?_
            refine xj_iload_n hC dX4_dot_99 rfl 5 rfl ?_
            obtain ⟨v23, w24, hc22, hf⟩ := xm_b2 hf
            obtain ⟨_, hob, _⟩ := xm_bind hc22
            refine xj_reti (xr_V hC (mX0_exactTotal l D ks b hc22) hob rfl xw_cod_X0_exactTotal xw_ini_X0 xw_ins_X0_exactTotal xw_sel_X0_exactTotal xw_ml_X4_223 xds_X0_exactTotal ⟨Nat.le_of_ble_eq_true rfl, Nat.le_of_ble_eq_true rfl⟩ rfl rfl (Nat.le_of_ble_eq_true rfl) ⟨Nat.le_of_ble_eq_true rfl, Nat.le_of_ble_eq_true rfl⟩ dX4_dot_100) ?_
            obtain ⟨v26, w27, hc25, hf⟩ := xm_b2 hf
            obtain ⟨_, hob, _⟩ := xm_bind hc25
            refine xj_reti (xr_V hC (mX4_settled l D ks b hc25) hob rfl xw_cod_X4_settled xw_ini_X4 xw_ins_X4_settled xw_sel_X4_settled xw_ml_X4_145 xds_X4_settled ⟨Nat.le_of_ble_eq_true rfl, Nat.le_of_ble_eq_true rfl⟩ rfl rfl (Nat.le_of_ble_eq_true rfl) ⟨Nat.le_of_ble_eq_true rfl, Nat.le_of_ble_eq_true rfl⟩ dX4_dot_103) ?_
            obtain ⟨he, hw⟩ := Prod.mk.inj (Option.some.inj hf)
            exact xj_iret hC hr (by decide) (by decide) dX4_dot_106 he hw
          · refine xj_aload_n hC dX4_dot_76 rfl 2 rfl ?_
            refine xb_getR hC 4 4 xcl_4 (by decide) xw_fl_X4_34 dX4_dot_77 hf (fun v28 hf => ?_)
            refine xj_aload hC dX4_dot_80 1 rfl ?_
            refine xj_aload hC dX4_dot_82 0 rfl ?_
            refine xj_iload_n hC dX4_dot_84 rfl 5 rfl ?_
            obtain ⟨v30, w31, hc29, hf⟩ := xm_b2 hf
            obtain ⟨_, hob, _⟩ := xm_bind hc29
            refine xj_reti (xr_V hC (mX0_stepwiseTotal l D ks b hc29) hob rfl xw_cod_X0_stepwiseTotal xw_ini_X0 xw_ins_X0_stepwiseTotal xw_sel_X0_stepwiseTotal xw_ml_X4_219 xds_X0_stepwiseTotal ⟨Nat.le_of_ble_eq_true rfl, Nat.le_of_ble_eq_true rfl⟩ rfl rfl (Nat.le_of_ble_eq_true rfl) ⟨Nat.le_of_ble_eq_true rfl, Nat.le_of_ble_eq_true rfl⟩ dX4_dot_85) ?_
            refine xj_goto (tgt := 103) hC dX4_dot_88 (by decide) ?_
            obtain ⟨v33, w34, hc32, hf⟩ := xm_b2 hf
            obtain ⟨_, hob, _⟩ := xm_bind hc32
            refine xj_reti (xr_V hC (mX4_settled l D ks b hc32) hob rfl xw_cod_X4_settled xw_ini_X4 xw_ins_X4_settled xw_sel_X4_settled xw_ml_X4_145 xds_X4_settled ⟨Nat.le_of_ble_eq_true rfl, Nat.le_of_ble_eq_true rfl⟩ rfl rfl (Nat.le_of_ble_eq_true rfl) ⟨Nat.le_of_ble_eq_true rfl, Nat.le_of_ble_eq_true rfl⟩ dX4_dot_103) ?_
            obtain ⟨he, hw⟩ := Prod.mk.inj (Option.some.inj hf)
            exact xj_iret hC hr (by decide) (by decide) dX4_dot_106 he hw
        · refine xj_aload_n hC dX4_dot_53 rfl 2 rfl ?_
          refine xj_bipush (v := -2) hC dX4_dot_54 (by decide) ?_
          obtain ⟨v36, w37, hc35, hf⟩ := xm_b2 hf
          obtain ⟨_, hob, _⟩ := xm_bind hc35
          refine xj_reti (xr_V hC (mX4_refused l D ks b hc35) hob rfl xw_cod_X4_refused xw_ini_X4 xw_ins_X4_refused xw_sel_X4_refused xw_ml_X4_66 xds_X4_refused ⟨Nat.le_of_ble_eq_true rfl, Nat.le_of_ble_eq_true rfl⟩ rfl rfl (Nat.le_of_ble_eq_true rfl) ⟨Nat.le_of_ble_eq_true rfl, Nat.le_of_ble_eq_true rfl⟩ dX4_dot_56) ?_
          obtain ⟨he, hw⟩ := Prod.mk.inj (Option.some.inj hf)
          exact xj_iret hC hr (by decide) (by decide) dX4_dot_59 he hw
      · refine xj_aload_n hC dX4_dot_31 rfl 2 rfl ?_
        refine xj_iconst (v := -1) hC dX4_dot_32 (by decide) ?_
        obtain ⟨v39, w40, hc38, hf⟩ := xm_b2 hf
        obtain ⟨_, hob, _⟩ := xm_bind hc38
        refine xj_reti (xr_V hC (mX4_refused l D ks b hc38) hob rfl xw_cod_X4_refused xw_ini_X4 xw_ins_X4_refused xw_sel_X4_refused xw_ml_X4_66 xds_X4_refused ⟨Nat.le_of_ble_eq_true rfl, Nat.le_of_ble_eq_true rfl⟩ rfl rfl (Nat.le_of_ble_eq_true rfl) ⟨Nat.le_of_ble_eq_true rfl, Nat.le_of_ble_eq_true rfl⟩ dX4_dot_33) ?_
        obtain ⟨he, hw⟩ := Prod.mk.inj (Option.some.inj hf)
        exact xj_iret hC hr (by decide) (by decide) dX4_dot_36 he hw
def fX4_table (w : xmW) (th : (Option Nat)) (a1 : Int32) (a2 : Int32) (a3 : Int32) : Option (Int32 × xmW) := ((xmob w th 4).bind fun _ => ((fX4_formatAt w (th) (a1)).bind fun v2 => (if v2 = none then (xmb2 (fX4_refused w (th) ((-1 : Int32))) fun v4 w5 => (some (v4, w5))) else ((fX4_within w (a2) ((0 : Int32)) ((6 : Int32))).bind fun v7 => (if v7 = 0 then (xmb2 (fX4_refused w (th) ((-1 : Int32))) fun v9 w10 => (some (v9, w10))) else ((fX4_isMode w (a3)).bind fun v12 => (if v12 = 0 then (xmb2 (fX4_refused w (th) ((-1 : Int32))) fun v33 w34 => (some (v33, w34))) else ((fX1_bits w (v2) ).bind fun v14 => (if v14 ≤ (6 : Int32) then ((xmgI w th 4 10).bind fun v15 => (if v15 < (100 : Int32) then ((xmgI w th 4 10).bind fun v16 => ((xmput w th 4 10 (xI (v16 + (1 : Int32)))).bind fun w17 => ((xmput w17 th 4 7 (xR v2)).bind fun w18 => ((xmput w18 th 4 8 (xI a2)).bind fun w19 => ((xmput w19 th 4 9 (xI a3)).bind fun w20 => ((fX1_bits w20 (v2) ).bind fun v22 => (xmb2 (fX4_answered w20 (th) (((1 : Int32) <<< (((2 : Int32) * v22) &&& 31)))) fun v24 w25 => (some (v24, w25))))))))) else (xmb2 (fX4_refused w (th) ((-3 : Int32))) fun v27 w28 => (some (v27, w28))))) else (xmb2 (fX4_refused w (th) ((-2 : Int32))) fun v30 w31 => (some (v30, w31))))))))))))
set_option maxHeartbeats 4000000 in
set_option maxRecDepth 100000 in
theorem mX4_table (l : Launch) (D : va_G) (ks : Nat → ClassId) (b : Nat) {w : xmW} {th : (Option Nat)} {a1 : Int32} {a2 : Int32} {a3 : Int32} {y : Int32} {wz : xmW} (hf : fX4_table w th a1 a2 a3 = some (y, wz)) : xmM l yX4_table (Cond.code yX4_table cX4_table 5 (some (FieldType.int)) :: xmTs) 2 43 0 0 D ks b w [xR th, xI a1, xI a2, xI a3] (some (xI y)) wz := by
  unfold fX4_table at hf
  obtain ⟨_, _, hf⟩ := xm_bind hf
  refine xmM.of (own := RX4) (lv0 := [(0, xR th), (1, xI a1), (2, xI a2), (3, xI a3)]) (by decide) rfl (Nat.le_of_ble_eq_true rfl) rfl ?_
  intro p e s m args below meth c hC hr hnm
  refine xj_aload_n hC dX4_table_0 rfl 0 rfl ?_
  refine xj_iload_n hC dX4_table_1 rfl 1 rfl ?_
  obtain ⟨v2, hc1, hf⟩ := xm_bind hf
  obtain ⟨_, hob, _⟩ := xm_bind hc1
  refine xj_retr (xr_V hC (mX4_formatAt l D ks b hc1) hob rfl xw_cod_X4_formatAt xw_ini_X4 xw_ins_X4_formatAt xw_sel_X4_formatAt xw_ml_X4_73 xds_X4_formatAt ⟨Nat.le_of_ble_eq_true rfl, Nat.le_of_ble_eq_true rfl⟩ rfl rfl (Nat.le_of_ble_eq_true rfl) ⟨Nat.le_of_ble_eq_true rfl, Nat.le_of_ble_eq_true rfl⟩ dX4_table_2) ?_
  refine xj_astore (lv' := [(4, xR v2), (0, xR th), (1, xI a1), (2, xI a2), (3, xI a3)]) hC dX4_table_5 (by decide) rfl ?_
  refine xj_aload hC dX4_table_7 0 rfl ?_
  refine xb_ifnull (tgt := 29) hC dX4_table_9 (by decide) hf (fun hf => ?_) (fun hf => ?_)
  · refine xj_aload_n hC dX4_table_29 rfl 1 rfl ?_
    refine xj_iconst (v := -1) hC dX4_table_30 (by decide) ?_
    obtain ⟨v4, w5, hc3, hf⟩ := xm_b2 hf
    obtain ⟨_, hob, _⟩ := xm_bind hc3
    refine xj_reti (xr_V hC (mX4_refused l D ks b hc3) hob rfl xw_cod_X4_refused xw_ini_X4 xw_ins_X4_refused xw_sel_X4_refused xw_ml_X4_66 xds_X4_refused ⟨Nat.le_of_ble_eq_true rfl, Nat.le_of_ble_eq_true rfl⟩ rfl rfl (Nat.le_of_ble_eq_true rfl) ⟨Nat.le_of_ble_eq_true rfl, Nat.le_of_ble_eq_true rfl⟩ dX4_table_31) ?_
    obtain ⟨he, hw⟩ := Prod.mk.inj (Option.some.inj hf)
    exact xj_iret hC hr (by decide) (by decide) dX4_table_34 he hw
  · refine xj_iload_n hC dX4_table_12 rfl 3 rfl ?_
    refine xj_iconst (v := 0) hC dX4_table_13 (by decide) ?_
    refine xj_bipush (v := 6) hC dX4_table_14 (by decide) ?_
    obtain ⟨v7, hc6, hf⟩ := xm_bind hf
    refine xj_reti (xr_S hC (mX4_within l D ks b hc6) xw_cod_X4_within xw_ini_X4 xw_sta_X4_within xw_ml_X4_62 xds_X4_within ⟨Nat.le_of_ble_eq_true rfl, Nat.le_of_ble_eq_true rfl⟩ rfl rfl (Nat.le_of_ble_eq_true rfl) ⟨Nat.le_of_ble_eq_true rfl, Nat.le_of_ble_eq_true rfl⟩ dX4_table_16) ?_
    refine xb_if_eq (tgt := 29) hC dX4_table_19 (by decide) hf (fun hf => ?_) (fun hf => ?_)
    · refine xj_aload_n hC dX4_table_29 rfl 1 rfl ?_
      refine xj_iconst (v := -1) hC dX4_table_30 (by decide) ?_
      obtain ⟨v9, w10, hc8, hf⟩ := xm_b2 hf
      obtain ⟨_, hob, _⟩ := xm_bind hc8
      refine xj_reti (xr_V hC (mX4_refused l D ks b hc8) hob rfl xw_cod_X4_refused xw_ini_X4 xw_ins_X4_refused xw_sel_X4_refused xw_ml_X4_66 xds_X4_refused ⟨Nat.le_of_ble_eq_true rfl, Nat.le_of_ble_eq_true rfl⟩ rfl rfl (Nat.le_of_ble_eq_true rfl) ⟨Nat.le_of_ble_eq_true rfl, Nat.le_of_ble_eq_true rfl⟩ dX4_table_31) ?_
      obtain ⟨he, hw⟩ := Prod.mk.inj (Option.some.inj hf)
      exact xj_iret hC hr (by decide) (by decide) dX4_table_34 he hw
    · refine xj_iload_n hC dX4_table_22 rfl 4 rfl ?_
      obtain ⟨v12, hc11, hf⟩ := xm_bind hf
      refine xj_reti (xr_S hC (mX4_isMode l D ks b hc11) xw_cod_X4_isMode xw_ini_X4 xw_sta_X4_isMode xw_ml_X4_132 xds_X4_isMode ⟨Nat.le_of_ble_eq_true rfl, Nat.le_of_ble_eq_true rfl⟩ rfl rfl (Nat.le_of_ble_eq_true rfl) ⟨Nat.le_of_ble_eq_true rfl, Nat.le_of_ble_eq_true rfl⟩ dX4_table_23) ?_
      refine xb_if_ne (tgt := 35) hC dX4_table_26 (by decide) hf (fun hf => ?_) (fun hf => ?_)
      · refine xj_aload hC dX4_table_35 0 rfl ?_
        obtain ⟨v14, hc13, hf⟩ := xm_bind hf
        obtain ⟨_, hob, _⟩ := xm_bind hc13
        refine xj_reti (xr_V hC (mX1_bits l D ks b hc13) hob rfl xw_cod_X1_bits xw_ini_X1 xw_ins_X1_bits xw_sel_X1_bits xw_ml_X4_84 xds_X1_bits ⟨Nat.le_of_ble_eq_true rfl, Nat.le_of_ble_eq_true rfl⟩ rfl rfl (Nat.le_of_ble_eq_true rfl) ⟨Nat.le_of_ble_eq_true rfl, Nat.le_of_ble_eq_true rfl⟩ dX4_table_37) ?_
        refine xj_bipush (v := 6) hC dX4_table_40 (by decide) ?_
        refine xb_ic_le (tgt := 52) hC dX4_table_42 (by decide) hf (fun hf => ?_) (fun hf => ?_)
        · refine xj_aload_n hC dX4_table_52 rfl 1 rfl ?_
          refine xb_getI hC 4 10 xcl_4 (by decide) xw_fl_X4_58 dX4_table_53 hf (fun v15 hf => ?_)
          refine xj_bipush (v := 100) hC dX4_table_56 (by decide) ?_
          refine xb_ic_lt (tgt := 68) hC dX4_table_58 (by decide) hf (fun hf => ?_) (fun hf => ?_)
          · refine xj_aload_n hC dX4_table_68 rfl 1 rfl ?_
            refine xj_dup hC dX4_table_69 rfl ?_
            refine xb_getI hC 4 10 xcl_4 (by decide) xw_fl_X4_58 dX4_table_70 hf (fun v16 hf => ?_)
            refine xj_iconst (v := 1) hC dX4_table_73 (by decide) ?_
            refine xj_iadd hC dX4_table_74 ?_
            refine xb_put hC 4 10 xcl_4 (by decide) xw_fl_X4_58 rfl (xmfit_i _) dX4_table_75 hf (fun w17 hf => ?_)
            refine xj_aload_n hC dX4_table_78 rfl 1 rfl ?_
            refine xj_aload hC dX4_table_79 0 rfl ?_
            refine xb_put hC 4 7 xcl_4 (by decide) xw_fl_X4_48 rfl (xmfit_q _ _) dX4_table_81 hf (fun w18 hf => ?_)
            refine xj_aload_n hC dX4_table_84 rfl 1 rfl ?_
            refine xj_iload_n hC dX4_table_85 rfl 3 rfl ?_
            refine xb_put hC 4 8 xcl_4 (by decide) xw_fl_X4_52 rfl (xmfit_i _) dX4_table_86 hf (fun w19 hf => ?_)
            refine xj_aload_n hC dX4_table_89 rfl 1 rfl ?_
            refine xj_iload_n hC dX4_table_90 rfl 4 rfl ?_
            refine xb_put hC 4 9 xcl_4 (by decide) xw_fl_X4_55 rfl (xmfit_i _) dX4_table_91 hf (fun w20 hf => ?_)
            refine xj_aload_n hC dX4_table_94 rfl 1 rfl ?_
            refine xj_iconst (v := 1) hC dX4_table_95 (by decide) ?_
            refine xj_iconst (v := 2) hC dX4_table_96 (by decide) ?_
            refine xj_aload hC dX4_table_97 0 rfl ?_
            obtain ⟨v22, hc21, hf⟩ := xm_bind hf
            obtain ⟨_, hob, _⟩ := xm_bind hc21
            refine xj_reti (xr_V hC (mX1_bits l D ks b hc21) hob rfl xw_cod_X1_bits xw_ini_X1 xw_ins_X1_bits xw_sel_X1_bits xw_ml_X4_84 xds_X1_bits ⟨Nat.le_of_ble_eq_true rfl, Nat.le_of_ble_eq_true rfl⟩ rfl rfl (Nat.le_of_ble_eq_true rfl) ⟨Nat.le_of_ble_eq_true rfl, Nat.le_of_ble_eq_true rfl⟩ dX4_table_99) ?_
            refine xj_imul hC dX4_table_102 ?_
            refine xj_ishl hC dX4_table_103 ?_
            obtain ⟨v24, w25, hc23, hf⟩ := xm_b2 hf
            obtain ⟨_, hob, _⟩ := xm_bind hc23
            refine xj_reti (xr_V hC (mX4_answered l D ks b hc23) hob rfl xw_cod_X4_answered xw_ini_X4 xw_ins_X4_answered xw_sel_X4_answered xw_ml_X4_81 xds_X4_answered ⟨Nat.le_of_ble_eq_true rfl, Nat.le_of_ble_eq_true rfl⟩ rfl rfl (Nat.le_of_ble_eq_true rfl) ⟨Nat.le_of_ble_eq_true rfl, Nat.le_of_ble_eq_true rfl⟩ dX4_table_104) ?_
            obtain ⟨he, hw⟩ := Prod.mk.inj (Option.some.inj hf)
            exact xj_iret hC hr (by decide) (by decide) dX4_table_107 he hw
          · refine xj_aload_n hC dX4_table_61 rfl 1 rfl ?_
            refine xj_bipush (v := -3) hC dX4_table_62 (by decide) ?_
            obtain ⟨v27, w28, hc26, hf⟩ := xm_b2 hf
            obtain ⟨_, hob, _⟩ := xm_bind hc26
            refine xj_reti (xr_V hC (mX4_refused l D ks b hc26) hob rfl xw_cod_X4_refused xw_ini_X4 xw_ins_X4_refused xw_sel_X4_refused xw_ml_X4_66 xds_X4_refused ⟨Nat.le_of_ble_eq_true rfl, Nat.le_of_ble_eq_true rfl⟩ rfl rfl (Nat.le_of_ble_eq_true rfl) ⟨Nat.le_of_ble_eq_true rfl, Nat.le_of_ble_eq_true rfl⟩ dX4_table_64) ?_
            obtain ⟨he, hw⟩ := Prod.mk.inj (Option.some.inj hf)
            exact xj_iret hC hr (by decide) (by decide) dX4_table_67 he hw
        · refine xj_aload_n hC dX4_table_45 rfl 1 rfl ?_
          refine xj_bipush (v := -2) hC dX4_table_46 (by decide) ?_
          obtain ⟨v30, w31, hc29, hf⟩ := xm_b2 hf
          obtain ⟨_, hob, _⟩ := xm_bind hc29
          refine xj_reti (xr_V hC (mX4_refused l D ks b hc29) hob rfl xw_cod_X4_refused xw_ini_X4 xw_ins_X4_refused xw_sel_X4_refused xw_ml_X4_66 xds_X4_refused ⟨Nat.le_of_ble_eq_true rfl, Nat.le_of_ble_eq_true rfl⟩ rfl rfl (Nat.le_of_ble_eq_true rfl) ⟨Nat.le_of_ble_eq_true rfl, Nat.le_of_ble_eq_true rfl⟩ dX4_table_48) ?_
          obtain ⟨he, hw⟩ := Prod.mk.inj (Option.some.inj hf)
          exact xj_iret hC hr (by decide) (by decide) dX4_table_51 he hw
      · refine xj_aload_n hC dX4_table_29 rfl 1 rfl ?_
        refine xj_iconst (v := -1) hC dX4_table_30 (by decide) ?_
        obtain ⟨v33, w34, hc32, hf⟩ := xm_b2 hf
        obtain ⟨_, hob, _⟩ := xm_bind hc32
        refine xj_reti (xr_V hC (mX4_refused l D ks b hc32) hob rfl xw_cod_X4_refused xw_ini_X4 xw_ins_X4_refused xw_sel_X4_refused xw_ml_X4_66 xds_X4_refused ⟨Nat.le_of_ble_eq_true rfl, Nat.le_of_ble_eq_true rfl⟩ rfl rfl (Nat.le_of_ble_eq_true rfl) ⟨Nat.le_of_ble_eq_true rfl, Nat.le_of_ble_eq_true rfl⟩ dX4_table_31) ?_
        obtain ⟨he, hw⟩ := Prod.mk.inj (Option.some.inj hf)
        exact xj_iret hC hr (by decide) (by decide) dX4_table_34 he hw
def fX4_lookup (w : xmW) (th : (Option Nat)) (a1 : Int32) (a2 : Int32) : Option (Int32 × xmW) := ((xmob w th 4).bind fun _ => ((xmgR w th 4 7).bind fun v1 => (if v1 = none then (xmb2 (fX4_refused w (th) ((-2 : Int32))) fun v28 w29 => (some (v28, w29))) else ((xmgR w th 4 7).bind fun v2 => ((fX1_hasCode w (v2) (a1)).bind fun v4 => (if v4 = 0 then (xmb2 (fX4_refused w (th) ((-1 : Int32))) fun v6 w7 => (some (v6, w7))) else ((xmgR w th 4 7).bind fun v8 => ((fX1_hasCode w (v8) (a2)).bind fun v10 => (if v10 = 0 then (xmb2 (fX4_refused w (th) ((-1 : Int32))) fun v25 w26 => (some (v25, w26))) else ((xmgR w th 4 4).bind fun v11 => ((xmgR w th 4 7).bind fun v12 => ((xmgI w th 4 8).bind fun v13 => ((xmgI w th 4 9).bind fun v14 => (xmb2 (fX0_acted w (v11) (v12) (v13) (a1) (a2) (v14)) fun v16 w17 => (if v16 = (-4 : Int32) then (xmb2 (fX4_answered w17 (th) ((-1 : Int32))) fun v22 w23 => (some (v22, w23))) else (xmb2 (fX4_answered w17 (th) (v16)) fun v19 w20 => (some (v19, w20))))))))))))))))))
set_option maxHeartbeats 4000000 in
set_option maxRecDepth 100000 in
theorem mX4_lookup (l : Launch) (D : va_G) (ks : Nat → ClassId) (b : Nat) {w : xmW} {th : (Option Nat)} {a1 : Int32} {a2 : Int32} {y : Int32} {wz : xmW} (hf : fX4_lookup w th a1 a2 = some (y, wz)) : xmM l yX4_lookup (Cond.code yX4_lookup cX4_lookup 4 (some (FieldType.int)) :: xmTs) 5 139 0 0 D ks b w [xR th, xI a1, xI a2] (some (xI y)) wz := by
  unfold fX4_lookup at hf
  obtain ⟨_, _, hf⟩ := xm_bind hf
  refine xmM.of (own := RX4) (lv0 := [(0, xR th), (1, xI a1), (2, xI a2)]) (by decide) rfl (Nat.le_of_ble_eq_true rfl) rfl ?_
  intro p e s m args below meth c hC hr hnm
  refine xj_aload_n hC dX4_lookup_0 rfl 0 rfl ?_
  refine xb_getR hC 4 7 xcl_4 (by decide) xw_fl_X4_48 dX4_lookup_1 hf (fun v1 hf => ?_)
  refine xb_ifnonnull (tgt := 14) hC dX4_lookup_4 (by decide) hf (fun hf => ?_) (fun hf => ?_)
  · refine xj_aload_n hC dX4_lookup_14 rfl 0 rfl ?_
    refine xb_getR hC 4 7 xcl_4 (by decide) xw_fl_X4_48 dX4_lookup_15 hf (fun v2 hf => ?_)
    refine xj_iload_n hC dX4_lookup_18 rfl 1 rfl ?_
    obtain ⟨v4, hc3, hf⟩ := xm_bind hf
    obtain ⟨_, hob, _⟩ := xm_bind hc3
    refine xj_reti (xr_V hC (mX1_hasCode l D ks b hc3) hob rfl xw_cod_X1_hasCode xw_ini_X1 xw_ins_X1_hasCode xw_sel_X1_hasCode xw_ml_X4_107 xds_X1_hasCode ⟨Nat.le_of_ble_eq_true rfl, Nat.le_of_ble_eq_true rfl⟩ rfl rfl (Nat.le_of_ble_eq_true rfl) ⟨Nat.le_of_ble_eq_true rfl, Nat.le_of_ble_eq_true rfl⟩ dX4_lookup_19) ?_
    refine xb_if_eq (tgt := 36) hC dX4_lookup_22 (by decide) hf (fun hf => ?_) (fun hf => ?_)
    · refine xj_aload_n hC dX4_lookup_36 rfl 0 rfl ?_
      refine xj_iconst (v := -1) hC dX4_lookup_37 (by decide) ?_
      obtain ⟨v6, w7, hc5, hf⟩ := xm_b2 hf
      obtain ⟨_, hob, _⟩ := xm_bind hc5
      refine xj_reti (xr_V hC (mX4_refused l D ks b hc5) hob rfl xw_cod_X4_refused xw_ini_X4 xw_ins_X4_refused xw_sel_X4_refused xw_ml_X4_66 xds_X4_refused ⟨Nat.le_of_ble_eq_true rfl, Nat.le_of_ble_eq_true rfl⟩ rfl rfl (Nat.le_of_ble_eq_true rfl) ⟨Nat.le_of_ble_eq_true rfl, Nat.le_of_ble_eq_true rfl⟩ dX4_lookup_38) ?_
      obtain ⟨he, hw⟩ := Prod.mk.inj (Option.some.inj hf)
      exact xj_iret hC hr (by decide) (by decide) dX4_lookup_41 he hw
    · refine xj_aload_n hC dX4_lookup_25 rfl 0 rfl ?_
      refine xb_getR hC 4 7 xcl_4 (by decide) xw_fl_X4_48 dX4_lookup_26 hf (fun v8 hf => ?_)
      refine xj_iload_n hC dX4_lookup_29 rfl 2 rfl ?_
      obtain ⟨v10, hc9, hf⟩ := xm_bind hf
      obtain ⟨_, hob, _⟩ := xm_bind hc9
      refine xj_reti (xr_V hC (mX1_hasCode l D ks b hc9) hob rfl xw_cod_X1_hasCode xw_ini_X1 xw_ins_X1_hasCode xw_sel_X1_hasCode xw_ml_X4_107 xds_X1_hasCode ⟨Nat.le_of_ble_eq_true rfl, Nat.le_of_ble_eq_true rfl⟩ rfl rfl (Nat.le_of_ble_eq_true rfl) ⟨Nat.le_of_ble_eq_true rfl, Nat.le_of_ble_eq_true rfl⟩ dX4_lookup_30) ?_
      refine xb_if_ne (tgt := 42) hC dX4_lookup_33 (by decide) hf (fun hf => ?_) (fun hf => ?_)
      · refine xj_aload_n hC dX4_lookup_42 rfl 0 rfl ?_
        refine xb_getR hC 4 4 xcl_4 (by decide) xw_fl_X4_34 dX4_lookup_43 hf (fun v11 hf => ?_)
        refine xj_aload_n hC dX4_lookup_46 rfl 0 rfl ?_
        refine xb_getR hC 4 7 xcl_4 (by decide) xw_fl_X4_48 dX4_lookup_47 hf (fun v12 hf => ?_)
        refine xj_aload_n hC dX4_lookup_50 rfl 0 rfl ?_
        refine xb_getI hC 4 8 xcl_4 (by decide) xw_fl_X4_52 dX4_lookup_51 hf (fun v13 hf => ?_)
        refine xj_iload_n hC dX4_lookup_54 rfl 1 rfl ?_
        refine xj_iload_n hC dX4_lookup_55 rfl 2 rfl ?_
        refine xj_aload_n hC dX4_lookup_56 rfl 0 rfl ?_
        refine xb_getI hC 4 9 xcl_4 (by decide) xw_fl_X4_55 dX4_lookup_57 hf (fun v14 hf => ?_)
        obtain ⟨v16, w17, hc15, hf⟩ := xm_b2 hf
        obtain ⟨_, hob, _⟩ := xm_bind hc15
        refine xj_reti (xr_V hC (mX0_acted l D ks b hc15) hob rfl xw_cod_X0_acted xw_ini_X0 xw_ins_X0_acted xw_sel_X0_acted xw_ml_X4_152 xds_X0_acted ⟨Nat.le_of_ble_eq_true rfl, Nat.le_of_ble_eq_true rfl⟩ rfl rfl (Nat.le_of_ble_eq_true rfl) ⟨Nat.le_of_ble_eq_true rfl, Nat.le_of_ble_eq_true rfl⟩ dX4_lookup_60) ?_
        refine xj_istore_n (lv' := [(3, xI v16), (0, xR th), (1, xI a1), (2, xI a2)]) hC dX4_lookup_63 rfl (by decide) rfl ?_
        refine xj_aload_n hC dX4_lookup_64 rfl 1 rfl ?_
        refine xj_iload_n hC dX4_lookup_65 rfl 0 rfl ?_
        refine xj_bipush (v := -4) hC dX4_lookup_66 (by decide) ?_
        refine xb_ic_ne (tgt := 75) hC dX4_lookup_68 (by decide) hf (fun hf => ?_) (fun hf => ?_)
        · refine xj_iload_n hC dX4_lookup_75 rfl 0 rfl ?_
          obtain ⟨v19, w20, hc18, hf⟩ := xm_b2 hf
          obtain ⟨_, hob, _⟩ := xm_bind hc18
          refine xj_reti (xr_V hC (mX4_answered l D ks b hc18) hob rfl xw_cod_X4_answered xw_ini_X4 xw_ins_X4_answered xw_sel_X4_answered xw_ml_X4_81 xds_X4_answered ⟨Nat.le_of_ble_eq_true rfl, Nat.le_of_ble_eq_true rfl⟩ rfl rfl (Nat.le_of_ble_eq_true rfl) ⟨Nat.le_of_ble_eq_true rfl, Nat.le_of_ble_eq_true rfl⟩ dX4_lookup_76) ?_
          obtain ⟨he, hw⟩ := Prod.mk.inj (Option.some.inj hf)
          exact xj_iret hC hr (by decide) (by decide) dX4_lookup_79 he hw
        · refine xj_iconst (v := -1) hC dX4_lookup_71 (by decide) ?_
          refine xj_goto (tgt := 76) hC dX4_lookup_72 (by decide) ?_
          obtain ⟨v22, w23, hc21, hf⟩ := xm_b2 hf
          obtain ⟨_, hob, _⟩ := xm_bind hc21
          refine xj_reti (xr_V hC (mX4_answered l D ks b hc21) hob rfl xw_cod_X4_answered xw_ini_X4 xw_ins_X4_answered xw_sel_X4_answered xw_ml_X4_81 xds_X4_answered ⟨Nat.le_of_ble_eq_true rfl, Nat.le_of_ble_eq_true rfl⟩ rfl rfl (Nat.le_of_ble_eq_true rfl) ⟨Nat.le_of_ble_eq_true rfl, Nat.le_of_ble_eq_true rfl⟩ dX4_lookup_76) ?_
          obtain ⟨he, hw⟩ := Prod.mk.inj (Option.some.inj hf)
          exact xj_iret hC hr (by decide) (by decide) dX4_lookup_79 he hw
      · refine xj_aload_n hC dX4_lookup_36 rfl 0 rfl ?_
        refine xj_iconst (v := -1) hC dX4_lookup_37 (by decide) ?_
        obtain ⟨v25, w26, hc24, hf⟩ := xm_b2 hf
        obtain ⟨_, hob, _⟩ := xm_bind hc24
        refine xj_reti (xr_V hC (mX4_refused l D ks b hc24) hob rfl xw_cod_X4_refused xw_ini_X4 xw_ins_X4_refused xw_sel_X4_refused xw_ml_X4_66 xds_X4_refused ⟨Nat.le_of_ble_eq_true rfl, Nat.le_of_ble_eq_true rfl⟩ rfl rfl (Nat.le_of_ble_eq_true rfl) ⟨Nat.le_of_ble_eq_true rfl, Nat.le_of_ble_eq_true rfl⟩ dX4_lookup_38) ?_
        obtain ⟨he, hw⟩ := Prod.mk.inj (Option.some.inj hf)
        exact xj_iret hC hr (by decide) (by decide) dX4_lookup_41 he hw
  · refine xj_aload_n hC dX4_lookup_7 rfl 0 rfl ?_
    refine xj_bipush (v := -2) hC dX4_lookup_8 (by decide) ?_
    obtain ⟨v28, w29, hc27, hf⟩ := xm_b2 hf
    obtain ⟨_, hob, _⟩ := xm_bind hc27
    refine xj_reti (xr_V hC (mX4_refused l D ks b hc27) hob rfl xw_cod_X4_refused xw_ini_X4 xw_ins_X4_refused xw_sel_X4_refused xw_ml_X4_66 xds_X4_refused ⟨Nat.le_of_ble_eq_true rfl, Nat.le_of_ble_eq_true rfl⟩ rfl rfl (Nat.le_of_ble_eq_true rfl) ⟨Nat.le_of_ble_eq_true rfl, Nat.le_of_ble_eq_true rfl⟩ dX4_lookup_10) ?_
    obtain ⟨he, hw⟩ := Prod.mk.inj (Option.some.inj hf)
    exact xj_iret hC hr (by decide) (by decide) dX4_lookup_13 he hw
def fX4_count (w : xmW) (th : (Option Nat)) (a1 : Int32) : Option Int32 := ((xmob w th 4).bind fun _ => (if a1 = (0 : Int32) then ((xmgR w th 4 5).bind fun v2 => ((xmgI w v2 3 0).bind fun v3 => (some v3))) else (if a1 = (1 : Int32) then ((xmgR w th 4 5).bind fun v5 => ((xmgI w v5 3 1).bind fun v6 => (some v6))) else (if a1 = (2 : Int32) then ((xmgR w th 4 5).bind fun v8 => ((xmgI w v8 3 2).bind fun v9 => (some v9))) else (if a1 = (3 : Int32) then ((xmgI w th 4 1).bind fun v11 => (some v11)) else (some (-1 : Int32)))))))
set_option maxHeartbeats 4000000 in
set_option maxRecDepth 100000 in
theorem mX4_count (l : Launch) (D : va_G) (ks : Nat → ClassId) (b : Nat) {w : xmW} {th : (Option Nat)} {a1 : Int32} {y : Int32} (hf : fX4_count w th a1 = some y) : xmM l yX4_count (Cond.code yX4_count cX4_count 2 (some (FieldType.int)) :: xmTs) 0 0 0 0 D ks b w [xR th, xI a1] (some (xI y)) w := by
  unfold fX4_count at hf
  obtain ⟨_, _, hf⟩ := xm_bind hf
  refine xmM.of (own := RX4) (lv0 := [(0, xR th), (1, xI a1)]) (by decide) rfl (Nat.le_of_ble_eq_true rfl) rfl ?_
  intro p e s m args below meth c hC hr hnm
  refine xj_iload_n hC dX4_count_0 rfl 1 rfl ?_
  refine xb_case hf (fun hx hf => ?_) (fun hn1 hf => ?_)
  · refine xj_tableIn (tgt := 32) hC (31) dX4_count_1 hx (by decide) (by decide) (by decide) (by decide) ?_
    refine xj_aload_n hC dX4_count_32 rfl 0 rfl ?_
    refine xb_getR hC 4 5 xcl_4 (by decide) xw_fl_X4_41 dX4_count_33 hf (fun v2 hf => ?_)
    refine xb_getI hC 3 0 xcl_3 (by decide) xw_fl_X4_226 dX4_count_36 hf (fun v3 hf => ?_)
    exact xj_iret hC hr (by decide) (by decide) dX4_count_39 (Option.some.inj hf) rfl
  · refine xb_case hf (fun hx hf => ?_) (fun hn4 hf => ?_)
    · refine xj_tableIn (tgt := 40) hC (39) dX4_count_1 hx (by decide) (by decide) (by decide) (by decide) ?_
      refine xj_aload_n hC dX4_count_40 rfl 0 rfl ?_
      refine xb_getR hC 4 5 xcl_4 (by decide) xw_fl_X4_41 dX4_count_41 hf (fun v5 hf => ?_)
      refine xb_getI hC 3 1 xcl_3 (by decide) xw_fl_X4_229 dX4_count_44 hf (fun v6 hf => ?_)
      exact xj_iret hC hr (by decide) (by decide) dX4_count_47 (Option.some.inj hf) rfl
    · refine xb_case hf (fun hx hf => ?_) (fun hn7 hf => ?_)
      · refine xj_tableIn (tgt := 48) hC (47) dX4_count_1 hx (by decide) (by decide) (by decide) (by decide) ?_
        refine xj_aload_n hC dX4_count_48 rfl 0 rfl ?_
        refine xb_getR hC 4 5 xcl_4 (by decide) xw_fl_X4_41 dX4_count_49 hf (fun v8 hf => ?_)
        refine xb_getI hC 3 2 xcl_3 (by decide) xw_fl_X4_232 dX4_count_52 hf (fun v9 hf => ?_)
        exact xj_iret hC hr (by decide) (by decide) dX4_count_55 (Option.some.inj hf) rfl
      · refine xb_case hf (fun hx hf => ?_) (fun hn10 hf => ?_)
        · refine xj_tableIn (tgt := 56) hC (55) dX4_count_1 hx (by decide) (by decide) (by decide) (by decide) ?_
          refine xj_aload_n hC dX4_count_56 rfl 0 rfl ?_
          refine xb_getI hC 4 1 xcl_4 (by decide) xw_fl_X4_17 dX4_count_57 hf (fun v11 hf => ?_)
          exact xj_iret hC hr (by decide) (by decide) dX4_count_60 (Option.some.inj hf) rfl
        · have hx0 := lv_neT hn1 (a := 0) (by decide)
          have hx1 := lv_neT hn4 (a := 1) (by decide)
          have hx2 := lv_neT hn7 (a := 2) (by decide)
          have hx3 := lv_neT hn10 (a := 3) (by decide)
          refine xj_tableOut (tgt := 61) hC dX4_count_1 (by omega) (by decide) ?_
          refine xj_iconst (v := -1) hC dX4_count_61 (by decide) ?_
          exact xj_iret hC hr (by decide) (by decide) dX4_count_62 (Option.some.inj hf) rfl
def fX4_told (w : xmW) (th : (Option Nat)) : Option Int32 := ((xmob w th 4).bind fun _ => ((xmgI w th 4 6).bind fun v1 => (some v1)))
set_option maxHeartbeats 4000000 in
set_option maxRecDepth 100000 in
theorem mX4_told (l : Launch) (D : va_G) (ks : Nat → ClassId) (b : Nat) {w : xmW} {th : (Option Nat)} {y : Int32} (hf : fX4_told w th = some y) : xmM l yX4_told (Cond.code yX4_told cX4_told 1 (some (FieldType.int)) :: xmTs) 0 0 0 0 D ks b w [xR th] (some (xI y)) w := by
  unfold fX4_told at hf
  obtain ⟨_, _, hf⟩ := xm_bind hf
  refine xmM.of (own := RX4) (lv0 := [(0, xR th)]) (by decide) rfl (Nat.le_of_ble_eq_true rfl) rfl ?_
  intro p e s m args below meth c hC hr hnm
  refine xj_aload_n hC dX4_told_0 rfl 0 rfl ?_
  refine xb_getI hC 4 6 xcl_4 (by decide) xw_fl_X4_45 dX4_told_1 hf (fun v1 hf => ?_)
  exact xj_iret hC hr (by decide) (by decide) dX4_told_4 (Option.some.inj hf) rfl
