def fX0_init (w : xmW) (th : (Option Nat)) : Option xmW := (th.bind fun k5 => ((xmnew w 3 [xI 0, xI 0, xI 0]).bind fun w1 => ((fX3_init w1 ((some w.length)) ).bind fun w3 => ((xmput w3 th 0 0 (xR (some w.length))).bind fun w4 => (some w4)))))
set_option maxHeartbeats 4000000 in
set_option maxRecDepth 100000 in
theorem mX0_init (l : Launch) (D : va_G) (ks : Nat → ClassId) (b : Nat) {w : xmW} {th : (Option Nat)} {wz : xmW} (hf : fX0_init w th = some wz) : xmM l yX0_init (Cond.code yX0_init cX0_init 1 none :: xmTs) 2 40 1 3 D ks b w [xR th] none wz := by
  unfold fX0_init at hf
  refine xmM.of (own := RX0) (lv0 := [(0, xR th)]) (by decide) rfl (Nat.le_of_ble_eq_true rfl) rfl ?_
  intro p e s m args below meth c hC hr hnm
  refine xj_aload_n hC dX0_init_0 rfl 0 rfl ?_
  obtain ⟨k5, hkk5, hf⟩ := xm_bind hf
  refine xj_objInit hC hkk5 xw_ml_X0_3 xw_ins_obj xw_cod_obj dX0_init_1 ⟨Nat.le_of_ble_eq_true rfl, Nat.le_of_ble_eq_true rfl⟩ ?_
  refine xj_aload_n hC dX0_init_4 rfl 0 rfl ?_
  refine xb_new hC 3 xcl_3 xw_cl_X0_9 xw_inst_X3 xw_ini_X3 xdf_3 (by decide) (by decide) dX0_init_5 hf (fun w1 hf => ?_)
  refine xj_dup hC dX0_init_8 rfl ?_
  obtain ⟨w3, hc2, hf⟩ := xm_bind hf
  refine xj_retv (xr_IN hC (mX3_init l D ks b hc2) rfl xw_cod_X3_init xw_ini_X3 xw_ins_X3_init hC.hk.2.2.2.2.1 xds_X3_init ⟨Nat.le_of_ble_eq_true rfl, Nat.le_of_ble_eq_true rfl⟩ rfl rfl (Nat.le_of_ble_eq_true rfl) ⟨Nat.le_of_ble_eq_true rfl, Nat.le_of_ble_eq_true rfl⟩ dX0_init_9) ?_
  refine xb_putF hC 0 0 xcl_0 (by decide) xw_fl_X0_12 rfl hnm rfl (xmfit_q _ _) dX0_init_12 hf (fun w4 hf => ?_)
  exact xj_vret hC hr (by decide) (by decide) dX0_init_15 (Option.some.inj hf)
def fX0_invalid (w : xmW) (th : (Option Nat)) (a1 : (Option Nat)) : Option (Int32 × xmW) := ((xmob w th 0).bind fun _ => ((xmgR w th 0 0).bind fun v1 => ((xmgI w v1 3 2).bind fun v2 => ((xmput w v1 3 2 (xI (v2 + (1 : Int32)))).bind fun w3 => ((fX1_noneCode w3 (a1) ).bind fun v5 => (if v5 = (-9 : Int32) then (some ((-4 : Int32), w3)) else (some (v5, w3))))))))
set_option maxHeartbeats 4000000 in
set_option maxRecDepth 100000 in
theorem mX0_invalid (l : Launch) (D : va_G) (ks : Nat → ClassId) (b : Nat) {w : xmW} {th : (Option Nat)} {a1 : (Option Nat)} {y : Int32} {wz : xmW} (hf : fX0_invalid w th a1 = some (y, wz)) : xmM l yX0_invalid (Cond.code yX0_invalid cX0_invalid 3 (some (FieldType.int)) :: xmTs) 1 21 0 0 D ks b w [xR th, xR a1] (some (xI y)) wz := by
  unfold fX0_invalid at hf
  obtain ⟨_, _, hf⟩ := xm_bind hf
  refine xmM.of (own := RX0) (lv0 := [(0, xR th), (1, xR a1)]) (by decide) rfl (Nat.le_of_ble_eq_true rfl) rfl ?_
  intro p e s m args below meth c hC hr hnm
  refine xj_aload_n hC dX0_invalid_0 rfl 0 rfl ?_
  refine xb_getR hC 0 0 xcl_0 (by decide) xw_fl_X0_12 dX0_invalid_1 hf (fun v1 hf => ?_)
  refine xj_dup hC dX0_invalid_4 rfl ?_
  refine xb_getI hC 3 2 xcl_3 (by decide) xw_fl_X0_18 dX0_invalid_5 hf (fun v2 hf => ?_)
  refine xj_iconst (v := 1) hC dX0_invalid_8 (by decide) ?_
  refine xj_iadd hC dX0_invalid_9 ?_
  refine xb_put hC 3 2 xcl_3 (by decide) xw_fl_X0_18 rfl (xmfit_i _) dX0_invalid_10 hf (fun w3 hf => ?_)
  refine xj_aload_n hC dX0_invalid_13 rfl 1 rfl ?_
  obtain ⟨v5, hc4, hf⟩ := xm_bind hf
  obtain ⟨_, hob, _⟩ := xm_bind hc4
  refine xj_reti (xr_V hC (mX1_noneCode l D ks b hc4) hob rfl xw_cod_X1_noneCode xw_ini_X1 xw_ins_X1_noneCode xw_sel_X1_noneCode xw_ml_X0_22 xds_X1_noneCode ⟨Nat.le_of_ble_eq_true rfl, Nat.le_of_ble_eq_true rfl⟩ rfl rfl (Nat.le_of_ble_eq_true rfl) ⟨Nat.le_of_ble_eq_true rfl, Nat.le_of_ble_eq_true rfl⟩ dX0_invalid_14) ?_
  refine xj_istore_n (lv' := [(2, xI v5), (0, xR th), (1, xR a1)]) hC dX0_invalid_17 rfl (by decide) rfl ?_
  refine xj_iload_n hC dX0_invalid_18 rfl 0 rfl ?_
  refine xj_bipush (v := -9) hC dX0_invalid_19 (by decide) ?_
  refine xb_ic_ne (tgt := 29) hC dX0_invalid_21 (by decide) hf (fun hf => ?_) (fun hf => ?_)
  · refine xj_iload_n hC dX0_invalid_29 rfl 0 rfl ?_
    obtain ⟨he, hw⟩ := Prod.mk.inj (Option.some.inj hf)
    exact xj_iret hC hr (by decide) (by decide) dX0_invalid_30 he hw
  · refine xj_bipush (v := -4) hC dX0_invalid_24 (by decide) ?_
    refine xj_goto (tgt := 30) hC dX0_invalid_26 (by decide) ?_
    obtain ⟨he, hw⟩ := Prod.mk.inj (Option.some.inj hf)
    exact xj_iret hC hr (by decide) (by decide) dX0_invalid_30 he hw
def fX0_goesOut (w : xmW) (a1 : Int32) (a2 : Int32) (a3 : Int32) (a4 : Int32) (a5 : Int32) : Option Int32 := (if a5 = (0 : Int32) then (if 0 < a3 then (xmbz (1 : Int32)) else (if a3 = 0 then (xmbz (if a4 = 0 then (0 : Int32) else (1 : Int32))) else (xmbz (0 : Int32)))) else (if a5 = (1 : Int32) then (xmbz (if a3 < 0 then (0 : Int32) else (1 : Int32))) else (if a5 = (2 : Int32) then (xmbz (0 : Int32)) else (if a5 = (3 : Int32) then (xmbz a2) else (if a5 = (4 : Int32) then (xmbz (if a2 = 0 then (1 : Int32) else (0 : Int32))) else (if a5 = (5 : Int32) then (xmbz (if (a1 &&& (1 : Int32)) = 0 then (1 : Int32) else (0 : Int32))) else (xmbz (0 : Int32))))))))
set_option maxHeartbeats 4000000 in
set_option maxRecDepth 100000 in
theorem mX0_goesOut (l : Launch) (D : va_G) (ks : Nat → ClassId) (b : Nat) {w : xmW} {a1 : Int32} {a2 : Int32} {a3 : Int32} {a4 : Int32} {a5 : Int32} {y : Int32} (hf : fX0_goesOut w a1 a2 a3 a4 a5 = some y) : xmM l yX0_goesOut (Cond.code yX0_goesOut cX0_goesOut 5 (some (FieldType.boolean)) :: xmTs) 0 0 0 0 D ks b w [xI a1, xI a2, xI a3, xI a4, xI a5] (some (xI y)) w := by
  unfold fX0_goesOut at hf
  refine xmM.of (own := RX0) (lv0 := [(0, xI a1), (1, xI a2), (2, xI a3), (3, xI a4), (4, xI a5)]) (by decide) rfl (Nat.le_of_ble_eq_true rfl) rfl ?_
  intro p e s m args below meth c hC hr hnm
  refine xj_iload hC dX0_goesOut_0 4 rfl ?_
  refine xb_case hf (fun hx hf => ?_) (fun hn1 hf => ?_)
  · refine xj_tableIn (tgt := 40) hC (38) dX0_goesOut_2 hx (by decide) (by decide) (by decide) (by decide) ?_
    refine xj_iload_n hC dX0_goesOut_40 rfl 2 rfl ?_
    refine xb_if_gt (tgt := 52) hC dX0_goesOut_41 (by decide) hf (fun hf => ?_) (fun hf => ?_)
    · refine xj_iconst (v := 1) hC dX0_goesOut_52 (by decide) ?_
      refine xj_goto (tgt := 57) hC dX0_goesOut_53 (by decide) ?_
      exact xj_zret hC hr (by decide) (by decide) dX0_goesOut_57 hf rfl
    · refine xj_iload_n hC dX0_goesOut_44 rfl 2 rfl ?_
      refine xb_if_ne (tgt := 56) hC dX0_goesOut_45 (by decide) hf (fun hf => ?_) (fun hf => ?_)
      · refine xj_iconst (v := 0) hC dX0_goesOut_56 (by decide) ?_
        exact xj_zret hC hr (by decide) (by decide) dX0_goesOut_57 hf rfl
      · refine xj_iload_n hC dX0_goesOut_48 rfl 3 rfl ?_
        refine xj_dia (cnd := a4 = 0) (x := 0) (y := 1) (pc2 := 57) (st2 := []) (fun hc hk => ?_) (fun hc hk => ?_) ?_
        · exact xj_if_eq (tgt := 56) hC dX0_goesOut_49 (by decide) (fun _ => xj_iconst (v := 0) hC dX0_goesOut_56 (by decide) hk) (fun hn => absurd hc hn)
        · exact xj_if_eq (tgt := 56) hC dX0_goesOut_49 (by decide) (fun hn => absurd hn hc) (fun _ => xj_iconst (v := 1) hC dX0_goesOut_52 (by decide) (xj_goto (tgt := 57) hC dX0_goesOut_53 (by decide) hk))
        exact xj_zret hC hr (by decide) (by decide) dX0_goesOut_57 hf rfl
  · refine xb_case hf (fun hx hf => ?_) (fun hn2 hf => ?_)
    · refine xj_tableIn (tgt := 58) hC (56) dX0_goesOut_2 hx (by decide) (by decide) (by decide) (by decide) ?_
      refine xj_iload_n hC dX0_goesOut_58 rfl 2 rfl ?_
      refine xj_dia (cnd := a3 < 0) (x := 0) (y := 1) (pc2 := 67) (st2 := []) (fun hc hk => ?_) (fun hc hk => ?_) ?_
      · exact xj_if_lt (tgt := 66) hC dX0_goesOut_59 (by decide) (fun _ => xj_iconst (v := 0) hC dX0_goesOut_66 (by decide) hk) (fun hn => absurd hc hn)
      · exact xj_if_lt (tgt := 66) hC dX0_goesOut_59 (by decide) (fun hn => absurd hn hc) (fun _ => xj_iconst (v := 1) hC dX0_goesOut_62 (by decide) (xj_goto (tgt := 67) hC dX0_goesOut_63 (by decide) hk))
      exact xj_zret hC hr (by decide) (by decide) dX0_goesOut_67 hf rfl
    · refine xb_case hf (fun hx hf => ?_) (fun hn3 hf => ?_)
      · refine xj_tableIn (tgt := 92) hC (90) dX0_goesOut_2 hx (by decide) (by decide) (by decide) (by decide) ?_
        refine xj_iconst (v := 0) hC dX0_goesOut_92 (by decide) ?_
        exact xj_zret hC hr (by decide) (by decide) dX0_goesOut_93 hf rfl
      · refine xb_case hf (fun hx hf => ?_) (fun hn4 hf => ?_)
        · refine xj_tableIn (tgt := 68) hC (66) dX0_goesOut_2 hx (by decide) (by decide) (by decide) (by decide) ?_
          refine xj_iload_n hC dX0_goesOut_68 rfl 1 rfl ?_
          exact xj_zret hC hr (by decide) (by decide) dX0_goesOut_69 hf rfl
        · refine xb_case hf (fun hx hf => ?_) (fun hn5 hf => ?_)
          · refine xj_tableIn (tgt := 70) hC (68) dX0_goesOut_2 hx (by decide) (by decide) (by decide) (by decide) ?_
            refine xj_iload_n hC dX0_goesOut_70 rfl 1 rfl ?_
            refine xj_dia (cnd := a2 = 0) (x := 1) (y := 0) (pc2 := 79) (st2 := []) (fun hc hk => ?_) (fun hc hk => ?_) ?_
            · exact xj_if_ne (tgt := 78) hC dX0_goesOut_71 (by decide) (fun hn => absurd hc hn) (fun _ => xj_iconst (v := 1) hC dX0_goesOut_74 (by decide) (xj_goto (tgt := 79) hC dX0_goesOut_75 (by decide) hk))
            · exact xj_if_ne (tgt := 78) hC dX0_goesOut_71 (by decide) (fun _ => xj_iconst (v := 0) hC dX0_goesOut_78 (by decide) hk) (fun hn => absurd hn hc)
            exact xj_zret hC hr (by decide) (by decide) dX0_goesOut_79 hf rfl
          · refine xb_case hf (fun hx hf => ?_) (fun hn6 hf => ?_)
            · refine xj_tableIn (tgt := 80) hC (78) dX0_goesOut_2 hx (by decide) (by decide) (by decide) (by decide) ?_
              refine xj_iload_n hC dX0_goesOut_80 rfl 0 rfl ?_
              refine xj_iconst (v := 1) hC dX0_goesOut_81 (by decide) ?_
              refine xj_iand hC dX0_goesOut_82 ?_
              refine xj_dia (cnd := (a1 &&& (1 : Int32)) = 0) (x := 1) (y := 0) (pc2 := 91) (st2 := []) (fun hc hk => ?_) (fun hc hk => ?_) ?_
              · exact xj_if_ne (tgt := 90) hC dX0_goesOut_83 (by decide) (fun hn => absurd hc hn) (fun _ => xj_iconst (v := 1) hC dX0_goesOut_86 (by decide) (xj_goto (tgt := 91) hC dX0_goesOut_87 (by decide) hk))
              · exact xj_if_ne (tgt := 90) hC dX0_goesOut_83 (by decide) (fun _ => xj_iconst (v := 0) hC dX0_goesOut_90 (by decide) hk) (fun hn => absurd hn hc)
              exact xj_zret hC hr (by decide) (by decide) dX0_goesOut_91 hf rfl
            · have hx0 := lv_neT hn1 (a := 0) (by decide)
              have hx1 := lv_neT hn2 (a := 1) (by decide)
              have hx2 := lv_neT hn3 (a := 2) (by decide)
              have hx3 := lv_neT hn4 (a := 3) (by decide)
              have hx4 := lv_neT hn5 (a := 4) (by decide)
              have hx5 := lv_neT hn6 (a := 5) (by decide)
              refine xj_tableOut (tgt := 92) hC dX0_goesOut_2 (by omega) (by decide) ?_
              refine xj_iconst (v := 0) hC dX0_goesOut_92 (by decide) ?_
              exact xj_zret hC hr (by decide) (by decide) dX0_goesOut_93 hf rfl
def fX0_greatestUpTo_L8 : Nat → xmW → (Option Nat) → Int64 → Int64 → Int32 → Int32 → Option Int32
  | 0, _, _, _, _, _, _ => none
  | n + 1, w, p0, p1, p3, p5, p6 => (if p6 ≤ 0 then (some p5) else ((xmgI w p0 1 6).bind fun v1 => (if v1 < (p5 + p6) then (fX0_greatestUpTo_L8 n w (p0) (p1) (p3) (p5) ((p6 >>> ((1 : Int32) &&& 31))) ) else ((fX1_unitsOfMagnitude w (p0) ((p5 + p6))).bind fun v3 => (if 0 < (lg_cmp (v3 * p3) p1) then (fX0_greatestUpTo_L8 n w (p0) (p1) (p3) (p5) ((p6 >>> ((1 : Int32) &&& 31))) ) else (fX0_greatestUpTo_L8 n w (p0) (p1) (p3) ((p5 + p6)) ((p6 >>> ((1 : Int32) &&& 31))) ))))))
set_option maxHeartbeats 4000000 in
set_option maxRecDepth 100000 in
theorem lX0_greatestUpTo_L8 {p : Program} {l : Launch} {e : Env} {s : State} {m : MethodId} {args : Array Value} {below : List Frame} {meth : Method} {c : Code} {D : va_G} {ks : Nat → ClassId} {b : Nat} (hC : xmC p s m args meth c D ks b 7 cX0_greatestUpTo RX0) (hr : meth.sig.returnType = (some (FieldType.int))) {y : Int32} : ∀ (n : Nat) (w : xmW) (p0 : (Option Nat)) (p1 : Int64) (p3 : Int64) (p5 : Int32) (p6 : Int32), fX0_greatestUpTo_L8 n w p0 p1 p3 p5 p6 = some y → xmJ p l e ({ frames := 1, cells := 0, slots := 0, locals := 24 } : Room) s m args below meth c D ks b 7 (MQ below (xmQ D ks b (some (xI y)) w) args s 0 0 (xmA b)) w 0 0 8 [(0, xR p0), (1, xL p1), (3, xL p3), (5, xI p5), (6, xI p6)] [] := by
  intro n
  induction n with
  | zero => intro w p0 p1 p3 p5 p6 hf; simp [fX0_greatestUpTo_L8] at hf
  | succ n ih =>
    intro w p0 p1 p3 p5 p6 hf
    rw [fX0_greatestUpTo_L8] at hf
    refine xj_iload hC dX0_greatestUpTo_8 4 rfl ?_
    refine xb_if_le (tgt := 57) hC dX0_greatestUpTo_10 (by decide) hf (fun hf => ?_) (fun hf => ?_)
    · refine xj_iload hC dX0_greatestUpTo_57 3 rfl ?_
      exact xj_iret hC hr (by decide) (by decide) dX0_greatestUpTo_59 (Option.some.inj hf) rfl
    · refine xj_iload hC dX0_greatestUpTo_13 3 rfl ?_
      refine xj_iload hC dX0_greatestUpTo_15 4 rfl ?_
      refine xj_iadd hC dX0_greatestUpTo_17 ?_
      refine xj_aload_n hC dX0_greatestUpTo_18 rfl 0 rfl ?_
      refine xb_getI hC 1 6 xcl_1 (by decide) xw_fl_X0_46 dX0_greatestUpTo_19 hf (fun v1 hf => ?_)
      refine xb_ic_gt (tgt := 48) hC dX0_greatestUpTo_22 (by decide) hf (fun hf => ?_) (fun hf => ?_)
      · refine xj_iload hC dX0_greatestUpTo_48 4 rfl ?_
        refine xj_iconst (v := 1) hC dX0_greatestUpTo_50 (by decide) ?_
        refine xj_ishr hC dX0_greatestUpTo_51 ?_
        refine xj_istore (lv' := [(6, xI (p6 >>> ((1 : Int32) &&& 31))), (0, xR p0), (1, xL p1), (3, xL p3), (5, xI p5)]) hC dX0_greatestUpTo_52 (by decide) rfl ?_
        refine xj_goto (tgt := 8) hC dX0_greatestUpTo_54 (by decide) ?_
        refine xj_lv [1, 2, 3, 4, 0] rfl ?_
        exact ih w (p0) (p1) (p3) (p5) ((p6 >>> ((1 : Int32) &&& 31)))  hf
      · refine xj_aload_n hC dX0_greatestUpTo_25 rfl 0 rfl ?_
        refine xj_iload hC dX0_greatestUpTo_26 3 rfl ?_
        refine xj_iload hC dX0_greatestUpTo_28 4 rfl ?_
        refine xj_iadd hC dX0_greatestUpTo_30 ?_
        obtain ⟨v3, hc2, hf⟩ := xm_bind hf
        obtain ⟨_, hob, _⟩ := xm_bind hc2
        refine xj_retl (xr_V hC (mX1_unitsOfMagnitude l D ks b hc2) hob rfl xw_cod_X1_unitsOfMagnitude xw_ini_X1 xw_ins_X1_unitsOfMagnitude xw_sel_X1_unitsOfMagnitude xw_ml_X0_38 xds_X1_unitsOfMagnitude ⟨Nat.le_of_ble_eq_true rfl, Nat.le_of_ble_eq_true rfl⟩ rfl rfl (Nat.le_of_ble_eq_true rfl) ⟨Nat.le_of_ble_eq_true rfl, Nat.le_of_ble_eq_true rfl⟩ dX0_greatestUpTo_31) ?_
        refine xj_lload_n hC dX0_greatestUpTo_34 rfl 2 rfl ?_
        refine xj_lmul hC dX0_greatestUpTo_35 ?_
        refine xj_lload_n hC dX0_greatestUpTo_36 rfl 1 rfl ?_
        refine xj_lcmp hC dX0_greatestUpTo_37 ?_
        refine xb_if_gt (tgt := 48) hC dX0_greatestUpTo_38 (by decide) hf (fun hf => ?_) (fun hf => ?_)
        · refine xj_iload hC dX0_greatestUpTo_48 4 rfl ?_
          refine xj_iconst (v := 1) hC dX0_greatestUpTo_50 (by decide) ?_
          refine xj_ishr hC dX0_greatestUpTo_51 ?_
          refine xj_istore (lv' := [(6, xI (p6 >>> ((1 : Int32) &&& 31))), (0, xR p0), (1, xL p1), (3, xL p3), (5, xI p5)]) hC dX0_greatestUpTo_52 (by decide) rfl ?_
          refine xj_goto (tgt := 8) hC dX0_greatestUpTo_54 (by decide) ?_
          refine xj_lv [1, 2, 3, 4, 0] rfl ?_
          exact ih w (p0) (p1) (p3) (p5) ((p6 >>> ((1 : Int32) &&& 31)))  hf
        · refine xj_iload hC dX0_greatestUpTo_41 3 rfl ?_
          refine xj_iload hC dX0_greatestUpTo_43 4 rfl ?_
          refine xj_iadd hC dX0_greatestUpTo_45 ?_
          refine xj_istore (lv' := [(5, xI (p5 + p6)), (0, xR p0), (1, xL p1), (3, xL p3), (6, xI p6)]) hC dX0_greatestUpTo_46 (by decide) rfl ?_
          refine xj_iload hC dX0_greatestUpTo_48 4 rfl ?_
          refine xj_iconst (v := 1) hC dX0_greatestUpTo_50 (by decide) ?_
          refine xj_ishr hC dX0_greatestUpTo_51 ?_
          refine xj_istore (lv' := [(6, xI (p6 >>> ((1 : Int32) &&& 31))), (5, xI (p5 + p6)), (0, xR p0), (1, xL p1), (3, xL p3)]) hC dX0_greatestUpTo_52 (by decide) rfl ?_
          refine xj_goto (tgt := 8) hC dX0_greatestUpTo_54 (by decide) ?_
          refine xj_lv [2, 3, 4, 1, 0] rfl ?_
          exact ih w (p0) (p1) (p3) ((p5 + p6)) ((p6 >>> ((1 : Int32) &&& 31)))  hf
def fX0_greatestUpTo (w : xmW) (a1 : (Option Nat)) (a2 : Int64) (a3 : Int64) : Option Int32 := (fX0_greatestUpTo_L8 xmN w (a1) (a2) (a3) ((0 : Int32)) ((256 : Int32)) )
set_option maxHeartbeats 4000000 in
set_option maxRecDepth 100000 in
theorem mX0_greatestUpTo (l : Launch) (D : va_G) (ks : Nat → ClassId) (b : Nat) {w : xmW} {a1 : (Option Nat)} {a2 : Int64} {a3 : Int64} {y : Int32} (hf : fX0_greatestUpTo w a1 a2 a3 = some y) : xmM l yX0_greatestUpTo (Cond.code yX0_greatestUpTo cX0_greatestUpTo 7 (some (FieldType.int)) :: xmTs) 1 24 0 0 D ks b w [xR a1, xL a2, xL a3] (some (xI y)) w := by
  unfold fX0_greatestUpTo at hf
  refine xmM.of (own := RX0) (lv0 := [(0, xR a1), (1, xL a2), (3, xL a3)]) (by decide) rfl (Nat.le_of_ble_eq_true rfl) rfl ?_
  intro p e s m args below meth c hC hr hnm
  refine xj_iconst (v := 0) hC dX0_greatestUpTo_0 (by decide) ?_
  refine xj_istore (lv' := [(5, xI (0 : Int32)), (0, xR a1), (1, xL a2), (3, xL a3)]) hC dX0_greatestUpTo_1 (by decide) rfl ?_
  refine xj_sipush (v := 256) hC dX0_greatestUpTo_3 (by decide) ?_
  refine xj_istore (lv' := [(6, xI (256 : Int32)), (5, xI (0 : Int32)), (0, xR a1), (1, xL a2), (3, xL a3)]) hC dX0_greatestUpTo_6 (by decide) rfl ?_
  refine xj_lv [2, 3, 4, 1, 0] rfl ?_
  exact lX0_greatestUpTo_L8 hC hr  xmN w (a1) (a2) (a3) ((0 : Int32)) ((256 : Int32))  hf
def fX0_rounded_L141 (w : xmW) (p1 : (Option Nat)) (p2 : Int32) (p7 : Int32) (p8 : Int32) (p9 : Int32) (p10 : Int32) (s0 : Int32) : Option (Int32 × xmW) := ((fX0_goesOut w (p8) (p2) (p10) (s0) (p7)).bind fun v23 => (if v23 = 0 then ((fX1_withSign w (p1) (p2) (p8)).bind fun v29 => (some (v29, w))) else (if p9 = 0 then ((fX1_withSign w (p1) (p2) ((p8 + (1 : Int32)))).bind fun v25 => (some (v25, w))) else ((fX1_beyond w (p1) (p2)).bind fun v27 => (some (v27, w))))))
set_option maxHeartbeats 4000000 in
set_option maxRecDepth 100000 in
theorem lX0_rounded_L141 {p : Program} {l : Launch} {e : Env} {s : State} {m : MethodId} {args : Array Value} {below : List Frame} {meth : Method} {c : Code} {D : va_G} {ks : Nat → ClassId} {b : Nat} (hC : xmC p s m args meth c D ks b 12 cX0_rounded RX0) (hr : meth.sig.returnType = (some (FieldType.int))) {y : Int32} {wz : xmW} (w : xmW) (p1 : (Option Nat)) (p2 : Int32) (p7 : Int32) (p8 : Int32) (p9 : Int32) (p10 : Int32) (s0 : Int32) (hf : fX0_rounded_L141 w p1 p2 p7 p8 p9 p10 s0 = some (y, wz)) : xmJ p l e ({ frames := 2, cells := 0, slots := 0, locals := 50 } : Room) s m args below meth c D ks b 12 (MQ below (xmQ D ks b (some (xI y)) wz) args s 0 0 (xmA b)) w 0 0 141 [(1, xR p1), (2, xI p2), (7, xI p7), (8, xI p8), (9, xI p9), (10, xI p10)] [xI s0] := by
  unfold fX0_rounded_L141 at hf
  refine xj_istore (lv' := [(11, xI s0), (1, xR p1), (2, xI p2), (7, xI p7), (8, xI p8), (9, xI p9), (10, xI p10)]) hC dX0_rounded_141 (by decide) rfl ?_
  refine xj_iload hC dX0_rounded_143 4 rfl ?_
  refine xj_iload_n hC dX0_rounded_145 rfl 2 rfl ?_
  refine xj_iload hC dX0_rounded_146 6 rfl ?_
  refine xj_iload hC dX0_rounded_148 0 rfl ?_
  refine xj_iload hC dX0_rounded_150 3 rfl ?_
  obtain ⟨v23, hc22, hf⟩ := xm_bind hf
  refine xj_reti (xr_S hC (mX0_goesOut l D ks b hc22) xw_cod_X0_goesOut xw_ini_X0 xw_sta_X0_goesOut xw_ml_X0_63 xds_X0_goesOut ⟨Nat.le_of_ble_eq_true rfl, Nat.le_of_ble_eq_true rfl⟩ rfl rfl (Nat.le_of_ble_eq_true rfl) ⟨Nat.le_of_ble_eq_true rfl, Nat.le_of_ble_eq_true rfl⟩ dX0_rounded_152) ?_
  refine xb_if_ne (tgt := 166) hC dX0_rounded_155 (by decide) hf (fun hf => ?_) (fun hf => ?_)
  · refine xj_iload hC dX0_rounded_166 5 rfl ?_
    refine xb_if_eq (tgt := 179) hC dX0_rounded_168 (by decide) hf (fun hf => ?_) (fun hf => ?_)
    · refine xj_aload_n hC dX0_rounded_179 rfl 1 rfl ?_
      refine xj_iload_n hC dX0_rounded_180 rfl 2 rfl ?_
      refine xj_iload hC dX0_rounded_181 4 rfl ?_
      refine xj_iconst (v := 1) hC dX0_rounded_183 (by decide) ?_
      refine xj_iadd hC dX0_rounded_184 ?_
      obtain ⟨v25, hc24, hf⟩ := xm_bind hf
      obtain ⟨_, hob, _⟩ := xm_bind hc24
      refine xj_reti (xr_V hC (mX1_withSign l D ks b hc24) hob rfl xw_cod_X1_withSign xw_ini_X1 xw_ins_X1_withSign xw_sel_X1_withSign xw_ml_X0_42 xds_X1_withSign ⟨Nat.le_of_ble_eq_true rfl, Nat.le_of_ble_eq_true rfl⟩ rfl rfl (Nat.le_of_ble_eq_true rfl) ⟨Nat.le_of_ble_eq_true rfl, Nat.le_of_ble_eq_true rfl⟩ dX0_rounded_185) ?_
      obtain ⟨he, hw⟩ := Prod.mk.inj (Option.some.inj hf)
      exact xj_iret hC hr (by decide) (by decide) dX0_rounded_188 he hw
    · refine xj_aload_n hC dX0_rounded_171 rfl 1 rfl ?_
      refine xj_iload_n hC dX0_rounded_172 rfl 2 rfl ?_
      obtain ⟨v27, hc26, hf⟩ := xm_bind hf
      obtain ⟨_, hob, _⟩ := xm_bind hc26
      refine xj_reti (xr_V hC (mX1_beyond l D ks b hc26) hob rfl xw_cod_X1_beyond xw_ini_X1 xw_ins_X1_beyond xw_sel_X1_beyond xw_ml_X0_67 xds_X1_beyond ⟨Nat.le_of_ble_eq_true rfl, Nat.le_of_ble_eq_true rfl⟩ rfl rfl (Nat.le_of_ble_eq_true rfl) ⟨Nat.le_of_ble_eq_true rfl, Nat.le_of_ble_eq_true rfl⟩ dX0_rounded_173) ?_
      refine xj_goto (tgt := 188) hC dX0_rounded_176 (by decide) ?_
      obtain ⟨he, hw⟩ := Prod.mk.inj (Option.some.inj hf)
      exact xj_iret hC hr (by decide) (by decide) dX0_rounded_188 he hw
  · refine xj_aload_n hC dX0_rounded_158 rfl 1 rfl ?_
    refine xj_iload_n hC dX0_rounded_159 rfl 2 rfl ?_
    refine xj_iload hC dX0_rounded_160 4 rfl ?_
    obtain ⟨v29, hc28, hf⟩ := xm_bind hf
    obtain ⟨_, hob, _⟩ := xm_bind hc28
    refine xj_reti (xr_V hC (mX1_withSign l D ks b hc28) hob rfl xw_cod_X1_withSign xw_ini_X1 xw_ins_X1_withSign xw_sel_X1_withSign xw_ml_X0_42 xds_X1_withSign ⟨Nat.le_of_ble_eq_true rfl, Nat.le_of_ble_eq_true rfl⟩ rfl rfl (Nat.le_of_ble_eq_true rfl) ⟨Nat.le_of_ble_eq_true rfl, Nat.le_of_ble_eq_true rfl⟩ dX0_rounded_162) ?_
    obtain ⟨he, hw⟩ := Prod.mk.inj (Option.some.inj hf)
    exact xj_iret hC hr (by decide) (by decide) dX0_rounded_165 he hw
def fX0_rounded_L104 (w : xmW) (p1 : (Option Nat)) (p2 : Int32) (p3 : Int64) (p5 : Int64) (p7 : Int32) (p8 : Int32) (p9 : Int32) : Option (Int32 × xmW) := ((fX1_twiceMiddleAbove w (p1) (p8)).bind fun v19 => ((fJ13_compare_74951 w (((2 : Int64) * p3)) ((v19 * p5))).bind fun v21 => (if p9 = 0 then (fX0_rounded_L141 w (p1) (p2) (p7) (p8) (p9) (v21) ((if (p8 &&& (1 : Int32)) = (1 : Int32) then (1 : Int32) else (0 : Int32)))) else (fX0_rounded_L141 w (p1) (p2) (p7) (p8) (p9) (v21) ((1 : Int32))))))
set_option maxHeartbeats 4000000 in
set_option maxRecDepth 100000 in
theorem lX0_rounded_L104 {p : Program} {l : Launch} {e : Env} {s : State} {m : MethodId} {args : Array Value} {below : List Frame} {meth : Method} {c : Code} {D : va_G} {ks : Nat → ClassId} {b : Nat} (hC : xmC p s m args meth c D ks b 12 cX0_rounded RX0) (hr : meth.sig.returnType = (some (FieldType.int))) {y : Int32} {wz : xmW} (w : xmW) (p1 : (Option Nat)) (p2 : Int32) (p3 : Int64) (p5 : Int64) (p7 : Int32) (p8 : Int32) (p9 : Int32) (hf : fX0_rounded_L104 w p1 p2 p3 p5 p7 p8 p9 = some (y, wz)) : xmJ p l e ({ frames := 2, cells := 0, slots := 0, locals := 50 } : Room) s m args below meth c D ks b 12 (MQ below (xmQ D ks b (some (xI y)) wz) args s 0 0 (xmA b)) w 0 0 104 [(1, xR p1), (2, xI p2), (3, xL p3), (5, xL p5), (7, xI p7), (8, xI p8), (9, xI p9)] [] := by
  unfold fX0_rounded_L104 at hf
  refine xj_ldc2 hC xw_cst_X0_52 dX0_rounded_104 ?_
  refine xj_lload_n hC dX0_rounded_107 rfl 2 rfl ?_
  refine xj_lmul hC dX0_rounded_108 ?_
  refine xj_aload_n hC dX0_rounded_109 rfl 0 rfl ?_
  refine xj_iload hC dX0_rounded_110 5 rfl ?_
  obtain ⟨v19, hc18, hf⟩ := xm_bind hf
  obtain ⟨_, hob, _⟩ := xm_bind hc18
  refine xj_retl (xr_V hC (mX1_twiceMiddleAbove l D ks b hc18) hob rfl xw_cod_X1_twiceMiddleAbove xw_ini_X1 xw_ins_X1_twiceMiddleAbove xw_sel_X1_twiceMiddleAbove xw_ml_X0_54 xds_X1_twiceMiddleAbove ⟨Nat.le_of_ble_eq_true rfl, Nat.le_of_ble_eq_true rfl⟩ rfl rfl (Nat.le_of_ble_eq_true rfl) ⟨Nat.le_of_ble_eq_true rfl, Nat.le_of_ble_eq_true rfl⟩ dX0_rounded_112) ?_
  refine xj_lload hC dX0_rounded_115 3 rfl ?_
  refine xj_lmul hC dX0_rounded_117 ?_
  obtain ⟨v21, hc20, hf⟩ := xm_bind hf
  refine xj_reti (xr_S hC (mJ13_compare_74951 l D ks b hc20) xw_cod_J13_compare_74951 xw_ini_J13 xw_sta_J13_compare_74951 xw_ml_X0_57 xds_J13_compare_74951 ⟨Nat.le_of_ble_eq_true rfl, Nat.le_of_ble_eq_true rfl⟩ rfl rfl (Nat.le_of_ble_eq_true rfl) ⟨Nat.le_of_ble_eq_true rfl, Nat.le_of_ble_eq_true rfl⟩ dX0_rounded_118) ?_
  refine xj_istore (lv' := [(10, xI v21), (1, xR p1), (2, xI p2), (3, xL p3), (5, xL p5), (7, xI p7), (8, xI p8), (9, xI p9)]) hC dX0_rounded_121 (by decide) rfl ?_
  refine xj_iload hC dX0_rounded_123 7 rfl ?_
  refine xb_if_ne (tgt := 136) hC dX0_rounded_125 (by decide) hf (fun hf => ?_) (fun hf => ?_)
  · refine xj_iconst (v := 1) hC dX0_rounded_136 (by decide) ?_
    refine xj_goto (tgt := 141) hC dX0_rounded_137 (by decide) ?_
    refine xj_lv [1, 2, 5, 6, 7, 0] rfl ?_
    exact lX0_rounded_L141 hC hr  w (p1) (p2) (p7) (p8) (p9) (v21) ((1 : Int32)) hf
  · refine xj_iload hC dX0_rounded_128 6 rfl ?_
    refine xj_iconst (v := 1) hC dX0_rounded_130 (by decide) ?_
    refine xj_iand hC dX0_rounded_131 ?_
    refine xj_iconst (v := 1) hC dX0_rounded_132 (by decide) ?_
    refine xj_dia (cnd := (p8 &&& (1 : Int32)) = (1 : Int32)) (x := 1) (y := 0) (pc2 := 141) (st2 := []) (fun hc hk => ?_) (fun hc hk => ?_) ?_
    · exact xj_ic_ne (tgt := 140) hC dX0_rounded_133 (by decide) (fun hn => absurd hc hn) (fun _ => xj_iconst (v := 1) hC dX0_rounded_136 (by decide) (xj_goto (tgt := 141) hC dX0_rounded_137 (by decide) hk))
    · exact xj_ic_ne (tgt := 140) hC dX0_rounded_133 (by decide) (fun _ => xj_iconst (v := 0) hC dX0_rounded_140 (by decide) hk) (fun hn => absurd hn hc)
    refine xj_lv [1, 2, 5, 6, 7, 0] rfl ?_
    exact lX0_rounded_L141 hC hr  w (p1) (p2) (p7) (p8) (p9) (v21) ((if (p8 &&& (1 : Int32)) = (1 : Int32) then (1 : Int32) else (0 : Int32))) hf
def fX0_rounded_L26 (w : xmW) (p0 : (Option Nat)) (p1 : (Option Nat)) (p2 : Int32) (p3 : Int64) (p5 : Int64) (p7 : Int32) : Option (Int32 × xmW) := ((fX0_greatestUpTo w (p1) (p3) (p5)).bind fun v6 => ((fX1_unitsOfMagnitude w (p1) (v6)).bind fun v8 => (if (lg_cmp (v8 * p5) p3) = 0 then ((fX1_withSign w (p1) (p2) (v6)).bind fun v17 => (some (v17, w))) else ((xmgR w p0 0 0).bind fun v9 => ((xmgI w v9 3 0).bind fun v10 => ((xmput w v9 3 0 (xI (v10 + (1 : Int32)))).bind fun w11 => ((xmgI w11 p1 1 6).bind fun v12 => (if (if v6 = v12 then (1 : Int32) else (0 : Int32)) = 0 then (fX0_rounded_L104 w11 (p1) (p2) (p3) (p5) (p7) (v6) ((if v6 = v12 then (1 : Int32) else (0 : Int32))) ) else ((xmgR w11 p0 0 0).bind fun v13 => ((xmgI w11 v13 3 1).bind fun v14 => ((xmput w11 v13 3 1 (xI (v14 + (1 : Int32)))).bind fun w15 => (fX0_rounded_L104 w15 (p1) (p2) (p3) (p5) (p7) (v6) ((if v6 = v12 then (1 : Int32) else (0 : Int32))) ))))))))))))
set_option maxHeartbeats 4000000 in
set_option maxRecDepth 100000 in
theorem lX0_rounded_L26 {p : Program} {l : Launch} {e : Env} {s : State} {m : MethodId} {args : Array Value} {below : List Frame} {meth : Method} {c : Code} {D : va_G} {ks : Nat → ClassId} {b : Nat} (hC : xmC p s m args meth c D ks b 12 cX0_rounded RX0) (hr : meth.sig.returnType = (some (FieldType.int))) {y : Int32} {wz : xmW} (w : xmW) (p0 : (Option Nat)) (p1 : (Option Nat)) (p2 : Int32) (p3 : Int64) (p5 : Int64) (p7 : Int32) (hf : fX0_rounded_L26 w p0 p1 p2 p3 p5 p7 = some (y, wz)) : xmJ p l e ({ frames := 2, cells := 0, slots := 0, locals := 50 } : Room) s m args below meth c D ks b 12 (MQ below (xmQ D ks b (some (xI y)) wz) args s 0 0 (xmA b)) w 0 0 26 [(0, xR p0), (1, xR p1), (2, xI p2), (3, xL p3), (5, xL p5), (7, xI p7)] [] := by
  unfold fX0_rounded_L26 at hf
  refine xj_aload_n hC dX0_rounded_26 rfl 1 rfl ?_
  refine xj_lload_n hC dX0_rounded_27 rfl 3 rfl ?_
  refine xj_lload hC dX0_rounded_28 4 rfl ?_
  obtain ⟨v6, hc5, hf⟩ := xm_bind hf
  refine xj_reti (xr_S hC (mX0_greatestUpTo l D ks b hc5) xw_cod_X0_greatestUpTo xw_ini_X0 xw_sta_X0_greatestUpTo xw_ml_X0_34 xds_X0_greatestUpTo ⟨Nat.le_of_ble_eq_true rfl, Nat.le_of_ble_eq_true rfl⟩ rfl rfl (Nat.le_of_ble_eq_true rfl) ⟨Nat.le_of_ble_eq_true rfl, Nat.le_of_ble_eq_true rfl⟩ dX0_rounded_30) ?_
  refine xj_istore (lv' := [(8, xI v6), (0, xR p0), (1, xR p1), (2, xI p2), (3, xL p3), (5, xL p5), (7, xI p7)]) hC dX0_rounded_33 (by decide) rfl ?_
  refine xj_aload_n hC dX0_rounded_35 rfl 2 rfl ?_
  refine xj_iload hC dX0_rounded_36 0 rfl ?_
  obtain ⟨v8, hc7, hf⟩ := xm_bind hf
  obtain ⟨_, hob, _⟩ := xm_bind hc7
  refine xj_retl (xr_V hC (mX1_unitsOfMagnitude l D ks b hc7) hob rfl xw_cod_X1_unitsOfMagnitude xw_ini_X1 xw_ins_X1_unitsOfMagnitude xw_sel_X1_unitsOfMagnitude xw_ml_X0_38 xds_X1_unitsOfMagnitude ⟨Nat.le_of_ble_eq_true rfl, Nat.le_of_ble_eq_true rfl⟩ rfl rfl (Nat.le_of_ble_eq_true rfl) ⟨Nat.le_of_ble_eq_true rfl, Nat.le_of_ble_eq_true rfl⟩ dX0_rounded_38) ?_
  refine xj_lload hC dX0_rounded_41 5 rfl ?_
  refine xj_lmul hC dX0_rounded_43 ?_
  refine xj_lload_n hC dX0_rounded_44 rfl 4 rfl ?_
  refine xj_lcmp hC dX0_rounded_45 ?_
  refine xb_if_ne (tgt := 57) hC dX0_rounded_46 (by decide) hf (fun hf => ?_) (fun hf => ?_)
  · refine xj_aload_n hC dX0_rounded_57 rfl 1 rfl ?_
    refine xb_getR hC 0 0 xcl_0 (by decide) xw_fl_X0_12 dX0_rounded_58 hf (fun v9 hf => ?_)
    refine xj_dup hC dX0_rounded_61 rfl ?_
    refine xb_getI hC 3 0 xcl_3 (by decide) xw_fl_X0_31 dX0_rounded_62 hf (fun v10 hf => ?_)
    refine xj_iconst (v := 1) hC dX0_rounded_65 (by decide) ?_
    refine xj_iadd hC dX0_rounded_66 ?_
    refine xb_put hC 3 0 xcl_3 (by decide) xw_fl_X0_31 rfl (xmfit_i _) dX0_rounded_67 hf (fun w11 hf => ?_)
    refine xj_iload hC dX0_rounded_70 0 rfl ?_
    refine xj_aload_n hC dX0_rounded_72 rfl 2 rfl ?_
    refine xb_getI hC 1 6 xcl_1 (by decide) xw_fl_X0_46 dX0_rounded_73 hf (fun v12 hf => ?_)
    refine xj_dia (cnd := v6 = v12) (x := 1) (y := 0) (pc2 := 84) (st2 := []) (fun hc hk => ?_) (fun hc hk => ?_) ?_
    · exact xj_ic_ne (tgt := 83) hC dX0_rounded_76 (by decide) (fun hn => absurd hc hn) (fun _ => xj_iconst (v := 1) hC dX0_rounded_79 (by decide) (xj_goto (tgt := 84) hC dX0_rounded_80 (by decide) hk))
    · exact xj_ic_ne (tgt := 83) hC dX0_rounded_76 (by decide) (fun _ => xj_iconst (v := 0) hC dX0_rounded_83 (by decide) hk) (fun hn => absurd hn hc)
    refine xj_istore (lv' := [(9, xI (if v6 = v12 then (1 : Int32) else (0 : Int32))), (8, xI v6), (0, xR p0), (1, xR p1), (2, xI p2), (3, xL p3), (5, xL p5), (7, xI p7)]) hC dX0_rounded_84 (by decide) rfl ?_
    refine xj_iload hC dX0_rounded_86 0 rfl ?_
    refine xb_if_eq (tgt := 104) hC dX0_rounded_88 (by decide) hf (fun hf => ?_) (fun hf => ?_)
    · refine xj_lv [3, 4, 5, 6, 7, 1, 0] rfl ?_
      exact lX0_rounded_L104 hC hr  w11 (p1) (p2) (p3) (p5) (p7) (v6) ((if v6 = v12 then (1 : Int32) else (0 : Int32)))  hf
    · refine xj_aload_n hC dX0_rounded_91 rfl 2 rfl ?_
      refine xb_getR hC 0 0 xcl_0 (by decide) xw_fl_X0_12 dX0_rounded_92 hf (fun v13 hf => ?_)
      refine xj_dup hC dX0_rounded_95 rfl ?_
      refine xb_getI hC 3 1 xcl_3 (by decide) xw_fl_X0_49 dX0_rounded_96 hf (fun v14 hf => ?_)
      refine xj_iconst (v := 1) hC dX0_rounded_99 (by decide) ?_
      refine xj_iadd hC dX0_rounded_100 ?_
      refine xb_put hC 3 1 xcl_3 (by decide) xw_fl_X0_49 rfl (xmfit_i _) dX0_rounded_101 hf (fun w15 hf => ?_)
      refine xj_lv [3, 4, 5, 6, 7, 1, 0] rfl ?_
      exact lX0_rounded_L104 hC hr  w15 (p1) (p2) (p3) (p5) (p7) (v6) ((if v6 = v12 then (1 : Int32) else (0 : Int32)))  hf
  · refine xj_aload_n hC dX0_rounded_49 rfl 2 rfl ?_
    refine xj_iload_n hC dX0_rounded_50 rfl 3 rfl ?_
    refine xj_iload hC dX0_rounded_51 0 rfl ?_
    obtain ⟨v17, hc16, hf⟩ := xm_bind hf
    obtain ⟨_, hob, _⟩ := xm_bind hc16
    refine xj_reti (xr_V hC (mX1_withSign l D ks b hc16) hob rfl xw_cod_X1_withSign xw_ini_X1 xw_ins_X1_withSign xw_sel_X1_withSign xw_ml_X0_42 xds_X1_withSign ⟨Nat.le_of_ble_eq_true rfl, Nat.le_of_ble_eq_true rfl⟩ rfl rfl (Nat.le_of_ble_eq_true rfl) ⟨Nat.le_of_ble_eq_true rfl, Nat.le_of_ble_eq_true rfl⟩ dX0_rounded_53) ?_
    obtain ⟨he, hw⟩ := Prod.mk.inj (Option.some.inj hf)
    exact xj_iret hC hr (by decide) (by decide) dX0_rounded_56 he hw
def fX0_rounded (w : xmW) (th : (Option Nat)) (a1 : (Option Nat)) (a2 : Int32) (a3 : Int64) (a4 : Int64) (a5 : Int32) : Option (Int32 × xmW) := ((xmob w th 0).bind fun _ => (if a2 = 0 then (fX0_rounded_L26 w (th) (a1) (a2) (a3) (a4) (a5) ) else ((xmgI w a1 1 0).bind fun v1 => (if v1 = 0 then ((xmgR w th 0 0).bind fun v2 => ((xmgI w v2 3 0).bind fun v3 => ((xmput w v2 3 0 (xI (v3 + (1 : Int32)))).bind fun w4 => (some ((0 : Int32), w4))))) else (fX0_rounded_L26 w (th) (a1) (a2) (a3) (a4) (a5) )))))
set_option maxHeartbeats 4000000 in
set_option maxRecDepth 100000 in
theorem mX0_rounded (l : Launch) (D : va_G) (ks : Nat → ClassId) (b : Nat) {w : xmW} {th : (Option Nat)} {a1 : (Option Nat)} {a2 : Int32} {a3 : Int64} {a4 : Int64} {a5 : Int32} {y : Int32} {wz : xmW} (hf : fX0_rounded w th a1 a2 a3 a4 a5 = some (y, wz)) : xmM l yX0_rounded (Cond.code yX0_rounded cX0_rounded 12 (some (FieldType.int)) :: xmTs) 2 50 0 0 D ks b w [xR th, xR a1, xI a2, xL a3, xL a4, xI a5] (some (xI y)) wz := by
  unfold fX0_rounded at hf
  obtain ⟨_, _, hf⟩ := xm_bind hf
  refine xmM.of (own := RX0) (lv0 := [(0, xR th), (1, xR a1), (2, xI a2), (3, xL a3), (5, xL a4), (7, xI a5)]) (by decide) rfl (Nat.le_of_ble_eq_true rfl) rfl ?_
  intro p e s m args below meth c hC hr hnm
  refine xj_iload_n hC dX0_rounded_0 rfl 2 rfl ?_
  refine xb_if_eq (tgt := 26) hC dX0_rounded_1 (by decide) hf (fun hf => ?_) (fun hf => ?_)
  · exact lX0_rounded_L26 hC hr  w (th) (a1) (a2) (a3) (a4) (a5)  hf
  · refine xj_aload_n hC dX0_rounded_4 rfl 1 rfl ?_
    refine xb_getI hC 1 0 xcl_1 (by decide) xw_fl_X0_28 dX0_rounded_5 hf (fun v1 hf => ?_)
    refine xb_if_ne (tgt := 26) hC dX0_rounded_8 (by decide) hf (fun hf => ?_) (fun hf => ?_)
    · exact lX0_rounded_L26 hC hr  w (th) (a1) (a2) (a3) (a4) (a5)  hf
    · refine xj_aload_n hC dX0_rounded_11 rfl 0 rfl ?_
      refine xb_getR hC 0 0 xcl_0 (by decide) xw_fl_X0_12 dX0_rounded_12 hf (fun v2 hf => ?_)
      refine xj_dup hC dX0_rounded_15 rfl ?_
      refine xb_getI hC 3 0 xcl_3 (by decide) xw_fl_X0_31 dX0_rounded_16 hf (fun v3 hf => ?_)
      refine xj_iconst (v := 1) hC dX0_rounded_19 (by decide) ?_
      refine xj_iadd hC dX0_rounded_20 ?_
      refine xb_put hC 3 0 xcl_3 (by decide) xw_fl_X0_31 rfl (xmfit_i _) dX0_rounded_21 hf (fun w4 hf => ?_)
      refine xj_iconst (v := 0) hC dX0_rounded_24 (by decide) ?_
      obtain ⟨he, hw⟩ := Prod.mk.inj (Option.some.inj hf)
      exact xj_iret hC hr (by decide) (by decide) dX0_rounded_25 he hw
def fX0_fraction (w : xmW) (th : (Option Nat)) (a1 : (Option Nat)) (a2 : Int64) (a3 : Int64) (a4 : Int32) : Option (Int32 × xmW) := ((xmob w th 0).bind fun _ => (if (lg_cmp a2 (0 : Int64)) = 0 then (some ((0 : Int32), w)) else ((fX1_scale w (a1) ).bind fun v2 => (xmb2 (fX0_rounded w (th) (a1) ((if 0 ≤ (lg_cmp a2 (0 : Int64)) then (0 : Int32) else (1 : Int32))) (((if 0 < a2 then a2 else -a2) <<< ((v2).toInt64 &&& 63))) (a3) (a4)) fun v4 w5 => (some (v4, w5))))))
set_option maxHeartbeats 4000000 in
set_option maxRecDepth 100000 in
theorem mX0_fraction (l : Launch) (D : va_G) (ks : Nat → ClassId) (b : Nat) {w : xmW} {th : (Option Nat)} {a1 : (Option Nat)} {a2 : Int64} {a3 : Int64} {a4 : Int32} {y : Int32} {wz : xmW} (hf : fX0_fraction w th a1 a2 a3 a4 = some (y, wz)) : xmM l yX0_fraction (Cond.code yX0_fraction cX0_fraction 7 (some (FieldType.int)) :: xmTs) 3 81 0 0 D ks b w [xR th, xR a1, xL a2, xL a3, xI a4] (some (xI y)) wz := by
  unfold fX0_fraction at hf
  obtain ⟨_, _, hf⟩ := xm_bind hf
  refine xmM.of (own := RX0) (lv0 := [(0, xR th), (1, xR a1), (2, xL a2), (4, xL a3), (6, xI a4)]) (by decide) rfl (Nat.le_of_ble_eq_true rfl) rfl ?_
  intro p e s m args below meth c hC hr hnm
  refine xj_lload_n hC dX0_fraction_0 rfl 2 rfl ?_
  refine xj_lconst (v := 0) hC dX0_fraction_1 (by decide) ?_
  refine xj_lcmp hC dX0_fraction_2 ?_
  refine xb_if_ne (tgt := 8) hC dX0_fraction_3 (by decide) hf (fun hf => ?_) (fun hf => ?_)
  · refine xj_aload_n hC dX0_fraction_8 rfl 0 rfl ?_
    refine xj_aload_n hC dX0_fraction_9 rfl 1 rfl ?_
    refine xj_lload_n hC dX0_fraction_10 rfl 2 rfl ?_
    refine xj_lconst (v := 0) hC dX0_fraction_11 (by decide) ?_
    refine xj_lcmp hC dX0_fraction_12 ?_
    refine xj_dia (cnd := 0 ≤ (lg_cmp a2 (0 : Int64))) (x := 0) (y := 1) (pc2 := 21) (st2 := [xR a1, xR th]) (fun hc hk => ?_) (fun hc hk => ?_) ?_
    · exact xj_if_ge (tgt := 20) hC dX0_fraction_13 (by decide) (fun _ => xj_iconst (v := 0) hC dX0_fraction_20 (by decide) hk) (fun hn => absurd hc hn)
    · exact xj_if_ge (tgt := 20) hC dX0_fraction_13 (by decide) (fun hn => absurd hn hc) (fun _ => xj_iconst (v := 1) hC dX0_fraction_16 (by decide) (xj_goto (tgt := 21) hC dX0_fraction_17 (by decide) hk))
    refine xj_lload_n hC dX0_fraction_21 rfl 2 rfl ?_
    refine xj_mabs_long hC xw_ml_X0_71 xw_sta_J9_abs_l xw_ini_J9 xw_cod_J9_abs_l ⟨Nat.le_of_ble_eq_true rfl, Nat.le_of_ble_eq_true rfl⟩ (Nat.le_of_ble_eq_true rfl) (Nat.le_of_ble_eq_true rfl) dX0_fraction_22 ?_
    refine xj_aload_n hC dX0_fraction_25 rfl 1 rfl ?_
    obtain ⟨v2, hc1, hf⟩ := xm_bind hf
    obtain ⟨_, hob, _⟩ := xm_bind hc1
    refine xj_reti (xr_V hC (mX1_scale l D ks b hc1) hob rfl xw_cod_X1_scale xw_ini_X1 xw_ins_X1_scale xw_sel_X1_scale xw_ml_X0_77 xds_X1_scale ⟨Nat.le_of_ble_eq_true rfl, Nat.le_of_ble_eq_true rfl⟩ rfl rfl (Nat.le_of_ble_eq_true rfl) ⟨Nat.le_of_ble_eq_true rfl, Nat.le_of_ble_eq_true rfl⟩ dX0_fraction_26) ?_
    refine xj_lshl hC dX0_fraction_29 ?_
    refine xj_lload hC dX0_fraction_30 3 rfl ?_
    refine xj_iload hC dX0_fraction_32 4 rfl ?_
    obtain ⟨v4, w5, hc3, hf⟩ := xm_b2 hf
    obtain ⟨_, hob, _⟩ := xm_bind hc3
    refine xj_reti (xr_V hC (mX0_rounded l D ks b hc3) hob rfl xw_cod_X0_rounded xw_ini_X0 xw_ins_X0_rounded xw_sel_X0_rounded xw_ml_X0_80 xds_X0_rounded ⟨Nat.le_of_ble_eq_true rfl, Nat.le_of_ble_eq_true rfl⟩ rfl rfl (Nat.le_of_ble_eq_true rfl) ⟨Nat.le_of_ble_eq_true rfl, Nat.le_of_ble_eq_true rfl⟩ dX0_fraction_34) ?_
    obtain ⟨he, hw⟩ := Prod.mk.inj (Option.some.inj hf)
    exact xj_iret hC hr (by decide) (by decide) dX0_fraction_37 he hw
  · refine xj_iconst (v := 0) hC dX0_fraction_6 (by decide) ?_
    obtain ⟨he, hw⟩ := Prod.mk.inj (Option.some.inj hf)
    exact xj_iret hC hr (by decide) (by decide) dX0_fraction_7 he hw
def fX0_crossed (w : xmW) (th : (Option Nat)) (a1 : (Option Nat)) (a2 : Int32) (a3 : (Option Nat)) (a4 : Int32) : Option (Int32 × xmW) := ((xmob w th 0).bind fun _ => ((fX1_sizeOf w (a1) (a2)).bind fun v2 => ((fX1_isMinus w (a1) (a2)).bind fun v4 => (if (lg_cmp v2 (-2 : Int64)) = 0 then ((fX1_noneCode w (a3) ).bind fun v21 => (if v21 = (-9 : Int32) then (xmb2 (fX0_invalid w (th) (a3)) fun v25 w26 => (some (v25, w26))) else ((fX1_noneCode w (a3) ).bind fun v23 => (some (v23, w))))) else (if (lg_cmp v2 (-1 : Int64)) = 0 then ((fX1_beyond w (a3) (v4)).bind fun v19 => (some (v19, w))) else (if (lg_cmp v2 (0 : Int64)) = 0 then ((fX1_withSign w (a3) (v4) ((0 : Int32))).bind fun v17 => (some (v17, w))) else ((fX1_scale w (a3) ).bind fun v6 => ((fX1_scale w (a1) ).bind fun v8 => ((fX1_scale w (a1) ).bind fun v10 => ((fX1_scale w (a3) ).bind fun v12 => (xmb2 (fX0_rounded w (th) (a3) (v4) ((v2 <<< (((if (0 : Int32) < (v6 - v8) then (v6 - v8) else (0 : Int32))).toInt64 &&& 63))) (((1 : Int64) <<< (((if (0 : Int32) < (v10 - v12) then (v10 - v12) else (0 : Int32))).toInt64 &&& 63))) (a4)) fun v14 w15 => (some (v14, w15)))))))))))))
set_option maxHeartbeats 4000000 in
set_option maxRecDepth 100000 in
theorem mX0_crossed (l : Launch) (D : va_G) (ks : Nat → ClassId) (b : Nat) {w : xmW} {th : (Option Nat)} {a1 : (Option Nat)} {a2 : Int32} {a3 : (Option Nat)} {a4 : Int32} {y : Int32} {wz : xmW} (hf : fX0_crossed w th a1 a2 a3 a4 = some (y, wz)) : xmM l yX0_crossed (Cond.code yX0_crossed cX0_crossed 10 (some (FieldType.int)) :: xmTs) 3 81 0 0 D ks b w [xR th, xR a1, xI a2, xR a3, xI a4] (some (xI y)) wz := by
  unfold fX0_crossed at hf
  obtain ⟨_, _, hf⟩ := xm_bind hf
  refine xmM.of (own := RX0) (lv0 := [(0, xR th), (1, xR a1), (2, xI a2), (3, xR a3), (4, xI a4)]) (by decide) rfl (Nat.le_of_ble_eq_true rfl) rfl ?_
  intro p e s m args below meth c hC hr hnm
  refine xj_aload_n hC dX0_crossed_0 rfl 1 rfl ?_
  refine xj_iload_n hC dX0_crossed_1 rfl 2 rfl ?_
  obtain ⟨v2, hc1, hf⟩ := xm_bind hf
  obtain ⟨_, hob, _⟩ := xm_bind hc1
  refine xj_retl (xr_V hC (mX1_sizeOf l D ks b hc1) hob rfl xw_cod_X1_sizeOf xw_ini_X1 xw_ins_X1_sizeOf xw_sel_X1_sizeOf xw_ml_X0_84 xds_X1_sizeOf ⟨Nat.le_of_ble_eq_true rfl, Nat.le_of_ble_eq_true rfl⟩ rfl rfl (Nat.le_of_ble_eq_true rfl) ⟨Nat.le_of_ble_eq_true rfl, Nat.le_of_ble_eq_true rfl⟩ dX0_crossed_2) ?_
  refine xj_lstore (lv' := [(5, xL v2), (0, xR th), (1, xR a1), (2, xI a2), (3, xR a3), (4, xI a4)]) hC dX0_crossed_5 (by decide) rfl ?_
  refine xj_aload_n hC dX0_crossed_7 rfl 2 rfl ?_
  refine xj_iload_n hC dX0_crossed_8 rfl 3 rfl ?_
  obtain ⟨v4, hc3, hf⟩ := xm_bind hf
  obtain ⟨_, hob, _⟩ := xm_bind hc3
  refine xj_reti (xr_V hC (mX1_isMinus l D ks b hc3) hob rfl xw_cod_X1_isMinus xw_ini_X1 xw_ins_X1_isMinus xw_sel_X1_isMinus xw_ml_X0_87 xds_X1_isMinus ⟨Nat.le_of_ble_eq_true rfl, Nat.le_of_ble_eq_true rfl⟩ rfl rfl (Nat.le_of_ble_eq_true rfl) ⟨Nat.le_of_ble_eq_true rfl, Nat.le_of_ble_eq_true rfl⟩ dX0_crossed_9) ?_
  refine xj_istore (lv' := [(7, xI v4), (5, xL v2), (0, xR th), (1, xR a1), (2, xI a2), (3, xR a3), (4, xI a4)]) hC dX0_crossed_12 (by decide) rfl ?_
  refine xj_lload hC dX0_crossed_14 1 rfl ?_
  refine xj_ldc2 hC xw_cst_X0_91 dX0_crossed_16 ?_
  refine xj_lcmp hC dX0_crossed_19 ?_
  refine xb_if_ne (tgt := 45) hC dX0_crossed_20 (by decide) hf (fun hf => ?_) (fun hf => ?_)
  · refine xj_lload hC dX0_crossed_45 1 rfl ?_
    refine xj_ldc2 hC xw_cst_X0_96 dX0_crossed_47 ?_
    refine xj_lcmp hC dX0_crossed_50 ?_
    refine xb_if_ne (tgt := 61) hC dX0_crossed_51 (by decide) hf (fun hf => ?_) (fun hf => ?_)
    · refine xj_lload hC dX0_crossed_61 1 rfl ?_
      refine xj_lconst (v := 0) hC dX0_crossed_63 (by decide) ?_
      refine xj_lcmp hC dX0_crossed_64 ?_
      refine xb_if_ne (tgt := 76) hC dX0_crossed_65 (by decide) hf (fun hf => ?_) (fun hf => ?_)
      · refine xj_iconst (v := 0) hC dX0_crossed_76 (by decide) ?_
        refine xj_aload_n hC dX0_crossed_77 rfl 5 rfl ?_
        obtain ⟨v6, hc5, hf⟩ := xm_bind hf
        obtain ⟨_, hob, _⟩ := xm_bind hc5
        refine xj_reti (xr_V hC (mX1_scale l D ks b hc5) hob rfl xw_cod_X1_scale xw_ini_X1 xw_ins_X1_scale xw_sel_X1_scale xw_ml_X0_77 xds_X1_scale ⟨Nat.le_of_ble_eq_true rfl, Nat.le_of_ble_eq_true rfl⟩ rfl rfl (Nat.le_of_ble_eq_true rfl) ⟨Nat.le_of_ble_eq_true rfl, Nat.le_of_ble_eq_true rfl⟩ dX0_crossed_78) ?_
        refine xj_aload_n hC dX0_crossed_81 rfl 3 rfl ?_
        obtain ⟨v8, hc7, hf⟩ := xm_bind hf
        obtain ⟨_, hob, _⟩ := xm_bind hc7
        refine xj_reti (xr_V hC (mX1_scale l D ks b hc7) hob rfl xw_cod_X1_scale xw_ini_X1 xw_ins_X1_scale xw_sel_X1_scale xw_ml_X0_77 xds_X1_scale ⟨Nat.le_of_ble_eq_true rfl, Nat.le_of_ble_eq_true rfl⟩ rfl rfl (Nat.le_of_ble_eq_true rfl) ⟨Nat.le_of_ble_eq_true rfl, Nat.le_of_ble_eq_true rfl⟩ dX0_crossed_82) ?_
        refine xj_isub hC dX0_crossed_85 ?_
        refine xj_mmax hC xw_ml_X0_98 xw_sta_J9_max_i xw_ini_J9 xw_cod_J9_max_i ⟨Nat.le_of_ble_eq_true rfl, Nat.le_of_ble_eq_true rfl⟩ (Nat.le_of_ble_eq_true rfl) (Nat.le_of_ble_eq_true rfl) dX0_crossed_86 ?_
        refine xj_istore (lv' := [(8, xI (if (0 : Int32) < (v6 - v8) then (v6 - v8) else (0 : Int32))), (7, xI v4), (5, xL v2), (0, xR th), (1, xR a1), (2, xI a2), (3, xR a3), (4, xI a4)]) hC dX0_crossed_89 (by decide) rfl ?_
        refine xj_iconst (v := 0) hC dX0_crossed_91 (by decide) ?_
        refine xj_aload_n hC dX0_crossed_92 rfl 4 rfl ?_
        obtain ⟨v10, hc9, hf⟩ := xm_bind hf
        obtain ⟨_, hob, _⟩ := xm_bind hc9
        refine xj_reti (xr_V hC (mX1_scale l D ks b hc9) hob rfl xw_cod_X1_scale xw_ini_X1 xw_ins_X1_scale xw_sel_X1_scale xw_ml_X0_77 xds_X1_scale ⟨Nat.le_of_ble_eq_true rfl, Nat.le_of_ble_eq_true rfl⟩ rfl rfl (Nat.le_of_ble_eq_true rfl) ⟨Nat.le_of_ble_eq_true rfl, Nat.le_of_ble_eq_true rfl⟩ dX0_crossed_93) ?_
        refine xj_aload_n hC dX0_crossed_96 rfl 6 rfl ?_
        obtain ⟨v12, hc11, hf⟩ := xm_bind hf
        obtain ⟨_, hob, _⟩ := xm_bind hc11
        refine xj_reti (xr_V hC (mX1_scale l D ks b hc11) hob rfl xw_cod_X1_scale xw_ini_X1 xw_ins_X1_scale xw_sel_X1_scale xw_ml_X0_77 xds_X1_scale ⟨Nat.le_of_ble_eq_true rfl, Nat.le_of_ble_eq_true rfl⟩ rfl rfl (Nat.le_of_ble_eq_true rfl) ⟨Nat.le_of_ble_eq_true rfl, Nat.le_of_ble_eq_true rfl⟩ dX0_crossed_97) ?_
        refine xj_isub hC dX0_crossed_100 ?_
        refine xj_mmax hC xw_ml_X0_98 xw_sta_J9_max_i xw_ini_J9 xw_cod_J9_max_i ⟨Nat.le_of_ble_eq_true rfl, Nat.le_of_ble_eq_true rfl⟩ (Nat.le_of_ble_eq_true rfl) (Nat.le_of_ble_eq_true rfl) dX0_crossed_101 ?_
        refine xj_istore (lv' := [(9, xI (if (0 : Int32) < (v10 - v12) then (v10 - v12) else (0 : Int32))), (8, xI (if (0 : Int32) < (v6 - v8) then (v6 - v8) else (0 : Int32))), (7, xI v4), (5, xL v2), (0, xR th), (1, xR a1), (2, xI a2), (3, xR a3), (4, xI a4)]) hC dX0_crossed_104 (by decide) rfl ?_
        refine xj_aload_n hC dX0_crossed_106 rfl 4 rfl ?_
        refine xj_aload_n hC dX0_crossed_107 rfl 7 rfl ?_
        refine xj_iload hC dX0_crossed_108 2 rfl ?_
        refine xj_lload hC dX0_crossed_110 3 rfl ?_
        refine xj_iload hC dX0_crossed_112 1 rfl ?_
        refine xj_lshl hC dX0_crossed_114 ?_
        refine xj_lconst (v := 1) hC dX0_crossed_115 (by decide) ?_
        refine xj_iload hC dX0_crossed_116 0 rfl ?_
        refine xj_lshl hC dX0_crossed_118 ?_
        refine xj_iload hC dX0_crossed_119 8 rfl ?_
        obtain ⟨v14, w15, hc13, hf⟩ := xm_b2 hf
        obtain ⟨_, hob, _⟩ := xm_bind hc13
        refine xj_reti (xr_V hC (mX0_rounded l D ks b hc13) hob rfl xw_cod_X0_rounded xw_ini_X0 xw_ins_X0_rounded xw_sel_X0_rounded xw_ml_X0_80 xds_X0_rounded ⟨Nat.le_of_ble_eq_true rfl, Nat.le_of_ble_eq_true rfl⟩ rfl rfl (Nat.le_of_ble_eq_true rfl) ⟨Nat.le_of_ble_eq_true rfl, Nat.le_of_ble_eq_true rfl⟩ dX0_crossed_121) ?_
        obtain ⟨he, hw⟩ := Prod.mk.inj (Option.some.inj hf)
        exact xj_iret hC hr (by decide) (by decide) dX0_crossed_124 he hw
      · refine xj_aload_n hC dX0_crossed_68 rfl 5 rfl ?_
        refine xj_iload hC dX0_crossed_69 0 rfl ?_
        refine xj_iconst (v := 0) hC dX0_crossed_71 (by decide) ?_
        obtain ⟨v17, hc16, hf⟩ := xm_bind hf
        obtain ⟨_, hob, _⟩ := xm_bind hc16
        refine xj_reti (xr_V hC (mX1_withSign l D ks b hc16) hob rfl xw_cod_X1_withSign xw_ini_X1 xw_ins_X1_withSign xw_sel_X1_withSign xw_ml_X0_42 xds_X1_withSign ⟨Nat.le_of_ble_eq_true rfl, Nat.le_of_ble_eq_true rfl⟩ rfl rfl (Nat.le_of_ble_eq_true rfl) ⟨Nat.le_of_ble_eq_true rfl, Nat.le_of_ble_eq_true rfl⟩ dX0_crossed_72) ?_
        obtain ⟨he, hw⟩ := Prod.mk.inj (Option.some.inj hf)
        exact xj_iret hC hr (by decide) (by decide) dX0_crossed_75 he hw
    · refine xj_aload_n hC dX0_crossed_54 rfl 5 rfl ?_
      refine xj_iload hC dX0_crossed_55 0 rfl ?_
      obtain ⟨v19, hc18, hf⟩ := xm_bind hf
      obtain ⟨_, hob, _⟩ := xm_bind hc18
      refine xj_reti (xr_V hC (mX1_beyond l D ks b hc18) hob rfl xw_cod_X1_beyond xw_ini_X1 xw_ins_X1_beyond xw_sel_X1_beyond xw_ml_X0_67 xds_X1_beyond ⟨Nat.le_of_ble_eq_true rfl, Nat.le_of_ble_eq_true rfl⟩ rfl rfl (Nat.le_of_ble_eq_true rfl) ⟨Nat.le_of_ble_eq_true rfl, Nat.le_of_ble_eq_true rfl⟩ dX0_crossed_57) ?_
      obtain ⟨he, hw⟩ := Prod.mk.inj (Option.some.inj hf)
      exact xj_iret hC hr (by decide) (by decide) dX0_crossed_60 he hw
  · refine xj_aload_n hC dX0_crossed_23 rfl 5 rfl ?_
    obtain ⟨v21, hc20, hf⟩ := xm_bind hf
    obtain ⟨_, hob, _⟩ := xm_bind hc20
    refine xj_reti (xr_V hC (mX1_noneCode l D ks b hc20) hob rfl xw_cod_X1_noneCode xw_ini_X1 xw_ins_X1_noneCode xw_sel_X1_noneCode xw_ml_X0_22 xds_X1_noneCode ⟨Nat.le_of_ble_eq_true rfl, Nat.le_of_ble_eq_true rfl⟩ rfl rfl (Nat.le_of_ble_eq_true rfl) ⟨Nat.le_of_ble_eq_true rfl, Nat.le_of_ble_eq_true rfl⟩ dX0_crossed_24) ?_
    refine xj_bipush (v := -9) hC dX0_crossed_27 (by decide) ?_
    refine xb_ic_ne (tgt := 40) hC dX0_crossed_29 (by decide) hf (fun hf => ?_) (fun hf => ?_)
    · refine xj_aload_n hC dX0_crossed_40 rfl 5 rfl ?_
      obtain ⟨v23, hc22, hf⟩ := xm_bind hf
      obtain ⟨_, hob, _⟩ := xm_bind hc22
      refine xj_reti (xr_V hC (mX1_noneCode l D ks b hc22) hob rfl xw_cod_X1_noneCode xw_ini_X1 xw_ins_X1_noneCode xw_sel_X1_noneCode xw_ml_X0_22 xds_X1_noneCode ⟨Nat.le_of_ble_eq_true rfl, Nat.le_of_ble_eq_true rfl⟩ rfl rfl (Nat.le_of_ble_eq_true rfl) ⟨Nat.le_of_ble_eq_true rfl, Nat.le_of_ble_eq_true rfl⟩ dX0_crossed_41) ?_
      obtain ⟨he, hw⟩ := Prod.mk.inj (Option.some.inj hf)
      exact xj_iret hC hr (by decide) (by decide) dX0_crossed_44 he hw
    · refine xj_aload_n hC dX0_crossed_32 rfl 2 rfl ?_
      refine xj_aload_n hC dX0_crossed_33 rfl 5 rfl ?_
      obtain ⟨v25, w26, hc24, hf⟩ := xm_b2 hf
      obtain ⟨_, hob, _⟩ := xm_bind hc24
      refine xj_reti (xr_V hC (mX0_invalid l D ks b hc24) hob rfl xw_cod_X0_invalid xw_ini_X0 xw_ins_X0_invalid xw_sel_X0_invalid xw_ml_X0_93 xds_X0_invalid ⟨Nat.le_of_ble_eq_true rfl, Nat.le_of_ble_eq_true rfl⟩ rfl rfl (Nat.le_of_ble_eq_true rfl) ⟨Nat.le_of_ble_eq_true rfl, Nat.le_of_ble_eq_true rfl⟩ dX0_crossed_34) ?_
      refine xj_goto (tgt := 44) hC dX0_crossed_37 (by decide) ?_
      obtain ⟨he, hw⟩ := Prod.mk.inj (Option.some.inj hf)
      exact xj_iret hC hr (by decide) (by decide) dX0_crossed_44 he hw
def fX0_endlessOfSum_L53 (w : xmW) (p1 : (Option Nat)) (p2 : Int32) (p5 : Int32) (p8 : Int32) (p9 : Int32) : Option (Int32 × xmW) := (if p8 = 0 then (if p9 = 0 then (some ((-9 : Int32), w)) else (if p8 = 0 then ((fX1_beyond w (p1) (p5)).bind fun v9 => (some (v9, w))) else ((fX1_beyond w (p1) (p2)).bind fun v11 => (some (v11, w))))) else (if p8 = 0 then ((fX1_beyond w (p1) (p5)).bind fun v5 => (some (v5, w))) else ((fX1_beyond w (p1) (p2)).bind fun v7 => (some (v7, w)))))
set_option maxHeartbeats 4000000 in
set_option maxRecDepth 100000 in
theorem lX0_endlessOfSum_L53 {p : Program} {l : Launch} {e : Env} {s : State} {m : MethodId} {args : Array Value} {below : List Frame} {meth : Method} {c : Code} {D : va_G} {ks : Nat → ClassId} {b : Nat} (hC : xmC p s m args meth c D ks b 10 cX0_endlessOfSum RX0) (hr : meth.sig.returnType = (some (FieldType.int))) {y : Int32} {wz : xmW} (w : xmW) (p1 : (Option Nat)) (p2 : Int32) (p5 : Int32) (p8 : Int32) (p9 : Int32) (hf : fX0_endlessOfSum_L53 w p1 p2 p5 p8 p9 = some (y, wz)) : xmJ p l e ({ frames := 2, cells := 0, slots := 0, locals := 43 } : Room) s m args below meth c D ks b 10 (MQ below (xmQ D ks b (some (xI y)) wz) args s 0 0 (xmA b)) w 0 0 53 [(1, xR p1), (2, xI p2), (5, xI p5), (8, xI p8), (9, xI p9)] [] := by
  unfold fX0_endlessOfSum_L53 at hf
  refine xj_iload hC dX0_endlessOfSum_53 3 rfl ?_
  refine xb_if_ne (tgt := 63) hC dX0_endlessOfSum_55 (by decide) hf (fun hf => ?_) (fun hf => ?_)
  · refine xj_aload_n hC dX0_endlessOfSum_63 rfl 0 rfl ?_
    refine xj_iload hC dX0_endlessOfSum_64 3 rfl ?_
    refine xb_if_eq (tgt := 73) hC dX0_endlessOfSum_66 (by decide) hf (fun hf => ?_) (fun hf => ?_)
    · refine xj_iload hC dX0_endlessOfSum_73 2 rfl ?_
      obtain ⟨v5, hc4, hf⟩ := xm_bind hf
      obtain ⟨_, hob, _⟩ := xm_bind hc4
      refine xj_reti (xr_V hC (mX1_beyond l D ks b hc4) hob rfl xw_cod_X1_beyond xw_ini_X1 xw_ins_X1_beyond xw_sel_X1_beyond xw_ml_X0_67 xds_X1_beyond ⟨Nat.le_of_ble_eq_true rfl, Nat.le_of_ble_eq_true rfl⟩ rfl rfl (Nat.le_of_ble_eq_true rfl) ⟨Nat.le_of_ble_eq_true rfl, Nat.le_of_ble_eq_true rfl⟩ dX0_endlessOfSum_75) ?_
      obtain ⟨he, hw⟩ := Prod.mk.inj (Option.some.inj hf)
      exact xj_iret hC hr (by decide) (by decide) dX0_endlessOfSum_78 he hw
    · refine xj_iload_n hC dX0_endlessOfSum_69 rfl 1 rfl ?_
      refine xj_goto (tgt := 75) hC dX0_endlessOfSum_70 (by decide) ?_
      obtain ⟨v7, hc6, hf⟩ := xm_bind hf
      obtain ⟨_, hob, _⟩ := xm_bind hc6
      refine xj_reti (xr_V hC (mX1_beyond l D ks b hc6) hob rfl xw_cod_X1_beyond xw_ini_X1 xw_ins_X1_beyond xw_sel_X1_beyond xw_ml_X0_67 xds_X1_beyond ⟨Nat.le_of_ble_eq_true rfl, Nat.le_of_ble_eq_true rfl⟩ rfl rfl (Nat.le_of_ble_eq_true rfl) ⟨Nat.le_of_ble_eq_true rfl, Nat.le_of_ble_eq_true rfl⟩ dX0_endlessOfSum_75) ?_
      obtain ⟨he, hw⟩ := Prod.mk.inj (Option.some.inj hf)
      exact xj_iret hC hr (by decide) (by decide) dX0_endlessOfSum_78 he hw
  · refine xj_iload hC dX0_endlessOfSum_58 4 rfl ?_
    refine xb_if_eq (tgt := 79) hC dX0_endlessOfSum_60 (by decide) hf (fun hf => ?_) (fun hf => ?_)
    · refine xj_bipush (v := -9) hC dX0_endlessOfSum_79 (by decide) ?_
      obtain ⟨he, hw⟩ := Prod.mk.inj (Option.some.inj hf)
      exact xj_iret hC hr (by decide) (by decide) dX0_endlessOfSum_81 he hw
    · refine xj_aload_n hC dX0_endlessOfSum_63 rfl 0 rfl ?_
      refine xj_iload hC dX0_endlessOfSum_64 3 rfl ?_
      refine xb_if_eq (tgt := 73) hC dX0_endlessOfSum_66 (by decide) hf (fun hf => ?_) (fun hf => ?_)
      · refine xj_iload hC dX0_endlessOfSum_73 2 rfl ?_
        obtain ⟨v9, hc8, hf⟩ := xm_bind hf
        obtain ⟨_, hob, _⟩ := xm_bind hc8
        refine xj_reti (xr_V hC (mX1_beyond l D ks b hc8) hob rfl xw_cod_X1_beyond xw_ini_X1 xw_ins_X1_beyond xw_sel_X1_beyond xw_ml_X0_67 xds_X1_beyond ⟨Nat.le_of_ble_eq_true rfl, Nat.le_of_ble_eq_true rfl⟩ rfl rfl (Nat.le_of_ble_eq_true rfl) ⟨Nat.le_of_ble_eq_true rfl, Nat.le_of_ble_eq_true rfl⟩ dX0_endlessOfSum_75) ?_
        obtain ⟨he, hw⟩ := Prod.mk.inj (Option.some.inj hf)
        exact xj_iret hC hr (by decide) (by decide) dX0_endlessOfSum_78 he hw
      · refine xj_iload_n hC dX0_endlessOfSum_69 rfl 1 rfl ?_
        refine xj_goto (tgt := 75) hC dX0_endlessOfSum_70 (by decide) ?_
        obtain ⟨v11, hc10, hf⟩ := xm_bind hf
        obtain ⟨_, hob, _⟩ := xm_bind hc10
        refine xj_reti (xr_V hC (mX1_beyond l D ks b hc10) hob rfl xw_cod_X1_beyond xw_ini_X1 xw_ins_X1_beyond xw_sel_X1_beyond xw_ml_X0_67 xds_X1_beyond ⟨Nat.le_of_ble_eq_true rfl, Nat.le_of_ble_eq_true rfl⟩ rfl rfl (Nat.le_of_ble_eq_true rfl) ⟨Nat.le_of_ble_eq_true rfl, Nat.le_of_ble_eq_true rfl⟩ dX0_endlessOfSum_75) ?_
        obtain ⟨he, hw⟩ := Prod.mk.inj (Option.some.inj hf)
        exact xj_iret hC hr (by decide) (by decide) dX0_endlessOfSum_78 he hw
def fX0_endlessOfSum (w : xmW) (th : (Option Nat)) (a1 : (Option Nat)) (a2 : Int32) (a3 : Int64) (a4 : Int32) (a5 : Int64) : Option (Int32 × xmW) := ((xmob w th 0).bind fun _ => (if (if (lg_cmp a3 (-1 : Int64)) = 0 then (1 : Int32) else (0 : Int32)) = 0 then (fX0_endlessOfSum_L53 w (a1) (a2) (a4) ((if (lg_cmp a3 (-1 : Int64)) = 0 then (1 : Int32) else (0 : Int32))) ((if (lg_cmp a5 (-1 : Int64)) = 0 then (1 : Int32) else (0 : Int32))) ) else (if (if (lg_cmp a5 (-1 : Int64)) = 0 then (1 : Int32) else (0 : Int32)) = 0 then (fX0_endlessOfSum_L53 w (a1) (a2) (a4) ((if (lg_cmp a3 (-1 : Int64)) = 0 then (1 : Int32) else (0 : Int32))) ((if (lg_cmp a5 (-1 : Int64)) = 0 then (1 : Int32) else (0 : Int32))) ) else (if a2 = a4 then (fX0_endlessOfSum_L53 w (a1) (a2) (a4) ((if (lg_cmp a3 (-1 : Int64)) = 0 then (1 : Int32) else (0 : Int32))) ((if (lg_cmp a5 (-1 : Int64)) = 0 then (1 : Int32) else (0 : Int32))) ) else (xmb2 (fX0_invalid w (th) (a1)) fun v2 w3 => (some (v2, w3)))))))
set_option maxHeartbeats 4000000 in
set_option maxRecDepth 100000 in
theorem mX0_endlessOfSum (l : Launch) (D : va_G) (ks : Nat → ClassId) (b : Nat) {w : xmW} {th : (Option Nat)} {a1 : (Option Nat)} {a2 : Int32} {a3 : Int64} {a4 : Int32} {a5 : Int64} {y : Int32} {wz : xmW} (hf : fX0_endlessOfSum w th a1 a2 a3 a4 a5 = some (y, wz)) : xmM l yX0_endlessOfSum (Cond.code yX0_endlessOfSum cX0_endlessOfSum 10 (some (FieldType.int)) :: xmTs) 2 43 0 0 D ks b w [xR th, xR a1, xI a2, xL a3, xI a4, xL a5] (some (xI y)) wz := by
  unfold fX0_endlessOfSum at hf
  obtain ⟨_, _, hf⟩ := xm_bind hf
  refine xmM.of (own := RX0) (lv0 := [(0, xR th), (1, xR a1), (2, xI a2), (3, xL a3), (5, xI a4), (6, xL a5)]) (by decide) rfl (Nat.le_of_ble_eq_true rfl) rfl ?_
  intro p e s m args below meth c hC hr hnm
  refine xj_lload_n hC dX0_endlessOfSum_0 rfl 3 rfl ?_
  refine xj_ldc2 hC xw_cst_X0_96 dX0_endlessOfSum_1 ?_
  refine xj_lcmp hC dX0_endlessOfSum_4 ?_
  refine xj_dia (cnd := (lg_cmp a3 (-1 : Int64)) = 0) (x := 1) (y := 0) (pc2 := 13) (st2 := []) (fun hc hk => ?_) (fun hc hk => ?_) ?_
  · exact xj_if_ne (tgt := 12) hC dX0_endlessOfSum_5 (by decide) (fun hn => absurd hc hn) (fun _ => xj_iconst (v := 1) hC dX0_endlessOfSum_8 (by decide) (xj_goto (tgt := 13) hC dX0_endlessOfSum_9 (by decide) hk))
  · exact xj_if_ne (tgt := 12) hC dX0_endlessOfSum_5 (by decide) (fun _ => xj_iconst (v := 0) hC dX0_endlessOfSum_12 (by decide) hk) (fun hn => absurd hn hc)
  refine xj_istore (lv' := [(8, xI (if (lg_cmp a3 (-1 : Int64)) = 0 then (1 : Int32) else (0 : Int32))), (0, xR th), (1, xR a1), (2, xI a2), (3, xL a3), (5, xI a4), (6, xL a5)]) hC dX0_endlessOfSum_13 (by decide) rfl ?_
  refine xj_lload hC dX0_endlessOfSum_15 6 rfl ?_
  refine xj_ldc2 hC xw_cst_X0_96 dX0_endlessOfSum_17 ?_
  refine xj_lcmp hC dX0_endlessOfSum_20 ?_
  refine xj_dia (cnd := (lg_cmp a5 (-1 : Int64)) = 0) (x := 1) (y := 0) (pc2 := 29) (st2 := []) (fun hc hk => ?_) (fun hc hk => ?_) ?_
  · exact xj_if_ne (tgt := 28) hC dX0_endlessOfSum_21 (by decide) (fun hn => absurd hc hn) (fun _ => xj_iconst (v := 1) hC dX0_endlessOfSum_24 (by decide) (xj_goto (tgt := 29) hC dX0_endlessOfSum_25 (by decide) hk))
  · exact xj_if_ne (tgt := 28) hC dX0_endlessOfSum_21 (by decide) (fun _ => xj_iconst (v := 0) hC dX0_endlessOfSum_28 (by decide) hk) (fun hn => absurd hn hc)
  refine xj_istore (lv' := [(9, xI (if (lg_cmp a5 (-1 : Int64)) = 0 then (1 : Int32) else (0 : Int32))), (8, xI (if (lg_cmp a3 (-1 : Int64)) = 0 then (1 : Int32) else (0 : Int32))), (0, xR th), (1, xR a1), (2, xI a2), (3, xL a3), (5, xI a4), (6, xL a5)]) hC dX0_endlessOfSum_29 (by decide) rfl ?_
  refine xj_iload hC dX0_endlessOfSum_31 1 rfl ?_
  refine xb_if_eq (tgt := 53) hC dX0_endlessOfSum_33 (by decide) hf (fun hf => ?_) (fun hf => ?_)
  · refine xj_lv [3, 4, 6, 1, 0] rfl ?_
    exact lX0_endlessOfSum_L53 hC hr  w (a1) (a2) (a4) ((if (lg_cmp a3 (-1 : Int64)) = 0 then (1 : Int32) else (0 : Int32))) ((if (lg_cmp a5 (-1 : Int64)) = 0 then (1 : Int32) else (0 : Int32)))  hf
  · refine xj_iload hC dX0_endlessOfSum_36 0 rfl ?_
    refine xb_if_eq (tgt := 53) hC dX0_endlessOfSum_38 (by decide) hf (fun hf => ?_) (fun hf => ?_)
    · refine xj_lv [3, 4, 6, 1, 0] rfl ?_
      exact lX0_endlessOfSum_L53 hC hr  w (a1) (a2) (a4) ((if (lg_cmp a3 (-1 : Int64)) = 0 then (1 : Int32) else (0 : Int32))) ((if (lg_cmp a5 (-1 : Int64)) = 0 then (1 : Int32) else (0 : Int32)))  hf
    · refine xj_iload_n hC dX0_endlessOfSum_41 rfl 4 rfl ?_
      refine xj_iload hC dX0_endlessOfSum_42 6 rfl ?_
      refine xb_ic_eq (tgt := 53) hC dX0_endlessOfSum_44 (by decide) hf (fun hf => ?_) (fun hf => ?_)
      · refine xj_lv [3, 4, 6, 1, 0] rfl ?_
        exact lX0_endlessOfSum_L53 hC hr  w (a1) (a2) (a4) ((if (lg_cmp a3 (-1 : Int64)) = 0 then (1 : Int32) else (0 : Int32))) ((if (lg_cmp a5 (-1 : Int64)) = 0 then (1 : Int32) else (0 : Int32)))  hf
      · refine xj_aload_n hC dX0_endlessOfSum_47 rfl 2 rfl ?_
        refine xj_aload_n hC dX0_endlessOfSum_48 rfl 3 rfl ?_
        obtain ⟨v2, w3, hc1, hf⟩ := xm_b2 hf
        obtain ⟨_, hob, _⟩ := xm_bind hc1
        refine xj_reti (xr_V hC (mX0_invalid l D ks b hc1) hob rfl xw_cod_X0_invalid xw_ini_X0 xw_ins_X0_invalid xw_sel_X0_invalid xw_ml_X0_93 xds_X0_invalid ⟨Nat.le_of_ble_eq_true rfl, Nat.le_of_ble_eq_true rfl⟩ rfl rfl (Nat.le_of_ble_eq_true rfl) ⟨Nat.le_of_ble_eq_true rfl, Nat.le_of_ble_eq_true rfl⟩ dX0_endlessOfSum_49) ?_
        obtain ⟨he, hw⟩ := Prod.mk.inj (Option.some.inj hf)
        exact xj_iret hC hr (by decide) (by decide) dX0_endlessOfSum_52 he hw
def fX0_signed (w : xmW) (a1 : Int32) (a2 : Int64) : Option Int64 := (if a1 = 0 then (some a2) else (some (-a2)))
set_option maxHeartbeats 4000000 in
set_option maxRecDepth 100000 in
theorem mX0_signed (l : Launch) (D : va_G) (ks : Nat → ClassId) (b : Nat) {w : xmW} {a1 : Int32} {a2 : Int64} {y : Int64} (hf : fX0_signed w a1 a2 = some y) : xmM l yX0_signed (Cond.code yX0_signed cX0_signed 3 (some (FieldType.long)) :: xmTs) 0 0 0 0 D ks b w [xI a1, xL a2] (some (xL y)) w := by
  unfold fX0_signed at hf
  refine xmM.of (own := RX0) (lv0 := [(0, xI a1), (1, xL a2)]) (by decide) rfl (Nat.le_of_ble_eq_true rfl) rfl ?_
  intro p e s m args below meth c hC hr hnm
  refine xj_iload_n hC dX0_signed_0 rfl 0 rfl ?_
  refine xb_if_eq (tgt := 9) hC dX0_signed_1 (by decide) hf (fun hf => ?_) (fun hf => ?_)
  · refine xj_lload_n hC dX0_signed_9 rfl 1 rfl ?_
    exact xj_lret hC hr (by decide) (by decide) dX0_signed_10 (Option.some.inj hf) rfl
  · refine xj_lload_n hC dX0_signed_4 rfl 1 rfl ?_
    refine xj_lneg hC dX0_signed_5 ?_
    refine xj_goto (tgt := 10) hC dX0_signed_6 (by decide) ?_
    exact xj_lret hC hr (by decide) (by decide) dX0_signed_10 (Option.some.inj hf) rfl
def fX0_added (w : xmW) (th : (Option Nat)) (a1 : (Option Nat)) (a2 : Int32) (a3 : Int32) (a4 : Int32) (a5 : Int32) : Option (Int32 × xmW) := ((xmob w th 0).bind fun _ => ((fX1_isMinus w (a1) (a2)).bind fun v2 => ((fX1_sizeOf w (a1) (a2)).bind fun v4 => ((fX1_sizeOf w (a1) (a3)).bind fun v6 => (xmb2 (fX0_endlessOfSum w (th) (a1) (v2) (v4) (a4) (v6)) fun v8 w9 => (if v8 = (-9 : Int32) then ((fX0_signed w9 (v2) (v4)).bind fun v11 => ((fX0_signed w9 (a4) (v6)).bind fun v13 => (if (lg_cmp (v11 + v13) (0 : Int64)) = 0 then (if (lg_cmp v4 (0 : Int64)) = 0 then (if v2 = a4 then ((fX1_withSign w9 (a1) (v2) ((0 : Int32))).bind fun v22 => (some (v22, w9))) else ((fX1_withSign w9 (a1) ((if a5 = (3 : Int32) then (1 : Int32) else (0 : Int32))) ((0 : Int32))).bind fun v20 => (some (v20, w9)))) else ((fX1_withSign w9 (a1) ((if a5 = (3 : Int32) then (1 : Int32) else (0 : Int32))) ((0 : Int32))).bind fun v18 => (some (v18, w9)))) else (xmb2 (fX0_rounded w9 (th) (a1) ((if 0 ≤ (lg_cmp (v11 + v13) (0 : Int64)) then (0 : Int32) else (1 : Int32))) ((if 0 < (v11 + v13) then (v11 + v13) else -(v11 + v13))) ((1 : Int64)) (a5)) fun v15 w16 => (some (v15, w16)))))) else (some (v8, w9))))))))
set_option maxHeartbeats 4000000 in
set_option maxRecDepth 100000 in
theorem mX0_added (l : Launch) (D : va_G) (ks : Nat → ClassId) (b : Nat) {w : xmW} {th : (Option Nat)} {a1 : (Option Nat)} {a2 : Int32} {a3 : Int32} {a4 : Int32} {a5 : Int32} {y : Int32} {wz : xmW} (hf : fX0_added w th a1 a2 a3 a4 a5 = some (y, wz)) : xmM l yX0_added (Cond.code yX0_added cX0_added 14 (some (FieldType.int)) :: xmTs) 3 81 0 0 D ks b w [xR th, xR a1, xI a2, xI a3, xI a4, xI a5] (some (xI y)) wz := by
  unfold fX0_added at hf
  obtain ⟨_, _, hf⟩ := xm_bind hf
  refine xmM.of (own := RX0) (lv0 := [(0, xR th), (1, xR a1), (2, xI a2), (3, xI a3), (4, xI a4), (5, xI a5)]) (by decide) rfl (Nat.le_of_ble_eq_true rfl) rfl ?_
  intro p e s m args below meth c hC hr hnm
  refine xj_aload_n hC dX0_added_0 rfl 1 rfl ?_
  refine xj_iload_n hC dX0_added_1 rfl 2 rfl ?_
  obtain ⟨v2, hc1, hf⟩ := xm_bind hf
  obtain ⟨_, hob, _⟩ := xm_bind hc1
  refine xj_reti (xr_V hC (mX1_isMinus l D ks b hc1) hob rfl xw_cod_X1_isMinus xw_ini_X1 xw_ins_X1_isMinus xw_sel_X1_isMinus xw_ml_X0_87 xds_X1_isMinus ⟨Nat.le_of_ble_eq_true rfl, Nat.le_of_ble_eq_true rfl⟩ rfl rfl (Nat.le_of_ble_eq_true rfl) ⟨Nat.le_of_ble_eq_true rfl, Nat.le_of_ble_eq_true rfl⟩ dX0_added_2) ?_
  refine xj_istore (lv' := [(6, xI v2), (0, xR th), (1, xR a1), (2, xI a2), (3, xI a3), (4, xI a4), (5, xI a5)]) hC dX0_added_5 (by decide) rfl ?_
  refine xj_aload_n hC dX0_added_7 rfl 2 rfl ?_
  refine xj_iload_n hC dX0_added_8 rfl 3 rfl ?_
  obtain ⟨v4, hc3, hf⟩ := xm_bind hf
  obtain ⟨_, hob, _⟩ := xm_bind hc3
  refine xj_retl (xr_V hC (mX1_sizeOf l D ks b hc3) hob rfl xw_cod_X1_sizeOf xw_ini_X1 xw_ins_X1_sizeOf xw_sel_X1_sizeOf xw_ml_X0_84 xds_X1_sizeOf ⟨Nat.le_of_ble_eq_true rfl, Nat.le_of_ble_eq_true rfl⟩ rfl rfl (Nat.le_of_ble_eq_true rfl) ⟨Nat.le_of_ble_eq_true rfl, Nat.le_of_ble_eq_true rfl⟩ dX0_added_9) ?_
  refine xj_lstore (lv' := [(7, xL v4), (6, xI v2), (0, xR th), (1, xR a1), (2, xI a2), (3, xI a3), (4, xI a4), (5, xI a5)]) hC dX0_added_12 (by decide) rfl ?_
  refine xj_aload_n hC dX0_added_14 rfl 3 rfl ?_
  refine xj_iload_n hC dX0_added_15 rfl 5 rfl ?_
  obtain ⟨v6, hc5, hf⟩ := xm_bind hf
  obtain ⟨_, hob, _⟩ := xm_bind hc5
  refine xj_retl (xr_V hC (mX1_sizeOf l D ks b hc5) hob rfl xw_cod_X1_sizeOf xw_ini_X1 xw_ins_X1_sizeOf xw_sel_X1_sizeOf xw_ml_X0_84 xds_X1_sizeOf ⟨Nat.le_of_ble_eq_true rfl, Nat.le_of_ble_eq_true rfl⟩ rfl rfl (Nat.le_of_ble_eq_true rfl) ⟨Nat.le_of_ble_eq_true rfl, Nat.le_of_ble_eq_true rfl⟩ dX0_added_16) ?_
  refine xj_lstore (lv' := [(9, xL v6), (7, xL v4), (6, xI v2), (0, xR th), (1, xR a1), (2, xI a2), (3, xI a3), (4, xI a4), (5, xI a5)]) hC dX0_added_19 (by decide) rfl ?_
  refine xj_aload_n hC dX0_added_21 rfl 3 rfl ?_
  refine xj_aload_n hC dX0_added_22 rfl 4 rfl ?_
  refine xj_iload hC dX0_added_23 2 rfl ?_
  refine xj_lload hC dX0_added_25 1 rfl ?_
  refine xj_iload hC dX0_added_27 7 rfl ?_
  refine xj_lload hC dX0_added_29 0 rfl ?_
  obtain ⟨v8, w9, hc7, hf⟩ := xm_b2 hf
  obtain ⟨_, hob, _⟩ := xm_bind hc7
  refine xj_reti (xr_V hC (mX0_endlessOfSum l D ks b hc7) hob rfl xw_cod_X0_endlessOfSum xw_ini_X0 xw_ins_X0_endlessOfSum xw_sel_X0_endlessOfSum xw_ml_X0_126 xds_X0_endlessOfSum ⟨Nat.le_of_ble_eq_true rfl, Nat.le_of_ble_eq_true rfl⟩ rfl rfl (Nat.le_of_ble_eq_true rfl) ⟨Nat.le_of_ble_eq_true rfl, Nat.le_of_ble_eq_true rfl⟩ dX0_added_31) ?_
  refine xj_istore (lv' := [(11, xI v8), (9, xL v6), (7, xL v4), (6, xI v2), (0, xR th), (1, xR a1), (2, xI a2), (3, xI a3), (4, xI a4), (5, xI a5)]) hC dX0_added_34 (by decide) rfl ?_
  refine xj_iload hC dX0_added_36 0 rfl ?_
  refine xj_bipush (v := -9) hC dX0_added_38 (by decide) ?_
  refine xb_ic_eq (tgt := 46) hC dX0_added_40 (by decide) hf (fun hf => ?_) (fun hf => ?_)
  · refine xj_iload hC dX0_added_46 3 rfl ?_
    refine xj_lload hC dX0_added_48 2 rfl ?_
    obtain ⟨v11, hc10, hf⟩ := xm_bind hf
    refine xj_retl (xr_S hC (mX0_signed l D ks b hc10) xw_cod_X0_signed xw_ini_X0 xw_sta_X0_signed xw_ml_X0_130 xds_X0_signed ⟨Nat.le_of_ble_eq_true rfl, Nat.le_of_ble_eq_true rfl⟩ rfl rfl (Nat.le_of_ble_eq_true rfl) ⟨Nat.le_of_ble_eq_true rfl, Nat.le_of_ble_eq_true rfl⟩ dX0_added_50) ?_
    refine xj_iload hC dX0_added_53 8 rfl ?_
    refine xj_lload hC dX0_added_55 1 rfl ?_
    obtain ⟨v13, hc12, hf⟩ := xm_bind hf
    refine xj_retl (xr_S hC (mX0_signed l D ks b hc12) xw_cod_X0_signed xw_ini_X0 xw_sta_X0_signed xw_ml_X0_130 xds_X0_signed ⟨Nat.le_of_ble_eq_true rfl, Nat.le_of_ble_eq_true rfl⟩ rfl rfl (Nat.le_of_ble_eq_true rfl) ⟨Nat.le_of_ble_eq_true rfl, Nat.le_of_ble_eq_true rfl⟩ dX0_added_57) ?_
    refine xj_ladd hC dX0_added_60 ?_
    refine xj_lstore (lv' := [(12, xL (v11 + v13)), (11, xI v8), (9, xL v6), (7, xL v4), (6, xI v2), (0, xR th), (1, xR a1), (2, xI a2), (3, xI a3), (4, xI a4), (5, xI a5)]) hC dX0_added_61 (by decide) rfl ?_
    refine xj_lload hC dX0_added_63 0 rfl ?_
    refine xj_lconst (v := 0) hC dX0_added_65 (by decide) ?_
    refine xj_lcmp hC dX0_added_66 ?_
    refine xb_if_ne (tgt := 106) hC dX0_added_67 (by decide) hf (fun hf => ?_) (fun hf => ?_)
    · refine xj_aload_n hC dX0_added_106 rfl 5 rfl ?_
      refine xj_aload_n hC dX0_added_107 rfl 6 rfl ?_
      refine xj_lload hC dX0_added_108 0 rfl ?_
      refine xj_lconst (v := 0) hC dX0_added_110 (by decide) ?_
      refine xj_lcmp hC dX0_added_111 ?_
      refine xj_dia (cnd := 0 ≤ (lg_cmp (v11 + v13) (0 : Int64))) (x := 0) (y := 1) (pc2 := 120) (st2 := [xR a1, xR th]) (fun hc hk => ?_) (fun hc hk => ?_) ?_
      · exact xj_if_ge (tgt := 119) hC dX0_added_112 (by decide) (fun _ => xj_iconst (v := 0) hC dX0_added_119 (by decide) hk) (fun hn => absurd hc hn)
      · exact xj_if_ge (tgt := 119) hC dX0_added_112 (by decide) (fun hn => absurd hn hc) (fun _ => xj_iconst (v := 1) hC dX0_added_115 (by decide) (xj_goto (tgt := 120) hC dX0_added_116 (by decide) hk))
      refine xj_lload hC dX0_added_120 0 rfl ?_
      refine xj_mabs_long hC xw_ml_X0_71 xw_sta_J9_abs_l xw_ini_J9 xw_cod_J9_abs_l ⟨Nat.le_of_ble_eq_true rfl, Nat.le_of_ble_eq_true rfl⟩ (Nat.le_of_ble_eq_true rfl) (Nat.le_of_ble_eq_true rfl) dX0_added_122 ?_
      refine xj_lconst (v := 1) hC dX0_added_125 (by decide) ?_
      refine xj_iload hC dX0_added_126 10 rfl ?_
      obtain ⟨v15, w16, hc14, hf⟩ := xm_b2 hf
      obtain ⟨_, hob, _⟩ := xm_bind hc14
      refine xj_reti (xr_V hC (mX0_rounded l D ks b hc14) hob rfl xw_cod_X0_rounded xw_ini_X0 xw_ins_X0_rounded xw_sel_X0_rounded xw_ml_X0_80 xds_X0_rounded ⟨Nat.le_of_ble_eq_true rfl, Nat.le_of_ble_eq_true rfl⟩ rfl rfl (Nat.le_of_ble_eq_true rfl) ⟨Nat.le_of_ble_eq_true rfl, Nat.le_of_ble_eq_true rfl⟩ dX0_added_128) ?_
      obtain ⟨he, hw⟩ := Prod.mk.inj (Option.some.inj hf)
      exact xj_iret hC hr (by decide) (by decide) dX0_added_131 he hw
    · refine xj_aload_n hC dX0_added_70 rfl 6 rfl ?_
      refine xj_lload hC dX0_added_71 3 rfl ?_
      refine xj_lconst (v := 0) hC dX0_added_73 (by decide) ?_
      refine xj_lcmp hC dX0_added_74 ?_
      refine xb_if_ne (tgt := 90) hC dX0_added_75 (by decide) hf (fun hf => ?_) (fun hf => ?_)
      · refine xj_iload hC dX0_added_90 10 rfl ?_
        refine xj_iconst (v := 3) hC dX0_added_92 (by decide) ?_
        refine xj_dia (cnd := a5 = (3 : Int32)) (x := 1) (y := 0) (pc2 := 101) (st2 := [xR a1]) (fun hc hk => ?_) (fun hc hk => ?_) ?_
        · exact xj_ic_ne (tgt := 100) hC dX0_added_93 (by decide) (fun hn => absurd hc hn) (fun _ => xj_iconst (v := 1) hC dX0_added_96 (by decide) (xj_goto (tgt := 101) hC dX0_added_97 (by decide) hk))
        · exact xj_ic_ne (tgt := 100) hC dX0_added_93 (by decide) (fun _ => xj_iconst (v := 0) hC dX0_added_100 (by decide) hk) (fun hn => absurd hn hc)
        refine xj_iconst (v := 0) hC dX0_added_101 (by decide) ?_
        obtain ⟨v18, hc17, hf⟩ := xm_bind hf
        obtain ⟨_, hob, _⟩ := xm_bind hc17
        refine xj_reti (xr_V hC (mX1_withSign l D ks b hc17) hob rfl xw_cod_X1_withSign xw_ini_X1 xw_ins_X1_withSign xw_sel_X1_withSign xw_ml_X0_42 xds_X1_withSign ⟨Nat.le_of_ble_eq_true rfl, Nat.le_of_ble_eq_true rfl⟩ rfl rfl (Nat.le_of_ble_eq_true rfl) ⟨Nat.le_of_ble_eq_true rfl, Nat.le_of_ble_eq_true rfl⟩ dX0_added_102) ?_
        obtain ⟨he, hw⟩ := Prod.mk.inj (Option.some.inj hf)
        exact xj_iret hC hr (by decide) (by decide) dX0_added_105 he hw
      · refine xj_iload hC dX0_added_78 4 rfl ?_
        refine xj_iload hC dX0_added_80 9 rfl ?_
        refine xb_ic_ne (tgt := 90) hC dX0_added_82 (by decide) hf (fun hf => ?_) (fun hf => ?_)
        · refine xj_iload hC dX0_added_90 10 rfl ?_
          refine xj_iconst (v := 3) hC dX0_added_92 (by decide) ?_
          refine xj_dia (cnd := a5 = (3 : Int32)) (x := 1) (y := 0) (pc2 := 101) (st2 := [xR a1]) (fun hc hk => ?_) (fun hc hk => ?_) ?_
          · exact xj_ic_ne (tgt := 100) hC dX0_added_93 (by decide) (fun hn => absurd hc hn) (fun _ => xj_iconst (v := 1) hC dX0_added_96 (by decide) (xj_goto (tgt := 101) hC dX0_added_97 (by decide) hk))
          · exact xj_ic_ne (tgt := 100) hC dX0_added_93 (by decide) (fun _ => xj_iconst (v := 0) hC dX0_added_100 (by decide) hk) (fun hn => absurd hn hc)
          refine xj_iconst (v := 0) hC dX0_added_101 (by decide) ?_
          obtain ⟨v20, hc19, hf⟩ := xm_bind hf
          obtain ⟨_, hob, _⟩ := xm_bind hc19
          refine xj_reti (xr_V hC (mX1_withSign l D ks b hc19) hob rfl xw_cod_X1_withSign xw_ini_X1 xw_ins_X1_withSign xw_sel_X1_withSign xw_ml_X0_42 xds_X1_withSign ⟨Nat.le_of_ble_eq_true rfl, Nat.le_of_ble_eq_true rfl⟩ rfl rfl (Nat.le_of_ble_eq_true rfl) ⟨Nat.le_of_ble_eq_true rfl, Nat.le_of_ble_eq_true rfl⟩ dX0_added_102) ?_
          obtain ⟨he, hw⟩ := Prod.mk.inj (Option.some.inj hf)
          exact xj_iret hC hr (by decide) (by decide) dX0_added_105 he hw
        · refine xj_iload hC dX0_added_85 4 rfl ?_
          refine xj_goto (tgt := 101) hC dX0_added_87 (by decide) ?_
          refine xj_iconst (v := 0) hC dX0_added_101 (by decide) ?_
          obtain ⟨v22, hc21, hf⟩ := xm_bind hf
          obtain ⟨_, hob, _⟩ := xm_bind hc21
          refine xj_reti (xr_V hC (mX1_withSign l D ks b hc21) hob rfl xw_cod_X1_withSign xw_ini_X1 xw_ins_X1_withSign xw_sel_X1_withSign xw_ml_X0_42 xds_X1_withSign ⟨Nat.le_of_ble_eq_true rfl, Nat.le_of_ble_eq_true rfl⟩ rfl rfl (Nat.le_of_ble_eq_true rfl) ⟨Nat.le_of_ble_eq_true rfl, Nat.le_of_ble_eq_true rfl⟩ dX0_added_102) ?_
          obtain ⟨he, hw⟩ := Prod.mk.inj (Option.some.inj hf)
          exact xj_iret hC hr (by decide) (by decide) dX0_added_105 he hw
  · refine xj_iload hC dX0_added_43 0 rfl ?_
    obtain ⟨he, hw⟩ := Prod.mk.inj (Option.some.inj hf)
    exact xj_iret hC hr (by decide) (by decide) dX0_added_45 he hw
def fX0_divided_L64 (w : xmW) (p0 : (Option Nat)) (p1 : (Option Nat)) (p4 : Int32) (p5 : Int32) (p6 : Int64) (p8 : Int64) : Option (Int32 × xmW) := (if (lg_cmp p6 (-1 : Int64)) = 0 then ((fX1_beyond w (p1) (p5)).bind fun v16 => (some (v16, w))) else (if (lg_cmp p8 (0 : Int64)) = 0 then ((fX1_beyond w (p1) (p5)).bind fun v27 => (some (v27, w))) else (if (lg_cmp p6 (0 : Int64)) = 0 then ((fX1_withSign w (p1) (p5) ((0 : Int32))).bind fun v18 => (some (v18, w))) else (if (lg_cmp p8 (-1 : Int64)) = 0 then ((fX1_withSign w (p1) (p5) ((0 : Int32))).bind fun v25 => (some (v25, w))) else ((fX1_scale w (p1) ).bind fun v20 => (xmb2 (fX0_rounded w (p0) (p1) (p5) ((p6 <<< ((v20).toInt64 &&& 63))) (p8) (p4)) fun v22 w23 => (some (v22, w23))))))))
set_option maxHeartbeats 4000000 in
set_option maxRecDepth 100000 in
theorem lX0_divided_L64 {p : Program} {l : Launch} {e : Env} {s : State} {m : MethodId} {args : Array Value} {below : List Frame} {meth : Method} {c : Code} {D : va_G} {ks : Nat → ClassId} {b : Nat} (hC : xmC p s m args meth c D ks b 10 cX0_divided RX0) (hr : meth.sig.returnType = (some (FieldType.int))) {y : Int32} {wz : xmW} (w : xmW) (p0 : (Option Nat)) (p1 : (Option Nat)) (p4 : Int32) (p5 : Int32) (p6 : Int64) (p8 : Int64) (hf : fX0_divided_L64 w p0 p1 p4 p5 p6 p8 = some (y, wz)) : xmJ p l e ({ frames := 3, cells := 0, slots := 0, locals := 81 } : Room) s m args below meth c D ks b 10 (MQ below (xmQ D ks b (some (xI y)) wz) args s 0 0 (xmA b)) w 0 0 64 [(0, xR p0), (1, xR p1), (4, xI p4), (5, xI p5), (6, xL p6), (8, xL p8)] [] := by
  unfold fX0_divided_L64 at hf
  refine xj_lload hC dX0_divided_64 4 rfl ?_
  refine xj_ldc2 hC xw_cst_X0_96 dX0_divided_66 ?_
  refine xj_lcmp hC dX0_divided_69 ?_
  refine xb_if_eq (tgt := 80) hC dX0_divided_70 (by decide) hf (fun hf => ?_) (fun hf => ?_)
  · refine xj_aload_n hC dX0_divided_80 rfl 1 rfl ?_
    refine xj_iload hC dX0_divided_81 3 rfl ?_
    obtain ⟨v16, hc15, hf⟩ := xm_bind hf
    obtain ⟨_, hob, _⟩ := xm_bind hc15
    refine xj_reti (xr_V hC (mX1_beyond l D ks b hc15) hob rfl xw_cod_X1_beyond xw_ini_X1 xw_ins_X1_beyond xw_sel_X1_beyond xw_ml_X0_67 xds_X1_beyond ⟨Nat.le_of_ble_eq_true rfl, Nat.le_of_ble_eq_true rfl⟩ rfl rfl (Nat.le_of_ble_eq_true rfl) ⟨Nat.le_of_ble_eq_true rfl, Nat.le_of_ble_eq_true rfl⟩ dX0_divided_83) ?_
    obtain ⟨he, hw⟩ := Prod.mk.inj (Option.some.inj hf)
    exact xj_iret hC hr (by decide) (by decide) dX0_divided_86 he hw
  · refine xj_lload hC dX0_divided_73 5 rfl ?_
    refine xj_lconst (v := 0) hC dX0_divided_75 (by decide) ?_
    refine xj_lcmp hC dX0_divided_76 ?_
    refine xb_if_ne (tgt := 87) hC dX0_divided_77 (by decide) hf (fun hf => ?_) (fun hf => ?_)
    · refine xj_lload hC dX0_divided_87 4 rfl ?_
      refine xj_lconst (v := 0) hC dX0_divided_89 (by decide) ?_
      refine xj_lcmp hC dX0_divided_90 ?_
      refine xb_if_eq (tgt := 103) hC dX0_divided_91 (by decide) hf (fun hf => ?_) (fun hf => ?_)
      · refine xj_aload_n hC dX0_divided_103 rfl 1 rfl ?_
        refine xj_iload hC dX0_divided_104 3 rfl ?_
        refine xj_iconst (v := 0) hC dX0_divided_106 (by decide) ?_
        obtain ⟨v18, hc17, hf⟩ := xm_bind hf
        obtain ⟨_, hob, _⟩ := xm_bind hc17
        refine xj_reti (xr_V hC (mX1_withSign l D ks b hc17) hob rfl xw_cod_X1_withSign xw_ini_X1 xw_ins_X1_withSign xw_sel_X1_withSign xw_ml_X0_42 xds_X1_withSign ⟨Nat.le_of_ble_eq_true rfl, Nat.le_of_ble_eq_true rfl⟩ rfl rfl (Nat.le_of_ble_eq_true rfl) ⟨Nat.le_of_ble_eq_true rfl, Nat.le_of_ble_eq_true rfl⟩ dX0_divided_107) ?_
        obtain ⟨he, hw⟩ := Prod.mk.inj (Option.some.inj hf)
        exact xj_iret hC hr (by decide) (by decide) dX0_divided_110 he hw
      · refine xj_lload hC dX0_divided_94 5 rfl ?_
        refine xj_ldc2 hC xw_cst_X0_96 dX0_divided_96 ?_
        refine xj_lcmp hC dX0_divided_99 ?_
        refine xb_if_ne (tgt := 111) hC dX0_divided_100 (by decide) hf (fun hf => ?_) (fun hf => ?_)
        · refine xj_aload_n hC dX0_divided_111 rfl 0 rfl ?_
          refine xj_aload_n hC dX0_divided_112 rfl 1 rfl ?_
          refine xj_iload hC dX0_divided_113 3 rfl ?_
          refine xj_lload hC dX0_divided_115 4 rfl ?_
          refine xj_aload_n hC dX0_divided_117 rfl 1 rfl ?_
          obtain ⟨v20, hc19, hf⟩ := xm_bind hf
          obtain ⟨_, hob, _⟩ := xm_bind hc19
          refine xj_reti (xr_V hC (mX1_scale l D ks b hc19) hob rfl xw_cod_X1_scale xw_ini_X1 xw_ins_X1_scale xw_sel_X1_scale xw_ml_X0_77 xds_X1_scale ⟨Nat.le_of_ble_eq_true rfl, Nat.le_of_ble_eq_true rfl⟩ rfl rfl (Nat.le_of_ble_eq_true rfl) ⟨Nat.le_of_ble_eq_true rfl, Nat.le_of_ble_eq_true rfl⟩ dX0_divided_118) ?_
          refine xj_lshl hC dX0_divided_121 ?_
          refine xj_lload hC dX0_divided_122 5 rfl ?_
          refine xj_iload hC dX0_divided_124 2 rfl ?_
          obtain ⟨v22, w23, hc21, hf⟩ := xm_b2 hf
          obtain ⟨_, hob, _⟩ := xm_bind hc21
          refine xj_reti (xr_V hC (mX0_rounded l D ks b hc21) hob rfl xw_cod_X0_rounded xw_ini_X0 xw_ins_X0_rounded xw_sel_X0_rounded xw_ml_X0_80 xds_X0_rounded ⟨Nat.le_of_ble_eq_true rfl, Nat.le_of_ble_eq_true rfl⟩ rfl rfl (Nat.le_of_ble_eq_true rfl) ⟨Nat.le_of_ble_eq_true rfl, Nat.le_of_ble_eq_true rfl⟩ dX0_divided_126) ?_
          obtain ⟨he, hw⟩ := Prod.mk.inj (Option.some.inj hf)
          exact xj_iret hC hr (by decide) (by decide) dX0_divided_129 he hw
        · refine xj_aload_n hC dX0_divided_103 rfl 1 rfl ?_
          refine xj_iload hC dX0_divided_104 3 rfl ?_
          refine xj_iconst (v := 0) hC dX0_divided_106 (by decide) ?_
          obtain ⟨v25, hc24, hf⟩ := xm_bind hf
          obtain ⟨_, hob, _⟩ := xm_bind hc24
          refine xj_reti (xr_V hC (mX1_withSign l D ks b hc24) hob rfl xw_cod_X1_withSign xw_ini_X1 xw_ins_X1_withSign xw_sel_X1_withSign xw_ml_X0_42 xds_X1_withSign ⟨Nat.le_of_ble_eq_true rfl, Nat.le_of_ble_eq_true rfl⟩ rfl rfl (Nat.le_of_ble_eq_true rfl) ⟨Nat.le_of_ble_eq_true rfl, Nat.le_of_ble_eq_true rfl⟩ dX0_divided_107) ?_
          obtain ⟨he, hw⟩ := Prod.mk.inj (Option.some.inj hf)
          exact xj_iret hC hr (by decide) (by decide) dX0_divided_110 he hw
    · refine xj_aload_n hC dX0_divided_80 rfl 1 rfl ?_
      refine xj_iload hC dX0_divided_81 3 rfl ?_
      obtain ⟨v27, hc26, hf⟩ := xm_bind hf
      obtain ⟨_, hob, _⟩ := xm_bind hc26
      refine xj_reti (xr_V hC (mX1_beyond l D ks b hc26) hob rfl xw_cod_X1_beyond xw_ini_X1 xw_ins_X1_beyond xw_sel_X1_beyond xw_ml_X0_67 xds_X1_beyond ⟨Nat.le_of_ble_eq_true rfl, Nat.le_of_ble_eq_true rfl⟩ rfl rfl (Nat.le_of_ble_eq_true rfl) ⟨Nat.le_of_ble_eq_true rfl, Nat.le_of_ble_eq_true rfl⟩ dX0_divided_83) ?_
      obtain ⟨he, hw⟩ := Prod.mk.inj (Option.some.inj hf)
      exact xj_iret hC hr (by decide) (by decide) dX0_divided_86 he hw
def fX0_divided (w : xmW) (th : (Option Nat)) (a1 : (Option Nat)) (a2 : Int32) (a3 : Int32) (a4 : Int32) : Option (Int32 × xmW) := ((xmob w th 0).bind fun _ => ((fX1_isMinus w (a1) (a2)).bind fun v2 => ((fX1_isMinus w (a1) (a3)).bind fun v4 => ((fX1_sizeOf w (a1) (a2)).bind fun v6 => ((fX1_sizeOf w (a1) (a3)).bind fun v8 => (if (lg_cmp v6 v8) = 0 then (if (lg_cmp v6 (0 : Int64)) = 0 then (xmb2 (fX0_invalid w (th) (a1)) fun v10 w11 => (some (v10, w11))) else (if (lg_cmp v6 (-1 : Int64)) = 0 then (xmb2 (fX0_invalid w (th) (a1)) fun v13 w14 => (some (v13, w14))) else (fX0_divided_L64 w (th) (a1) (a4) ((if v2 = v4 then (0 : Int32) else (1 : Int32))) (v6) (v8) ))) else (fX0_divided_L64 w (th) (a1) (a4) ((if v2 = v4 then (0 : Int32) else (1 : Int32))) (v6) (v8) )))))))
set_option maxHeartbeats 4000000 in
set_option maxRecDepth 100000 in
theorem mX0_divided (l : Launch) (D : va_G) (ks : Nat → ClassId) (b : Nat) {w : xmW} {th : (Option Nat)} {a1 : (Option Nat)} {a2 : Int32} {a3 : Int32} {a4 : Int32} {y : Int32} {wz : xmW} (hf : fX0_divided w th a1 a2 a3 a4 = some (y, wz)) : xmM l yX0_divided (Cond.code yX0_divided cX0_divided 10 (some (FieldType.int)) :: xmTs) 3 81 0 0 D ks b w [xR th, xR a1, xI a2, xI a3, xI a4] (some (xI y)) wz := by
  unfold fX0_divided at hf
  obtain ⟨_, _, hf⟩ := xm_bind hf
  refine xmM.of (own := RX0) (lv0 := [(0, xR th), (1, xR a1), (2, xI a2), (3, xI a3), (4, xI a4)]) (by decide) rfl (Nat.le_of_ble_eq_true rfl) rfl ?_
  intro p e s m args below meth c hC hr hnm
  refine xj_aload_n hC dX0_divided_0 rfl 1 rfl ?_
  refine xj_iload_n hC dX0_divided_1 rfl 2 rfl ?_
  obtain ⟨v2, hc1, hf⟩ := xm_bind hf
  obtain ⟨_, hob, _⟩ := xm_bind hc1
  refine xj_reti (xr_V hC (mX1_isMinus l D ks b hc1) hob rfl xw_cod_X1_isMinus xw_ini_X1 xw_ins_X1_isMinus xw_sel_X1_isMinus xw_ml_X0_87 xds_X1_isMinus ⟨Nat.le_of_ble_eq_true rfl, Nat.le_of_ble_eq_true rfl⟩ rfl rfl (Nat.le_of_ble_eq_true rfl) ⟨Nat.le_of_ble_eq_true rfl, Nat.le_of_ble_eq_true rfl⟩ dX0_divided_2) ?_
  refine xj_aload_n hC dX0_divided_5 rfl 1 rfl ?_
  refine xj_iload_n hC dX0_divided_6 rfl 3 rfl ?_
  obtain ⟨v4, hc3, hf⟩ := xm_bind hf
  obtain ⟨_, hob, _⟩ := xm_bind hc3
  refine xj_reti (xr_V hC (mX1_isMinus l D ks b hc3) hob rfl xw_cod_X1_isMinus xw_ini_X1 xw_ins_X1_isMinus xw_sel_X1_isMinus xw_ml_X0_87 xds_X1_isMinus ⟨Nat.le_of_ble_eq_true rfl, Nat.le_of_ble_eq_true rfl⟩ rfl rfl (Nat.le_of_ble_eq_true rfl) ⟨Nat.le_of_ble_eq_true rfl, Nat.le_of_ble_eq_true rfl⟩ dX0_divided_7) ?_
  refine xj_dia (cnd := v2 = v4) (x := 0) (y := 1) (pc2 := 18) (st2 := []) (fun hc hk => ?_) (fun hc hk => ?_) ?_
  · exact xj_ic_eq (tgt := 17) hC dX0_divided_10 (by decide) (fun _ => xj_iconst (v := 0) hC dX0_divided_17 (by decide) hk) (fun hn => absurd hc hn)
  · exact xj_ic_eq (tgt := 17) hC dX0_divided_10 (by decide) (fun hn => absurd hn hc) (fun _ => xj_iconst (v := 1) hC dX0_divided_13 (by decide) (xj_goto (tgt := 18) hC dX0_divided_14 (by decide) hk))
  refine xj_istore (lv' := [(5, xI (if v2 = v4 then (0 : Int32) else (1 : Int32))), (0, xR th), (1, xR a1), (2, xI a2), (3, xI a3), (4, xI a4)]) hC dX0_divided_18 (by decide) rfl ?_
  refine xj_aload_n hC dX0_divided_20 rfl 2 rfl ?_
  refine xj_iload_n hC dX0_divided_21 rfl 3 rfl ?_
  obtain ⟨v6, hc5, hf⟩ := xm_bind hf
  obtain ⟨_, hob, _⟩ := xm_bind hc5
  refine xj_retl (xr_V hC (mX1_sizeOf l D ks b hc5) hob rfl xw_cod_X1_sizeOf xw_ini_X1 xw_ins_X1_sizeOf xw_sel_X1_sizeOf xw_ml_X0_84 xds_X1_sizeOf ⟨Nat.le_of_ble_eq_true rfl, Nat.le_of_ble_eq_true rfl⟩ rfl rfl (Nat.le_of_ble_eq_true rfl) ⟨Nat.le_of_ble_eq_true rfl, Nat.le_of_ble_eq_true rfl⟩ dX0_divided_22) ?_
  refine xj_lstore (lv' := [(6, xL v6), (5, xI (if v2 = v4 then (0 : Int32) else (1 : Int32))), (0, xR th), (1, xR a1), (2, xI a2), (3, xI a3), (4, xI a4)]) hC dX0_divided_25 (by decide) rfl ?_
  refine xj_aload_n hC dX0_divided_27 rfl 3 rfl ?_
  refine xj_iload_n hC dX0_divided_28 rfl 5 rfl ?_
  obtain ⟨v8, hc7, hf⟩ := xm_bind hf
  obtain ⟨_, hob, _⟩ := xm_bind hc7
  refine xj_retl (xr_V hC (mX1_sizeOf l D ks b hc7) hob rfl xw_cod_X1_sizeOf xw_ini_X1 xw_ins_X1_sizeOf xw_sel_X1_sizeOf xw_ml_X0_84 xds_X1_sizeOf ⟨Nat.le_of_ble_eq_true rfl, Nat.le_of_ble_eq_true rfl⟩ rfl rfl (Nat.le_of_ble_eq_true rfl) ⟨Nat.le_of_ble_eq_true rfl, Nat.le_of_ble_eq_true rfl⟩ dX0_divided_29) ?_
  refine xj_lstore (lv' := [(8, xL v8), (6, xL v6), (5, xI (if v2 = v4 then (0 : Int32) else (1 : Int32))), (0, xR th), (1, xR a1), (2, xI a2), (3, xI a3), (4, xI a4)]) hC dX0_divided_32 (by decide) rfl ?_
  refine xj_lload hC dX0_divided_34 1 rfl ?_
  refine xj_lload hC dX0_divided_36 0 rfl ?_
  refine xj_lcmp hC dX0_divided_38 ?_
  refine xb_if_ne (tgt := 64) hC dX0_divided_39 (by decide) hf (fun hf => ?_) (fun hf => ?_)
  · refine xj_lv [3, 4, 7, 2, 1, 0] rfl ?_
    exact lX0_divided_L64 hC hr  w (th) (a1) (a4) ((if v2 = v4 then (0 : Int32) else (1 : Int32))) (v6) (v8)  hf
  · refine xj_lload hC dX0_divided_42 1 rfl ?_
    refine xj_lconst (v := 0) hC dX0_divided_44 (by decide) ?_
    refine xj_lcmp hC dX0_divided_45 ?_
    refine xb_if_eq (tgt := 58) hC dX0_divided_46 (by decide) hf (fun hf => ?_) (fun hf => ?_)
    · refine xj_aload_n hC dX0_divided_58 rfl 3 rfl ?_
      refine xj_aload_n hC dX0_divided_59 rfl 4 rfl ?_
      obtain ⟨v10, w11, hc9, hf⟩ := xm_b2 hf
      obtain ⟨_, hob, _⟩ := xm_bind hc9
      refine xj_reti (xr_V hC (mX0_invalid l D ks b hc9) hob rfl xw_cod_X0_invalid xw_ini_X0 xw_ins_X0_invalid xw_sel_X0_invalid xw_ml_X0_93 xds_X0_invalid ⟨Nat.le_of_ble_eq_true rfl, Nat.le_of_ble_eq_true rfl⟩ rfl rfl (Nat.le_of_ble_eq_true rfl) ⟨Nat.le_of_ble_eq_true rfl, Nat.le_of_ble_eq_true rfl⟩ dX0_divided_60) ?_
      obtain ⟨he, hw⟩ := Prod.mk.inj (Option.some.inj hf)
      exact xj_iret hC hr (by decide) (by decide) dX0_divided_63 he hw
    · refine xj_lload hC dX0_divided_49 1 rfl ?_
      refine xj_ldc2 hC xw_cst_X0_96 dX0_divided_51 ?_
      refine xj_lcmp hC dX0_divided_54 ?_
      refine xb_if_ne (tgt := 64) hC dX0_divided_55 (by decide) hf (fun hf => ?_) (fun hf => ?_)
      · refine xj_lv [3, 4, 7, 2, 1, 0] rfl ?_
        exact lX0_divided_L64 hC hr  w (th) (a1) (a4) ((if v2 = v4 then (0 : Int32) else (1 : Int32))) (v6) (v8)  hf
      · refine xj_aload_n hC dX0_divided_58 rfl 3 rfl ?_
        refine xj_aload_n hC dX0_divided_59 rfl 4 rfl ?_
        obtain ⟨v13, w14, hc12, hf⟩ := xm_b2 hf
        obtain ⟨_, hob, _⟩ := xm_bind hc12
        refine xj_reti (xr_V hC (mX0_invalid l D ks b hc12) hob rfl xw_cod_X0_invalid xw_ini_X0 xw_ins_X0_invalid xw_sel_X0_invalid xw_ml_X0_93 xds_X0_invalid ⟨Nat.le_of_ble_eq_true rfl, Nat.le_of_ble_eq_true rfl⟩ rfl rfl (Nat.le_of_ble_eq_true rfl) ⟨Nat.le_of_ble_eq_true rfl, Nat.le_of_ble_eq_true rfl⟩ dX0_divided_60) ?_
        obtain ⟨he, hw⟩ := Prod.mk.inj (Option.some.inj hf)
        exact xj_iret hC hr (by decide) (by decide) dX0_divided_63 he hw
def fX0_multiplied (w : xmW) (th : (Option Nat)) (a1 : (Option Nat)) (a2 : Int32) (a3 : Int32) (a4 : Int32) : Option (Int32 × xmW) := ((xmob w th 0).bind fun _ => ((fX1_isMinus w (a1) (a2)).bind fun v2 => ((fX1_isMinus w (a1) (a3)).bind fun v4 => ((fX1_sizeOfProduct w (a1) (a2) (a3)).bind fun v6 => (if (lg_cmp v6 (-3 : Int64)) = 0 then (xmb2 (fX0_invalid w (th) (a1)) fun v17 w18 => (some (v17, w18))) else (if (lg_cmp v6 (-1 : Int64)) = 0 then ((fX1_beyond w (a1) ((if v2 = v4 then (0 : Int32) else (1 : Int32)))).bind fun v15 => (some (v15, w))) else (if (lg_cmp v6 (0 : Int64)) = 0 then ((fX1_withSign w (a1) ((if v2 = v4 then (0 : Int32) else (1 : Int32))) ((0 : Int32))).bind fun v13 => (some (v13, w))) else ((fX1_scale w (a1) ).bind fun v8 => (xmb2 (fX0_rounded w (th) (a1) ((if v2 = v4 then (0 : Int32) else (1 : Int32))) (v6) (((1 : Int64) <<< ((v8).toInt64 &&& 63))) (a4)) fun v10 w11 => (some (v10, w11)))))))))))
set_option maxHeartbeats 4000000 in
set_option maxRecDepth 100000 in
theorem mX0_multiplied (l : Launch) (D : va_G) (ks : Nat → ClassId) (b : Nat) {w : xmW} {th : (Option Nat)} {a1 : (Option Nat)} {a2 : Int32} {a3 : Int32} {a4 : Int32} {y : Int32} {wz : xmW} (hf : fX0_multiplied w th a1 a2 a3 a4 = some (y, wz)) : xmM l yX0_multiplied (Cond.code yX0_multiplied cX0_multiplied 8 (some (FieldType.int)) :: xmTs) 3 81 0 0 D ks b w [xR th, xR a1, xI a2, xI a3, xI a4] (some (xI y)) wz := by
  unfold fX0_multiplied at hf
  obtain ⟨_, _, hf⟩ := xm_bind hf
  refine xmM.of (own := RX0) (lv0 := [(0, xR th), (1, xR a1), (2, xI a2), (3, xI a3), (4, xI a4)]) (by decide) rfl (Nat.le_of_ble_eq_true rfl) rfl ?_
  intro p e s m args below meth c hC hr hnm
  refine xj_aload_n hC dX0_multiplied_0 rfl 1 rfl ?_
  refine xj_iload_n hC dX0_multiplied_1 rfl 2 rfl ?_
  obtain ⟨v2, hc1, hf⟩ := xm_bind hf
  obtain ⟨_, hob, _⟩ := xm_bind hc1
  refine xj_reti (xr_V hC (mX1_isMinus l D ks b hc1) hob rfl xw_cod_X1_isMinus xw_ini_X1 xw_ins_X1_isMinus xw_sel_X1_isMinus xw_ml_X0_87 xds_X1_isMinus ⟨Nat.le_of_ble_eq_true rfl, Nat.le_of_ble_eq_true rfl⟩ rfl rfl (Nat.le_of_ble_eq_true rfl) ⟨Nat.le_of_ble_eq_true rfl, Nat.le_of_ble_eq_true rfl⟩ dX0_multiplied_2) ?_
  refine xj_aload_n hC dX0_multiplied_5 rfl 1 rfl ?_
  refine xj_iload_n hC dX0_multiplied_6 rfl 3 rfl ?_
  obtain ⟨v4, hc3, hf⟩ := xm_bind hf
  obtain ⟨_, hob, _⟩ := xm_bind hc3
  refine xj_reti (xr_V hC (mX1_isMinus l D ks b hc3) hob rfl xw_cod_X1_isMinus xw_ini_X1 xw_ins_X1_isMinus xw_sel_X1_isMinus xw_ml_X0_87 xds_X1_isMinus ⟨Nat.le_of_ble_eq_true rfl, Nat.le_of_ble_eq_true rfl⟩ rfl rfl (Nat.le_of_ble_eq_true rfl) ⟨Nat.le_of_ble_eq_true rfl, Nat.le_of_ble_eq_true rfl⟩ dX0_multiplied_7) ?_
  refine xj_dia (cnd := v2 = v4) (x := 0) (y := 1) (pc2 := 18) (st2 := []) (fun hc hk => ?_) (fun hc hk => ?_) ?_
  · exact xj_ic_eq (tgt := 17) hC dX0_multiplied_10 (by decide) (fun _ => xj_iconst (v := 0) hC dX0_multiplied_17 (by decide) hk) (fun hn => absurd hc hn)
  · exact xj_ic_eq (tgt := 17) hC dX0_multiplied_10 (by decide) (fun hn => absurd hn hc) (fun _ => xj_iconst (v := 1) hC dX0_multiplied_13 (by decide) (xj_goto (tgt := 18) hC dX0_multiplied_14 (by decide) hk))
  refine xj_istore (lv' := [(5, xI (if v2 = v4 then (0 : Int32) else (1 : Int32))), (0, xR th), (1, xR a1), (2, xI a2), (3, xI a3), (4, xI a4)]) hC dX0_multiplied_18 (by decide) rfl ?_
  refine xj_aload_n hC dX0_multiplied_20 rfl 2 rfl ?_
  refine xj_iload_n hC dX0_multiplied_21 rfl 3 rfl ?_
  refine xj_iload_n hC dX0_multiplied_22 rfl 4 rfl ?_
  obtain ⟨v6, hc5, hf⟩ := xm_bind hf
  obtain ⟨_, hob, _⟩ := xm_bind hc5
  refine xj_retl (xr_V hC (mX1_sizeOfProduct l D ks b hc5) hob rfl xw_cod_X1_sizeOfProduct xw_ini_X1 xw_ins_X1_sizeOfProduct xw_sel_X1_sizeOfProduct xw_ml_X0_134 xds_X1_sizeOfProduct ⟨Nat.le_of_ble_eq_true rfl, Nat.le_of_ble_eq_true rfl⟩ rfl rfl (Nat.le_of_ble_eq_true rfl) ⟨Nat.le_of_ble_eq_true rfl, Nat.le_of_ble_eq_true rfl⟩ dX0_multiplied_23) ?_
  refine xj_lstore (lv' := [(6, xL v6), (5, xI (if v2 = v4 then (0 : Int32) else (1 : Int32))), (0, xR th), (1, xR a1), (2, xI a2), (3, xI a3), (4, xI a4)]) hC dX0_multiplied_26 (by decide) rfl ?_
  refine xj_lload hC dX0_multiplied_28 0 rfl ?_
  refine xj_ldc2 hC xw_cst_X0_138 dX0_multiplied_30 ?_
  refine xj_lcmp hC dX0_multiplied_33 ?_
  refine xb_if_ne (tgt := 43) hC dX0_multiplied_34 (by decide) hf (fun hf => ?_) (fun hf => ?_)
  · refine xj_lload hC dX0_multiplied_43 0 rfl ?_
    refine xj_ldc2 hC xw_cst_X0_96 dX0_multiplied_45 ?_
    refine xj_lcmp hC dX0_multiplied_48 ?_
    refine xb_if_ne (tgt := 59) hC dX0_multiplied_49 (by decide) hf (fun hf => ?_) (fun hf => ?_)
    · refine xj_lload hC dX0_multiplied_59 0 rfl ?_
      refine xj_lconst (v := 0) hC dX0_multiplied_61 (by decide) ?_
      refine xj_lcmp hC dX0_multiplied_62 ?_
      refine xb_if_ne (tgt := 76) hC dX0_multiplied_63 (by decide) hf (fun hf => ?_) (fun hf => ?_)
      · refine xj_aload_n hC dX0_multiplied_76 rfl 2 rfl ?_
        refine xj_aload_n hC dX0_multiplied_77 rfl 3 rfl ?_
        refine xj_iload hC dX0_multiplied_78 1 rfl ?_
        refine xj_lload hC dX0_multiplied_80 0 rfl ?_
        refine xj_lconst (v := 1) hC dX0_multiplied_82 (by decide) ?_
        refine xj_aload_n hC dX0_multiplied_83 rfl 3 rfl ?_
        obtain ⟨v8, hc7, hf⟩ := xm_bind hf
        obtain ⟨_, hob, _⟩ := xm_bind hc7
        refine xj_reti (xr_V hC (mX1_scale l D ks b hc7) hob rfl xw_cod_X1_scale xw_ini_X1 xw_ins_X1_scale xw_sel_X1_scale xw_ml_X0_77 xds_X1_scale ⟨Nat.le_of_ble_eq_true rfl, Nat.le_of_ble_eq_true rfl⟩ rfl rfl (Nat.le_of_ble_eq_true rfl) ⟨Nat.le_of_ble_eq_true rfl, Nat.le_of_ble_eq_true rfl⟩ dX0_multiplied_84) ?_
        refine xj_lshl hC dX0_multiplied_87 ?_
        refine xj_iload hC dX0_multiplied_88 6 rfl ?_
        obtain ⟨v10, w11, hc9, hf⟩ := xm_b2 hf
        obtain ⟨_, hob, _⟩ := xm_bind hc9
        refine xj_reti (xr_V hC (mX0_rounded l D ks b hc9) hob rfl xw_cod_X0_rounded xw_ini_X0 xw_ins_X0_rounded xw_sel_X0_rounded xw_ml_X0_80 xds_X0_rounded ⟨Nat.le_of_ble_eq_true rfl, Nat.le_of_ble_eq_true rfl⟩ rfl rfl (Nat.le_of_ble_eq_true rfl) ⟨Nat.le_of_ble_eq_true rfl, Nat.le_of_ble_eq_true rfl⟩ dX0_multiplied_90) ?_
        obtain ⟨he, hw⟩ := Prod.mk.inj (Option.some.inj hf)
        exact xj_iret hC hr (by decide) (by decide) dX0_multiplied_93 he hw
      · refine xj_aload_n hC dX0_multiplied_66 rfl 3 rfl ?_
        refine xj_iload hC dX0_multiplied_67 1 rfl ?_
        refine xj_iconst (v := 0) hC dX0_multiplied_69 (by decide) ?_
        obtain ⟨v13, hc12, hf⟩ := xm_bind hf
        obtain ⟨_, hob, _⟩ := xm_bind hc12
        refine xj_reti (xr_V hC (mX1_withSign l D ks b hc12) hob rfl xw_cod_X1_withSign xw_ini_X1 xw_ins_X1_withSign xw_sel_X1_withSign xw_ml_X0_42 xds_X1_withSign ⟨Nat.le_of_ble_eq_true rfl, Nat.le_of_ble_eq_true rfl⟩ rfl rfl (Nat.le_of_ble_eq_true rfl) ⟨Nat.le_of_ble_eq_true rfl, Nat.le_of_ble_eq_true rfl⟩ dX0_multiplied_70) ?_
        refine xj_goto (tgt := 93) hC dX0_multiplied_73 (by decide) ?_
        obtain ⟨he, hw⟩ := Prod.mk.inj (Option.some.inj hf)
        exact xj_iret hC hr (by decide) (by decide) dX0_multiplied_93 he hw
    · refine xj_aload_n hC dX0_multiplied_52 rfl 3 rfl ?_
      refine xj_iload hC dX0_multiplied_53 1 rfl ?_
      obtain ⟨v15, hc14, hf⟩ := xm_bind hf
      obtain ⟨_, hob, _⟩ := xm_bind hc14
      refine xj_reti (xr_V hC (mX1_beyond l D ks b hc14) hob rfl xw_cod_X1_beyond xw_ini_X1 xw_ins_X1_beyond xw_sel_X1_beyond xw_ml_X0_67 xds_X1_beyond ⟨Nat.le_of_ble_eq_true rfl, Nat.le_of_ble_eq_true rfl⟩ rfl rfl (Nat.le_of_ble_eq_true rfl) ⟨Nat.le_of_ble_eq_true rfl, Nat.le_of_ble_eq_true rfl⟩ dX0_multiplied_55) ?_
      obtain ⟨he, hw⟩ := Prod.mk.inj (Option.some.inj hf)
      exact xj_iret hC hr (by decide) (by decide) dX0_multiplied_58 he hw
  · refine xj_aload_n hC dX0_multiplied_37 rfl 2 rfl ?_
    refine xj_aload_n hC dX0_multiplied_38 rfl 3 rfl ?_
    obtain ⟨v17, w18, hc16, hf⟩ := xm_b2 hf
    obtain ⟨_, hob, _⟩ := xm_bind hc16
    refine xj_reti (xr_V hC (mX0_invalid l D ks b hc16) hob rfl xw_cod_X0_invalid xw_ini_X0 xw_ins_X0_invalid xw_sel_X0_invalid xw_ml_X0_93 xds_X0_invalid ⟨Nat.le_of_ble_eq_true rfl, Nat.le_of_ble_eq_true rfl⟩ rfl rfl (Nat.le_of_ble_eq_true rfl) ⟨Nat.le_of_ble_eq_true rfl, Nat.le_of_ble_eq_true rfl⟩ dX0_multiplied_39) ?_
    obtain ⟨he, hw⟩ := Prod.mk.inj (Option.some.inj hf)
    exact xj_iret hC hr (by decide) (by decide) dX0_multiplied_42 he hw
def fX0_wholeRoot_L7 : Nat → xmW → Int64 → Int64 → Int64 → Option Int64
  | 0, _, _, _, _ => none
  | n + 1, w, p0, p2, p4 => (if (lg_cmp p4 (0 : Int64)) ≤ 0 then (some p2) else (if 0 < (lg_cmp ((p2 + p4) * (p2 + p4)) p0) then (fX0_wholeRoot_L7 n w (p0) (p2) ((p4 >>> (((1 : Int32)).toInt64 &&& 63))) ) else (fX0_wholeRoot_L7 n w (p0) ((p2 + p4)) ((p4 >>> (((1 : Int32)).toInt64 &&& 63))) )))
set_option maxHeartbeats 4000000 in
set_option maxRecDepth 100000 in
theorem lX0_wholeRoot_L7 {p : Program} {l : Launch} {e : Env} {s : State} {m : MethodId} {args : Array Value} {below : List Frame} {meth : Method} {c : Code} {D : va_G} {ks : Nat → ClassId} {b : Nat} (hC : xmC p s m args meth c D ks b 6 cX0_wholeRoot RX0) (hr : meth.sig.returnType = (some (FieldType.long))) {y : Int64} : ∀ (n : Nat) (w : xmW) (p0 : Int64) (p2 : Int64) (p4 : Int64), fX0_wholeRoot_L7 n w p0 p2 p4 = some y → xmJ p l e ({ frames := 0, cells := 0, slots := 0, locals := 0 } : Room) s m args below meth c D ks b 6 (MQ below (xmQ D ks b (some (xL y)) w) args s 0 0 (xmA b)) w 0 0 7 [(0, xL p0), (2, xL p2), (4, xL p4)] [] := by
  intro n
  induction n with
  | zero => intro w p0 p2 p4 hf; simp [fX0_wholeRoot_L7] at hf
  | succ n ih =>
    intro w p0 p2 p4 hf
    rw [fX0_wholeRoot_L7] at hf
    refine xj_lload hC dX0_wholeRoot_7 2 rfl ?_
    refine xj_lconst (v := 0) hC dX0_wholeRoot_9 (by decide) ?_
    refine xj_lcmp hC dX0_wholeRoot_10 ?_
    refine xb_if_le (tgt := 42) hC dX0_wholeRoot_11 (by decide) hf (fun hf => ?_) (fun hf => ?_)
    · refine xj_lload_n hC dX0_wholeRoot_42 rfl 1 rfl ?_
      exact xj_lret hC hr (by decide) (by decide) dX0_wholeRoot_43 (Option.some.inj hf) rfl
    · refine xj_lload_n hC dX0_wholeRoot_14 rfl 1 rfl ?_
      refine xj_lload hC dX0_wholeRoot_15 2 rfl ?_
      refine xj_ladd hC dX0_wholeRoot_17 ?_
      refine xj_lload_n hC dX0_wholeRoot_18 rfl 1 rfl ?_
      refine xj_lload hC dX0_wholeRoot_19 2 rfl ?_
      refine xj_ladd hC dX0_wholeRoot_21 ?_
      refine xj_lmul hC dX0_wholeRoot_22 ?_
      refine xj_lload_n hC dX0_wholeRoot_23 rfl 0 rfl ?_
      refine xj_lcmp hC dX0_wholeRoot_24 ?_
      refine xb_if_gt (tgt := 33) hC dX0_wholeRoot_25 (by decide) hf (fun hf => ?_) (fun hf => ?_)
      · refine xj_lload hC dX0_wholeRoot_33 2 rfl ?_
        refine xj_iconst (v := 1) hC dX0_wholeRoot_35 (by decide) ?_
        refine xj_lshr hC dX0_wholeRoot_36 ?_
        refine xj_lstore (lv' := [(4, xL (p4 >>> (((1 : Int32)).toInt64 &&& 63))), (0, xL p0), (2, xL p2)]) hC dX0_wholeRoot_37 (by decide) rfl ?_
        refine xj_goto (tgt := 7) hC dX0_wholeRoot_39 (by decide) ?_
        refine xj_lv [1, 2, 0] rfl ?_
        exact ih w (p0) (p2) ((p4 >>> (((1 : Int32)).toInt64 &&& 63)))  hf
      · refine xj_lload_n hC dX0_wholeRoot_28 rfl 1 rfl ?_
        refine xj_lload hC dX0_wholeRoot_29 2 rfl ?_
        refine xj_ladd hC dX0_wholeRoot_31 ?_
        refine xj_lstore_n (lv' := [(2, xL (p2 + p4)), (0, xL p0), (4, xL p4)]) hC dX0_wholeRoot_32 rfl (by decide) rfl ?_
        refine xj_lload hC dX0_wholeRoot_33 2 rfl ?_
        refine xj_iconst (v := 1) hC dX0_wholeRoot_35 (by decide) ?_
        refine xj_lshr hC dX0_wholeRoot_36 ?_
        refine xj_lstore (lv' := [(4, xL (p4 >>> (((1 : Int32)).toInt64 &&& 63))), (2, xL (p2 + p4)), (0, xL p0)]) hC dX0_wholeRoot_37 (by decide) rfl ?_
        refine xj_goto (tgt := 7) hC dX0_wholeRoot_39 (by decide) ?_
        refine xj_lv [2, 1, 0] rfl ?_
        exact ih w (p0) ((p2 + p4)) ((p4 >>> (((1 : Int32)).toInt64 &&& 63)))  hf
def fX0_wholeRoot (w : xmW) (a1 : Int64) : Option Int64 := (fX0_wholeRoot_L7 xmN w (a1) ((0 : Int64)) ((2097152 : Int64)) )
set_option maxHeartbeats 4000000 in
set_option maxRecDepth 100000 in
theorem mX0_wholeRoot (l : Launch) (D : va_G) (ks : Nat → ClassId) (b : Nat) {w : xmW} {a1 : Int64} {y : Int64} (hf : fX0_wholeRoot w a1 = some y) : xmM l yX0_wholeRoot (Cond.code yX0_wholeRoot cX0_wholeRoot 6 (some (FieldType.long)) :: xmTs) 0 0 0 0 D ks b w [xL a1] (some (xL y)) w := by
  unfold fX0_wholeRoot at hf
  refine xmM.of (own := RX0) (lv0 := [(0, xL a1)]) (by decide) rfl (Nat.le_of_ble_eq_true rfl) rfl ?_
  intro p e s m args below meth c hC hr hnm
  refine xj_lconst (v := 0) hC dX0_wholeRoot_0 (by decide) ?_
  refine xj_lstore_n (lv' := [(2, xL (0 : Int64)), (0, xL a1)]) hC dX0_wholeRoot_1 rfl (by decide) rfl ?_
  refine xj_ldc2 hC xw_cst_X0_145 dX0_wholeRoot_2 ?_
  refine xj_lstore (lv' := [(4, xL (2097152 : Int64)), (2, xL (0 : Int64)), (0, xL a1)]) hC dX0_wholeRoot_5 (by decide) rfl ?_
  refine xj_lv [2, 1, 0] rfl ?_
  exact lX0_wholeRoot_L7 hC hr  xmN w (a1) ((0 : Int64)) ((2097152 : Int64))  hf
def fX0_rootOf_L77 (w : xmW) (p0 : (Option Nat)) (p1 : (Option Nat)) (p3 : Int32) (p8 : Int64) (s0 : Int64) : Option (Int32 × xmW) := (xmb2 (fX0_rounded w (p0) (p1) ((0 : Int32)) ((((2 : Int64) * p8) + s0)) ((4 : Int64)) (p3)) fun v13 w14 => (some (v13, w14)))
set_option maxHeartbeats 4000000 in
set_option maxRecDepth 100000 in
theorem lX0_rootOf_L77 {p : Program} {l : Launch} {e : Env} {s : State} {m : MethodId} {args : Array Value} {below : List Frame} {meth : Method} {c : Code} {D : va_G} {ks : Nat → ClassId} {b : Nat} (hC : xmC p s m args meth c D ks b 12 cX0_rootOf RX0) (hr : meth.sig.returnType = (some (FieldType.int))) {y : Int32} {wz : xmW} (w : xmW) (p0 : (Option Nat)) (p1 : (Option Nat)) (p3 : Int32) (p8 : Int64) (s0 : Int64) (hf : fX0_rootOf_L77 w p0 p1 p3 p8 s0 = some (y, wz)) : xmJ p l e ({ frames := 3, cells := 0, slots := 0, locals := 81 } : Room) s m args below meth c D ks b 12 (MQ below (xmQ D ks b (some (xI y)) wz) args s 0 0 (xmA b)) w 0 0 77 [(0, xR p0), (1, xR p1), (3, xI p3), (8, xL p8)] [xL s0] := by
  unfold fX0_rootOf_L77 at hf
  refine xj_lstore (lv' := [(10, xL s0), (0, xR p0), (1, xR p1), (3, xI p3), (8, xL p8)]) hC dX0_rootOf_77 (by decide) rfl ?_
  refine xj_aload_n hC dX0_rootOf_79 rfl 1 rfl ?_
  refine xj_aload_n hC dX0_rootOf_80 rfl 2 rfl ?_
  refine xj_iconst (v := 0) hC dX0_rootOf_81 (by decide) ?_
  refine xj_ldc2 hC xw_cst_X0_52 dX0_rootOf_82 ?_
  refine xj_lload hC dX0_rootOf_85 4 rfl ?_
  refine xj_lmul hC dX0_rootOf_87 ?_
  refine xj_lload hC dX0_rootOf_88 0 rfl ?_
  refine xj_ladd hC dX0_rootOf_90 ?_
  refine xj_ldc2 hC xw_cst_X0_140 dX0_rootOf_91 ?_
  refine xj_iload_n hC dX0_rootOf_94 rfl 3 rfl ?_
  obtain ⟨v13, w14, hc12, hf⟩ := xm_b2 hf
  obtain ⟨_, hob, _⟩ := xm_bind hc12
  refine xj_reti (xr_V hC (mX0_rounded l D ks b hc12) hob rfl xw_cod_X0_rounded xw_ini_X0 xw_ins_X0_rounded xw_sel_X0_rounded xw_ml_X0_80 xds_X0_rounded ⟨Nat.le_of_ble_eq_true rfl, Nat.le_of_ble_eq_true rfl⟩ rfl rfl (Nat.le_of_ble_eq_true rfl) ⟨Nat.le_of_ble_eq_true rfl, Nat.le_of_ble_eq_true rfl⟩ dX0_rootOf_95) ?_
  obtain ⟨he, hw⟩ := Prod.mk.inj (Option.some.inj hf)
  exact xj_iret hC hr (by decide) (by decide) dX0_rootOf_98 he hw
def fX0_rootOf (w : xmW) (th : (Option Nat)) (a1 : (Option Nat)) (a2 : Int32) (a3 : Int32) : Option (Int32 × xmW) := ((xmob w th 0).bind fun _ => ((fX1_sizeOf w (a1) (a2)).bind fun v2 => (if (lg_cmp v2 (0 : Int64)) = 0 then (some (a2, w)) else ((fX1_isMinus w (a1) (a2)).bind fun v4 => (if v4 = 0 then (if (lg_cmp v2 (-1 : Int64)) = 0 then (some (a2, w)) else ((fX1_scale w (a1) ).bind fun v6 => ((fX0_wholeRoot w (((4 : Int64) * (v2 <<< ((v6).toInt64 &&& 63))))).bind fun v8 => (if (lg_cmp (v8 * v8) ((4 : Int64) * (v2 <<< ((v6).toInt64 &&& 63)))) = 0 then (fX0_rootOf_L77 w (th) (a1) (a3) (v8) ((0 : Int64))) else (fX0_rootOf_L77 w (th) (a1) (a3) (v8) ((1 : Int64))))))) else (xmb2 (fX0_invalid w (th) (a1)) fun v10 w11 => (some (v10, w11))))))))
set_option maxHeartbeats 4000000 in
set_option maxRecDepth 100000 in
theorem mX0_rootOf (l : Launch) (D : va_G) (ks : Nat → ClassId) (b : Nat) {w : xmW} {th : (Option Nat)} {a1 : (Option Nat)} {a2 : Int32} {a3 : Int32} {y : Int32} {wz : xmW} (hf : fX0_rootOf w th a1 a2 a3 = some (y, wz)) : xmM l yX0_rootOf (Cond.code yX0_rootOf cX0_rootOf 12 (some (FieldType.int)) :: xmTs) 3 81 0 0 D ks b w [xR th, xR a1, xI a2, xI a3] (some (xI y)) wz := by
  unfold fX0_rootOf at hf
  obtain ⟨_, _, hf⟩ := xm_bind hf
  refine xmM.of (own := RX0) (lv0 := [(0, xR th), (1, xR a1), (2, xI a2), (3, xI a3)]) (by decide) rfl (Nat.le_of_ble_eq_true rfl) rfl ?_
  intro p e s m args below meth c hC hr hnm
  refine xj_aload_n hC dX0_rootOf_0 rfl 1 rfl ?_
  refine xj_iload_n hC dX0_rootOf_1 rfl 2 rfl ?_
  obtain ⟨v2, hc1, hf⟩ := xm_bind hf
  obtain ⟨_, hob, _⟩ := xm_bind hc1
  refine xj_retl (xr_V hC (mX1_sizeOf l D ks b hc1) hob rfl xw_cod_X1_sizeOf xw_ini_X1 xw_ins_X1_sizeOf xw_sel_X1_sizeOf xw_ml_X0_84 xds_X1_sizeOf ⟨Nat.le_of_ble_eq_true rfl, Nat.le_of_ble_eq_true rfl⟩ rfl rfl (Nat.le_of_ble_eq_true rfl) ⟨Nat.le_of_ble_eq_true rfl, Nat.le_of_ble_eq_true rfl⟩ dX0_rootOf_2) ?_
  refine xj_lstore (lv' := [(4, xL v2), (0, xR th), (1, xR a1), (2, xI a2), (3, xI a3)]) hC dX0_rootOf_5 (by decide) rfl ?_
  refine xj_lload hC dX0_rootOf_7 0 rfl ?_
  refine xj_lconst (v := 0) hC dX0_rootOf_9 (by decide) ?_
  refine xj_lcmp hC dX0_rootOf_10 ?_
  refine xb_if_ne (tgt := 16) hC dX0_rootOf_11 (by decide) hf (fun hf => ?_) (fun hf => ?_)
  · refine xj_aload_n hC dX0_rootOf_16 rfl 2 rfl ?_
    refine xj_iload_n hC dX0_rootOf_17 rfl 3 rfl ?_
    obtain ⟨v4, hc3, hf⟩ := xm_bind hf
    obtain ⟨_, hob, _⟩ := xm_bind hc3
    refine xj_reti (xr_V hC (mX1_isMinus l D ks b hc3) hob rfl xw_cod_X1_isMinus xw_ini_X1 xw_ins_X1_isMinus xw_sel_X1_isMinus xw_ml_X0_87 xds_X1_isMinus ⟨Nat.le_of_ble_eq_true rfl, Nat.le_of_ble_eq_true rfl⟩ rfl rfl (Nat.le_of_ble_eq_true rfl) ⟨Nat.le_of_ble_eq_true rfl, Nat.le_of_ble_eq_true rfl⟩ dX0_rootOf_18) ?_
    refine xb_if_eq (tgt := 30) hC dX0_rootOf_21 (by decide) hf (fun hf => ?_) (fun hf => ?_)
    · refine xj_lload hC dX0_rootOf_30 0 rfl ?_
      refine xj_ldc2 hC xw_cst_X0_96 dX0_rootOf_32 ?_
      refine xj_lcmp hC dX0_rootOf_35 ?_
      refine xb_if_ne (tgt := 41) hC dX0_rootOf_36 (by decide) hf (fun hf => ?_) (fun hf => ?_)
      · refine xj_ldc2 hC xw_cst_X0_140 dX0_rootOf_41 ?_
        refine xj_lload hC dX0_rootOf_44 0 rfl ?_
        refine xj_aload_n hC dX0_rootOf_46 rfl 2 rfl ?_
        obtain ⟨v6, hc5, hf⟩ := xm_bind hf
        obtain ⟨_, hob, _⟩ := xm_bind hc5
        refine xj_reti (xr_V hC (mX1_scale l D ks b hc5) hob rfl xw_cod_X1_scale xw_ini_X1 xw_ins_X1_scale xw_sel_X1_scale xw_ml_X0_77 xds_X1_scale ⟨Nat.le_of_ble_eq_true rfl, Nat.le_of_ble_eq_true rfl⟩ rfl rfl (Nat.le_of_ble_eq_true rfl) ⟨Nat.le_of_ble_eq_true rfl, Nat.le_of_ble_eq_true rfl⟩ dX0_rootOf_47) ?_
        refine xj_lshl hC dX0_rootOf_50 ?_
        refine xj_lmul hC dX0_rootOf_51 ?_
        refine xj_lstore (lv' := [(6, xL ((4 : Int64) * (v2 <<< ((v6).toInt64 &&& 63)))), (4, xL v2), (0, xR th), (1, xR a1), (2, xI a2), (3, xI a3)]) hC dX0_rootOf_52 (by decide) rfl ?_
        refine xj_lload hC dX0_rootOf_54 0 rfl ?_
        obtain ⟨v8, hc7, hf⟩ := xm_bind hf
        refine xj_retl (xr_S hC (mX0_wholeRoot l D ks b hc7) xw_cod_X0_wholeRoot xw_ini_X0 xw_sta_X0_wholeRoot xw_ml_X0_142 xds_X0_wholeRoot ⟨Nat.le_of_ble_eq_true rfl, Nat.le_of_ble_eq_true rfl⟩ rfl rfl (Nat.le_of_ble_eq_true rfl) ⟨Nat.le_of_ble_eq_true rfl, Nat.le_of_ble_eq_true rfl⟩ dX0_rootOf_56) ?_
        refine xj_lstore (lv' := [(8, xL v8), (6, xL ((4 : Int64) * (v2 <<< ((v6).toInt64 &&& 63)))), (4, xL v2), (0, xR th), (1, xR a1), (2, xI a2), (3, xI a3)]) hC dX0_rootOf_59 (by decide) rfl ?_
        refine xj_lload hC dX0_rootOf_61 0 rfl ?_
        refine xj_lload hC dX0_rootOf_63 0 rfl ?_
        refine xj_lmul hC dX0_rootOf_65 ?_
        refine xj_lload hC dX0_rootOf_66 1 rfl ?_
        refine xj_lcmp hC dX0_rootOf_68 ?_
        refine xb_if_ne (tgt := 76) hC dX0_rootOf_69 (by decide) hf (fun hf => ?_) (fun hf => ?_)
        · refine xj_lconst (v := 1) hC dX0_rootOf_76 (by decide) ?_
          refine xj_lv [3, 4, 6, 0] rfl ?_
          exact lX0_rootOf_L77 hC hr  w (th) (a1) (a3) (v8) ((1 : Int64)) hf
        · refine xj_lconst (v := 0) hC dX0_rootOf_72 (by decide) ?_
          refine xj_goto (tgt := 77) hC dX0_rootOf_73 (by decide) ?_
          refine xj_lv [3, 4, 6, 0] rfl ?_
          exact lX0_rootOf_L77 hC hr  w (th) (a1) (a3) (v8) ((0 : Int64)) hf
      · refine xj_iload_n hC dX0_rootOf_39 rfl 3 rfl ?_
        obtain ⟨he, hw⟩ := Prod.mk.inj (Option.some.inj hf)
        exact xj_iret hC hr (by decide) (by decide) dX0_rootOf_40 he hw
    · refine xj_aload_n hC dX0_rootOf_24 rfl 1 rfl ?_
      refine xj_aload_n hC dX0_rootOf_25 rfl 2 rfl ?_
      obtain ⟨v10, w11, hc9, hf⟩ := xm_b2 hf
      obtain ⟨_, hob, _⟩ := xm_bind hc9
      refine xj_reti (xr_V hC (mX0_invalid l D ks b hc9) hob rfl xw_cod_X0_invalid xw_ini_X0 xw_ins_X0_invalid xw_sel_X0_invalid xw_ml_X0_93 xds_X0_invalid ⟨Nat.le_of_ble_eq_true rfl, Nat.le_of_ble_eq_true rfl⟩ rfl rfl (Nat.le_of_ble_eq_true rfl) ⟨Nat.le_of_ble_eq_true rfl, Nat.le_of_ble_eq_true rfl⟩ dX0_rootOf_26) ?_
      obtain ⟨he, hw⟩ := Prod.mk.inj (Option.some.inj hf)
      exact xj_iret hC hr (by decide) (by decide) dX0_rootOf_29 he hw
  · refine xj_iload_n hC dX0_rootOf_14 rfl 3 rfl ?_
    obtain ⟨he, hw⟩ := Prod.mk.inj (Option.some.inj hf)
    exact xj_iret hC hr (by decide) (by decide) dX0_rootOf_15 he hw
def fX0_acted_L27 (w : xmW) (p0 : (Option Nat)) (p1 : (Option Nat)) (p2 : Int32) (p3 : Int32) (p4 : Int32) (p5 : Int32) : Option (Int32 × xmW) := (if p2 = (0 : Int32) then ((fX1_isMinus w (p1) (p4)).bind fun v11 => (xmb2 (fX0_added w (p0) (p1) (p3) (p4) (v11) (p5)) fun v13 w14 => (some (v13, w14)))) else (if p2 = (1 : Int32) then ((fX1_isMinus w (p1) (p4)).bind fun v17 => (xmb2 (fX0_added w (p0) (p1) (p3) (p4) ((if v17 = 0 then (1 : Int32) else (0 : Int32))) (p5)) fun v19 w20 => (some (v19, w20)))) else (if p2 = (2 : Int32) then (xmb2 (fX0_multiplied w (p0) (p1) (p3) (p4) (p5)) fun v23 w24 => (some (v23, w24))) else (if p2 = (3 : Int32) then (xmb2 (fX0_divided w (p0) (p1) (p3) (p4) (p5)) fun v27 w28 => (some (v27, w28))) else (if p2 = (4 : Int32) then (xmb2 (fX0_rootOf w (p0) (p1) (p3) (p5)) fun v31 w32 => (some (v31, w32))) else (if p2 = (5 : Int32) then ((fX1_lesser w (p1) (p3) (p4)).bind fun v35 => (some (v35, w))) else ((fX1_greater w (p1) (p3) (p4)).bind fun v37 => (some (v37, w)))))))))
set_option maxHeartbeats 4000000 in
set_option maxRecDepth 100000 in
theorem lX0_acted_L27 {p : Program} {l : Launch} {e : Env} {s : State} {m : MethodId} {args : Array Value} {below : List Frame} {meth : Method} {c : Code} {D : va_G} {ks : Nat → ClassId} {b : Nat} (hC : xmC p s m args meth c D ks b 6 cX0_acted RX0) (hr : meth.sig.returnType = (some (FieldType.int))) {y : Int32} {wz : xmW} (w : xmW) (p0 : (Option Nat)) (p1 : (Option Nat)) (p2 : Int32) (p3 : Int32) (p4 : Int32) (p5 : Int32) (hf : fX0_acted_L27 w p0 p1 p2 p3 p4 p5 = some (y, wz)) : xmJ p l e ({ frames := 4, cells := 0, slots := 0, locals := 114 } : Room) s m args below meth c D ks b 6 (MQ below (xmQ D ks b (some (xI y)) wz) args s 0 0 (xmA b)) w 0 0 27 [(0, xR p0), (1, xR p1), (2, xI p2), (3, xI p3), (4, xI p4), (5, xI p5)] [] := by
  unfold fX0_acted_L27 at hf
  refine xj_iload_n hC dX0_acted_27 rfl 2 rfl ?_
  refine xb_case hf (fun hx hf => ?_) (fun hn9 hf => ?_)
  · refine xj_tableIn (tgt := 68) hC (40) dX0_acted_28 hx (by decide) (by decide) (by decide) (by decide) ?_
    refine xj_aload_n hC dX0_acted_68 rfl 0 rfl ?_
    refine xj_aload_n hC dX0_acted_69 rfl 1 rfl ?_
    refine xj_iload_n hC dX0_acted_70 rfl 3 rfl ?_
    refine xj_iload hC dX0_acted_71 4 rfl ?_
    refine xj_aload_n hC dX0_acted_73 rfl 1 rfl ?_
    refine xj_iload hC dX0_acted_74 4 rfl ?_
    obtain ⟨v11, hc10, hf⟩ := xm_bind hf
    obtain ⟨_, hob, _⟩ := xm_bind hc10
    refine xj_reti (xr_V hC (mX1_isMinus l D ks b hc10) hob rfl xw_cod_X1_isMinus xw_ini_X1 xw_ins_X1_isMinus xw_sel_X1_isMinus xw_ml_X0_87 xds_X1_isMinus ⟨Nat.le_of_ble_eq_true rfl, Nat.le_of_ble_eq_true rfl⟩ rfl rfl (Nat.le_of_ble_eq_true rfl) ⟨Nat.le_of_ble_eq_true rfl, Nat.le_of_ble_eq_true rfl⟩ dX0_acted_76) ?_
    refine xj_iload hC dX0_acted_79 5 rfl ?_
    obtain ⟨v13, w14, hc12, hf⟩ := xm_b2 hf
    obtain ⟨_, hob, _⟩ := xm_bind hc12
    refine xj_reti (xr_V hC (mX0_added l D ks b hc12) hob rfl xw_cod_X0_added xw_ini_X0 xw_ins_X0_added xw_sel_X0_added xw_ml_X0_105 xds_X0_added ⟨Nat.le_of_ble_eq_true rfl, Nat.le_of_ble_eq_true rfl⟩ rfl rfl (Nat.le_of_ble_eq_true rfl) ⟨Nat.le_of_ble_eq_true rfl, Nat.le_of_ble_eq_true rfl⟩ dX0_acted_81) ?_
    obtain ⟨he, hw⟩ := Prod.mk.inj (Option.some.inj hf)
    exact xj_iret hC hr (by decide) (by decide) dX0_acted_84 he hw
  · refine xb_case hf (fun hx hf => ?_) (fun hn15 hf => ?_)
    · refine xj_tableIn (tgt := 85) hC (57) dX0_acted_28 hx (by decide) (by decide) (by decide) (by decide) ?_
      refine xj_aload_n hC dX0_acted_85 rfl 0 rfl ?_
      refine xj_aload_n hC dX0_acted_86 rfl 1 rfl ?_
      refine xj_iload_n hC dX0_acted_87 rfl 3 rfl ?_
      refine xj_iload hC dX0_acted_88 4 rfl ?_
      refine xj_aload_n hC dX0_acted_90 rfl 1 rfl ?_
      refine xj_iload hC dX0_acted_91 4 rfl ?_
      obtain ⟨v17, hc16, hf⟩ := xm_bind hf
      obtain ⟨_, hob, _⟩ := xm_bind hc16
      refine xj_reti (xr_V hC (mX1_isMinus l D ks b hc16) hob rfl xw_cod_X1_isMinus xw_ini_X1 xw_ins_X1_isMinus xw_sel_X1_isMinus xw_ml_X0_87 xds_X1_isMinus ⟨Nat.le_of_ble_eq_true rfl, Nat.le_of_ble_eq_true rfl⟩ rfl rfl (Nat.le_of_ble_eq_true rfl) ⟨Nat.le_of_ble_eq_true rfl, Nat.le_of_ble_eq_true rfl⟩ dX0_acted_93) ?_
      refine xj_dia (cnd := v17 = 0) (x := 1) (y := 0) (pc2 := 104) (st2 := [xI p4, xI p3, xR p1, xR p0]) (fun hc hk => ?_) (fun hc hk => ?_) ?_
      · exact xj_if_ne (tgt := 103) hC dX0_acted_96 (by decide) (fun hn => absurd hc hn) (fun _ => xj_iconst (v := 1) hC dX0_acted_99 (by decide) (xj_goto (tgt := 104) hC dX0_acted_100 (by decide) hk))
      · exact xj_if_ne (tgt := 103) hC dX0_acted_96 (by decide) (fun _ => xj_iconst (v := 0) hC dX0_acted_103 (by decide) hk) (fun hn => absurd hn hc)
      refine xj_iload hC dX0_acted_104 5 rfl ?_
      obtain ⟨v19, w20, hc18, hf⟩ := xm_b2 hf
      obtain ⟨_, hob, _⟩ := xm_bind hc18
      refine xj_reti (xr_V hC (mX0_added l D ks b hc18) hob rfl xw_cod_X0_added xw_ini_X0 xw_ins_X0_added xw_sel_X0_added xw_ml_X0_105 xds_X0_added ⟨Nat.le_of_ble_eq_true rfl, Nat.le_of_ble_eq_true rfl⟩ rfl rfl (Nat.le_of_ble_eq_true rfl) ⟨Nat.le_of_ble_eq_true rfl, Nat.le_of_ble_eq_true rfl⟩ dX0_acted_106) ?_
      obtain ⟨he, hw⟩ := Prod.mk.inj (Option.some.inj hf)
      exact xj_iret hC hr (by decide) (by decide) dX0_acted_109 he hw
    · refine xb_case hf (fun hx hf => ?_) (fun hn21 hf => ?_)
      · refine xj_tableIn (tgt := 110) hC (82) dX0_acted_28 hx (by decide) (by decide) (by decide) (by decide) ?_
        refine xj_aload_n hC dX0_acted_110 rfl 0 rfl ?_
        refine xj_aload_n hC dX0_acted_111 rfl 1 rfl ?_
        refine xj_iload_n hC dX0_acted_112 rfl 3 rfl ?_
        refine xj_iload hC dX0_acted_113 4 rfl ?_
        refine xj_iload hC dX0_acted_115 5 rfl ?_
        obtain ⟨v23, w24, hc22, hf⟩ := xm_b2 hf
        obtain ⟨_, hob, _⟩ := xm_bind hc22
        refine xj_reti (xr_V hC (mX0_multiplied l D ks b hc22) hob rfl xw_cod_X0_multiplied xw_ini_X0 xw_ins_X0_multiplied xw_sel_X0_multiplied xw_ml_X0_109 xds_X0_multiplied ⟨Nat.le_of_ble_eq_true rfl, Nat.le_of_ble_eq_true rfl⟩ rfl rfl (Nat.le_of_ble_eq_true rfl) ⟨Nat.le_of_ble_eq_true rfl, Nat.le_of_ble_eq_true rfl⟩ dX0_acted_117) ?_
        obtain ⟨he, hw⟩ := Prod.mk.inj (Option.some.inj hf)
        exact xj_iret hC hr (by decide) (by decide) dX0_acted_120 he hw
      · refine xb_case hf (fun hx hf => ?_) (fun hn25 hf => ?_)
        · refine xj_tableIn (tgt := 121) hC (93) dX0_acted_28 hx (by decide) (by decide) (by decide) (by decide) ?_
          refine xj_aload_n hC dX0_acted_121 rfl 0 rfl ?_
          refine xj_aload_n hC dX0_acted_122 rfl 1 rfl ?_
          refine xj_iload_n hC dX0_acted_123 rfl 3 rfl ?_
          refine xj_iload hC dX0_acted_124 4 rfl ?_
          refine xj_iload hC dX0_acted_126 5 rfl ?_
          obtain ⟨v27, w28, hc26, hf⟩ := xm_b2 hf
          obtain ⟨_, hob, _⟩ := xm_bind hc26
          refine xj_reti (xr_V hC (mX0_divided l D ks b hc26) hob rfl xw_cod_X0_divided xw_ini_X0 xw_ins_X0_divided xw_sel_X0_divided xw_ml_X0_113 xds_X0_divided ⟨Nat.le_of_ble_eq_true rfl, Nat.le_of_ble_eq_true rfl⟩ rfl rfl (Nat.le_of_ble_eq_true rfl) ⟨Nat.le_of_ble_eq_true rfl, Nat.le_of_ble_eq_true rfl⟩ dX0_acted_128) ?_
          obtain ⟨he, hw⟩ := Prod.mk.inj (Option.some.inj hf)
          exact xj_iret hC hr (by decide) (by decide) dX0_acted_131 he hw
        · refine xb_case hf (fun hx hf => ?_) (fun hn29 hf => ?_)
          · refine xj_tableIn (tgt := 132) hC (104) dX0_acted_28 hx (by decide) (by decide) (by decide) (by decide) ?_
            refine xj_aload_n hC dX0_acted_132 rfl 0 rfl ?_
            refine xj_aload_n hC dX0_acted_133 rfl 1 rfl ?_
            refine xj_iload_n hC dX0_acted_134 rfl 3 rfl ?_
            refine xj_iload hC dX0_acted_135 5 rfl ?_
            obtain ⟨v31, w32, hc30, hf⟩ := xm_b2 hf
            obtain ⟨_, hob, _⟩ := xm_bind hc30
            refine xj_reti (xr_V hC (mX0_rootOf l D ks b hc30) hob rfl xw_cod_X0_rootOf xw_ini_X0 xw_ins_X0_rootOf xw_sel_X0_rootOf xw_ml_X0_116 xds_X0_rootOf ⟨Nat.le_of_ble_eq_true rfl, Nat.le_of_ble_eq_true rfl⟩ rfl rfl (Nat.le_of_ble_eq_true rfl) ⟨Nat.le_of_ble_eq_true rfl, Nat.le_of_ble_eq_true rfl⟩ dX0_acted_137) ?_
            obtain ⟨he, hw⟩ := Prod.mk.inj (Option.some.inj hf)
            exact xj_iret hC hr (by decide) (by decide) dX0_acted_140 he hw
          · refine xb_case hf (fun hx hf => ?_) (fun hn33 hf => ?_)
            · refine xj_tableIn (tgt := 141) hC (113) dX0_acted_28 hx (by decide) (by decide) (by decide) (by decide) ?_
              refine xj_aload_n hC dX0_acted_141 rfl 1 rfl ?_
              refine xj_iload_n hC dX0_acted_142 rfl 3 rfl ?_
              refine xj_iload hC dX0_acted_143 4 rfl ?_
              obtain ⟨v35, hc34, hf⟩ := xm_bind hf
              obtain ⟨_, hob, _⟩ := xm_bind hc34
              refine xj_reti (xr_V hC (mX1_lesser l D ks b hc34) hob rfl xw_cod_X1_lesser xw_ini_X1 xw_ins_X1_lesser xw_sel_X1_lesser xw_ml_X0_120 xds_X1_lesser ⟨Nat.le_of_ble_eq_true rfl, Nat.le_of_ble_eq_true rfl⟩ rfl rfl (Nat.le_of_ble_eq_true rfl) ⟨Nat.le_of_ble_eq_true rfl, Nat.le_of_ble_eq_true rfl⟩ dX0_acted_145) ?_
              obtain ⟨he, hw⟩ := Prod.mk.inj (Option.some.inj hf)
              exact xj_iret hC hr (by decide) (by decide) dX0_acted_148 he hw
            · have hx0 := lv_neT hn9 (a := 0) (by decide)
              have hx1 := lv_neT hn15 (a := 1) (by decide)
              have hx2 := lv_neT hn21 (a := 2) (by decide)
              have hx3 := lv_neT hn25 (a := 3) (by decide)
              have hx4 := lv_neT hn29 (a := 4) (by decide)
              have hx5 := lv_neT hn33 (a := 5) (by decide)
              refine xj_tableOut (tgt := 149) hC dX0_acted_28 (by omega) (by decide) ?_
              refine xj_aload_n hC dX0_acted_149 rfl 1 rfl ?_
              refine xj_iload_n hC dX0_acted_150 rfl 3 rfl ?_
              refine xj_iload hC dX0_acted_151 4 rfl ?_
              obtain ⟨v37, hc36, hf⟩ := xm_bind hf
              obtain ⟨_, hob, _⟩ := xm_bind hc36
              refine xj_reti (xr_V hC (mX1_greater l D ks b hc36) hob rfl xw_cod_X1_greater xw_ini_X1 xw_ins_X1_greater xw_sel_X1_greater xw_ml_X0_123 xds_X1_greater ⟨Nat.le_of_ble_eq_true rfl, Nat.le_of_ble_eq_true rfl⟩ rfl rfl (Nat.le_of_ble_eq_true rfl) ⟨Nat.le_of_ble_eq_true rfl, Nat.le_of_ble_eq_true rfl⟩ dX0_acted_153) ?_
              obtain ⟨he, hw⟩ := Prod.mk.inj (Option.some.inj hf)
              exact xj_iret hC hr (by decide) (by decide) dX0_acted_156 he hw
def fX0_acted (w : xmW) (th : (Option Nat)) (a1 : (Option Nat)) (a2 : Int32) (a3 : Int32) (a4 : Int32) (a5 : Int32) : Option (Int32 × xmW) := ((xmob w th 0).bind fun _ => ((fX1_isNone w (a1) (a3)).bind fun v2 => (if v2 = 0 then (if a2 = (4 : Int32) then (fX0_acted_L27 w (th) (a1) (a2) (a3) (a4) (a5) ) else ((fX1_isNone w (a1) (a4)).bind fun v6 => (if v6 = 0 then (fX0_acted_L27 w (th) (a1) (a2) (a3) (a4) (a5) ) else ((fX1_noneCode w (a1) ).bind fun v8 => (some (v8, w)))))) else ((fX1_noneCode w (a1) ).bind fun v4 => (some (v4, w))))))
set_option maxHeartbeats 4000000 in
set_option maxRecDepth 100000 in
theorem mX0_acted (l : Launch) (D : va_G) (ks : Nat → ClassId) (b : Nat) {w : xmW} {th : (Option Nat)} {a1 : (Option Nat)} {a2 : Int32} {a3 : Int32} {a4 : Int32} {a5 : Int32} {y : Int32} {wz : xmW} (hf : fX0_acted w th a1 a2 a3 a4 a5 = some (y, wz)) : xmM l yX0_acted (Cond.code yX0_acted cX0_acted 6 (some (FieldType.int)) :: xmTs) 4 114 0 0 D ks b w [xR th, xR a1, xI a2, xI a3, xI a4, xI a5] (some (xI y)) wz := by
  unfold fX0_acted at hf
  obtain ⟨_, _, hf⟩ := xm_bind hf
  refine xmM.of (own := RX0) (lv0 := [(0, xR th), (1, xR a1), (2, xI a2), (3, xI a3), (4, xI a4), (5, xI a5)]) (by decide) rfl (Nat.le_of_ble_eq_true rfl) rfl ?_
  intro p e s m args below meth c hC hr hnm
  refine xj_aload_n hC dX0_acted_0 rfl 1 rfl ?_
  refine xj_iload_n hC dX0_acted_1 rfl 3 rfl ?_
  obtain ⟨v2, hc1, hf⟩ := xm_bind hf
  obtain ⟨_, hob, _⟩ := xm_bind hc1
  refine xj_reti (xr_V hC (mX1_isNone l D ks b hc1) hob rfl xw_cod_X1_isNone xw_ini_X1 xw_ins_X1_isNone xw_sel_X1_isNone xw_ml_X0_102 xds_X1_isNone ⟨Nat.le_of_ble_eq_true rfl, Nat.le_of_ble_eq_true rfl⟩ rfl rfl (Nat.le_of_ble_eq_true rfl) ⟨Nat.le_of_ble_eq_true rfl, Nat.le_of_ble_eq_true rfl⟩ dX0_acted_2) ?_
  refine xb_if_ne (tgt := 22) hC dX0_acted_5 (by decide) hf (fun hf => ?_) (fun hf => ?_)
  · refine xj_aload_n hC dX0_acted_22 rfl 1 rfl ?_
    obtain ⟨v4, hc3, hf⟩ := xm_bind hf
    obtain ⟨_, hob, _⟩ := xm_bind hc3
    refine xj_reti (xr_V hC (mX1_noneCode l D ks b hc3) hob rfl xw_cod_X1_noneCode xw_ini_X1 xw_ins_X1_noneCode xw_sel_X1_noneCode xw_ml_X0_22 xds_X1_noneCode ⟨Nat.le_of_ble_eq_true rfl, Nat.le_of_ble_eq_true rfl⟩ rfl rfl (Nat.le_of_ble_eq_true rfl) ⟨Nat.le_of_ble_eq_true rfl, Nat.le_of_ble_eq_true rfl⟩ dX0_acted_23) ?_
    obtain ⟨he, hw⟩ := Prod.mk.inj (Option.some.inj hf)
    exact xj_iret hC hr (by decide) (by decide) dX0_acted_26 he hw
  · refine xj_iload_n hC dX0_acted_8 rfl 2 rfl ?_
    refine xj_iconst (v := 4) hC dX0_acted_9 (by decide) ?_
    refine xb_ic_eq (tgt := 27) hC dX0_acted_10 (by decide) hf (fun hf => ?_) (fun hf => ?_)
    · exact lX0_acted_L27 hC hr  w (th) (a1) (a2) (a3) (a4) (a5)  hf
    · refine xj_aload_n hC dX0_acted_13 rfl 1 rfl ?_
      refine xj_iload hC dX0_acted_14 4 rfl ?_
      obtain ⟨v6, hc5, hf⟩ := xm_bind hf
      obtain ⟨_, hob, _⟩ := xm_bind hc5
      refine xj_reti (xr_V hC (mX1_isNone l D ks b hc5) hob rfl xw_cod_X1_isNone xw_ini_X1 xw_ins_X1_isNone xw_sel_X1_isNone xw_ml_X0_102 xds_X1_isNone ⟨Nat.le_of_ble_eq_true rfl, Nat.le_of_ble_eq_true rfl⟩ rfl rfl (Nat.le_of_ble_eq_true rfl) ⟨Nat.le_of_ble_eq_true rfl, Nat.le_of_ble_eq_true rfl⟩ dX0_acted_16) ?_
      refine xb_if_eq (tgt := 27) hC dX0_acted_19 (by decide) hf (fun hf => ?_) (fun hf => ?_)
      · exact lX0_acted_L27 hC hr  w (th) (a1) (a2) (a3) (a4) (a5)  hf
      · refine xj_aload_n hC dX0_acted_22 rfl 1 rfl ?_
        obtain ⟨v8, hc7, hf⟩ := xm_bind hf
        obtain ⟨_, hob, _⟩ := xm_bind hc7
        refine xj_reti (xr_V hC (mX1_noneCode l D ks b hc7) hob rfl xw_cod_X1_noneCode xw_ini_X1 xw_ins_X1_noneCode xw_sel_X1_noneCode xw_ml_X0_22 xds_X1_noneCode ⟨Nat.le_of_ble_eq_true rfl, Nat.le_of_ble_eq_true rfl⟩ rfl rfl (Nat.le_of_ble_eq_true rfl) ⟨Nat.le_of_ble_eq_true rfl, Nat.le_of_ble_eq_true rfl⟩ dX0_acted_23) ?_
        obtain ⟨he, hw⟩ := Prod.mk.inj (Option.some.inj hf)
        exact xj_iret hC hr (by decide) (by decide) dX0_acted_26 he hw
def fX0_fusedOf (w : xmW) (th : (Option Nat)) (a1 : (Option Nat)) (a2 : Int32) (a3 : Int32) (a4 : Int32) (a5 : Int32) : Option (Int32 × xmW) := ((xmob w th 0).bind fun _ => ((fX1_isMinus w (a1) (a2)).bind fun v2 => ((fX1_isMinus w (a1) (a3)).bind fun v4 => ((fX1_isMinus w (a1) (a4)).bind fun v6 => ((fX1_sizeOfProduct w (a1) (a2) (a3)).bind fun v8 => ((fX1_sizeOf w (a1) (a4)).bind fun v10 => (if (lg_cmp v8 (-3 : Int64)) = 0 then (xmb2 (fX0_invalid w (th) (a1)) fun v36 w37 => (some (v36, w37))) else (if (lg_cmp v8 (-2 : Int64)) = 0 then ((fX1_noneCode w (a1) ).bind fun v12 => (some (v12, w))) else (if (lg_cmp v10 (-2 : Int64)) = 0 then ((fX1_noneCode w (a1) ).bind fun v34 => (some (v34, w))) else (xmb2 (fX0_endlessOfSum w (th) (a1) ((if v2 = v4 then (0 : Int32) else (1 : Int32))) (v8) (v6) (v10)) fun v14 w15 => (if v14 = (-9 : Int32) then ((fX0_signed w15 ((if v2 = v4 then (0 : Int32) else (1 : Int32))) (v8)).bind fun v17 => ((fX0_signed w15 (v6) (v10)).bind fun v19 => ((fX1_scale w15 (a1) ).bind fun v21 => (if (lg_cmp (v17 + (v19 <<< ((v21).toInt64 &&& 63))) (0 : Int64)) = 0 then (if (lg_cmp v8 (0 : Int64)) = 0 then (if (if v2 = v4 then (0 : Int32) else (1 : Int32)) = v6 then ((fX1_withSign w15 (a1) (v6) ((0 : Int32))).bind fun v32 => (some (v32, w15))) else ((fX1_withSign w15 (a1) ((if a5 = (3 : Int32) then (1 : Int32) else (0 : Int32))) ((0 : Int32))).bind fun v30 => (some (v30, w15)))) else ((fX1_withSign w15 (a1) ((if a5 = (3 : Int32) then (1 : Int32) else (0 : Int32))) ((0 : Int32))).bind fun v28 => (some (v28, w15)))) else ((fX1_scale w15 (a1) ).bind fun v23 => (xmb2 (fX0_rounded w15 (th) (a1) ((if 0 ≤ (lg_cmp (v17 + (v19 <<< ((v21).toInt64 &&& 63))) (0 : Int64)) then (0 : Int32) else (1 : Int32))) ((if 0 < (v17 + (v19 <<< ((v21).toInt64 &&& 63))) then (v17 + (v19 <<< ((v21).toInt64 &&& 63))) else -(v17 + (v19 <<< ((v21).toInt64 &&& 63))))) (((1 : Int64) <<< ((v23).toInt64 &&& 63))) (a5)) fun v25 w26 => (some (v25, w26)))))))) else (some (v14, w15)))))))))))))
set_option maxHeartbeats 4000000 in
set_option maxRecDepth 100000 in
theorem mX0_fusedOf (l : Launch) (D : va_G) (ks : Nat → ClassId) (b : Nat) {w : xmW} {th : (Option Nat)} {a1 : (Option Nat)} {a2 : Int32} {a3 : Int32} {a4 : Int32} {a5 : Int32} {y : Int32} {wz : xmW} (hf : fX0_fusedOf w th a1 a2 a3 a4 a5 = some (y, wz)) : xmM l yX0_fusedOf (Cond.code yX0_fusedOf cX0_fusedOf 15 (some (FieldType.int)) :: xmTs) 3 81 0 0 D ks b w [xR th, xR a1, xI a2, xI a3, xI a4, xI a5] (some (xI y)) wz := by
  unfold fX0_fusedOf at hf
  obtain ⟨_, _, hf⟩ := xm_bind hf
  refine xmM.of (own := RX0) (lv0 := [(0, xR th), (1, xR a1), (2, xI a2), (3, xI a3), (4, xI a4), (5, xI a5)]) (by decide) rfl (Nat.le_of_ble_eq_true rfl) rfl ?_
  intro p e s m args below meth c hC hr hnm
  refine xj_aload_n hC dX0_fusedOf_0 rfl 1 rfl ?_
  refine xj_iload_n hC dX0_fusedOf_1 rfl 2 rfl ?_
  obtain ⟨v2, hc1, hf⟩ := xm_bind hf
  obtain ⟨_, hob, _⟩ := xm_bind hc1
  refine xj_reti (xr_V hC (mX1_isMinus l D ks b hc1) hob rfl xw_cod_X1_isMinus xw_ini_X1 xw_ins_X1_isMinus xw_sel_X1_isMinus xw_ml_X0_87 xds_X1_isMinus ⟨Nat.le_of_ble_eq_true rfl, Nat.le_of_ble_eq_true rfl⟩ rfl rfl (Nat.le_of_ble_eq_true rfl) ⟨Nat.le_of_ble_eq_true rfl, Nat.le_of_ble_eq_true rfl⟩ dX0_fusedOf_2) ?_
  refine xj_aload_n hC dX0_fusedOf_5 rfl 1 rfl ?_
  refine xj_iload_n hC dX0_fusedOf_6 rfl 3 rfl ?_
  obtain ⟨v4, hc3, hf⟩ := xm_bind hf
  obtain ⟨_, hob, _⟩ := xm_bind hc3
  refine xj_reti (xr_V hC (mX1_isMinus l D ks b hc3) hob rfl xw_cod_X1_isMinus xw_ini_X1 xw_ins_X1_isMinus xw_sel_X1_isMinus xw_ml_X0_87 xds_X1_isMinus ⟨Nat.le_of_ble_eq_true rfl, Nat.le_of_ble_eq_true rfl⟩ rfl rfl (Nat.le_of_ble_eq_true rfl) ⟨Nat.le_of_ble_eq_true rfl, Nat.le_of_ble_eq_true rfl⟩ dX0_fusedOf_7) ?_
  refine xj_dia (cnd := v2 = v4) (x := 0) (y := 1) (pc2 := 18) (st2 := []) (fun hc hk => ?_) (fun hc hk => ?_) ?_
  · exact xj_ic_eq (tgt := 17) hC dX0_fusedOf_10 (by decide) (fun _ => xj_iconst (v := 0) hC dX0_fusedOf_17 (by decide) hk) (fun hn => absurd hc hn)
  · exact xj_ic_eq (tgt := 17) hC dX0_fusedOf_10 (by decide) (fun hn => absurd hn hc) (fun _ => xj_iconst (v := 1) hC dX0_fusedOf_13 (by decide) (xj_goto (tgt := 18) hC dX0_fusedOf_14 (by decide) hk))
  refine xj_istore (lv' := [(6, xI (if v2 = v4 then (0 : Int32) else (1 : Int32))), (0, xR th), (1, xR a1), (2, xI a2), (3, xI a3), (4, xI a4), (5, xI a5)]) hC dX0_fusedOf_18 (by decide) rfl ?_
  refine xj_aload_n hC dX0_fusedOf_20 rfl 2 rfl ?_
  refine xj_iload hC dX0_fusedOf_21 5 rfl ?_
  obtain ⟨v6, hc5, hf⟩ := xm_bind hf
  obtain ⟨_, hob, _⟩ := xm_bind hc5
  refine xj_reti (xr_V hC (mX1_isMinus l D ks b hc5) hob rfl xw_cod_X1_isMinus xw_ini_X1 xw_ins_X1_isMinus xw_sel_X1_isMinus xw_ml_X0_87 xds_X1_isMinus ⟨Nat.le_of_ble_eq_true rfl, Nat.le_of_ble_eq_true rfl⟩ rfl rfl (Nat.le_of_ble_eq_true rfl) ⟨Nat.le_of_ble_eq_true rfl, Nat.le_of_ble_eq_true rfl⟩ dX0_fusedOf_23) ?_
  refine xj_istore (lv' := [(7, xI v6), (6, xI (if v2 = v4 then (0 : Int32) else (1 : Int32))), (0, xR th), (1, xR a1), (2, xI a2), (3, xI a3), (4, xI a4), (5, xI a5)]) hC dX0_fusedOf_26 (by decide) rfl ?_
  refine xj_aload_n hC dX0_fusedOf_28 rfl 3 rfl ?_
  refine xj_iload_n hC dX0_fusedOf_29 rfl 4 rfl ?_
  refine xj_iload_n hC dX0_fusedOf_30 rfl 5 rfl ?_
  obtain ⟨v8, hc7, hf⟩ := xm_bind hf
  obtain ⟨_, hob, _⟩ := xm_bind hc7
  refine xj_retl (xr_V hC (mX1_sizeOfProduct l D ks b hc7) hob rfl xw_cod_X1_sizeOfProduct xw_ini_X1 xw_ins_X1_sizeOfProduct xw_sel_X1_sizeOfProduct xw_ml_X0_134 xds_X1_sizeOfProduct ⟨Nat.le_of_ble_eq_true rfl, Nat.le_of_ble_eq_true rfl⟩ rfl rfl (Nat.le_of_ble_eq_true rfl) ⟨Nat.le_of_ble_eq_true rfl, Nat.le_of_ble_eq_true rfl⟩ dX0_fusedOf_31) ?_
  refine xj_lstore (lv' := [(8, xL v8), (7, xI v6), (6, xI (if v2 = v4 then (0 : Int32) else (1 : Int32))), (0, xR th), (1, xR a1), (2, xI a2), (3, xI a3), (4, xI a4), (5, xI a5)]) hC dX0_fusedOf_34 (by decide) rfl ?_
  refine xj_aload_n hC dX0_fusedOf_36 rfl 4 rfl ?_
  refine xj_iload hC dX0_fusedOf_37 7 rfl ?_
  obtain ⟨v10, hc9, hf⟩ := xm_bind hf
  obtain ⟨_, hob, _⟩ := xm_bind hc9
  refine xj_retl (xr_V hC (mX1_sizeOf l D ks b hc9) hob rfl xw_cod_X1_sizeOf xw_ini_X1 xw_ins_X1_sizeOf xw_sel_X1_sizeOf xw_ml_X0_84 xds_X1_sizeOf ⟨Nat.le_of_ble_eq_true rfl, Nat.le_of_ble_eq_true rfl⟩ rfl rfl (Nat.le_of_ble_eq_true rfl) ⟨Nat.le_of_ble_eq_true rfl, Nat.le_of_ble_eq_true rfl⟩ dX0_fusedOf_39) ?_
  refine xj_lstore (lv' := [(10, xL v10), (8, xL v8), (7, xI v6), (6, xI (if v2 = v4 then (0 : Int32) else (1 : Int32))), (0, xR th), (1, xR a1), (2, xI a2), (3, xI a3), (4, xI a4), (5, xI a5)]) hC dX0_fusedOf_42 (by decide) rfl ?_
  refine xj_lload hC dX0_fusedOf_44 1 rfl ?_
  refine xj_ldc2 hC xw_cst_X0_138 dX0_fusedOf_46 ?_
  refine xj_lcmp hC dX0_fusedOf_49 ?_
  refine xb_if_ne (tgt := 59) hC dX0_fusedOf_50 (by decide) hf (fun hf => ?_) (fun hf => ?_)
  · refine xj_lload hC dX0_fusedOf_59 1 rfl ?_
    refine xj_ldc2 hC xw_cst_X0_91 dX0_fusedOf_61 ?_
    refine xj_lcmp hC dX0_fusedOf_64 ?_
    refine xb_if_eq (tgt := 77) hC dX0_fusedOf_65 (by decide) hf (fun hf => ?_) (fun hf => ?_)
    · refine xj_aload_n hC dX0_fusedOf_77 rfl 5 rfl ?_
      obtain ⟨v12, hc11, hf⟩ := xm_bind hf
      obtain ⟨_, hob, _⟩ := xm_bind hc11
      refine xj_reti (xr_V hC (mX1_noneCode l D ks b hc11) hob rfl xw_cod_X1_noneCode xw_ini_X1 xw_ins_X1_noneCode xw_sel_X1_noneCode xw_ml_X0_22 xds_X1_noneCode ⟨Nat.le_of_ble_eq_true rfl, Nat.le_of_ble_eq_true rfl⟩ rfl rfl (Nat.le_of_ble_eq_true rfl) ⟨Nat.le_of_ble_eq_true rfl, Nat.le_of_ble_eq_true rfl⟩ dX0_fusedOf_78) ?_
      obtain ⟨he, hw⟩ := Prod.mk.inj (Option.some.inj hf)
      exact xj_iret hC hr (by decide) (by decide) dX0_fusedOf_81 he hw
    · refine xj_lload hC dX0_fusedOf_68 0 rfl ?_
      refine xj_ldc2 hC xw_cst_X0_91 dX0_fusedOf_70 ?_
      refine xj_lcmp hC dX0_fusedOf_73 ?_
      refine xb_if_ne (tgt := 82) hC dX0_fusedOf_74 (by decide) hf (fun hf => ?_) (fun hf => ?_)
      · refine xj_aload_n hC dX0_fusedOf_82 rfl 4 rfl ?_
        refine xj_aload_n hC dX0_fusedOf_83 rfl 5 rfl ?_
        refine xj_iload hC dX0_fusedOf_84 3 rfl ?_
        refine xj_lload hC dX0_fusedOf_86 1 rfl ?_
        refine xj_iload hC dX0_fusedOf_88 2 rfl ?_
        refine xj_lload hC dX0_fusedOf_90 0 rfl ?_
        obtain ⟨v14, w15, hc13, hf⟩ := xm_b2 hf
        obtain ⟨_, hob, _⟩ := xm_bind hc13
        refine xj_reti (xr_V hC (mX0_endlessOfSum l D ks b hc13) hob rfl xw_cod_X0_endlessOfSum xw_ini_X0 xw_ins_X0_endlessOfSum xw_sel_X0_endlessOfSum xw_ml_X0_126 xds_X0_endlessOfSum ⟨Nat.le_of_ble_eq_true rfl, Nat.le_of_ble_eq_true rfl⟩ rfl rfl (Nat.le_of_ble_eq_true rfl) ⟨Nat.le_of_ble_eq_true rfl, Nat.le_of_ble_eq_true rfl⟩ dX0_fusedOf_92) ?_
        refine xj_istore (lv' := [(12, xI v14), (10, xL v10), (8, xL v8), (7, xI v6), (6, xI (if v2 = v4 then (0 : Int32) else (1 : Int32))), (0, xR th), (1, xR a1), (2, xI a2), (3, xI a3), (4, xI a4), (5, xI a5)]) hC dX0_fusedOf_95 (by decide) rfl ?_
        refine xj_iload hC dX0_fusedOf_97 0 rfl ?_
        refine xj_bipush (v := -9) hC dX0_fusedOf_99 (by decide) ?_
        refine xb_ic_eq (tgt := 107) hC dX0_fusedOf_101 (by decide) hf (fun hf => ?_) (fun hf => ?_)
        · refine xj_iload hC dX0_fusedOf_107 4 rfl ?_
          refine xj_lload hC dX0_fusedOf_109 2 rfl ?_
          obtain ⟨v17, hc16, hf⟩ := xm_bind hf
          refine xj_retl (xr_S hC (mX0_signed l D ks b hc16) xw_cod_X0_signed xw_ini_X0 xw_sta_X0_signed xw_ml_X0_130 xds_X0_signed ⟨Nat.le_of_ble_eq_true rfl, Nat.le_of_ble_eq_true rfl⟩ rfl rfl (Nat.le_of_ble_eq_true rfl) ⟨Nat.le_of_ble_eq_true rfl, Nat.le_of_ble_eq_true rfl⟩ dX0_fusedOf_111) ?_
          refine xj_iload hC dX0_fusedOf_114 3 rfl ?_
          refine xj_lload hC dX0_fusedOf_116 1 rfl ?_
          obtain ⟨v19, hc18, hf⟩ := xm_bind hf
          refine xj_retl (xr_S hC (mX0_signed l D ks b hc18) xw_cod_X0_signed xw_ini_X0 xw_sta_X0_signed xw_ml_X0_130 xds_X0_signed ⟨Nat.le_of_ble_eq_true rfl, Nat.le_of_ble_eq_true rfl⟩ rfl rfl (Nat.le_of_ble_eq_true rfl) ⟨Nat.le_of_ble_eq_true rfl, Nat.le_of_ble_eq_true rfl⟩ dX0_fusedOf_118) ?_
          refine xj_aload_n hC dX0_fusedOf_121 rfl 6 rfl ?_
          obtain ⟨v21, hc20, hf⟩ := xm_bind hf
          obtain ⟨_, hob, _⟩ := xm_bind hc20
          refine xj_reti (xr_V hC (mX1_scale l D ks b hc20) hob rfl xw_cod_X1_scale xw_ini_X1 xw_ins_X1_scale xw_sel_X1_scale xw_ml_X0_77 xds_X1_scale ⟨Nat.le_of_ble_eq_true rfl, Nat.le_of_ble_eq_true rfl⟩ rfl rfl (Nat.le_of_ble_eq_true rfl) ⟨Nat.le_of_ble_eq_true rfl, Nat.le_of_ble_eq_true rfl⟩ dX0_fusedOf_122) ?_
          refine xj_lshl hC dX0_fusedOf_125 ?_
          refine xj_ladd hC dX0_fusedOf_126 ?_
          refine xj_lstore (lv' := [(13, xL (v17 + (v19 <<< ((v21).toInt64 &&& 63)))), (12, xI v14), (10, xL v10), (8, xL v8), (7, xI v6), (6, xI (if v2 = v4 then (0 : Int32) else (1 : Int32))), (0, xR th), (1, xR a1), (2, xI a2), (3, xI a3), (4, xI a4), (5, xI a5)]) hC dX0_fusedOf_127 (by decide) rfl ?_
          refine xj_lload hC dX0_fusedOf_129 0 rfl ?_
          refine xj_lconst (v := 0) hC dX0_fusedOf_131 (by decide) ?_
          refine xj_lcmp hC dX0_fusedOf_132 ?_
          refine xb_if_ne (tgt := 172) hC dX0_fusedOf_133 (by decide) hf (fun hf => ?_) (fun hf => ?_)
          · refine xj_aload_n hC dX0_fusedOf_172 rfl 6 rfl ?_
            refine xj_aload_n hC dX0_fusedOf_173 rfl 7 rfl ?_
            refine xj_lload hC dX0_fusedOf_174 0 rfl ?_
            refine xj_lconst (v := 0) hC dX0_fusedOf_176 (by decide) ?_
            refine xj_lcmp hC dX0_fusedOf_177 ?_
            refine xj_dia (cnd := 0 ≤ (lg_cmp (v17 + (v19 <<< ((v21).toInt64 &&& 63))) (0 : Int64))) (x := 0) (y := 1) (pc2 := 186) (st2 := [xR a1, xR th]) (fun hc hk => ?_) (fun hc hk => ?_) ?_
            · exact xj_if_ge (tgt := 185) hC dX0_fusedOf_178 (by decide) (fun _ => xj_iconst (v := 0) hC dX0_fusedOf_185 (by decide) hk) (fun hn => absurd hc hn)
            · exact xj_if_ge (tgt := 185) hC dX0_fusedOf_178 (by decide) (fun hn => absurd hn hc) (fun _ => xj_iconst (v := 1) hC dX0_fusedOf_181 (by decide) (xj_goto (tgt := 186) hC dX0_fusedOf_182 (by decide) hk))
            refine xj_lload hC dX0_fusedOf_186 0 rfl ?_
            refine xj_mabs_long hC xw_ml_X0_71 xw_sta_J9_abs_l xw_ini_J9 xw_cod_J9_abs_l ⟨Nat.le_of_ble_eq_true rfl, Nat.le_of_ble_eq_true rfl⟩ (Nat.le_of_ble_eq_true rfl) (Nat.le_of_ble_eq_true rfl) dX0_fusedOf_188 ?_
            refine xj_lconst (v := 1) hC dX0_fusedOf_191 (by decide) ?_
            refine xj_aload_n hC dX0_fusedOf_192 rfl 7 rfl ?_
            obtain ⟨v23, hc22, hf⟩ := xm_bind hf
            obtain ⟨_, hob, _⟩ := xm_bind hc22
            refine xj_reti (xr_V hC (mX1_scale l D ks b hc22) hob rfl xw_cod_X1_scale xw_ini_X1 xw_ins_X1_scale xw_sel_X1_scale xw_ml_X0_77 xds_X1_scale ⟨Nat.le_of_ble_eq_true rfl, Nat.le_of_ble_eq_true rfl⟩ rfl rfl (Nat.le_of_ble_eq_true rfl) ⟨Nat.le_of_ble_eq_true rfl, Nat.le_of_ble_eq_true rfl⟩ dX0_fusedOf_193) ?_
            refine xj_lshl hC dX0_fusedOf_196 ?_
            refine xj_iload hC dX0_fusedOf_197 11 rfl ?_
            obtain ⟨v25, w26, hc24, hf⟩ := xm_b2 hf
            obtain ⟨_, hob, _⟩ := xm_bind hc24
            refine xj_reti (xr_V hC (mX0_rounded l D ks b hc24) hob rfl xw_cod_X0_rounded xw_ini_X0 xw_ins_X0_rounded xw_sel_X0_rounded xw_ml_X0_80 xds_X0_rounded ⟨Nat.le_of_ble_eq_true rfl, Nat.le_of_ble_eq_true rfl⟩ rfl rfl (Nat.le_of_ble_eq_true rfl) ⟨Nat.le_of_ble_eq_true rfl, Nat.le_of_ble_eq_true rfl⟩ dX0_fusedOf_199) ?_
            obtain ⟨he, hw⟩ := Prod.mk.inj (Option.some.inj hf)
            exact xj_iret hC hr (by decide) (by decide) dX0_fusedOf_202 he hw
          · refine xj_aload_n hC dX0_fusedOf_136 rfl 7 rfl ?_
            refine xj_lload hC dX0_fusedOf_137 3 rfl ?_
            refine xj_lconst (v := 0) hC dX0_fusedOf_139 (by decide) ?_
            refine xj_lcmp hC dX0_fusedOf_140 ?_
            refine xb_if_ne (tgt := 156) hC dX0_fusedOf_141 (by decide) hf (fun hf => ?_) (fun hf => ?_)
            · refine xj_iload hC dX0_fusedOf_156 11 rfl ?_
              refine xj_iconst (v := 3) hC dX0_fusedOf_158 (by decide) ?_
              refine xj_dia (cnd := a5 = (3 : Int32)) (x := 1) (y := 0) (pc2 := 167) (st2 := [xR a1]) (fun hc hk => ?_) (fun hc hk => ?_) ?_
              · exact xj_ic_ne (tgt := 166) hC dX0_fusedOf_159 (by decide) (fun hn => absurd hc hn) (fun _ => xj_iconst (v := 1) hC dX0_fusedOf_162 (by decide) (xj_goto (tgt := 167) hC dX0_fusedOf_163 (by decide) hk))
              · exact xj_ic_ne (tgt := 166) hC dX0_fusedOf_159 (by decide) (fun _ => xj_iconst (v := 0) hC dX0_fusedOf_166 (by decide) hk) (fun hn => absurd hn hc)
              refine xj_iconst (v := 0) hC dX0_fusedOf_167 (by decide) ?_
              obtain ⟨v28, hc27, hf⟩ := xm_bind hf
              obtain ⟨_, hob, _⟩ := xm_bind hc27
              refine xj_reti (xr_V hC (mX1_withSign l D ks b hc27) hob rfl xw_cod_X1_withSign xw_ini_X1 xw_ins_X1_withSign xw_sel_X1_withSign xw_ml_X0_42 xds_X1_withSign ⟨Nat.le_of_ble_eq_true rfl, Nat.le_of_ble_eq_true rfl⟩ rfl rfl (Nat.le_of_ble_eq_true rfl) ⟨Nat.le_of_ble_eq_true rfl, Nat.le_of_ble_eq_true rfl⟩ dX0_fusedOf_168) ?_
              obtain ⟨he, hw⟩ := Prod.mk.inj (Option.some.inj hf)
              exact xj_iret hC hr (by decide) (by decide) dX0_fusedOf_171 he hw
            · refine xj_iload hC dX0_fusedOf_144 5 rfl ?_
              refine xj_iload hC dX0_fusedOf_146 4 rfl ?_
              refine xb_ic_ne (tgt := 156) hC dX0_fusedOf_148 (by decide) hf (fun hf => ?_) (fun hf => ?_)
              · refine xj_iload hC dX0_fusedOf_156 11 rfl ?_
                refine xj_iconst (v := 3) hC dX0_fusedOf_158 (by decide) ?_
                refine xj_dia (cnd := a5 = (3 : Int32)) (x := 1) (y := 0) (pc2 := 167) (st2 := [xR a1]) (fun hc hk => ?_) (fun hc hk => ?_) ?_
                · exact xj_ic_ne (tgt := 166) hC dX0_fusedOf_159 (by decide) (fun hn => absurd hc hn) (fun _ => xj_iconst (v := 1) hC dX0_fusedOf_162 (by decide) (xj_goto (tgt := 167) hC dX0_fusedOf_163 (by decide) hk))
                · exact xj_ic_ne (tgt := 166) hC dX0_fusedOf_159 (by decide) (fun _ => xj_iconst (v := 0) hC dX0_fusedOf_166 (by decide) hk) (fun hn => absurd hn hc)
                refine xj_iconst (v := 0) hC dX0_fusedOf_167 (by decide) ?_
                obtain ⟨v30, hc29, hf⟩ := xm_bind hf
                obtain ⟨_, hob, _⟩ := xm_bind hc29
                refine xj_reti (xr_V hC (mX1_withSign l D ks b hc29) hob rfl xw_cod_X1_withSign xw_ini_X1 xw_ins_X1_withSign xw_sel_X1_withSign xw_ml_X0_42 xds_X1_withSign ⟨Nat.le_of_ble_eq_true rfl, Nat.le_of_ble_eq_true rfl⟩ rfl rfl (Nat.le_of_ble_eq_true rfl) ⟨Nat.le_of_ble_eq_true rfl, Nat.le_of_ble_eq_true rfl⟩ dX0_fusedOf_168) ?_
                obtain ⟨he, hw⟩ := Prod.mk.inj (Option.some.inj hf)
                exact xj_iret hC hr (by decide) (by decide) dX0_fusedOf_171 he hw
              · refine xj_iload hC dX0_fusedOf_151 4 rfl ?_
                refine xj_goto (tgt := 167) hC dX0_fusedOf_153 (by decide) ?_
                refine xj_iconst (v := 0) hC dX0_fusedOf_167 (by decide) ?_
                obtain ⟨v32, hc31, hf⟩ := xm_bind hf
                obtain ⟨_, hob, _⟩ := xm_bind hc31
                refine xj_reti (xr_V hC (mX1_withSign l D ks b hc31) hob rfl xw_cod_X1_withSign xw_ini_X1 xw_ins_X1_withSign xw_sel_X1_withSign xw_ml_X0_42 xds_X1_withSign ⟨Nat.le_of_ble_eq_true rfl, Nat.le_of_ble_eq_true rfl⟩ rfl rfl (Nat.le_of_ble_eq_true rfl) ⟨Nat.le_of_ble_eq_true rfl, Nat.le_of_ble_eq_true rfl⟩ dX0_fusedOf_168) ?_
                obtain ⟨he, hw⟩ := Prod.mk.inj (Option.some.inj hf)
                exact xj_iret hC hr (by decide) (by decide) dX0_fusedOf_171 he hw
        · refine xj_iload hC dX0_fusedOf_104 0 rfl ?_
          obtain ⟨he, hw⟩ := Prod.mk.inj (Option.some.inj hf)
          exact xj_iret hC hr (by decide) (by decide) dX0_fusedOf_106 he hw
      · refine xj_aload_n hC dX0_fusedOf_77 rfl 5 rfl ?_
        obtain ⟨v34, hc33, hf⟩ := xm_bind hf
        obtain ⟨_, hob, _⟩ := xm_bind hc33
        refine xj_reti (xr_V hC (mX1_noneCode l D ks b hc33) hob rfl xw_cod_X1_noneCode xw_ini_X1 xw_ins_X1_noneCode xw_sel_X1_noneCode xw_ml_X0_22 xds_X1_noneCode ⟨Nat.le_of_ble_eq_true rfl, Nat.le_of_ble_eq_true rfl⟩ rfl rfl (Nat.le_of_ble_eq_true rfl) ⟨Nat.le_of_ble_eq_true rfl, Nat.le_of_ble_eq_true rfl⟩ dX0_fusedOf_78) ?_
        obtain ⟨he, hw⟩ := Prod.mk.inj (Option.some.inj hf)
        exact xj_iret hC hr (by decide) (by decide) dX0_fusedOf_81 he hw
  · refine xj_aload_n hC dX0_fusedOf_53 rfl 4 rfl ?_
    refine xj_aload_n hC dX0_fusedOf_54 rfl 5 rfl ?_
    obtain ⟨v36, w37, hc35, hf⟩ := xm_b2 hf
    obtain ⟨_, hob, _⟩ := xm_bind hc35
    refine xj_reti (xr_V hC (mX0_invalid l D ks b hc35) hob rfl xw_cod_X0_invalid xw_ini_X0 xw_ins_X0_invalid xw_sel_X0_invalid xw_ml_X0_93 xds_X0_invalid ⟨Nat.le_of_ble_eq_true rfl, Nat.le_of_ble_eq_true rfl⟩ rfl rfl (Nat.le_of_ble_eq_true rfl) ⟨Nat.le_of_ble_eq_true rfl, Nat.le_of_ble_eq_true rfl⟩ dX0_fusedOf_55) ?_
    obtain ⟨he, hw⟩ := Prod.mk.inj (Option.some.inj hf)
    exact xj_iret hC hr (by decide) (by decide) dX0_fusedOf_58 he hw
def fX0_termCount (w : xmW) (a1 : (Option Nat)) (a2 : (Option Nat)) : Option Int32 := (if a2 = none then ((xmgI w a1 2 1).bind fun v3 => (some v3)) else ((xmgI w a1 2 1).bind fun v1 => ((xmgI w a2 2 1).bind fun v2 => (some (if v2 < v1 then v2 else v1)))))
set_option maxHeartbeats 4000000 in
set_option maxRecDepth 100000 in
theorem mX0_termCount (l : Launch) (D : va_G) (ks : Nat → ClassId) (b : Nat) {w : xmW} {a1 : (Option Nat)} {a2 : (Option Nat)} {y : Int32} (hf : fX0_termCount w a1 a2 = some y) : xmM l yX0_termCount (Cond.code yX0_termCount cX0_termCount 2 (some (FieldType.int)) :: xmTs) 1 23 0 0 D ks b w [xR a1, xR a2] (some (xI y)) w := by
  unfold fX0_termCount at hf
  refine xmM.of (own := RX0) (lv0 := [(0, xR a1), (1, xR a2)]) (by decide) rfl (Nat.le_of_ble_eq_true rfl) rfl ?_
  intro p e s m args below meth c hC hr hnm
  refine xj_aload_n hC dX0_termCount_0 rfl 1 rfl ?_
  refine xb_ifnonnull (tgt := 11) hC dX0_termCount_1 (by decide) hf (fun hf => ?_) (fun hf => ?_)
  · refine xj_aload_n hC dX0_termCount_11 rfl 0 rfl ?_
    refine xb_getI hC 2 1 xcl_2 (by decide) xw_fl_X0_165 dX0_termCount_12 hf (fun v1 hf => ?_)
    refine xj_aload_n hC dX0_termCount_15 rfl 1 rfl ?_
    refine xb_getI hC 2 1 xcl_2 (by decide) xw_fl_X0_165 dX0_termCount_16 hf (fun v2 hf => ?_)
    refine xj_mmin hC xw_ml_X0_168 xw_sta_J9_min_i xw_ini_J9 xw_cod_J9_min_i ⟨Nat.le_of_ble_eq_true rfl, Nat.le_of_ble_eq_true rfl⟩ (Nat.le_of_ble_eq_true rfl) (Nat.le_of_ble_eq_true rfl) dX0_termCount_19 ?_
    exact xj_iret hC hr (by decide) (by decide) dX0_termCount_22 (Option.some.inj hf) rfl
  · refine xj_aload_n hC dX0_termCount_4 rfl 0 rfl ?_
    refine xb_getI hC 2 1 xcl_2 (by decide) xw_fl_X0_165 dX0_termCount_5 hf (fun v3 hf => ?_)
    refine xj_goto (tgt := 22) hC dX0_termCount_8 (by decide) ?_
    exact xj_iret hC hr (by decide) (by decide) dX0_termCount_22 (Option.some.inj hf) rfl
def fX0_exactTotal_L256 (w : xmW) (p0 : (Option Nat)) (p3 : Int32) (p4 : (Option Nat)) (p7 : Int64) (s0 : Int64) : Option (Int32 × xmW) := (xmb2 (fX0_rounded w (p0) (p4) ((if 0 ≤ (lg_cmp p7 (0 : Int64)) then (0 : Int32) else (1 : Int32))) ((if 0 < p7 then p7 else -p7)) (s0) (p3)) fun v69 w70 => (some (v69, w70)))
set_option maxHeartbeats 4000000 in
set_option maxRecDepth 100000 in
theorem lX0_exactTotal_L256 {p : Program} {l : Launch} {e : Env} {s : State} {m : MethodId} {args : Array Value} {below : List Frame} {meth : Method} {c : Code} {D : va_G} {ks : Nat → ClassId} {b : Nat} (hC : xmC p s m args meth c D ks b 15 cX0_exactTotal RX0) (hr : meth.sig.returnType = (some (FieldType.int))) {y : Int32} {wz : xmW} (w : xmW) (p0 : (Option Nat)) (p3 : Int32) (p4 : (Option Nat)) (p7 : Int64) (s0 : Int64) (hf : fX0_exactTotal_L256 w p0 p3 p4 p7 s0 = some (y, wz)) : xmJ p l e ({ frames := 3, cells := 0, slots := 0, locals := 81 } : Room) s m args below meth c D ks b 15 (MQ below (xmQ D ks b (some (xI y)) wz) args s 0 0 (xmA b)) w 0 0 256 [(0, xR p0), (3, xI p3), (4, xR p4), (7, xL p7)] [xL s0] := by
  unfold fX0_exactTotal_L256 at hf
  refine xj_lstore (lv' := [(9, xL s0), (0, xR p0), (3, xI p3), (4, xR p4), (7, xL p7)]) hC dX0_exactTotal_256 (by decide) rfl ?_
  refine xj_aload_n hC dX0_exactTotal_258 rfl 1 rfl ?_
  refine xj_aload hC dX0_exactTotal_259 3 rfl ?_
  refine xj_lload hC dX0_exactTotal_261 4 rfl ?_
  refine xj_lconst (v := 0) hC dX0_exactTotal_263 (by decide) ?_
  refine xj_lcmp hC dX0_exactTotal_264 ?_
  refine xj_dia (cnd := 0 ≤ (lg_cmp p7 (0 : Int64))) (x := 0) (y := 1) (pc2 := 273) (st2 := [xR p4, xR p0]) (fun hc hk => ?_) (fun hc hk => ?_) ?_
  · exact xj_if_ge (tgt := 272) hC dX0_exactTotal_265 (by decide) (fun _ => xj_iconst (v := 0) hC dX0_exactTotal_272 (by decide) hk) (fun hn => absurd hc hn)
  · exact xj_if_ge (tgt := 272) hC dX0_exactTotal_265 (by decide) (fun hn => absurd hn hc) (fun _ => xj_iconst (v := 1) hC dX0_exactTotal_268 (by decide) (xj_goto (tgt := 273) hC dX0_exactTotal_269 (by decide) hk))
  refine xj_lload hC dX0_exactTotal_273 4 rfl ?_
  refine xj_mabs_long hC xw_ml_X0_71 xw_sta_J9_abs_l xw_ini_J9 xw_cod_J9_abs_l ⟨Nat.le_of_ble_eq_true rfl, Nat.le_of_ble_eq_true rfl⟩ (Nat.le_of_ble_eq_true rfl) (Nat.le_of_ble_eq_true rfl) dX0_exactTotal_275 ?_
  refine xj_lload hC dX0_exactTotal_278 0 rfl ?_
  refine xj_iload_n hC dX0_exactTotal_280 rfl 2 rfl ?_
  obtain ⟨v69, w70, hc68, hf⟩ := xm_b2 hf
  obtain ⟨_, hob, _⟩ := xm_bind hc68
  refine xj_reti (xr_V hC (mX0_rounded l D ks b hc68) hob rfl xw_cod_X0_rounded xw_ini_X0 xw_ins_X0_rounded xw_sel_X0_rounded xw_ml_X0_80 xds_X0_rounded ⟨Nat.le_of_ble_eq_true rfl, Nat.le_of_ble_eq_true rfl⟩ rfl rfl (Nat.le_of_ble_eq_true rfl) ⟨Nat.le_of_ble_eq_true rfl, Nat.le_of_ble_eq_true rfl⟩ dX0_exactTotal_281) ?_
  obtain ⟨he, hw⟩ := Prod.mk.inj (Option.some.inj hf)
  exact xj_iret hC hr (by decide) (by decide) dX0_exactTotal_284 he hw
def fX0_exactTotal_L22 : Nat → xmW → (Option Nat) → (Option Nat) → (Option Nat) → Int32 → (Option Nat) → Int32 → Int32 → Int64 → Int32 → Option (Int32 × xmW)
  | 0, _, _, _, _, _, _, _, _, _, _ => none
  | n + 1, w, p0, p1, p2, p3, p4, p5, p6, p7, p9 => (if p5 ≤ p9 then (if p6 = 0 then (if (lg_cmp p7 (0 : Int64)) = 0 then (if p5 ≤ 0 then ((fX1_withSign w (p4) ((0 : Int32)) ((0 : Int32))).bind fun v7 => (some (v7, w))) else ((fX1_withSign w (p4) ((if p3 = (3 : Int32) then (1 : Int32) else (0 : Int32))) ((0 : Int32))).bind fun v9 => (some (v9, w)))) else (if p2 = none then (fX0_exactTotal_L256 w (p0) (p3) (p4) (p7) ((1 : Int64))) else ((fX1_scale w (p4) ).bind fun v5 => (fX0_exactTotal_L256 w (p0) (p3) (p4) (p7) (((1 : Int64) <<< ((v5).toInt64 &&& 63))))))) else ((fX1_beyond w (p4) ((if 0 ≤ p6 then (0 : Int32) else (1 : Int32)))).bind fun v11 => (some (v11, w)))) else ((fX2_codeAt w (p1) (p9)).bind fun v13 => (if p2 = none then ((fX1_sizeOf w (p4) (v13)).bind fun v43 => (if p2 = none then ((fX1_isMinus w (p4) (v13)).bind fun v45 => (if (lg_cmp v43 (-2 : Int64)) = 0 then ((fX1_noneCode w (p4) ).bind fun v53 => (some (v53, w))) else (if (lg_cmp v43 (-3 : Int64)) = 0 then (xmb2 (fX0_invalid w (p0) (p4)) fun v47 w48 => (some (v47, w48))) else (if (lg_cmp v43 (-1 : Int64)) = 0 then (if p6 = (-(if v45 = (0 : Int32) then (1 : Int32) else (-1 : Int32))) then (xmb2 (fX0_invalid w (p0) (p4)) fun v50 w51 => (some (v50, w51))) else (if (lg_cmp v43 (-1 : Int64)) = 0 then (fX0_exactTotal_L22 n w (p0) (p1) (p2) (p3) (p4) (p5) ((if v45 = (0 : Int32) then (1 : Int32) else (-1 : Int32))) (p7) ((p9 + (1 : Int32))) ) else (fX0_exactTotal_L22 n w (p0) (p1) (p2) (p3) (p4) (p5) (p6) ((p7 + (((if v45 = (0 : Int32) then (1 : Int32) else (-1 : Int32))).toInt64 * v43))) ((p9 + (1 : Int32))) ))) else (if (lg_cmp v43 (-1 : Int64)) = 0 then (fX0_exactTotal_L22 n w (p0) (p1) (p2) (p3) (p4) (p5) ((if v45 = (0 : Int32) then (1 : Int32) else (-1 : Int32))) (p7) ((p9 + (1 : Int32))) ) else (fX0_exactTotal_L22 n w (p0) (p1) (p2) (p3) (p4) (p5) (p6) ((p7 + (((if v45 = (0 : Int32) then (1 : Int32) else (-1 : Int32))).toInt64 * v43))) ((p9 + (1 : Int32))) )))))) else ((fX2_codeAt w (p2) (p9)).bind fun v55 => ((fX1_isMinus w (p4) (v55)).bind fun v57 => ((fX1_isMinus w (p4) (v13)).bind fun v59 => (if (lg_cmp v43 (-2 : Int64)) = 0 then ((fX1_noneCode w (p4) ).bind fun v67 => (some (v67, w))) else (if (lg_cmp v43 (-3 : Int64)) = 0 then (xmb2 (fX0_invalid w (p0) (p4)) fun v61 w62 => (some (v61, w62))) else (if (lg_cmp v43 (-1 : Int64)) = 0 then (if p6 = (-(if v59 = (if v57 = 0 then (0 : Int32) else (1 : Int32)) then (1 : Int32) else (-1 : Int32))) then (xmb2 (fX0_invalid w (p0) (p4)) fun v64 w65 => (some (v64, w65))) else (if (lg_cmp v43 (-1 : Int64)) = 0 then (fX0_exactTotal_L22 n w (p0) (p1) (p2) (p3) (p4) (p5) ((if v59 = (if v57 = 0 then (0 : Int32) else (1 : Int32)) then (1 : Int32) else (-1 : Int32))) (p7) ((p9 + (1 : Int32))) ) else (fX0_exactTotal_L22 n w (p0) (p1) (p2) (p3) (p4) (p5) (p6) ((p7 + (((if v59 = (if v57 = 0 then (0 : Int32) else (1 : Int32)) then (1 : Int32) else (-1 : Int32))).toInt64 * v43))) ((p9 + (1 : Int32))) ))) else (if (lg_cmp v43 (-1 : Int64)) = 0 then (fX0_exactTotal_L22 n w (p0) (p1) (p2) (p3) (p4) (p5) ((if v59 = (if v57 = 0 then (0 : Int32) else (1 : Int32)) then (1 : Int32) else (-1 : Int32))) (p7) ((p9 + (1 : Int32))) ) else (fX0_exactTotal_L22 n w (p0) (p1) (p2) (p3) (p4) (p5) (p6) ((p7 + (((if v59 = (if v57 = 0 then (0 : Int32) else (1 : Int32)) then (1 : Int32) else (-1 : Int32))).toInt64 * v43))) ((p9 + (1 : Int32))) )))))))))) else ((fX2_codeAt w (p2) (p9)).bind fun v15 => ((fX1_sizeOfProduct w (p4) (v13) (v15)).bind fun v17 => (if p2 = none then ((fX1_isMinus w (p4) (v13)).bind fun v19 => (if (lg_cmp v17 (-2 : Int64)) = 0 then ((fX1_noneCode w (p4) ).bind fun v27 => (some (v27, w))) else (if (lg_cmp v17 (-3 : Int64)) = 0 then (xmb2 (fX0_invalid w (p0) (p4)) fun v21 w22 => (some (v21, w22))) else (if (lg_cmp v17 (-1 : Int64)) = 0 then (if p6 = (-(if v19 = (0 : Int32) then (1 : Int32) else (-1 : Int32))) then (xmb2 (fX0_invalid w (p0) (p4)) fun v24 w25 => (some (v24, w25))) else (if (lg_cmp v17 (-1 : Int64)) = 0 then (fX0_exactTotal_L22 n w (p0) (p1) (p2) (p3) (p4) (p5) ((if v19 = (0 : Int32) then (1 : Int32) else (-1 : Int32))) (p7) ((p9 + (1 : Int32))) ) else (fX0_exactTotal_L22 n w (p0) (p1) (p2) (p3) (p4) (p5) (p6) ((p7 + (((if v19 = (0 : Int32) then (1 : Int32) else (-1 : Int32))).toInt64 * v17))) ((p9 + (1 : Int32))) ))) else (if (lg_cmp v17 (-1 : Int64)) = 0 then (fX0_exactTotal_L22 n w (p0) (p1) (p2) (p3) (p4) (p5) ((if v19 = (0 : Int32) then (1 : Int32) else (-1 : Int32))) (p7) ((p9 + (1 : Int32))) ) else (fX0_exactTotal_L22 n w (p0) (p1) (p2) (p3) (p4) (p5) (p6) ((p7 + (((if v19 = (0 : Int32) then (1 : Int32) else (-1 : Int32))).toInt64 * v17))) ((p9 + (1 : Int32))) )))))) else ((fX2_codeAt w (p2) (p9)).bind fun v29 => ((fX1_isMinus w (p4) (v29)).bind fun v31 => ((fX1_isMinus w (p4) (v13)).bind fun v33 => (if (lg_cmp v17 (-2 : Int64)) = 0 then ((fX1_noneCode w (p4) ).bind fun v41 => (some (v41, w))) else (if (lg_cmp v17 (-3 : Int64)) = 0 then (xmb2 (fX0_invalid w (p0) (p4)) fun v35 w36 => (some (v35, w36))) else (if (lg_cmp v17 (-1 : Int64)) = 0 then (if p6 = (-(if v33 = (if v31 = 0 then (0 : Int32) else (1 : Int32)) then (1 : Int32) else (-1 : Int32))) then (xmb2 (fX0_invalid w (p0) (p4)) fun v38 w39 => (some (v38, w39))) else (if (lg_cmp v17 (-1 : Int64)) = 0 then (fX0_exactTotal_L22 n w (p0) (p1) (p2) (p3) (p4) (p5) ((if v33 = (if v31 = 0 then (0 : Int32) else (1 : Int32)) then (1 : Int32) else (-1 : Int32))) (p7) ((p9 + (1 : Int32))) ) else (fX0_exactTotal_L22 n w (p0) (p1) (p2) (p3) (p4) (p5) (p6) ((p7 + (((if v33 = (if v31 = 0 then (0 : Int32) else (1 : Int32)) then (1 : Int32) else (-1 : Int32))).toInt64 * v17))) ((p9 + (1 : Int32))) ))) else (if (lg_cmp v17 (-1 : Int64)) = 0 then (fX0_exactTotal_L22 n w (p0) (p1) (p2) (p3) (p4) (p5) ((if v33 = (if v31 = 0 then (0 : Int32) else (1 : Int32)) then (1 : Int32) else (-1 : Int32))) (p7) ((p9 + (1 : Int32))) ) else (fX0_exactTotal_L22 n w (p0) (p1) (p2) (p3) (p4) (p5) (p6) ((p7 + (((if v33 = (if v31 = 0 then (0 : Int32) else (1 : Int32)) then (1 : Int32) else (-1 : Int32))).toInt64 * v17))) ((p9 + (1 : Int32))) ))))))))))))))
set_option maxHeartbeats 4000000 in
set_option maxRecDepth 100000 in
theorem lX0_exactTotal_L22 {p : Program} {l : Launch} {e : Env} {s : State} {m : MethodId} {args : Array Value} {below : List Frame} {meth : Method} {c : Code} {D : va_G} {ks : Nat → ClassId} {b : Nat} (hC : xmC p s m args meth c D ks b 15 cX0_exactTotal RX0) (hr : meth.sig.returnType = (some (FieldType.int))) {y : Int32} {wz : xmW} : ∀ (n : Nat) (w : xmW) (p0 : (Option Nat)) (p1 : (Option Nat)) (p2 : (Option Nat)) (p3 : Int32) (p4 : (Option Nat)) (p5 : Int32) (p6 : Int32) (p7 : Int64) (p9 : Int32), fX0_exactTotal_L22 n w p0 p1 p2 p3 p4 p5 p6 p7 p9 = some (y, wz) → xmJ p l e ({ frames := 3, cells := 0, slots := 0, locals := 81 } : Room) s m args below meth c D ks b 15 (MQ below (xmQ D ks b (some (xI y)) wz) args s 0 0 (xmA b)) w 0 0 22 [(0, xR p0), (1, xR p1), (2, xR p2), (3, xI p3), (4, xR p4), (5, xI p5), (6, xI p6), (7, xL p7), (9, xI p9)] [] := by
  intro n
  induction n with
  | zero => intro w p0 p1 p2 p3 p4 p5 p6 p7 p9 hf; simp [fX0_exactTotal_L22] at hf
  | succ n ih =>
    intro w p0 p1 p2 p3 p4 p5 p6 p7 p9 hf
    rw [fX0_exactTotal_L22] at hf
    refine xj_iload hC dX0_exactTotal_22 8 rfl ?_
    refine xj_iload hC dX0_exactTotal_24 5 rfl ?_
    refine xb_ic_ge (tgt := 191) hC dX0_exactTotal_26 (by decide) hf (fun hf => ?_) (fun hf => ?_)
    · refine xj_iload hC dX0_exactTotal_191 6 rfl ?_
      refine xb_if_eq (tgt := 212) hC dX0_exactTotal_193 (by decide) hf (fun hf => ?_) (fun hf => ?_)
      · refine xj_lload hC dX0_exactTotal_212 7 rfl ?_
        refine xj_lconst (v := 0) hC dX0_exactTotal_214 (by decide) ?_
        refine xj_lcmp hC dX0_exactTotal_215 ?_
        refine xb_if_ne (tgt := 241) hC dX0_exactTotal_216 (by decide) hf (fun hf => ?_) (fun hf => ?_)
        · refine xj_aload_n hC dX0_exactTotal_241 rfl 2 rfl ?_
          refine xb_ifnonnull (tgt := 249) hC dX0_exactTotal_242 (by decide) hf (fun hf => ?_) (fun hf => ?_)
          · refine xj_lconst (v := 1) hC dX0_exactTotal_249 (by decide) ?_
            refine xj_aload hC dX0_exactTotal_250 4 rfl ?_
            obtain ⟨v5, hc4, hf⟩ := xm_bind hf
            obtain ⟨_, hob, _⟩ := xm_bind hc4
            refine xj_reti (xr_V hC (mX1_scale l D ks b hc4) hob rfl xw_cod_X1_scale xw_ini_X1 xw_ins_X1_scale xw_sel_X1_scale xw_ml_X0_77 xds_X1_scale ⟨Nat.le_of_ble_eq_true rfl, Nat.le_of_ble_eq_true rfl⟩ rfl rfl (Nat.le_of_ble_eq_true rfl) ⟨Nat.le_of_ble_eq_true rfl, Nat.le_of_ble_eq_true rfl⟩ dX0_exactTotal_252) ?_
            refine xj_lshl hC dX0_exactTotal_255 ?_
            refine xj_lv [0, 3, 4, 7] rfl ?_
            exact lX0_exactTotal_L256 hC hr  w (p0) (p3) (p4) (p7) (((1 : Int64) <<< ((v5).toInt64 &&& 63))) hf
          · refine xj_lconst (v := 1) hC dX0_exactTotal_245 (by decide) ?_
            refine xj_goto (tgt := 256) hC dX0_exactTotal_246 (by decide) ?_
            refine xj_lv [0, 3, 4, 7] rfl ?_
            exact lX0_exactTotal_L256 hC hr  w (p0) (p3) (p4) (p7) ((1 : Int64)) hf
        · refine xj_aload hC dX0_exactTotal_219 4 rfl ?_
          refine xj_iload hC dX0_exactTotal_221 5 rfl ?_
          refine xb_if_le (tgt := 235) hC dX0_exactTotal_223 (by decide) hf (fun hf => ?_) (fun hf => ?_)
          · refine xj_iconst (v := 0) hC dX0_exactTotal_235 (by decide) ?_
            refine xj_iconst (v := 0) hC dX0_exactTotal_236 (by decide) ?_
            obtain ⟨v7, hc6, hf⟩ := xm_bind hf
            obtain ⟨_, hob, _⟩ := xm_bind hc6
            refine xj_reti (xr_V hC (mX1_withSign l D ks b hc6) hob rfl xw_cod_X1_withSign xw_ini_X1 xw_ins_X1_withSign xw_sel_X1_withSign xw_ml_X0_42 xds_X1_withSign ⟨Nat.le_of_ble_eq_true rfl, Nat.le_of_ble_eq_true rfl⟩ rfl rfl (Nat.le_of_ble_eq_true rfl) ⟨Nat.le_of_ble_eq_true rfl, Nat.le_of_ble_eq_true rfl⟩ dX0_exactTotal_237) ?_
            obtain ⟨he, hw⟩ := Prod.mk.inj (Option.some.inj hf)
            exact xj_iret hC hr (by decide) (by decide) dX0_exactTotal_240 he hw
          · refine xj_iload_n hC dX0_exactTotal_226 rfl 3 rfl ?_
            refine xj_iconst (v := 3) hC dX0_exactTotal_227 (by decide) ?_
            refine xj_dia (cnd := p3 = (3 : Int32)) (x := 1) (y := 0) (pc2 := 236) (st2 := [xR p4]) (fun hc hk => ?_) (fun hc hk => ?_) ?_
            · exact xj_ic_ne (tgt := 235) hC dX0_exactTotal_228 (by decide) (fun hn => absurd hc hn) (fun _ => xj_iconst (v := 1) hC dX0_exactTotal_231 (by decide) (xj_goto (tgt := 236) hC dX0_exactTotal_232 (by decide) hk))
            · exact xj_ic_ne (tgt := 235) hC dX0_exactTotal_228 (by decide) (fun _ => xj_iconst (v := 0) hC dX0_exactTotal_235 (by decide) hk) (fun hn => absurd hn hc)
            refine xj_iconst (v := 0) hC dX0_exactTotal_236 (by decide) ?_
            obtain ⟨v9, hc8, hf⟩ := xm_bind hf
            obtain ⟨_, hob, _⟩ := xm_bind hc8
            refine xj_reti (xr_V hC (mX1_withSign l D ks b hc8) hob rfl xw_cod_X1_withSign xw_ini_X1 xw_ins_X1_withSign xw_sel_X1_withSign xw_ml_X0_42 xds_X1_withSign ⟨Nat.le_of_ble_eq_true rfl, Nat.le_of_ble_eq_true rfl⟩ rfl rfl (Nat.le_of_ble_eq_true rfl) ⟨Nat.le_of_ble_eq_true rfl, Nat.le_of_ble_eq_true rfl⟩ dX0_exactTotal_237) ?_
            obtain ⟨he, hw⟩ := Prod.mk.inj (Option.some.inj hf)
            exact xj_iret hC hr (by decide) (by decide) dX0_exactTotal_240 he hw
      · refine xj_aload hC dX0_exactTotal_196 4 rfl ?_
        refine xj_iload hC dX0_exactTotal_198 6 rfl ?_
        refine xj_dia (cnd := 0 ≤ p6) (x := 0) (y := 1) (pc2 := 208) (st2 := [xR p4]) (fun hc hk => ?_) (fun hc hk => ?_) ?_
        · exact xj_if_ge (tgt := 207) hC dX0_exactTotal_200 (by decide) (fun _ => xj_iconst (v := 0) hC dX0_exactTotal_207 (by decide) hk) (fun hn => absurd hc hn)
        · exact xj_if_ge (tgt := 207) hC dX0_exactTotal_200 (by decide) (fun hn => absurd hn hc) (fun _ => xj_iconst (v := 1) hC dX0_exactTotal_203 (by decide) (xj_goto (tgt := 208) hC dX0_exactTotal_204 (by decide) hk))
        obtain ⟨v11, hc10, hf⟩ := xm_bind hf
        obtain ⟨_, hob, _⟩ := xm_bind hc10
        refine xj_reti (xr_V hC (mX1_beyond l D ks b hc10) hob rfl xw_cod_X1_beyond xw_ini_X1 xw_ins_X1_beyond xw_sel_X1_beyond xw_ml_X0_67 xds_X1_beyond ⟨Nat.le_of_ble_eq_true rfl, Nat.le_of_ble_eq_true rfl⟩ rfl rfl (Nat.le_of_ble_eq_true rfl) ⟨Nat.le_of_ble_eq_true rfl, Nat.le_of_ble_eq_true rfl⟩ dX0_exactTotal_208) ?_
        obtain ⟨he, hw⟩ := Prod.mk.inj (Option.some.inj hf)
        exact xj_iret hC hr (by decide) (by decide) dX0_exactTotal_211 he hw
    · refine xj_aload_n hC dX0_exactTotal_29 rfl 1 rfl ?_
      refine xj_iload hC dX0_exactTotal_30 8 rfl ?_
      obtain ⟨v13, hc12, hf⟩ := xm_bind hf
      obtain ⟨_, hob, _⟩ := xm_bind hc12
      refine xj_reti (xr_V hC (mX2_codeAt l D ks b hc12) hob rfl xw_cod_X2_codeAt xw_ini_X2 xw_ins_X2_codeAt xw_sel_X2_codeAt xw_ml_X0_157 xds_X2_codeAt ⟨Nat.le_of_ble_eq_true rfl, Nat.le_of_ble_eq_true rfl⟩ rfl rfl (Nat.le_of_ble_eq_true rfl) ⟨Nat.le_of_ble_eq_true rfl, Nat.le_of_ble_eq_true rfl⟩ dX0_exactTotal_32) ?_
      refine xj_istore (lv' := [(10, xI v13), (0, xR p0), (1, xR p1), (2, xR p2), (3, xI p3), (4, xR p4), (5, xI p5), (6, xI p6), (7, xL p7), (9, xI p9)]) hC dX0_exactTotal_35 (by decide) rfl ?_
      refine xj_aload_n hC dX0_exactTotal_37 rfl 3 rfl ?_
      refine xb_ifnonnull (tgt := 51) hC dX0_exactTotal_38 (by decide) hf (fun hf => ?_) (fun hf => ?_)
      · refine xj_aload hC dX0_exactTotal_51 5 rfl ?_
        refine xj_iload hC dX0_exactTotal_53 0 rfl ?_
        refine xj_aload_n hC dX0_exactTotal_55 rfl 3 rfl ?_
        refine xj_iload hC dX0_exactTotal_56 9 rfl ?_
        obtain ⟨v15, hc14, hf⟩ := xm_bind hf
        obtain ⟨_, hob, _⟩ := xm_bind hc14
        refine xj_reti (xr_V hC (mX2_codeAt l D ks b hc14) hob rfl xw_cod_X2_codeAt xw_ini_X2 xw_ins_X2_codeAt xw_sel_X2_codeAt xw_ml_X0_157 xds_X2_codeAt ⟨Nat.le_of_ble_eq_true rfl, Nat.le_of_ble_eq_true rfl⟩ rfl rfl (Nat.le_of_ble_eq_true rfl) ⟨Nat.le_of_ble_eq_true rfl, Nat.le_of_ble_eq_true rfl⟩ dX0_exactTotal_58) ?_
        obtain ⟨v17, hc16, hf⟩ := xm_bind hf
        obtain ⟨_, hob, _⟩ := xm_bind hc16
        refine xj_retl (xr_V hC (mX1_sizeOfProduct l D ks b hc16) hob rfl xw_cod_X1_sizeOfProduct xw_ini_X1 xw_ins_X1_sizeOfProduct xw_sel_X1_sizeOfProduct xw_ml_X0_134 xds_X1_sizeOfProduct ⟨Nat.le_of_ble_eq_true rfl, Nat.le_of_ble_eq_true rfl⟩ rfl rfl (Nat.le_of_ble_eq_true rfl) ⟨Nat.le_of_ble_eq_true rfl, Nat.le_of_ble_eq_true rfl⟩ dX0_exactTotal_61) ?_
        refine xj_lstore (lv' := [(11, xL v17), (10, xI v13), (0, xR p0), (1, xR p1), (2, xR p2), (3, xI p3), (4, xR p4), (5, xI p5), (6, xI p6), (7, xL p7), (9, xI p9)]) hC dX0_exactTotal_64 (by decide) rfl ?_
        refine xj_aload_n hC dX0_exactTotal_66 rfl 4 rfl ?_
        refine xb_ifnull (tgt := 88) hC dX0_exactTotal_67 (by decide) hf (fun hf => ?_) (fun hf => ?_)
        · refine xj_iconst (v := 0) hC dX0_exactTotal_88 (by decide) ?_
          refine xj_istore (lv' := [(13, xI (0 : Int32)), (11, xL v17), (10, xI v13), (0, xR p0), (1, xR p1), (2, xR p2), (3, xI p3), (4, xR p4), (5, xI p5), (6, xI p6), (7, xL p7), (9, xI p9)]) hC dX0_exactTotal_89 (by decide) rfl ?_
          refine xj_aload hC dX0_exactTotal_91 7 rfl ?_
          refine xj_iload hC dX0_exactTotal_93 2 rfl ?_
          obtain ⟨v19, hc18, hf⟩ := xm_bind hf
          obtain ⟨_, hob, _⟩ := xm_bind hc18
          refine xj_reti (xr_V hC (mX1_isMinus l D ks b hc18) hob rfl xw_cod_X1_isMinus xw_ini_X1 xw_ins_X1_isMinus xw_sel_X1_isMinus xw_ml_X0_87 xds_X1_isMinus ⟨Nat.le_of_ble_eq_true rfl, Nat.le_of_ble_eq_true rfl⟩ rfl rfl (Nat.le_of_ble_eq_true rfl) ⟨Nat.le_of_ble_eq_true rfl, Nat.le_of_ble_eq_true rfl⟩ dX0_exactTotal_95) ?_
          refine xj_iload hC dX0_exactTotal_98 0 rfl ?_
          refine xj_dia (cnd := v19 = (0 : Int32)) (x := 1) (y := -1) (pc2 := 108) (st2 := []) (fun hc hk => ?_) (fun hc hk => ?_) ?_
          · exact xj_ic_eq (tgt := 107) hC dX0_exactTotal_100 (by decide) (fun _ => xj_iconst (v := 1) hC dX0_exactTotal_107 (by decide) hk) (fun hn => absurd hc hn)
          · exact xj_ic_eq (tgt := 107) hC dX0_exactTotal_100 (by decide) (fun hn => absurd hn hc) (fun _ => xj_iconst (v := -1) hC dX0_exactTotal_103 (by decide) (xj_goto (tgt := 108) hC dX0_exactTotal_104 (by decide) hk))
          refine xj_istore (lv' := [(14, xI (if v19 = (0 : Int32) then (1 : Int32) else (-1 : Int32))), (13, xI (0 : Int32)), (11, xL v17), (10, xI v13), (0, xR p0), (1, xR p1), (2, xR p2), (3, xI p3), (4, xR p4), (5, xI p5), (6, xI p6), (7, xL p7), (9, xI p9)]) hC dX0_exactTotal_108 (by decide) rfl ?_
          refine xj_lload hC dX0_exactTotal_110 2 rfl ?_
          refine xj_ldc2 hC xw_cst_X0_91 dX0_exactTotal_112 ?_
          refine xj_lcmp hC dX0_exactTotal_115 ?_
          refine xb_if_ne (tgt := 125) hC dX0_exactTotal_116 (by decide) hf (fun hf => ?_) (fun hf => ?_)
          · refine xj_lload hC dX0_exactTotal_125 2 rfl ?_
            refine xj_ldc2 hC xw_cst_X0_138 dX0_exactTotal_127 ?_
            refine xj_lcmp hC dX0_exactTotal_130 ?_
            refine xb_if_eq (tgt := 151) hC dX0_exactTotal_131 (by decide) hf (fun hf => ?_) (fun hf => ?_)
            · refine xj_aload_n hC dX0_exactTotal_151 rfl 4 rfl ?_
              refine xj_aload hC dX0_exactTotal_152 8 rfl ?_
              obtain ⟨v21, w22, hc20, hf⟩ := xm_b2 hf
              obtain ⟨_, hob, _⟩ := xm_bind hc20
              refine xj_reti (xr_V hC (mX0_invalid l D ks b hc20) hob rfl xw_cod_X0_invalid xw_ini_X0 xw_ins_X0_invalid xw_sel_X0_invalid xw_ml_X0_93 xds_X0_invalid ⟨Nat.le_of_ble_eq_true rfl, Nat.le_of_ble_eq_true rfl⟩ rfl rfl (Nat.le_of_ble_eq_true rfl) ⟨Nat.le_of_ble_eq_true rfl, Nat.le_of_ble_eq_true rfl⟩ dX0_exactTotal_154) ?_
              obtain ⟨he, hw⟩ := Prod.mk.inj (Option.some.inj hf)
              exact xj_iret hC hr (by decide) (by decide) dX0_exactTotal_157 he hw
            · refine xj_lload hC dX0_exactTotal_134 2 rfl ?_
              refine xj_ldc2 hC xw_cst_X0_96 dX0_exactTotal_136 ?_
              refine xj_lcmp hC dX0_exactTotal_139 ?_
              refine xb_if_ne (tgt := 158) hC dX0_exactTotal_140 (by decide) hf (fun hf => ?_) (fun hf => ?_)
              · refine xj_lload hC dX0_exactTotal_158 2 rfl ?_
                refine xj_ldc2 hC xw_cst_X0_96 dX0_exactTotal_160 ?_
                refine xj_lcmp hC dX0_exactTotal_163 ?_
                refine xb_if_ne (tgt := 174) hC dX0_exactTotal_164 (by decide) hf (fun hf => ?_) (fun hf => ?_)
                · refine xj_lload hC dX0_exactTotal_174 11 rfl ?_
                  refine xj_iload hC dX0_exactTotal_176 0 rfl ?_
                  refine xj_i2l hC dX0_exactTotal_178 ?_
                  refine xj_lload hC dX0_exactTotal_179 2 rfl ?_
                  refine xj_lmul hC dX0_exactTotal_181 ?_
                  refine xj_ladd hC dX0_exactTotal_182 ?_
                  refine xj_lstore (lv' := [(7, xL (p7 + (((if v19 = (0 : Int32) then (1 : Int32) else (-1 : Int32))).toInt64 * v17))), (14, xI (if v19 = (0 : Int32) then (1 : Int32) else (-1 : Int32))), (13, xI (0 : Int32)), (11, xL v17), (10, xI v13), (0, xR p0), (1, xR p1), (2, xR p2), (3, xI p3), (4, xR p4), (5, xI p5), (6, xI p6), (9, xI p9)]) hC dX0_exactTotal_183 (by decide) rfl ?_
                  refine xj_iinc (v := (p9 + (1 : Int32))) (lv' := [(9, xI (p9 + (1 : Int32))), (7, xL (p7 + (((if v19 = (0 : Int32) then (1 : Int32) else (-1 : Int32))).toInt64 * v17))), (14, xI (if v19 = (0 : Int32) then (1 : Int32) else (-1 : Int32))), (13, xI (0 : Int32)), (11, xL v17), (10, xI v13), (0, xR p0), (1, xR p1), (2, xR p2), (3, xI p3), (4, xR p4), (5, xI p5), (6, xI p6)]) hC dX0_exactTotal_185 12 rfl rfl (by decide) rfl ?_
                  refine xj_goto (tgt := 22) hC dX0_exactTotal_188 (by decide) ?_
                  refine xj_lv [6, 7, 8, 9, 10, 11, 12, 1, 0] rfl ?_
                  exact ih w (p0) (p1) (p2) (p3) (p4) (p5) (p6) ((p7 + (((if v19 = (0 : Int32) then (1 : Int32) else (-1 : Int32))).toInt64 * v17))) ((p9 + (1 : Int32)))  hf
                · refine xj_iload hC dX0_exactTotal_167 0 rfl ?_
                  refine xj_istore (lv' := [(6, xI (if v19 = (0 : Int32) then (1 : Int32) else (-1 : Int32))), (14, xI (if v19 = (0 : Int32) then (1 : Int32) else (-1 : Int32))), (13, xI (0 : Int32)), (11, xL v17), (10, xI v13), (0, xR p0), (1, xR p1), (2, xR p2), (3, xI p3), (4, xR p4), (5, xI p5), (7, xL p7), (9, xI p9)]) hC dX0_exactTotal_169 (by decide) rfl ?_
                  refine xj_goto (tgt := 185) hC dX0_exactTotal_171 (by decide) ?_
                  refine xj_iinc (v := (p9 + (1 : Int32))) (lv' := [(9, xI (p9 + (1 : Int32))), (6, xI (if v19 = (0 : Int32) then (1 : Int32) else (-1 : Int32))), (14, xI (if v19 = (0 : Int32) then (1 : Int32) else (-1 : Int32))), (13, xI (0 : Int32)), (11, xL v17), (10, xI v13), (0, xR p0), (1, xR p1), (2, xR p2), (3, xI p3), (4, xR p4), (5, xI p5), (7, xL p7)]) hC dX0_exactTotal_185 12 rfl rfl (by decide) rfl ?_
                  refine xj_goto (tgt := 22) hC dX0_exactTotal_188 (by decide) ?_
                  refine xj_lv [6, 7, 8, 9, 10, 11, 1, 12, 0] rfl ?_
                  exact ih w (p0) (p1) (p2) (p3) (p4) (p5) ((if v19 = (0 : Int32) then (1 : Int32) else (-1 : Int32))) (p7) ((p9 + (1 : Int32)))  hf
              · refine xj_iload hC dX0_exactTotal_143 10 rfl ?_
                refine xj_iload hC dX0_exactTotal_145 0 rfl ?_
                refine xj_ineg hC dX0_exactTotal_147 ?_
                refine xb_ic_ne (tgt := 158) hC dX0_exactTotal_148 (by decide) hf (fun hf => ?_) (fun hf => ?_)
                · refine xj_lload hC dX0_exactTotal_158 2 rfl ?_
                  refine xj_ldc2 hC xw_cst_X0_96 dX0_exactTotal_160 ?_
                  refine xj_lcmp hC dX0_exactTotal_163 ?_
                  refine xb_if_ne (tgt := 174) hC dX0_exactTotal_164 (by decide) hf (fun hf => ?_) (fun hf => ?_)
                  · refine xj_lload hC dX0_exactTotal_174 11 rfl ?_
                    refine xj_iload hC dX0_exactTotal_176 0 rfl ?_
                    refine xj_i2l hC dX0_exactTotal_178 ?_
                    refine xj_lload hC dX0_exactTotal_179 2 rfl ?_
                    refine xj_lmul hC dX0_exactTotal_181 ?_
                    refine xj_ladd hC dX0_exactTotal_182 ?_
                    refine xj_lstore (lv' := [(7, xL (p7 + (((if v19 = (0 : Int32) then (1 : Int32) else (-1 : Int32))).toInt64 * v17))), (14, xI (if v19 = (0 : Int32) then (1 : Int32) else (-1 : Int32))), (13, xI (0 : Int32)), (11, xL v17), (10, xI v13), (0, xR p0), (1, xR p1), (2, xR p2), (3, xI p3), (4, xR p4), (5, xI p5), (6, xI p6), (9, xI p9)]) hC dX0_exactTotal_183 (by decide) rfl ?_
                    refine xj_iinc (v := (p9 + (1 : Int32))) (lv' := [(9, xI (p9 + (1 : Int32))), (7, xL (p7 + (((if v19 = (0 : Int32) then (1 : Int32) else (-1 : Int32))).toInt64 * v17))), (14, xI (if v19 = (0 : Int32) then (1 : Int32) else (-1 : Int32))), (13, xI (0 : Int32)), (11, xL v17), (10, xI v13), (0, xR p0), (1, xR p1), (2, xR p2), (3, xI p3), (4, xR p4), (5, xI p5), (6, xI p6)]) hC dX0_exactTotal_185 12 rfl rfl (by decide) rfl ?_
                    refine xj_goto (tgt := 22) hC dX0_exactTotal_188 (by decide) ?_
                    refine xj_lv [6, 7, 8, 9, 10, 11, 12, 1, 0] rfl ?_
                    exact ih w (p0) (p1) (p2) (p3) (p4) (p5) (p6) ((p7 + (((if v19 = (0 : Int32) then (1 : Int32) else (-1 : Int32))).toInt64 * v17))) ((p9 + (1 : Int32)))  hf
                  · refine xj_iload hC dX0_exactTotal_167 0 rfl ?_
                    refine xj_istore (lv' := [(6, xI (if v19 = (0 : Int32) then (1 : Int32) else (-1 : Int32))), (14, xI (if v19 = (0 : Int32) then (1 : Int32) else (-1 : Int32))), (13, xI (0 : Int32)), (11, xL v17), (10, xI v13), (0, xR p0), (1, xR p1), (2, xR p2), (3, xI p3), (4, xR p4), (5, xI p5), (7, xL p7), (9, xI p9)]) hC dX0_exactTotal_169 (by decide) rfl ?_
                    refine xj_goto (tgt := 185) hC dX0_exactTotal_171 (by decide) ?_
                    refine xj_iinc (v := (p9 + (1 : Int32))) (lv' := [(9, xI (p9 + (1 : Int32))), (6, xI (if v19 = (0 : Int32) then (1 : Int32) else (-1 : Int32))), (14, xI (if v19 = (0 : Int32) then (1 : Int32) else (-1 : Int32))), (13, xI (0 : Int32)), (11, xL v17), (10, xI v13), (0, xR p0), (1, xR p1), (2, xR p2), (3, xI p3), (4, xR p4), (5, xI p5), (7, xL p7)]) hC dX0_exactTotal_185 12 rfl rfl (by decide) rfl ?_
                    refine xj_goto (tgt := 22) hC dX0_exactTotal_188 (by decide) ?_
                    refine xj_lv [6, 7, 8, 9, 10, 11, 1, 12, 0] rfl ?_
                    exact ih w (p0) (p1) (p2) (p3) (p4) (p5) ((if v19 = (0 : Int32) then (1 : Int32) else (-1 : Int32))) (p7) ((p9 + (1 : Int32)))  hf
                · refine xj_aload_n hC dX0_exactTotal_151 rfl 4 rfl ?_
                  refine xj_aload hC dX0_exactTotal_152 8 rfl ?_
                  obtain ⟨v24, w25, hc23, hf⟩ := xm_b2 hf
                  obtain ⟨_, hob, _⟩ := xm_bind hc23
                  refine xj_reti (xr_V hC (mX0_invalid l D ks b hc23) hob rfl xw_cod_X0_invalid xw_ini_X0 xw_ins_X0_invalid xw_sel_X0_invalid xw_ml_X0_93 xds_X0_invalid ⟨Nat.le_of_ble_eq_true rfl, Nat.le_of_ble_eq_true rfl⟩ rfl rfl (Nat.le_of_ble_eq_true rfl) ⟨Nat.le_of_ble_eq_true rfl, Nat.le_of_ble_eq_true rfl⟩ dX0_exactTotal_154) ?_
                  obtain ⟨he, hw⟩ := Prod.mk.inj (Option.some.inj hf)
                  exact xj_iret hC hr (by decide) (by decide) dX0_exactTotal_157 he hw
          · refine xj_aload hC dX0_exactTotal_119 8 rfl ?_
            obtain ⟨v27, hc26, hf⟩ := xm_bind hf
            obtain ⟨_, hob, _⟩ := xm_bind hc26
            refine xj_reti (xr_V hC (mX1_noneCode l D ks b hc26) hob rfl xw_cod_X1_noneCode xw_ini_X1 xw_ins_X1_noneCode xw_sel_X1_noneCode xw_ml_X0_22 xds_X1_noneCode ⟨Nat.le_of_ble_eq_true rfl, Nat.le_of_ble_eq_true rfl⟩ rfl rfl (Nat.le_of_ble_eq_true rfl) ⟨Nat.le_of_ble_eq_true rfl, Nat.le_of_ble_eq_true rfl⟩ dX0_exactTotal_121) ?_
            obtain ⟨he, hw⟩ := Prod.mk.inj (Option.some.inj hf)
            exact xj_iret hC hr (by decide) (by decide) dX0_exactTotal_124 he hw
        · refine xj_aload hC dX0_exactTotal_70 6 rfl ?_
          refine xj_aload_n hC dX0_exactTotal_72 rfl 4 rfl ?_
          refine xj_iload hC dX0_exactTotal_73 10 rfl ?_
          obtain ⟨v29, hc28, hf⟩ := xm_bind hf
          obtain ⟨_, hob, _⟩ := xm_bind hc28
          refine xj_reti (xr_V hC (mX2_codeAt l D ks b hc28) hob rfl xw_cod_X2_codeAt xw_ini_X2 xw_ins_X2_codeAt xw_sel_X2_codeAt xw_ml_X0_157 xds_X2_codeAt ⟨Nat.le_of_ble_eq_true rfl, Nat.le_of_ble_eq_true rfl⟩ rfl rfl (Nat.le_of_ble_eq_true rfl) ⟨Nat.le_of_ble_eq_true rfl, Nat.le_of_ble_eq_true rfl⟩ dX0_exactTotal_75) ?_
          obtain ⟨v31, hc30, hf⟩ := xm_bind hf
          obtain ⟨_, hob, _⟩ := xm_bind hc30
          refine xj_reti (xr_V hC (mX1_isMinus l D ks b hc30) hob rfl xw_cod_X1_isMinus xw_ini_X1 xw_ins_X1_isMinus xw_sel_X1_isMinus xw_ml_X0_87 xds_X1_isMinus ⟨Nat.le_of_ble_eq_true rfl, Nat.le_of_ble_eq_true rfl⟩ rfl rfl (Nat.le_of_ble_eq_true rfl) ⟨Nat.le_of_ble_eq_true rfl, Nat.le_of_ble_eq_true rfl⟩ dX0_exactTotal_78) ?_
          refine xj_dia (cnd := v31 = 0) (x := 0) (y := 1) (pc2 := 89) (st2 := []) (fun hc hk => ?_) (fun hc hk => ?_) ?_
          · exact xj_if_eq (tgt := 88) hC dX0_exactTotal_81 (by decide) (fun _ => xj_iconst (v := 0) hC dX0_exactTotal_88 (by decide) hk) (fun hn => absurd hc hn)
          · exact xj_if_eq (tgt := 88) hC dX0_exactTotal_81 (by decide) (fun hn => absurd hn hc) (fun _ => xj_iconst (v := 1) hC dX0_exactTotal_84 (by decide) (xj_goto (tgt := 89) hC dX0_exactTotal_85 (by decide) hk))
          refine xj_istore (lv' := [(13, xI (if v31 = 0 then (0 : Int32) else (1 : Int32))), (11, xL v17), (10, xI v13), (0, xR p0), (1, xR p1), (2, xR p2), (3, xI p3), (4, xR p4), (5, xI p5), (6, xI p6), (7, xL p7), (9, xI p9)]) hC dX0_exactTotal_89 (by decide) rfl ?_
          refine xj_aload hC dX0_exactTotal_91 7 rfl ?_
          refine xj_iload hC dX0_exactTotal_93 2 rfl ?_
          obtain ⟨v33, hc32, hf⟩ := xm_bind hf
          obtain ⟨_, hob, _⟩ := xm_bind hc32
          refine xj_reti (xr_V hC (mX1_isMinus l D ks b hc32) hob rfl xw_cod_X1_isMinus xw_ini_X1 xw_ins_X1_isMinus xw_sel_X1_isMinus xw_ml_X0_87 xds_X1_isMinus ⟨Nat.le_of_ble_eq_true rfl, Nat.le_of_ble_eq_true rfl⟩ rfl rfl (Nat.le_of_ble_eq_true rfl) ⟨Nat.le_of_ble_eq_true rfl, Nat.le_of_ble_eq_true rfl⟩ dX0_exactTotal_95) ?_
          refine xj_iload hC dX0_exactTotal_98 0 rfl ?_
          refine xj_dia (cnd := v33 = (if v31 = 0 then (0 : Int32) else (1 : Int32))) (x := 1) (y := -1) (pc2 := 108) (st2 := []) (fun hc hk => ?_) (fun hc hk => ?_) ?_
          · exact xj_ic_eq (tgt := 107) hC dX0_exactTotal_100 (by decide) (fun _ => xj_iconst (v := 1) hC dX0_exactTotal_107 (by decide) hk) (fun hn => absurd hc hn)
          · exact xj_ic_eq (tgt := 107) hC dX0_exactTotal_100 (by decide) (fun hn => absurd hn hc) (fun _ => xj_iconst (v := -1) hC dX0_exactTotal_103 (by decide) (xj_goto (tgt := 108) hC dX0_exactTotal_104 (by decide) hk))
          refine xj_istore (lv' := [(14, xI (if v33 = (if v31 = 0 then (0 : Int32) else (1 : Int32)) then (1 : Int32) else (-1 : Int32))), (13, xI (if v31 = 0 then (0 : Int32) else (1 : Int32))), (11, xL v17), (10, xI v13), (0, xR p0), (1, xR p1), (2, xR p2), (3, xI p3), (4, xR p4), (5, xI p5), (6, xI p6), (7, xL p7), (9, xI p9)]) hC dX0_exactTotal_108 (by decide) rfl ?_
          refine xj_lload hC dX0_exactTotal_110 2 rfl ?_
          refine xj_ldc2 hC xw_cst_X0_91 dX0_exactTotal_112 ?_
          refine xj_lcmp hC dX0_exactTotal_115 ?_
          refine xb_if_ne (tgt := 125) hC dX0_exactTotal_116 (by decide) hf (fun hf => ?_) (fun hf => ?_)
          · refine xj_lload hC dX0_exactTotal_125 2 rfl ?_
            refine xj_ldc2 hC xw_cst_X0_138 dX0_exactTotal_127 ?_
            refine xj_lcmp hC dX0_exactTotal_130 ?_
            refine xb_if_eq (tgt := 151) hC dX0_exactTotal_131 (by decide) hf (fun hf => ?_) (fun hf => ?_)
            · refine xj_aload_n hC dX0_exactTotal_151 rfl 4 rfl ?_
              refine xj_aload hC dX0_exactTotal_152 8 rfl ?_
              obtain ⟨v35, w36, hc34, hf⟩ := xm_b2 hf
              obtain ⟨_, hob, _⟩ := xm_bind hc34
              refine xj_reti (xr_V hC (mX0_invalid l D ks b hc34) hob rfl xw_cod_X0_invalid xw_ini_X0 xw_ins_X0_invalid xw_sel_X0_invalid xw_ml_X0_93 xds_X0_invalid ⟨Nat.le_of_ble_eq_true rfl, Nat.le_of_ble_eq_true rfl⟩ rfl rfl (Nat.le_of_ble_eq_true rfl) ⟨Nat.le_of_ble_eq_true rfl, Nat.le_of_ble_eq_true rfl⟩ dX0_exactTotal_154) ?_
              obtain ⟨he, hw⟩ := Prod.mk.inj (Option.some.inj hf)
              exact xj_iret hC hr (by decide) (by decide) dX0_exactTotal_157 he hw
            · refine xj_lload hC dX0_exactTotal_134 2 rfl ?_
              refine xj_ldc2 hC xw_cst_X0_96 dX0_exactTotal_136 ?_
              refine xj_lcmp hC dX0_exactTotal_139 ?_
              refine xb_if_ne (tgt := 158) hC dX0_exactTotal_140 (by decide) hf (fun hf => ?_) (fun hf => ?_)
              · refine xj_lload hC dX0_exactTotal_158 2 rfl ?_
                refine xj_ldc2 hC xw_cst_X0_96 dX0_exactTotal_160 ?_
                refine xj_lcmp hC dX0_exactTotal_163 ?_
                refine xb_if_ne (tgt := 174) hC dX0_exactTotal_164 (by decide) hf (fun hf => ?_) (fun hf => ?_)
                · refine xj_lload hC dX0_exactTotal_174 11 rfl ?_
                  refine xj_iload hC dX0_exactTotal_176 0 rfl ?_
                  refine xj_i2l hC dX0_exactTotal_178 ?_
                  refine xj_lload hC dX0_exactTotal_179 2 rfl ?_
                  refine xj_lmul hC dX0_exactTotal_181 ?_
                  refine xj_ladd hC dX0_exactTotal_182 ?_
                  refine xj_lstore (lv' := [(7, xL (p7 + (((if v33 = (if v31 = 0 then (0 : Int32) else (1 : Int32)) then (1 : Int32) else (-1 : Int32))).toInt64 * v17))), (14, xI (if v33 = (if v31 = 0 then (0 : Int32) else (1 : Int32)) then (1 : Int32) else (-1 : Int32))), (13, xI (if v31 = 0 then (0 : Int32) else (1 : Int32))), (11, xL v17), (10, xI v13), (0, xR p0), (1, xR p1), (2, xR p2), (3, xI p3), (4, xR p4), (5, xI p5), (6, xI p6), (9, xI p9)]) hC dX0_exactTotal_183 (by decide) rfl ?_
                  refine xj_iinc (v := (p9 + (1 : Int32))) (lv' := [(9, xI (p9 + (1 : Int32))), (7, xL (p7 + (((if v33 = (if v31 = 0 then (0 : Int32) else (1 : Int32)) then (1 : Int32) else (-1 : Int32))).toInt64 * v17))), (14, xI (if v33 = (if v31 = 0 then (0 : Int32) else (1 : Int32)) then (1 : Int32) else (-1 : Int32))), (13, xI (if v31 = 0 then (0 : Int32) else (1 : Int32))), (11, xL v17), (10, xI v13), (0, xR p0), (1, xR p1), (2, xR p2), (3, xI p3), (4, xR p4), (5, xI p5), (6, xI p6)]) hC dX0_exactTotal_185 12 rfl rfl (by decide) rfl ?_
                  refine xj_goto (tgt := 22) hC dX0_exactTotal_188 (by decide) ?_
                  refine xj_lv [6, 7, 8, 9, 10, 11, 12, 1, 0] rfl ?_
                  exact ih w (p0) (p1) (p2) (p3) (p4) (p5) (p6) ((p7 + (((if v33 = (if v31 = 0 then (0 : Int32) else (1 : Int32)) then (1 : Int32) else (-1 : Int32))).toInt64 * v17))) ((p9 + (1 : Int32)))  hf
                · refine xj_iload hC dX0_exactTotal_167 0 rfl ?_
                  refine xj_istore (lv' := [(6, xI (if v33 = (if v31 = 0 then (0 : Int32) else (1 : Int32)) then (1 : Int32) else (-1 : Int32))), (14, xI (if v33 = (if v31 = 0 then (0 : Int32) else (1 : Int32)) then (1 : Int32) else (-1 : Int32))), (13, xI (if v31 = 0 then (0 : Int32) else (1 : Int32))), (11, xL v17), (10, xI v13), (0, xR p0), (1, xR p1), (2, xR p2), (3, xI p3), (4, xR p4), (5, xI p5), (7, xL p7), (9, xI p9)]) hC dX0_exactTotal_169 (by decide) rfl ?_
                  refine xj_goto (tgt := 185) hC dX0_exactTotal_171 (by decide) ?_
                  refine xj_iinc (v := (p9 + (1 : Int32))) (lv' := [(9, xI (p9 + (1 : Int32))), (6, xI (if v33 = (if v31 = 0 then (0 : Int32) else (1 : Int32)) then (1 : Int32) else (-1 : Int32))), (14, xI (if v33 = (if v31 = 0 then (0 : Int32) else (1 : Int32)) then (1 : Int32) else (-1 : Int32))), (13, xI (if v31 = 0 then (0 : Int32) else (1 : Int32))), (11, xL v17), (10, xI v13), (0, xR p0), (1, xR p1), (2, xR p2), (3, xI p3), (4, xR p4), (5, xI p5), (7, xL p7)]) hC dX0_exactTotal_185 12 rfl rfl (by decide) rfl ?_
                  refine xj_goto (tgt := 22) hC dX0_exactTotal_188 (by decide) ?_
                  refine xj_lv [6, 7, 8, 9, 10, 11, 1, 12, 0] rfl ?_
                  exact ih w (p0) (p1) (p2) (p3) (p4) (p5) ((if v33 = (if v31 = 0 then (0 : Int32) else (1 : Int32)) then (1 : Int32) else (-1 : Int32))) (p7) ((p9 + (1 : Int32)))  hf
              · refine xj_iload hC dX0_exactTotal_143 10 rfl ?_
                refine xj_iload hC dX0_exactTotal_145 0 rfl ?_
                refine xj_ineg hC dX0_exactTotal_147 ?_
                refine xb_ic_ne (tgt := 158) hC dX0_exactTotal_148 (by decide) hf (fun hf => ?_) (fun hf => ?_)
                · refine xj_lload hC dX0_exactTotal_158 2 rfl ?_
                  refine xj_ldc2 hC xw_cst_X0_96 dX0_exactTotal_160 ?_
                  refine xj_lcmp hC dX0_exactTotal_163 ?_
                  refine xb_if_ne (tgt := 174) hC dX0_exactTotal_164 (by decide) hf (fun hf => ?_) (fun hf => ?_)
                  · refine xj_lload hC dX0_exactTotal_174 11 rfl ?_
                    refine xj_iload hC dX0_exactTotal_176 0 rfl ?_
                    refine xj_i2l hC dX0_exactTotal_178 ?_
                    refine xj_lload hC dX0_exactTotal_179 2 rfl ?_
                    refine xj_lmul hC dX0_exactTotal_181 ?_
                    refine xj_ladd hC dX0_exactTotal_182 ?_
                    refine xj_lstore (lv' := [(7, xL (p7 + (((if v33 = (if v31 = 0 then (0 : Int32) else (1 : Int32)) then (1 : Int32) else (-1 : Int32))).toInt64 * v17))), (14, xI (if v33 = (if v31 = 0 then (0 : Int32) else (1 : Int32)) then (1 : Int32) else (-1 : Int32))), (13, xI (if v31 = 0 then (0 : Int32) else (1 : Int32))), (11, xL v17), (10, xI v13), (0, xR p0), (1, xR p1), (2, xR p2), (3, xI p3), (4, xR p4), (5, xI p5), (6, xI p6), (9, xI p9)]) hC dX0_exactTotal_183 (by decide) rfl ?_
                    refine xj_iinc (v := (p9 + (1 : Int32))) (lv' := [(9, xI (p9 + (1 : Int32))), (7, xL (p7 + (((if v33 = (if v31 = 0 then (0 : Int32) else (1 : Int32)) then (1 : Int32) else (-1 : Int32))).toInt64 * v17))), (14, xI (if v33 = (if v31 = 0 then (0 : Int32) else (1 : Int32)) then (1 : Int32) else (-1 : Int32))), (13, xI (if v31 = 0 then (0 : Int32) else (1 : Int32))), (11, xL v17), (10, xI v13), (0, xR p0), (1, xR p1), (2, xR p2), (3, xI p3), (4, xR p4), (5, xI p5), (6, xI p6)]) hC dX0_exactTotal_185 12 rfl rfl (by decide) rfl ?_
                    refine xj_goto (tgt := 22) hC dX0_exactTotal_188 (by decide) ?_
                    refine xj_lv [6, 7, 8, 9, 10, 11, 12, 1, 0] rfl ?_
                    exact ih w (p0) (p1) (p2) (p3) (p4) (p5) (p6) ((p7 + (((if v33 = (if v31 = 0 then (0 : Int32) else (1 : Int32)) then (1 : Int32) else (-1 : Int32))).toInt64 * v17))) ((p9 + (1 : Int32)))  hf
                  · refine xj_iload hC dX0_exactTotal_167 0 rfl ?_
                    refine xj_istore (lv' := [(6, xI (if v33 = (if v31 = 0 then (0 : Int32) else (1 : Int32)) then (1 : Int32) else (-1 : Int32))), (14, xI (if v33 = (if v31 = 0 then (0 : Int32) else (1 : Int32)) then (1 : Int32) else (-1 : Int32))), (13, xI (if v31 = 0 then (0 : Int32) else (1 : Int32))), (11, xL v17), (10, xI v13), (0, xR p0), (1, xR p1), (2, xR p2), (3, xI p3), (4, xR p4), (5, xI p5), (7, xL p7), (9, xI p9)]) hC dX0_exactTotal_169 (by decide) rfl ?_
                    refine xj_goto (tgt := 185) hC dX0_exactTotal_171 (by decide) ?_
                    refine xj_iinc (v := (p9 + (1 : Int32))) (lv' := [(9, xI (p9 + (1 : Int32))), (6, xI (if v33 = (if v31 = 0 then (0 : Int32) else (1 : Int32)) then (1 : Int32) else (-1 : Int32))), (14, xI (if v33 = (if v31 = 0 then (0 : Int32) else (1 : Int32)) then (1 : Int32) else (-1 : Int32))), (13, xI (if v31 = 0 then (0 : Int32) else (1 : Int32))), (11, xL v17), (10, xI v13), (0, xR p0), (1, xR p1), (2, xR p2), (3, xI p3), (4, xR p4), (5, xI p5), (7, xL p7)]) hC dX0_exactTotal_185 12 rfl rfl (by decide) rfl ?_
                    refine xj_goto (tgt := 22) hC dX0_exactTotal_188 (by decide) ?_
                    refine xj_lv [6, 7, 8, 9, 10, 11, 1, 12, 0] rfl ?_
                    exact ih w (p0) (p1) (p2) (p3) (p4) (p5) ((if v33 = (if v31 = 0 then (0 : Int32) else (1 : Int32)) then (1 : Int32) else (-1 : Int32))) (p7) ((p9 + (1 : Int32)))  hf
                · refine xj_aload_n hC dX0_exactTotal_151 rfl 4 rfl ?_
                  refine xj_aload hC dX0_exactTotal_152 8 rfl ?_
                  obtain ⟨v38, w39, hc37, hf⟩ := xm_b2 hf
                  obtain ⟨_, hob, _⟩ := xm_bind hc37
                  refine xj_reti (xr_V hC (mX0_invalid l D ks b hc37) hob rfl xw_cod_X0_invalid xw_ini_X0 xw_ins_X0_invalid xw_sel_X0_invalid xw_ml_X0_93 xds_X0_invalid ⟨Nat.le_of_ble_eq_true rfl, Nat.le_of_ble_eq_true rfl⟩ rfl rfl (Nat.le_of_ble_eq_true rfl) ⟨Nat.le_of_ble_eq_true rfl, Nat.le_of_ble_eq_true rfl⟩ dX0_exactTotal_154) ?_
                  obtain ⟨he, hw⟩ := Prod.mk.inj (Option.some.inj hf)
                  exact xj_iret hC hr (by decide) (by decide) dX0_exactTotal_157 he hw
          · refine xj_aload hC dX0_exactTotal_119 8 rfl ?_
            obtain ⟨v41, hc40, hf⟩ := xm_bind hf
            obtain ⟨_, hob, _⟩ := xm_bind hc40
            refine xj_reti (xr_V hC (mX1_noneCode l D ks b hc40) hob rfl xw_cod_X1_noneCode xw_ini_X1 xw_ins_X1_noneCode xw_sel_X1_noneCode xw_ml_X0_22 xds_X1_noneCode ⟨Nat.le_of_ble_eq_true rfl, Nat.le_of_ble_eq_true rfl⟩ rfl rfl (Nat.le_of_ble_eq_true rfl) ⟨Nat.le_of_ble_eq_true rfl, Nat.le_of_ble_eq_true rfl⟩ dX0_exactTotal_121) ?_
            obtain ⟨he, hw⟩ := Prod.mk.inj (Option.some.inj hf)
            exact xj_iret hC hr (by decide) (by decide) dX0_exactTotal_124 he hw
      · refine xj_aload hC dX0_exactTotal_41 5 rfl ?_
        refine xj_iload hC dX0_exactTotal_43 0 rfl ?_
        obtain ⟨v43, hc42, hf⟩ := xm_bind hf
        obtain ⟨_, hob, _⟩ := xm_bind hc42
        refine xj_retl (xr_V hC (mX1_sizeOf l D ks b hc42) hob rfl xw_cod_X1_sizeOf xw_ini_X1 xw_ins_X1_sizeOf xw_sel_X1_sizeOf xw_ml_X0_84 xds_X1_sizeOf ⟨Nat.le_of_ble_eq_true rfl, Nat.le_of_ble_eq_true rfl⟩ rfl rfl (Nat.le_of_ble_eq_true rfl) ⟨Nat.le_of_ble_eq_true rfl, Nat.le_of_ble_eq_true rfl⟩ dX0_exactTotal_45) ?_
        refine xj_goto (tgt := 64) hC dX0_exactTotal_48 (by decide) ?_
        refine xj_lstore (lv' := [(11, xL v43), (10, xI v13), (0, xR p0), (1, xR p1), (2, xR p2), (3, xI p3), (4, xR p4), (5, xI p5), (6, xI p6), (7, xL p7), (9, xI p9)]) hC dX0_exactTotal_64 (by decide) rfl ?_
        refine xj_aload_n hC dX0_exactTotal_66 rfl 4 rfl ?_
        refine xb_ifnull (tgt := 88) hC dX0_exactTotal_67 (by decide) hf (fun hf => ?_) (fun hf => ?_)
        · refine xj_iconst (v := 0) hC dX0_exactTotal_88 (by decide) ?_
          refine xj_istore (lv' := [(13, xI (0 : Int32)), (11, xL v43), (10, xI v13), (0, xR p0), (1, xR p1), (2, xR p2), (3, xI p3), (4, xR p4), (5, xI p5), (6, xI p6), (7, xL p7), (9, xI p9)]) hC dX0_exactTotal_89 (by decide) rfl ?_
          refine xj_aload hC dX0_exactTotal_91 7 rfl ?_
          refine xj_iload hC dX0_exactTotal_93 2 rfl ?_
          obtain ⟨v45, hc44, hf⟩ := xm_bind hf
          obtain ⟨_, hob, _⟩ := xm_bind hc44
          refine xj_reti (xr_V hC (mX1_isMinus l D ks b hc44) hob rfl xw_cod_X1_isMinus xw_ini_X1 xw_ins_X1_isMinus xw_sel_X1_isMinus xw_ml_X0_87 xds_X1_isMinus ⟨Nat.le_of_ble_eq_true rfl, Nat.le_of_ble_eq_true rfl⟩ rfl rfl (Nat.le_of_ble_eq_true rfl) ⟨Nat.le_of_ble_eq_true rfl, Nat.le_of_ble_eq_true rfl⟩ dX0_exactTotal_95) ?_
          refine xj_iload hC dX0_exactTotal_98 0 rfl ?_
          refine xj_dia (cnd := v45 = (0 : Int32)) (x := 1) (y := -1) (pc2 := 108) (st2 := []) (fun hc hk => ?_) (fun hc hk => ?_) ?_
          · exact xj_ic_eq (tgt := 107) hC dX0_exactTotal_100 (by decide) (fun _ => xj_iconst (v := 1) hC dX0_exactTotal_107 (by decide) hk) (fun hn => absurd hc hn)
          · exact xj_ic_eq (tgt := 107) hC dX0_exactTotal_100 (by decide) (fun hn => absurd hn hc) (fun _ => xj_iconst (v := -1) hC dX0_exactTotal_103 (by decide) (xj_goto (tgt := 108) hC dX0_exactTotal_104 (by decide) hk))
          refine xj_istore (lv' := [(14, xI (if v45 = (0 : Int32) then (1 : Int32) else (-1 : Int32))), (13, xI (0 : Int32)), (11, xL v43), (10, xI v13), (0, xR p0), (1, xR p1), (2, xR p2), (3, xI p3), (4, xR p4), (5, xI p5), (6, xI p6), (7, xL p7), (9, xI p9)]) hC dX0_exactTotal_108 (by decide) rfl ?_
          refine xj_lload hC dX0_exactTotal_110 2 rfl ?_
          refine xj_ldc2 hC xw_cst_X0_91 dX0_exactTotal_112 ?_
          refine xj_lcmp hC dX0_exactTotal_115 ?_
          refine xb_if_ne (tgt := 125) hC dX0_exactTotal_116 (by decide) hf (fun hf => ?_) (fun hf => ?_)
          · refine xj_lload hC dX0_exactTotal_125 2 rfl ?_
            refine xj_ldc2 hC xw_cst_X0_138 dX0_exactTotal_127 ?_
            refine xj_lcmp hC dX0_exactTotal_130 ?_
            refine xb_if_eq (tgt := 151) hC dX0_exactTotal_131 (by decide) hf (fun hf => ?_) (fun hf => ?_)
            · refine xj_aload_n hC dX0_exactTotal_151 rfl 4 rfl ?_
              refine xj_aload hC dX0_exactTotal_152 8 rfl ?_
              obtain ⟨v47, w48, hc46, hf⟩ := xm_b2 hf
              obtain ⟨_, hob, _⟩ := xm_bind hc46
              refine xj_reti (xr_V hC (mX0_invalid l D ks b hc46) hob rfl xw_cod_X0_invalid xw_ini_X0 xw_ins_X0_invalid xw_sel_X0_invalid xw_ml_X0_93 xds_X0_invalid ⟨Nat.le_of_ble_eq_true rfl, Nat.le_of_ble_eq_true rfl⟩ rfl rfl (Nat.le_of_ble_eq_true rfl) ⟨Nat.le_of_ble_eq_true rfl, Nat.le_of_ble_eq_true rfl⟩ dX0_exactTotal_154) ?_
              obtain ⟨he, hw⟩ := Prod.mk.inj (Option.some.inj hf)
              exact xj_iret hC hr (by decide) (by decide) dX0_exactTotal_157 he hw
            · refine xj_lload hC dX0_exactTotal_134 2 rfl ?_
              refine xj_ldc2 hC xw_cst_X0_96 dX0_exactTotal_136 ?_
              refine xj_lcmp hC dX0_exactTotal_139 ?_
              refine xb_if_ne (tgt := 158) hC dX0_exactTotal_140 (by decide) hf (fun hf => ?_) (fun hf => ?_)
              · refine xj_lload hC dX0_exactTotal_158 2 rfl ?_
                refine xj_ldc2 hC xw_cst_X0_96 dX0_exactTotal_160 ?_
                refine xj_lcmp hC dX0_exactTotal_163 ?_
                refine xb_if_ne (tgt := 174) hC dX0_exactTotal_164 (by decide) hf (fun hf => ?_) (fun hf => ?_)
                · refine xj_lload hC dX0_exactTotal_174 11 rfl ?_
                  refine xj_iload hC dX0_exactTotal_176 0 rfl ?_
                  refine xj_i2l hC dX0_exactTotal_178 ?_
                  refine xj_lload hC dX0_exactTotal_179 2 rfl ?_
                  refine xj_lmul hC dX0_exactTotal_181 ?_
                  refine xj_ladd hC dX0_exactTotal_182 ?_
                  refine xj_lstore (lv' := [(7, xL (p7 + (((if v45 = (0 : Int32) then (1 : Int32) else (-1 : Int32))).toInt64 * v43))), (14, xI (if v45 = (0 : Int32) then (1 : Int32) else (-1 : Int32))), (13, xI (0 : Int32)), (11, xL v43), (10, xI v13), (0, xR p0), (1, xR p1), (2, xR p2), (3, xI p3), (4, xR p4), (5, xI p5), (6, xI p6), (9, xI p9)]) hC dX0_exactTotal_183 (by decide) rfl ?_
                  refine xj_iinc (v := (p9 + (1 : Int32))) (lv' := [(9, xI (p9 + (1 : Int32))), (7, xL (p7 + (((if v45 = (0 : Int32) then (1 : Int32) else (-1 : Int32))).toInt64 * v43))), (14, xI (if v45 = (0 : Int32) then (1 : Int32) else (-1 : Int32))), (13, xI (0 : Int32)), (11, xL v43), (10, xI v13), (0, xR p0), (1, xR p1), (2, xR p2), (3, xI p3), (4, xR p4), (5, xI p5), (6, xI p6)]) hC dX0_exactTotal_185 12 rfl rfl (by decide) rfl ?_
                  refine xj_goto (tgt := 22) hC dX0_exactTotal_188 (by decide) ?_
                  refine xj_lv [6, 7, 8, 9, 10, 11, 12, 1, 0] rfl ?_
                  exact ih w (p0) (p1) (p2) (p3) (p4) (p5) (p6) ((p7 + (((if v45 = (0 : Int32) then (1 : Int32) else (-1 : Int32))).toInt64 * v43))) ((p9 + (1 : Int32)))  hf
                · refine xj_iload hC dX0_exactTotal_167 0 rfl ?_
                  refine xj_istore (lv' := [(6, xI (if v45 = (0 : Int32) then (1 : Int32) else (-1 : Int32))), (14, xI (if v45 = (0 : Int32) then (1 : Int32) else (-1 : Int32))), (13, xI (0 : Int32)), (11, xL v43), (10, xI v13), (0, xR p0), (1, xR p1), (2, xR p2), (3, xI p3), (4, xR p4), (5, xI p5), (7, xL p7), (9, xI p9)]) hC dX0_exactTotal_169 (by decide) rfl ?_
                  refine xj_goto (tgt := 185) hC dX0_exactTotal_171 (by decide) ?_
                  refine xj_iinc (v := (p9 + (1 : Int32))) (lv' := [(9, xI (p9 + (1 : Int32))), (6, xI (if v45 = (0 : Int32) then (1 : Int32) else (-1 : Int32))), (14, xI (if v45 = (0 : Int32) then (1 : Int32) else (-1 : Int32))), (13, xI (0 : Int32)), (11, xL v43), (10, xI v13), (0, xR p0), (1, xR p1), (2, xR p2), (3, xI p3), (4, xR p4), (5, xI p5), (7, xL p7)]) hC dX0_exactTotal_185 12 rfl rfl (by decide) rfl ?_
                  refine xj_goto (tgt := 22) hC dX0_exactTotal_188 (by decide) ?_
                  refine xj_lv [6, 7, 8, 9, 10, 11, 1, 12, 0] rfl ?_
                  exact ih w (p0) (p1) (p2) (p3) (p4) (p5) ((if v45 = (0 : Int32) then (1 : Int32) else (-1 : Int32))) (p7) ((p9 + (1 : Int32)))  hf
              · refine xj_iload hC dX0_exactTotal_143 10 rfl ?_
                refine xj_iload hC dX0_exactTotal_145 0 rfl ?_
                refine xj_ineg hC dX0_exactTotal_147 ?_
                refine xb_ic_ne (tgt := 158) hC dX0_exactTotal_148 (by decide) hf (fun hf => ?_) (fun hf => ?_)
                · refine xj_lload hC dX0_exactTotal_158 2 rfl ?_
                  refine xj_ldc2 hC xw_cst_X0_96 dX0_exactTotal_160 ?_
                  refine xj_lcmp hC dX0_exactTotal_163 ?_
                  refine xb_if_ne (tgt := 174) hC dX0_exactTotal_164 (by decide) hf (fun hf => ?_) (fun hf => ?_)
                  · refine xj_lload hC dX0_exactTotal_174 11 rfl ?_
                    refine xj_iload hC dX0_exactTotal_176 0 rfl ?_
                    refine xj_i2l hC dX0_exactTotal_178 ?_
                    refine xj_lload hC dX0_exactTotal_179 2 rfl ?_
                    refine xj_lmul hC dX0_exactTotal_181 ?_
                    refine xj_ladd hC dX0_exactTotal_182 ?_
                    refine xj_lstore (lv' := [(7, xL (p7 + (((if v45 = (0 : Int32) then (1 : Int32) else (-1 : Int32))).toInt64 * v43))), (14, xI (if v45 = (0 : Int32) then (1 : Int32) else (-1 : Int32))), (13, xI (0 : Int32)), (11, xL v43), (10, xI v13), (0, xR p0), (1, xR p1), (2, xR p2), (3, xI p3), (4, xR p4), (5, xI p5), (6, xI p6), (9, xI p9)]) hC dX0_exactTotal_183 (by decide) rfl ?_
                    refine xj_iinc (v := (p9 + (1 : Int32))) (lv' := [(9, xI (p9 + (1 : Int32))), (7, xL (p7 + (((if v45 = (0 : Int32) then (1 : Int32) else (-1 : Int32))).toInt64 * v43))), (14, xI (if v45 = (0 : Int32) then (1 : Int32) else (-1 : Int32))), (13, xI (0 : Int32)), (11, xL v43), (10, xI v13), (0, xR p0), (1, xR p1), (2, xR p2), (3, xI p3), (4, xR p4), (5, xI p5), (6, xI p6)]) hC dX0_exactTotal_185 12 rfl rfl (by decide) rfl ?_
                    refine xj_goto (tgt := 22) hC dX0_exactTotal_188 (by decide) ?_
                    refine xj_lv [6, 7, 8, 9, 10, 11, 12, 1, 0] rfl ?_
                    exact ih w (p0) (p1) (p2) (p3) (p4) (p5) (p6) ((p7 + (((if v45 = (0 : Int32) then (1 : Int32) else (-1 : Int32))).toInt64 * v43))) ((p9 + (1 : Int32)))  hf
                  · refine xj_iload hC dX0_exactTotal_167 0 rfl ?_
                    refine xj_istore (lv' := [(6, xI (if v45 = (0 : Int32) then (1 : Int32) else (-1 : Int32))), (14, xI (if v45 = (0 : Int32) then (1 : Int32) else (-1 : Int32))), (13, xI (0 : Int32)), (11, xL v43), (10, xI v13), (0, xR p0), (1, xR p1), (2, xR p2), (3, xI p3), (4, xR p4), (5, xI p5), (7, xL p7), (9, xI p9)]) hC dX0_exactTotal_169 (by decide) rfl ?_
                    refine xj_goto (tgt := 185) hC dX0_exactTotal_171 (by decide) ?_
                    refine xj_iinc (v := (p9 + (1 : Int32))) (lv' := [(9, xI (p9 + (1 : Int32))), (6, xI (if v45 = (0 : Int32) then (1 : Int32) else (-1 : Int32))), (14, xI (if v45 = (0 : Int32) then (1 : Int32) else (-1 : Int32))), (13, xI (0 : Int32)), (11, xL v43), (10, xI v13), (0, xR p0), (1, xR p1), (2, xR p2), (3, xI p3), (4, xR p4), (5, xI p5), (7, xL p7)]) hC dX0_exactTotal_185 12 rfl rfl (by decide) rfl ?_
                    refine xj_goto (tgt := 22) hC dX0_exactTotal_188 (by decide) ?_
                    refine xj_lv [6, 7, 8, 9, 10, 11, 1, 12, 0] rfl ?_
                    exact ih w (p0) (p1) (p2) (p3) (p4) (p5) ((if v45 = (0 : Int32) then (1 : Int32) else (-1 : Int32))) (p7) ((p9 + (1 : Int32)))  hf
                · refine xj_aload_n hC dX0_exactTotal_151 rfl 4 rfl ?_
                  refine xj_aload hC dX0_exactTotal_152 8 rfl ?_
                  obtain ⟨v50, w51, hc49, hf⟩ := xm_b2 hf
                  obtain ⟨_, hob, _⟩ := xm_bind hc49
                  refine xj_reti (xr_V hC (mX0_invalid l D ks b hc49) hob rfl xw_cod_X0_invalid xw_ini_X0 xw_ins_X0_invalid xw_sel_X0_invalid xw_ml_X0_93 xds_X0_invalid ⟨Nat.le_of_ble_eq_true rfl, Nat.le_of_ble_eq_true rfl⟩ rfl rfl (Nat.le_of_ble_eq_true rfl) ⟨Nat.le_of_ble_eq_true rfl, Nat.le_of_ble_eq_true rfl⟩ dX0_exactTotal_154) ?_
                  obtain ⟨he, hw⟩ := Prod.mk.inj (Option.some.inj hf)
                  exact xj_iret hC hr (by decide) (by decide) dX0_exactTotal_157 he hw
          · refine xj_aload hC dX0_exactTotal_119 8 rfl ?_
            obtain ⟨v53, hc52, hf⟩ := xm_bind hf
            obtain ⟨_, hob, _⟩ := xm_bind hc52
            refine xj_reti (xr_V hC (mX1_noneCode l D ks b hc52) hob rfl xw_cod_X1_noneCode xw_ini_X1 xw_ins_X1_noneCode xw_sel_X1_noneCode xw_ml_X0_22 xds_X1_noneCode ⟨Nat.le_of_ble_eq_true rfl, Nat.le_of_ble_eq_true rfl⟩ rfl rfl (Nat.le_of_ble_eq_true rfl) ⟨Nat.le_of_ble_eq_true rfl, Nat.le_of_ble_eq_true rfl⟩ dX0_exactTotal_121) ?_
            obtain ⟨he, hw⟩ := Prod.mk.inj (Option.some.inj hf)
            exact xj_iret hC hr (by decide) (by decide) dX0_exactTotal_124 he hw
        · refine xj_aload hC dX0_exactTotal_70 6 rfl ?_
          refine xj_aload_n hC dX0_exactTotal_72 rfl 4 rfl ?_
          refine xj_iload hC dX0_exactTotal_73 10 rfl ?_
          obtain ⟨v55, hc54, hf⟩ := xm_bind hf
          obtain ⟨_, hob, _⟩ := xm_bind hc54
          refine xj_reti (xr_V hC (mX2_codeAt l D ks b hc54) hob rfl xw_cod_X2_codeAt xw_ini_X2 xw_ins_X2_codeAt xw_sel_X2_codeAt xw_ml_X0_157 xds_X2_codeAt ⟨Nat.le_of_ble_eq_true rfl, Nat.le_of_ble_eq_true rfl⟩ rfl rfl (Nat.le_of_ble_eq_true rfl) ⟨Nat.le_of_ble_eq_true rfl, Nat.le_of_ble_eq_true rfl⟩ dX0_exactTotal_75) ?_
          obtain ⟨v57, hc56, hf⟩ := xm_bind hf
          obtain ⟨_, hob, _⟩ := xm_bind hc56
          refine xj_reti (xr_V hC (mX1_isMinus l D ks b hc56) hob rfl xw_cod_X1_isMinus xw_ini_X1 xw_ins_X1_isMinus xw_sel_X1_isMinus xw_ml_X0_87 xds_X1_isMinus ⟨Nat.le_of_ble_eq_true rfl, Nat.le_of_ble_eq_true rfl⟩ rfl rfl (Nat.le_of_ble_eq_true rfl) ⟨Nat.le_of_ble_eq_true rfl, Nat.le_of_ble_eq_true rfl⟩ dX0_exactTotal_78) ?_
          refine xj_dia (cnd := v57 = 0) (x := 0) (y := 1) (pc2 := 89) (st2 := []) (fun hc hk => ?_) (fun hc hk => ?_) ?_
          · exact xj_if_eq (tgt := 88) hC dX0_exactTotal_81 (by decide) (fun _ => xj_iconst (v := 0) hC dX0_exactTotal_88 (by decide) hk) (fun hn => absurd hc hn)
          · exact xj_if_eq (tgt := 88) hC dX0_exactTotal_81 (by decide) (fun hn => absurd hn hc) (fun _ => xj_iconst (v := 1) hC dX0_exactTotal_84 (by decide) (xj_goto (tgt := 89) hC dX0_exactTotal_85 (by decide) hk))
          refine xj_istore (lv' := [(13, xI (if v57 = 0 then (0 : Int32) else (1 : Int32))), (11, xL v43), (10, xI v13), (0, xR p0), (1, xR p1), (2, xR p2), (3, xI p3), (4, xR p4), (5, xI p5), (6, xI p6), (7, xL p7), (9, xI p9)]) hC dX0_exactTotal_89 (by decide) rfl ?_
          refine xj_aload hC dX0_exactTotal_91 7 rfl ?_
          refine xj_iload hC dX0_exactTotal_93 2 rfl ?_
          obtain ⟨v59, hc58, hf⟩ := xm_bind hf
          obtain ⟨_, hob, _⟩ := xm_bind hc58
          refine xj_reti (xr_V hC (mX1_isMinus l D ks b hc58) hob rfl xw_cod_X1_isMinus xw_ini_X1 xw_ins_X1_isMinus xw_sel_X1_isMinus xw_ml_X0_87 xds_X1_isMinus ⟨Nat.le_of_ble_eq_true rfl, Nat.le_of_ble_eq_true rfl⟩ rfl rfl (Nat.le_of_ble_eq_true rfl) ⟨Nat.le_of_ble_eq_true rfl, Nat.le_of_ble_eq_true rfl⟩ dX0_exactTotal_95) ?_
          refine xj_iload hC dX0_exactTotal_98 0 rfl ?_
          refine xj_dia (cnd := v59 = (if v57 = 0 then (0 : Int32) else (1 : Int32))) (x := 1) (y := -1) (pc2 := 108) (st2 := []) (fun hc hk => ?_) (fun hc hk => ?_) ?_
          · exact xj_ic_eq (tgt := 107) hC dX0_exactTotal_100 (by decide) (fun _ => xj_iconst (v := 1) hC dX0_exactTotal_107 (by decide) hk) (fun hn => absurd hc hn)
          · exact xj_ic_eq (tgt := 107) hC dX0_exactTotal_100 (by decide) (fun hn => absurd hn hc) (fun _ => xj_iconst (v := -1) hC dX0_exactTotal_103 (by decide) (xj_goto (tgt := 108) hC dX0_exactTotal_104 (by decide) hk))
          refine xj_istore (lv' := [(14, xI (if v59 = (if v57 = 0 then (0 : Int32) else (1 : Int32)) then (1 : Int32) else (-1 : Int32))), (13, xI (if v57 = 0 then (0 : Int32) else (1 : Int32))), (11, xL v43), (10, xI v13), (0, xR p0), (1, xR p1), (2, xR p2), (3, xI p3), (4, xR p4), (5, xI p5), (6, xI p6), (7, xL p7), (9, xI p9)]) hC dX0_exactTotal_108 (by decide) rfl ?_
          refine xj_lload hC dX0_exactTotal_110 2 rfl ?_
          refine xj_ldc2 hC xw_cst_X0_91 dX0_exactTotal_112 ?_
          refine xj_lcmp hC dX0_exactTotal_115 ?_
          refine xb_if_ne (tgt := 125) hC dX0_exactTotal_116 (by decide) hf (fun hf => ?_) (fun hf => ?_)
          · refine xj_lload hC dX0_exactTotal_125 2 rfl ?_
            refine xj_ldc2 hC xw_cst_X0_138 dX0_exactTotal_127 ?_
            refine xj_lcmp hC dX0_exactTotal_130 ?_
            refine xb_if_eq (tgt := 151) hC dX0_exactTotal_131 (by decide) hf (fun hf => ?_) (fun hf => ?_)
            · refine xj_aload_n hC dX0_exactTotal_151 rfl 4 rfl ?_
              refine xj_aload hC dX0_exactTotal_152 8 rfl ?_
              obtain ⟨v61, w62, hc60, hf⟩ := xm_b2 hf
              obtain ⟨_, hob, _⟩ := xm_bind hc60
              refine xj_reti (xr_V hC (mX0_invalid l D ks b hc60) hob rfl xw_cod_X0_invalid xw_ini_X0 xw_ins_X0_invalid xw_sel_X0_invalid xw_ml_X0_93 xds_X0_invalid ⟨Nat.le_of_ble_eq_true rfl, Nat.le_of_ble_eq_true rfl⟩ rfl rfl (Nat.le_of_ble_eq_true rfl) ⟨Nat.le_of_ble_eq_true rfl, Nat.le_of_ble_eq_true rfl⟩ dX0_exactTotal_154) ?_
              obtain ⟨he, hw⟩ := Prod.mk.inj (Option.some.inj hf)
              exact xj_iret hC hr (by decide) (by decide) dX0_exactTotal_157 he hw
            · refine xj_lload hC dX0_exactTotal_134 2 rfl ?_
              refine xj_ldc2 hC xw_cst_X0_96 dX0_exactTotal_136 ?_
              refine xj_lcmp hC dX0_exactTotal_139 ?_
              refine xb_if_ne (tgt := 158) hC dX0_exactTotal_140 (by decide) hf (fun hf => ?_) (fun hf => ?_)
              · refine xj_lload hC dX0_exactTotal_158 2 rfl ?_
                refine xj_ldc2 hC xw_cst_X0_96 dX0_exactTotal_160 ?_
                refine xj_lcmp hC dX0_exactTotal_163 ?_
                refine xb_if_ne (tgt := 174) hC dX0_exactTotal_164 (by decide) hf (fun hf => ?_) (fun hf => ?_)
                · refine xj_lload hC dX0_exactTotal_174 11 rfl ?_
                  refine xj_iload hC dX0_exactTotal_176 0 rfl ?_
                  refine xj_i2l hC dX0_exactTotal_178 ?_
                  refine xj_lload hC dX0_exactTotal_179 2 rfl ?_
                  refine xj_lmul hC dX0_exactTotal_181 ?_
                  refine xj_ladd hC dX0_exactTotal_182 ?_
                  refine xj_lstore (lv' := [(7, xL (p7 + (((if v59 = (if v57 = 0 then (0 : Int32) else (1 : Int32)) then (1 : Int32) else (-1 : Int32))).toInt64 * v43))), (14, xI (if v59 = (if v57 = 0 then (0 : Int32) else (1 : Int32)) then (1 : Int32) else (-1 : Int32))), (13, xI (if v57 = 0 then (0 : Int32) else (1 : Int32))), (11, xL v43), (10, xI v13), (0, xR p0), (1, xR p1), (2, xR p2), (3, xI p3), (4, xR p4), (5, xI p5), (6, xI p6), (9, xI p9)]) hC dX0_exactTotal_183 (by decide) rfl ?_
                  refine xj_iinc (v := (p9 + (1 : Int32))) (lv' := [(9, xI (p9 + (1 : Int32))), (7, xL (p7 + (((if v59 = (if v57 = 0 then (0 : Int32) else (1 : Int32)) then (1 : Int32) else (-1 : Int32))).toInt64 * v43))), (14, xI (if v59 = (if v57 = 0 then (0 : Int32) else (1 : Int32)) then (1 : Int32) else (-1 : Int32))), (13, xI (if v57 = 0 then (0 : Int32) else (1 : Int32))), (11, xL v43), (10, xI v13), (0, xR p0), (1, xR p1), (2, xR p2), (3, xI p3), (4, xR p4), (5, xI p5), (6, xI p6)]) hC dX0_exactTotal_185 12 rfl rfl (by decide) rfl ?_
                  refine xj_goto (tgt := 22) hC dX0_exactTotal_188 (by decide) ?_
                  refine xj_lv [6, 7, 8, 9, 10, 11, 12, 1, 0] rfl ?_
                  exact ih w (p0) (p1) (p2) (p3) (p4) (p5) (p6) ((p7 + (((if v59 = (if v57 = 0 then (0 : Int32) else (1 : Int32)) then (1 : Int32) else (-1 : Int32))).toInt64 * v43))) ((p9 + (1 : Int32)))  hf
                · refine xj_iload hC dX0_exactTotal_167 0 rfl ?_
                  refine xj_istore (lv' := [(6, xI (if v59 = (if v57 = 0 then (0 : Int32) else (1 : Int32)) then (1 : Int32) else (-1 : Int32))), (14, xI (if v59 = (if v57 = 0 then (0 : Int32) else (1 : Int32)) then (1 : Int32) else (-1 : Int32))), (13, xI (if v57 = 0 then (0 : Int32) else (1 : Int32))), (11, xL v43), (10, xI v13), (0, xR p0), (1, xR p1), (2, xR p2), (3, xI p3), (4, xR p4), (5, xI p5), (7, xL p7), (9, xI p9)]) hC dX0_exactTotal_169 (by decide) rfl ?_
                  refine xj_goto (tgt := 185) hC dX0_exactTotal_171 (by decide) ?_
                  refine xj_iinc (v := (p9 + (1 : Int32))) (lv' := [(9, xI (p9 + (1 : Int32))), (6, xI (if v59 = (if v57 = 0 then (0 : Int32) else (1 : Int32)) then (1 : Int32) else (-1 : Int32))), (14, xI (if v59 = (if v57 = 0 then (0 : Int32) else (1 : Int32)) then (1 : Int32) else (-1 : Int32))), (13, xI (if v57 = 0 then (0 : Int32) else (1 : Int32))), (11, xL v43), (10, xI v13), (0, xR p0), (1, xR p1), (2, xR p2), (3, xI p3), (4, xR p4), (5, xI p5), (7, xL p7)]) hC dX0_exactTotal_185 12 rfl rfl (by decide) rfl ?_
                  refine xj_goto (tgt := 22) hC dX0_exactTotal_188 (by decide) ?_
                  refine xj_lv [6, 7, 8, 9, 10, 11, 1, 12, 0] rfl ?_
                  exact ih w (p0) (p1) (p2) (p3) (p4) (p5) ((if v59 = (if v57 = 0 then (0 : Int32) else (1 : Int32)) then (1 : Int32) else (-1 : Int32))) (p7) ((p9 + (1 : Int32)))  hf
              · refine xj_iload hC dX0_exactTotal_143 10 rfl ?_
                refine xj_iload hC dX0_exactTotal_145 0 rfl ?_
                refine xj_ineg hC dX0_exactTotal_147 ?_
                refine xb_ic_ne (tgt := 158) hC dX0_exactTotal_148 (by decide) hf (fun hf => ?_) (fun hf => ?_)
                · refine xj_lload hC dX0_exactTotal_158 2 rfl ?_
                  refine xj_ldc2 hC xw_cst_X0_96 dX0_exactTotal_160 ?_
                  refine xj_lcmp hC dX0_exactTotal_163 ?_
                  refine xb_if_ne (tgt := 174) hC dX0_exactTotal_164 (by decide) hf (fun hf => ?_) (fun hf => ?_)
                  · refine xj_lload hC dX0_exactTotal_174 11 rfl ?_
                    refine xj_iload hC dX0_exactTotal_176 0 rfl ?_
                    refine xj_i2l hC dX0_exactTotal_178 ?_
                    refine xj_lload hC dX0_exactTotal_179 2 rfl ?_
                    refine xj_lmul hC dX0_exactTotal_181 ?_
                    refine xj_ladd hC dX0_exactTotal_182 ?_
                    refine xj_lstore (lv' := [(7, xL (p7 + (((if v59 = (if v57 = 0 then (0 : Int32) else (1 : Int32)) then (1 : Int32) else (-1 : Int32))).toInt64 * v43))), (14, xI (if v59 = (if v57 = 0 then (0 : Int32) else (1 : Int32)) then (1 : Int32) else (-1 : Int32))), (13, xI (if v57 = 0 then (0 : Int32) else (1 : Int32))), (11, xL v43), (10, xI v13), (0, xR p0), (1, xR p1), (2, xR p2), (3, xI p3), (4, xR p4), (5, xI p5), (6, xI p6), (9, xI p9)]) hC dX0_exactTotal_183 (by decide) rfl ?_
                    refine xj_iinc (v := (p9 + (1 : Int32))) (lv' := [(9, xI (p9 + (1 : Int32))), (7, xL (p7 + (((if v59 = (if v57 = 0 then (0 : Int32) else (1 : Int32)) then (1 : Int32) else (-1 : Int32))).toInt64 * v43))), (14, xI (if v59 = (if v57 = 0 then (0 : Int32) else (1 : Int32)) then (1 : Int32) else (-1 : Int32))), (13, xI (if v57 = 0 then (0 : Int32) else (1 : Int32))), (11, xL v43), (10, xI v13), (0, xR p0), (1, xR p1), (2, xR p2), (3, xI p3), (4, xR p4), (5, xI p5), (6, xI p6)]) hC dX0_exactTotal_185 12 rfl rfl (by decide) rfl ?_
                    refine xj_goto (tgt := 22) hC dX0_exactTotal_188 (by decide) ?_
                    refine xj_lv [6, 7, 8, 9, 10, 11, 12, 1, 0] rfl ?_
                    exact ih w (p0) (p1) (p2) (p3) (p4) (p5) (p6) ((p7 + (((if v59 = (if v57 = 0 then (0 : Int32) else (1 : Int32)) then (1 : Int32) else (-1 : Int32))).toInt64 * v43))) ((p9 + (1 : Int32)))  hf
                  · refine xj_iload hC dX0_exactTotal_167 0 rfl ?_
                    refine xj_istore (lv' := [(6, xI (if v59 = (if v57 = 0 then (0 : Int32) else (1 : Int32)) then (1 : Int32) else (-1 : Int32))), (14, xI (if v59 = (if v57 = 0 then (0 : Int32) else (1 : Int32)) then (1 : Int32) else (-1 : Int32))), (13, xI (if v57 = 0 then (0 : Int32) else (1 : Int32))), (11, xL v43), (10, xI v13), (0, xR p0), (1, xR p1), (2, xR p2), (3, xI p3), (4, xR p4), (5, xI p5), (7, xL p7), (9, xI p9)]) hC dX0_exactTotal_169 (by decide) rfl ?_
                    refine xj_goto (tgt := 185) hC dX0_exactTotal_171 (by decide) ?_
                    refine xj_iinc (v := (p9 + (1 : Int32))) (lv' := [(9, xI (p9 + (1 : Int32))), (6, xI (if v59 = (if v57 = 0 then (0 : Int32) else (1 : Int32)) then (1 : Int32) else (-1 : Int32))), (14, xI (if v59 = (if v57 = 0 then (0 : Int32) else (1 : Int32)) then (1 : Int32) else (-1 : Int32))), (13, xI (if v57 = 0 then (0 : Int32) else (1 : Int32))), (11, xL v43), (10, xI v13), (0, xR p0), (1, xR p1), (2, xR p2), (3, xI p3), (4, xR p4), (5, xI p5), (7, xL p7)]) hC dX0_exactTotal_185 12 rfl rfl (by decide) rfl ?_
                    refine xj_goto (tgt := 22) hC dX0_exactTotal_188 (by decide) ?_
                    refine xj_lv [6, 7, 8, 9, 10, 11, 1, 12, 0] rfl ?_
                    exact ih w (p0) (p1) (p2) (p3) (p4) (p5) ((if v59 = (if v57 = 0 then (0 : Int32) else (1 : Int32)) then (1 : Int32) else (-1 : Int32))) (p7) ((p9 + (1 : Int32)))  hf
                · refine xj_aload_n hC dX0_exactTotal_151 rfl 4 rfl ?_
                  refine xj_aload hC dX0_exactTotal_152 8 rfl ?_
                  obtain ⟨v64, w65, hc63, hf⟩ := xm_b2 hf
                  obtain ⟨_, hob, _⟩ := xm_bind hc63
                  refine xj_reti (xr_V hC (mX0_invalid l D ks b hc63) hob rfl xw_cod_X0_invalid xw_ini_X0 xw_ins_X0_invalid xw_sel_X0_invalid xw_ml_X0_93 xds_X0_invalid ⟨Nat.le_of_ble_eq_true rfl, Nat.le_of_ble_eq_true rfl⟩ rfl rfl (Nat.le_of_ble_eq_true rfl) ⟨Nat.le_of_ble_eq_true rfl, Nat.le_of_ble_eq_true rfl⟩ dX0_exactTotal_154) ?_
                  obtain ⟨he, hw⟩ := Prod.mk.inj (Option.some.inj hf)
                  exact xj_iret hC hr (by decide) (by decide) dX0_exactTotal_157 he hw
          · refine xj_aload hC dX0_exactTotal_119 8 rfl ?_
            obtain ⟨v67, hc66, hf⟩ := xm_bind hf
            obtain ⟨_, hob, _⟩ := xm_bind hc66
            refine xj_reti (xr_V hC (mX1_noneCode l D ks b hc66) hob rfl xw_cod_X1_noneCode xw_ini_X1 xw_ins_X1_noneCode xw_sel_X1_noneCode xw_ml_X0_22 xds_X1_noneCode ⟨Nat.le_of_ble_eq_true rfl, Nat.le_of_ble_eq_true rfl⟩ rfl rfl (Nat.le_of_ble_eq_true rfl) ⟨Nat.le_of_ble_eq_true rfl, Nat.le_of_ble_eq_true rfl⟩ dX0_exactTotal_121) ?_
            obtain ⟨he, hw⟩ := Prod.mk.inj (Option.some.inj hf)
            exact xj_iret hC hr (by decide) (by decide) dX0_exactTotal_124 he hw
def fX0_exactTotal (w : xmW) (th : (Option Nat)) (a1 : (Option Nat)) (a2 : (Option Nat)) (a3 : Int32) : Option (Int32 × xmW) := ((xmob w th 0).bind fun _ => ((xmgR w a1 2 0).bind fun v1 => ((fX0_termCount w (a1) (a2)).bind fun v3 => (fX0_exactTotal_L22 xmN w (th) (a1) (a2) (a3) (v1) (v3) ((0 : Int32)) ((0 : Int64)) ((0 : Int32)) ))))
set_option maxHeartbeats 4000000 in
set_option maxRecDepth 100000 in
theorem mX0_exactTotal (l : Launch) (D : va_G) (ks : Nat → ClassId) (b : Nat) {w : xmW} {th : (Option Nat)} {a1 : (Option Nat)} {a2 : (Option Nat)} {a3 : Int32} {y : Int32} {wz : xmW} (hf : fX0_exactTotal w th a1 a2 a3 = some (y, wz)) : xmM l yX0_exactTotal (Cond.code yX0_exactTotal cX0_exactTotal 15 (some (FieldType.int)) :: xmTs) 3 81 0 0 D ks b w [xR th, xR a1, xR a2, xI a3] (some (xI y)) wz := by
  unfold fX0_exactTotal at hf
  obtain ⟨_, _, hf⟩ := xm_bind hf
  refine xmM.of (own := RX0) (lv0 := [(0, xR th), (1, xR a1), (2, xR a2), (3, xI a3)]) (by decide) rfl (Nat.le_of_ble_eq_true rfl) rfl ?_
  intro p e s m args below meth c hC hr hnm
  refine xj_aload_n hC dX0_exactTotal_0 rfl 1 rfl ?_
  refine xb_getR hC 2 0 xcl_2 (by decide) xw_fl_X0_147 dX0_exactTotal_1 hf (fun v1 hf => ?_)
  refine xj_astore (lv' := [(4, xR v1), (0, xR th), (1, xR a1), (2, xR a2), (3, xI a3)]) hC dX0_exactTotal_4 (by decide) rfl ?_
  refine xj_aload_n hC dX0_exactTotal_6 rfl 2 rfl ?_
  refine xj_aload_n hC dX0_exactTotal_7 rfl 3 rfl ?_
  obtain ⟨v3, hc2, hf⟩ := xm_bind hf
  refine xj_reti (xr_S hC (mX0_termCount l D ks b hc2) xw_cod_X0_termCount xw_ini_X0 xw_sta_X0_termCount xw_ml_X0_153 xds_X0_termCount ⟨Nat.le_of_ble_eq_true rfl, Nat.le_of_ble_eq_true rfl⟩ rfl rfl (Nat.le_of_ble_eq_true rfl) ⟨Nat.le_of_ble_eq_true rfl, Nat.le_of_ble_eq_true rfl⟩ dX0_exactTotal_8) ?_
  refine xj_istore (lv' := [(5, xI v3), (4, xR v1), (0, xR th), (1, xR a1), (2, xR a2), (3, xI a3)]) hC dX0_exactTotal_11 (by decide) rfl ?_
  refine xj_iconst (v := 0) hC dX0_exactTotal_13 (by decide) ?_
  refine xj_istore (lv' := [(6, xI (0 : Int32)), (5, xI v3), (4, xR v1), (0, xR th), (1, xR a1), (2, xR a2), (3, xI a3)]) hC dX0_exactTotal_14 (by decide) rfl ?_
  refine xj_lconst (v := 0) hC dX0_exactTotal_16 (by decide) ?_
  refine xj_lstore (lv' := [(7, xL (0 : Int64)), (6, xI (0 : Int32)), (5, xI v3), (4, xR v1), (0, xR th), (1, xR a1), (2, xR a2), (3, xI a3)]) hC dX0_exactTotal_17 (by decide) rfl ?_
  refine xj_iconst (v := 0) hC dX0_exactTotal_19 (by decide) ?_
  refine xj_istore (lv' := [(9, xI (0 : Int32)), (7, xL (0 : Int64)), (6, xI (0 : Int32)), (5, xI v3), (4, xR v1), (0, xR th), (1, xR a1), (2, xR a2), (3, xI a3)]) hC dX0_exactTotal_20 (by decide) rfl ?_
  refine xj_lv [5, 6, 7, 8, 4, 3, 2, 1, 0] rfl ?_
  exact lX0_exactTotal_L22 hC hr  xmN w (th) (a1) (a2) (a3) (v1) (v3) ((0 : Int32)) ((0 : Int64)) ((0 : Int32))  hf
def fX0_stepwiseTotal_L19 : Nat → xmW → (Option Nat) → (Option Nat) → (Option Nat) → Int32 → (Option Nat) → Int32 → Int32 → Int32 → Option (Int32 × xmW)
  | 0, _, _, _, _, _, _, _, _, _ => none
  | n + 1, w, p0, p1, p2, p3, p4, p5, p6, p7 => (if p5 ≤ p7 then (some (p6, w)) else ((fX2_codeAt w (p1) (p7)).bind fun v5 => (if p2 = none then (if v5 = (-4 : Int32) then (some ((-4 : Int32), w)) else (xmb2 (fX0_acted w (p0) (p4) ((0 : Int32)) (p6) (v5) (p3)) fun v7 w8 => (if v7 = (-4 : Int32) then (some ((-4 : Int32), w8)) else (fX0_stepwiseTotal_L19 n w8 (p0) (p1) (p2) (p3) (p4) (p5) (v7) ((p7 + (1 : Int32))) )))) else ((fX2_codeAt w (p2) (p7)).bind fun v10 => (xmb2 (fX0_acted w (p0) (p4) ((2 : Int32)) (v5) (v10) (p3)) fun v12 w13 => (if v12 = (-4 : Int32) then (some ((-4 : Int32), w13)) else (xmb2 (fX0_acted w13 (p0) (p4) ((0 : Int32)) (p6) (v12) (p3)) fun v15 w16 => (if v15 = (-4 : Int32) then (some ((-4 : Int32), w16)) else (fX0_stepwiseTotal_L19 n w16 (p0) (p1) (p2) (p3) (p4) (p5) (v15) ((p7 + (1 : Int32))) )))))))))
set_option maxHeartbeats 4000000 in
set_option maxRecDepth 100000 in
theorem lX0_stepwiseTotal_L19 {p : Program} {l : Launch} {e : Env} {s : State} {m : MethodId} {args : Array Value} {below : List Frame} {meth : Method} {c : Code} {D : va_G} {ks : Nat → ClassId} {b : Nat} (hC : xmC p s m args meth c D ks b 9 cX0_stepwiseTotal RX0) (hr : meth.sig.returnType = (some (FieldType.int))) {y : Int32} {wz : xmW} : ∀ (n : Nat) (w : xmW) (p0 : (Option Nat)) (p1 : (Option Nat)) (p2 : (Option Nat)) (p3 : Int32) (p4 : (Option Nat)) (p5 : Int32) (p6 : Int32) (p7 : Int32), fX0_stepwiseTotal_L19 n w p0 p1 p2 p3 p4 p5 p6 p7 = some (y, wz) → xmJ p l e ({ frames := 5, cells := 0, slots := 0, locals := 139 } : Room) s m args below meth c D ks b 9 (MQ below (xmQ D ks b (some (xI y)) wz) args s 0 0 (xmA b)) w 0 0 19 [(0, xR p0), (1, xR p1), (2, xR p2), (3, xI p3), (4, xR p4), (5, xI p5), (6, xI p6), (7, xI p7)] [] := by
  intro n
  induction n with
  | zero => intro w p0 p1 p2 p3 p4 p5 p6 p7 hf; simp [fX0_stepwiseTotal_L19] at hf
  | succ n ih =>
    intro w p0 p1 p2 p3 p4 p5 p6 p7 hf
    rw [fX0_stepwiseTotal_L19] at hf
    refine xj_iload hC dX0_stepwiseTotal_19 7 rfl ?_
    refine xj_iload hC dX0_stepwiseTotal_21 5 rfl ?_
    refine xb_ic_ge (tgt := 96) hC dX0_stepwiseTotal_23 (by decide) hf (fun hf => ?_) (fun hf => ?_)
    · refine xj_iload hC dX0_stepwiseTotal_96 6 rfl ?_
      obtain ⟨he, hw⟩ := Prod.mk.inj (Option.some.inj hf)
      exact xj_iret hC hr (by decide) (by decide) dX0_stepwiseTotal_98 he hw
    · refine xj_aload_n hC dX0_stepwiseTotal_26 rfl 1 rfl ?_
      refine xj_iload hC dX0_stepwiseTotal_27 7 rfl ?_
      obtain ⟨v5, hc4, hf⟩ := xm_bind hf
      obtain ⟨_, hob, _⟩ := xm_bind hc4
      refine xj_reti (xr_V hC (mX2_codeAt l D ks b hc4) hob rfl xw_cod_X2_codeAt xw_ini_X2 xw_ins_X2_codeAt xw_sel_X2_codeAt xw_ml_X0_157 xds_X2_codeAt ⟨Nat.le_of_ble_eq_true rfl, Nat.le_of_ble_eq_true rfl⟩ rfl rfl (Nat.le_of_ble_eq_true rfl) ⟨Nat.le_of_ble_eq_true rfl, Nat.le_of_ble_eq_true rfl⟩ dX0_stepwiseTotal_29) ?_
      refine xj_istore (lv' := [(8, xI v5), (0, xR p0), (1, xR p1), (2, xR p2), (3, xI p3), (4, xR p4), (5, xI p5), (6, xI p6), (7, xI p7)]) hC dX0_stepwiseTotal_32 (by decide) rfl ?_
      refine xj_aload_n hC dX0_stepwiseTotal_34 rfl 3 rfl ?_
      refine xb_ifnull (tgt := 56) hC dX0_stepwiseTotal_35 (by decide) hf (fun hf => ?_) (fun hf => ?_)
      · refine xj_iload hC dX0_stepwiseTotal_56 0 rfl ?_
        refine xj_bipush (v := -4) hC dX0_stepwiseTotal_58 (by decide) ?_
        refine xb_ic_ne (tgt := 66) hC dX0_stepwiseTotal_60 (by decide) hf (fun hf => ?_) (fun hf => ?_)
        · refine xj_aload_n hC dX0_stepwiseTotal_66 rfl 1 rfl ?_
          refine xj_aload hC dX0_stepwiseTotal_67 5 rfl ?_
          refine xj_iconst (v := 0) hC dX0_stepwiseTotal_69 (by decide) ?_
          refine xj_iload hC dX0_stepwiseTotal_70 7 rfl ?_
          refine xj_iload hC dX0_stepwiseTotal_72 0 rfl ?_
          refine xj_iload_n hC dX0_stepwiseTotal_74 rfl 4 rfl ?_
          obtain ⟨v7, w8, hc6, hf⟩ := xm_b2 hf
          obtain ⟨_, hob, _⟩ := xm_bind hc6
          refine xj_reti (xr_V hC (mX0_acted l D ks b hc6) hob rfl xw_cod_X0_acted xw_ini_X0 xw_ins_X0_acted xw_sel_X0_acted xw_ml_X0_161 xds_X0_acted ⟨Nat.le_of_ble_eq_true rfl, Nat.le_of_ble_eq_true rfl⟩ rfl rfl (Nat.le_of_ble_eq_true rfl) ⟨Nat.le_of_ble_eq_true rfl, Nat.le_of_ble_eq_true rfl⟩ dX0_stepwiseTotal_75) ?_
          refine xj_istore (lv' := [(6, xI v7), (8, xI v5), (0, xR p0), (1, xR p1), (2, xR p2), (3, xI p3), (4, xR p4), (5, xI p5), (7, xI p7)]) hC dX0_stepwiseTotal_78 (by decide) rfl ?_
          refine xj_iload hC dX0_stepwiseTotal_80 0 rfl ?_
          refine xj_bipush (v := -4) hC dX0_stepwiseTotal_82 (by decide) ?_
          refine xb_ic_ne (tgt := 90) hC dX0_stepwiseTotal_84 (by decide) hf (fun hf => ?_) (fun hf => ?_)
          · refine xj_iinc (v := (p7 + (1 : Int32))) (lv' := [(7, xI (p7 + (1 : Int32))), (6, xI v7), (8, xI v5), (0, xR p0), (1, xR p1), (2, xR p2), (3, xI p3), (4, xR p4), (5, xI p5)]) hC dX0_stepwiseTotal_90 8 rfl rfl (by decide) rfl ?_
            refine xj_goto (tgt := 19) hC dX0_stepwiseTotal_93 (by decide) ?_
            refine xj_lv [3, 4, 5, 6, 7, 8, 1, 0] rfl ?_
            exact ih w8 (p0) (p1) (p2) (p3) (p4) (p5) (v7) ((p7 + (1 : Int32)))  hf
          · refine xj_bipush (v := -4) hC dX0_stepwiseTotal_87 (by decide) ?_
            obtain ⟨he, hw⟩ := Prod.mk.inj (Option.some.inj hf)
            exact xj_iret hC hr (by decide) (by decide) dX0_stepwiseTotal_89 he hw
        · refine xj_bipush (v := -4) hC dX0_stepwiseTotal_63 (by decide) ?_
          obtain ⟨he, hw⟩ := Prod.mk.inj (Option.some.inj hf)
          exact xj_iret hC hr (by decide) (by decide) dX0_stepwiseTotal_65 he hw
      · refine xj_aload_n hC dX0_stepwiseTotal_38 rfl 1 rfl ?_
        refine xj_aload hC dX0_stepwiseTotal_39 5 rfl ?_
        refine xj_iconst (v := 2) hC dX0_stepwiseTotal_41 (by decide) ?_
        refine xj_iload hC dX0_stepwiseTotal_42 0 rfl ?_
        refine xj_aload_n hC dX0_stepwiseTotal_44 rfl 3 rfl ?_
        refine xj_iload hC dX0_stepwiseTotal_45 8 rfl ?_
        obtain ⟨v10, hc9, hf⟩ := xm_bind hf
        obtain ⟨_, hob, _⟩ := xm_bind hc9
        refine xj_reti (xr_V hC (mX2_codeAt l D ks b hc9) hob rfl xw_cod_X2_codeAt xw_ini_X2 xw_ins_X2_codeAt xw_sel_X2_codeAt xw_ml_X0_157 xds_X2_codeAt ⟨Nat.le_of_ble_eq_true rfl, Nat.le_of_ble_eq_true rfl⟩ rfl rfl (Nat.le_of_ble_eq_true rfl) ⟨Nat.le_of_ble_eq_true rfl, Nat.le_of_ble_eq_true rfl⟩ dX0_stepwiseTotal_47) ?_
        refine xj_iload_n hC dX0_stepwiseTotal_50 rfl 4 rfl ?_
        obtain ⟨v12, w13, hc11, hf⟩ := xm_b2 hf
        obtain ⟨_, hob, _⟩ := xm_bind hc11
        refine xj_reti (xr_V hC (mX0_acted l D ks b hc11) hob rfl xw_cod_X0_acted xw_ini_X0 xw_ins_X0_acted xw_sel_X0_acted xw_ml_X0_161 xds_X0_acted ⟨Nat.le_of_ble_eq_true rfl, Nat.le_of_ble_eq_true rfl⟩ rfl rfl (Nat.le_of_ble_eq_true rfl) ⟨Nat.le_of_ble_eq_true rfl, Nat.le_of_ble_eq_true rfl⟩ dX0_stepwiseTotal_51) ?_
        refine xj_istore (lv' := [(8, xI v12), (0, xR p0), (1, xR p1), (2, xR p2), (3, xI p3), (4, xR p4), (5, xI p5), (6, xI p6), (7, xI p7)]) hC dX0_stepwiseTotal_54 (by decide) rfl ?_
        refine xj_iload hC dX0_stepwiseTotal_56 0 rfl ?_
        refine xj_bipush (v := -4) hC dX0_stepwiseTotal_58 (by decide) ?_
        refine xb_ic_ne (tgt := 66) hC dX0_stepwiseTotal_60 (by decide) hf (fun hf => ?_) (fun hf => ?_)
        · refine xj_aload_n hC dX0_stepwiseTotal_66 rfl 1 rfl ?_
          refine xj_aload hC dX0_stepwiseTotal_67 5 rfl ?_
          refine xj_iconst (v := 0) hC dX0_stepwiseTotal_69 (by decide) ?_
          refine xj_iload hC dX0_stepwiseTotal_70 7 rfl ?_
          refine xj_iload hC dX0_stepwiseTotal_72 0 rfl ?_
          refine xj_iload_n hC dX0_stepwiseTotal_74 rfl 4 rfl ?_
          obtain ⟨v15, w16, hc14, hf⟩ := xm_b2 hf
          obtain ⟨_, hob, _⟩ := xm_bind hc14
          refine xj_reti (xr_V hC (mX0_acted l D ks b hc14) hob rfl xw_cod_X0_acted xw_ini_X0 xw_ins_X0_acted xw_sel_X0_acted xw_ml_X0_161 xds_X0_acted ⟨Nat.le_of_ble_eq_true rfl, Nat.le_of_ble_eq_true rfl⟩ rfl rfl (Nat.le_of_ble_eq_true rfl) ⟨Nat.le_of_ble_eq_true rfl, Nat.le_of_ble_eq_true rfl⟩ dX0_stepwiseTotal_75) ?_
          refine xj_istore (lv' := [(6, xI v15), (8, xI v12), (0, xR p0), (1, xR p1), (2, xR p2), (3, xI p3), (4, xR p4), (5, xI p5), (7, xI p7)]) hC dX0_stepwiseTotal_78 (by decide) rfl ?_
          refine xj_iload hC dX0_stepwiseTotal_80 0 rfl ?_
          refine xj_bipush (v := -4) hC dX0_stepwiseTotal_82 (by decide) ?_
          refine xb_ic_ne (tgt := 90) hC dX0_stepwiseTotal_84 (by decide) hf (fun hf => ?_) (fun hf => ?_)
          · refine xj_iinc (v := (p7 + (1 : Int32))) (lv' := [(7, xI (p7 + (1 : Int32))), (6, xI v15), (8, xI v12), (0, xR p0), (1, xR p1), (2, xR p2), (3, xI p3), (4, xR p4), (5, xI p5)]) hC dX0_stepwiseTotal_90 8 rfl rfl (by decide) rfl ?_
            refine xj_goto (tgt := 19) hC dX0_stepwiseTotal_93 (by decide) ?_
            refine xj_lv [3, 4, 5, 6, 7, 8, 1, 0] rfl ?_
            exact ih w16 (p0) (p1) (p2) (p3) (p4) (p5) (v15) ((p7 + (1 : Int32)))  hf
          · refine xj_bipush (v := -4) hC dX0_stepwiseTotal_87 (by decide) ?_
            obtain ⟨he, hw⟩ := Prod.mk.inj (Option.some.inj hf)
            exact xj_iret hC hr (by decide) (by decide) dX0_stepwiseTotal_89 he hw
        · refine xj_bipush (v := -4) hC dX0_stepwiseTotal_63 (by decide) ?_
          obtain ⟨he, hw⟩ := Prod.mk.inj (Option.some.inj hf)
          exact xj_iret hC hr (by decide) (by decide) dX0_stepwiseTotal_65 he hw
def fX0_stepwiseTotal (w : xmW) (th : (Option Nat)) (a1 : (Option Nat)) (a2 : (Option Nat)) (a3 : Int32) : Option (Int32 × xmW) := ((xmob w th 0).bind fun _ => ((xmgR w a1 2 0).bind fun v1 => ((fX0_termCount w (a1) (a2)).bind fun v3 => (fX0_stepwiseTotal_L19 xmN w (th) (a1) (a2) (a3) (v1) (v3) ((0 : Int32)) ((0 : Int32)) ))))
set_option maxHeartbeats 4000000 in
set_option maxRecDepth 100000 in
theorem mX0_stepwiseTotal (l : Launch) (D : va_G) (ks : Nat → ClassId) (b : Nat) {w : xmW} {th : (Option Nat)} {a1 : (Option Nat)} {a2 : (Option Nat)} {a3 : Int32} {y : Int32} {wz : xmW} (hf : fX0_stepwiseTotal w th a1 a2 a3 = some (y, wz)) : xmM l yX0_stepwiseTotal (Cond.code yX0_stepwiseTotal cX0_stepwiseTotal 9 (some (FieldType.int)) :: xmTs) 5 139 0 0 D ks b w [xR th, xR a1, xR a2, xI a3] (some (xI y)) wz := by
  unfold fX0_stepwiseTotal at hf
  obtain ⟨_, _, hf⟩ := xm_bind hf
  refine xmM.of (own := RX0) (lv0 := [(0, xR th), (1, xR a1), (2, xR a2), (3, xI a3)]) (by decide) rfl (Nat.le_of_ble_eq_true rfl) rfl ?_
  intro p e s m args below meth c hC hr hnm
  refine xj_aload_n hC dX0_stepwiseTotal_0 rfl 1 rfl ?_
  refine xb_getR hC 2 0 xcl_2 (by decide) xw_fl_X0_147 dX0_stepwiseTotal_1 hf (fun v1 hf => ?_)
  refine xj_astore (lv' := [(4, xR v1), (0, xR th), (1, xR a1), (2, xR a2), (3, xI a3)]) hC dX0_stepwiseTotal_4 (by decide) rfl ?_
  refine xj_aload_n hC dX0_stepwiseTotal_6 rfl 2 rfl ?_
  refine xj_aload_n hC dX0_stepwiseTotal_7 rfl 3 rfl ?_
  obtain ⟨v3, hc2, hf⟩ := xm_bind hf
  refine xj_reti (xr_S hC (mX0_termCount l D ks b hc2) xw_cod_X0_termCount xw_ini_X0 xw_sta_X0_termCount xw_ml_X0_153 xds_X0_termCount ⟨Nat.le_of_ble_eq_true rfl, Nat.le_of_ble_eq_true rfl⟩ rfl rfl (Nat.le_of_ble_eq_true rfl) ⟨Nat.le_of_ble_eq_true rfl, Nat.le_of_ble_eq_true rfl⟩ dX0_stepwiseTotal_8) ?_
  refine xj_istore (lv' := [(5, xI v3), (4, xR v1), (0, xR th), (1, xR a1), (2, xR a2), (3, xI a3)]) hC dX0_stepwiseTotal_11 (by decide) rfl ?_
  refine xj_iconst (v := 0) hC dX0_stepwiseTotal_13 (by decide) ?_
  refine xj_istore (lv' := [(6, xI (0 : Int32)), (5, xI v3), (4, xR v1), (0, xR th), (1, xR a1), (2, xR a2), (3, xI a3)]) hC dX0_stepwiseTotal_14 (by decide) rfl ?_
  refine xj_iconst (v := 0) hC dX0_stepwiseTotal_16 (by decide) ?_
  refine xj_istore (lv' := [(7, xI (0 : Int32)), (6, xI (0 : Int32)), (5, xI v3), (4, xR v1), (0, xR th), (1, xR a1), (2, xR a2), (3, xI a3)]) hC dX0_stepwiseTotal_17 (by decide) rfl ?_
  refine xj_lv [4, 5, 6, 7, 3, 2, 1, 0] rfl ?_
  exact lX0_stepwiseTotal_L19 hC hr  xmN w (th) (a1) (a2) (a3) (v1) (v3) ((0 : Int32)) ((0 : Int32))  hf
