def fX2_codeAt (w : xmW) (th : (Option Nat)) (a1 : Int32) : Option Int32 := ((xmob w th 2).bind fun _ => (if a1 < 0 then (some (0 : Int32)) else ((xmgR w th 2 2).bind fun v1 => ((xmlen w v1 0).bind fun v2 => (if v2 ≤ a1 then (some (0 : Int32)) else ((xmgR w th 2 2).bind fun v3 => ((xmild w v3 0 a1).bind fun v4 => (some v4))))))))
set_option maxHeartbeats 4000000 in
set_option maxRecDepth 100000 in
theorem mX2_codeAt (l : Launch) (D : va_G) (ks : Nat → ClassId) (b : Nat) {w : xmW} {th : (Option Nat)} {a1 : Int32} {y : Int32} (hf : fX2_codeAt w th a1 = some y) : xmM l yX2_codeAt (Cond.code yX2_codeAt cX2_codeAt 2 (some (FieldType.int)) :: xmTs) 0 0 0 0 D ks b w [xR th, xI a1] (some (xI y)) w := by
  unfold fX2_codeAt at hf
  obtain ⟨_, _, hf⟩ := xm_bind hf
  refine xmM.of (own := RX2) (lv0 := [(0, xR th), (1, xI a1)]) (by decide) rfl (Nat.le_of_ble_eq_true rfl) rfl ?_
  intro p e s m args below meth c hC hr hnm
  refine xj_iload_n hC dX2_codeAt_0 rfl 1 rfl ?_
  refine xb_if_lt (tgt := 22) hC dX2_codeAt_1 (by decide) hf (fun hf => ?_) (fun hf => ?_)
  · refine xj_iconst (v := 0) hC dX2_codeAt_22 (by decide) ?_
    exact xj_iret hC hr (by decide) (by decide) dX2_codeAt_23 (Option.some.inj hf) rfl
  · refine xj_iload_n hC dX2_codeAt_4 rfl 1 rfl ?_
    refine xj_aload_n hC dX2_codeAt_5 rfl 0 rfl ?_
    refine xb_getR hC 2 2 xcl_2 (by decide) xw_fl_X2_19 dX2_codeAt_6 hf (fun v1 hf => ?_)
    refine xb_alen hC dX2_codeAt_9 hf (fun v2 hf => ?_)
    refine xb_ic_ge (tgt := 22) hC dX2_codeAt_10 (by decide) hf (fun hf => ?_) (fun hf => ?_)
    · refine xj_iconst (v := 0) hC dX2_codeAt_22 (by decide) ?_
      exact xj_iret hC hr (by decide) (by decide) dX2_codeAt_23 (Option.some.inj hf) rfl
    · refine xj_aload_n hC dX2_codeAt_13 rfl 0 rfl ?_
      refine xb_getR hC 2 2 xcl_2 (by decide) xw_fl_X2_19 dX2_codeAt_14 hf (fun v3 hf => ?_)
      refine xj_iload_n hC dX2_codeAt_17 rfl 1 rfl ?_
      refine xb_iald hC dX2_codeAt_18 hf (fun v4 hf => ?_)
      refine xj_goto (tgt := 23) hC dX2_codeAt_19 (by decide) ?_
      exact xj_iret hC hr (by decide) (by decide) dX2_codeAt_23 (Option.some.inj hf) rfl
def fX2_init (w : xmW) (th : (Option Nat)) : Option xmW := (th.bind fun k5 => ((xmput w th 2 0 (xR none)).bind fun w1 => ((xmput w1 th 2 1 (xI (0 : Int32))).bind fun w2 => ((xmnai w2 0 16).bind fun w3 => ((xmput w3 th 2 2 (xR (some w2.length))).bind fun w4 => (some w4))))))
set_option maxHeartbeats 4000000 in
set_option maxRecDepth 100000 in
theorem mX2_init (l : Launch) (D : va_G) (ks : Nat → ClassId) (b : Nat) {w : xmW} {th : (Option Nat)} {wz : xmW} (hf : fX2_init w th = some wz) : xmM l yX2_init (Cond.code yX2_init cX2_init 1 none :: xmTs) 1 20 1 16 D ks b w [xR th] none wz := by
  unfold fX2_init at hf
  refine xmM.of (own := RX2) (lv0 := [(0, xR th)]) (by decide) rfl (Nat.le_of_ble_eq_true rfl) rfl ?_
  intro p e s m args below meth c hC hr hnm
  refine xj_aload_n hC dX2_init_0 rfl 0 rfl ?_
  obtain ⟨k5, hkk5, hf⟩ := xm_bind hf
  refine xj_objInit hC hkk5 xw_ml_X2_3 xw_ins_obj xw_cod_obj dX2_init_1 ⟨Nat.le_of_ble_eq_true rfl, Nat.le_of_ble_eq_true rfl⟩ ?_
  refine xj_aload_n hC dX2_init_4 rfl 0 rfl ?_
  refine xj_null hC dX2_init_5 ?_
  refine xb_put hC 2 0 xcl_2 (by decide) xw_fl_X2_9 rfl (xmfit_q _ _) dX2_init_6 hf (fun w1 hf => ?_)
  refine xj_aload_n hC dX2_init_9 rfl 0 rfl ?_
  refine xj_iconst (v := 0) hC dX2_init_10 (by decide) ?_
  refine xb_put hC 2 1 xcl_2 (by decide) xw_fl_X2_15 rfl (xmfit_i _) dX2_init_11 hf (fun w2 hf => ?_)
  refine xj_aload_n hC dX2_init_14 rfl 0 rfl ?_
  refine xj_bipush (v := 16) hC dX2_init_15 (by decide) ?_
  refine xb_newarr hC (N := 16) 0 (by decide) xw_arr_int (by decide) (by decide) (by decide) (by decide) (by decide) dX2_init_17 hf (fun w3 hf => ?_)
  refine xb_putF hC 2 2 xcl_2 (by decide) xw_fl_X2_19 rfl hnm rfl (xmfit_a _ _) dX2_init_19 hf (fun w4 hf => ?_)
  exact xj_vret hC hr (by decide) (by decide) dX2_init_22 (Option.some.inj hf)
def fX2_become_L24 : Nat → xmW → (Option Nat) → Int32 → Option xmW
  | 0, _, _, _ => none
  | n + 1, w, p0, p3 => ((xmgR w p0 2 2).bind fun v5 => ((xmlen w v5 0).bind fun v6 => (if v6 ≤ p3 then (some w) else ((xmgR w p0 2 2).bind fun v7 => ((xmist w v7 0 p3 (0 : Int32)).bind fun w8 => (fX2_become_L24 n w8 (p0) ((p3 + (1 : Int32))) ))))))
set_option maxHeartbeats 4000000 in
set_option maxRecDepth 100000 in
theorem lX2_become_L24 {p : Program} {l : Launch} {e : Env} {s : State} {m : MethodId} {args : Array Value} {below : List Frame} {meth : Method} {c : Code} {D : va_G} {ks : Nat → ClassId} {b : Nat} (hC : xmC p s m args meth c D ks b 4 cX2_become RX2) (hr : meth.sig.returnType = none) {wz : xmW} : ∀ (n : Nat) (w : xmW) (p0 : (Option Nat)) (p3 : Int32), fX2_become_L24 n w p0 p3 = some wz → xmJ p l e ({ frames := 1, cells := 0, slots := 0, locals := 23 } : Room) s m args below meth c D ks b 4 (MQ below (xmQ D ks b none wz) args s 0 0 (xmA b)) w 0 0 24 [(0, xR p0), (3, xI p3)] [] := by
  intro n
  induction n with
  | zero => intro w p0 p3 hf; simp [fX2_become_L24] at hf
  | succ n ih =>
    intro w p0 p3 hf
    rw [fX2_become_L24] at hf
    refine xj_iload_n hC dX2_become_24 rfl 1 rfl ?_
    refine xj_aload_n hC dX2_become_25 rfl 0 rfl ?_
    refine xb_getR hC 2 2 xcl_2 (by decide) xw_fl_X2_19 dX2_become_26 hf (fun v5 hf => ?_)
    refine xb_alen hC dX2_become_29 hf (fun v6 hf => ?_)
    refine xb_ic_ge (tgt := 46) hC dX2_become_30 (by decide) hf (fun hf => ?_) (fun hf => ?_)
    · exact xj_vret hC hr (by decide) (by decide) dX2_become_46 (Option.some.inj hf)
    · refine xj_aload_n hC dX2_become_33 rfl 0 rfl ?_
      refine xb_getR hC 2 2 xcl_2 (by decide) xw_fl_X2_19 dX2_become_34 hf (fun v7 hf => ?_)
      refine xj_iload_n hC dX2_become_37 rfl 1 rfl ?_
      refine xj_iconst (v := 0) hC dX2_become_38 (by decide) ?_
      refine xb_iast hC dX2_become_39 hf (fun w8 hf => ?_)
      refine xj_iinc (v := (p3 + (1 : Int32))) (lv' := [(3, xI (p3 + (1 : Int32))), (0, xR p0)]) hC dX2_become_40 1 rfl rfl (by decide) rfl ?_
      refine xj_goto (tgt := 24) hC dX2_become_43 (by decide) ?_
      refine xj_lv [1, 0] rfl ?_
      exact ih w8 (p0) ((p3 + (1 : Int32)))  hf
def fX2_become (w : xmW) (th : (Option Nat)) (a1 : (Option Nat)) (a2 : Int32) : Option xmW := ((xmob w th 2).bind fun _ => ((xmput w th 2 0 (xR a1)).bind fun w1 => ((xmgR w1 th 2 2).bind fun v2 => ((xmlen w1 v2 0).bind fun v3 => ((xmput w1 th 2 1 (xI (if (0 : Int32) < (if v3 < a2 then v3 else a2) then (if v3 < a2 then v3 else a2) else (0 : Int32)))).bind fun w4 => (fX2_become_L24 xmN w4 (th) ((0 : Int32)) ))))))
set_option maxHeartbeats 4000000 in
set_option maxRecDepth 100000 in
theorem mX2_become (l : Launch) (D : va_G) (ks : Nat → ClassId) (b : Nat) {w : xmW} {th : (Option Nat)} {a1 : (Option Nat)} {a2 : Int32} {wz : xmW} (hf : fX2_become w th a1 a2 = some wz) : xmM l yX2_become (Cond.code yX2_become cX2_become 4 none :: xmTs) 1 23 0 0 D ks b w [xR th, xR a1, xI a2] none wz := by
  unfold fX2_become at hf
  obtain ⟨_, _, hf⟩ := xm_bind hf
  refine xmM.of (own := RX2) (lv0 := [(0, xR th), (1, xR a1), (2, xI a2)]) (by decide) rfl (Nat.le_of_ble_eq_true rfl) rfl ?_
  intro p e s m args below meth c hC hr hnm
  refine xj_aload_n hC dX2_become_0 rfl 0 rfl ?_
  refine xj_aload_n hC dX2_become_1 rfl 1 rfl ?_
  refine xb_put hC 2 0 xcl_2 (by decide) xw_fl_X2_9 rfl (xmfit_q _ _) dX2_become_2 hf (fun w1 hf => ?_)
  refine xj_aload_n hC dX2_become_5 rfl 0 rfl ?_
  refine xj_iconst (v := 0) hC dX2_become_6 (by decide) ?_
  refine xj_iload_n hC dX2_become_7 rfl 2 rfl ?_
  refine xj_aload_n hC dX2_become_8 rfl 0 rfl ?_
  refine xb_getR hC 2 2 xcl_2 (by decide) xw_fl_X2_19 dX2_become_9 hf (fun v2 hf => ?_)
  refine xb_alen hC dX2_become_12 hf (fun v3 hf => ?_)
  refine xj_mmin hC xw_ml_X2_23 xw_sta_J9_min_i xw_ini_J9 xw_cod_J9_min_i ⟨Nat.le_of_ble_eq_true rfl, Nat.le_of_ble_eq_true rfl⟩ (Nat.le_of_ble_eq_true rfl) (Nat.le_of_ble_eq_true rfl) dX2_become_13 ?_
  refine xj_mmax hC xw_ml_X2_29 xw_sta_J9_max_i xw_ini_J9 xw_cod_J9_max_i ⟨Nat.le_of_ble_eq_true rfl, Nat.le_of_ble_eq_true rfl⟩ (Nat.le_of_ble_eq_true rfl) (Nat.le_of_ble_eq_true rfl) dX2_become_16 ?_
  refine xb_put hC 2 1 xcl_2 (by decide) xw_fl_X2_15 rfl (xmfit_i _) dX2_become_19 hf (fun w4 hf => ?_)
  refine xj_iconst (v := 0) hC dX2_become_22 (by decide) ?_
  refine xj_istore_n (lv' := [(3, xI (0 : Int32)), (0, xR th), (1, xR a1), (2, xI a2)]) hC dX2_become_23 rfl (by decide) rfl ?_
  refine xj_lv [1, 0] rfl ?_
  exact lX2_become_L24 hC hr  xmN w4 (th) ((0 : Int32))  hf
def fX2_hasPlace (w : xmW) (th : (Option Nat)) (a1 : Int32) : Option Int32 := ((xmob w th 2).bind fun _ => (if a1 < 0 then (xmbz (0 : Int32)) else ((xmgI w th 2 1).bind fun v1 => (xmbz (if v1 ≤ a1 then (0 : Int32) else (1 : Int32))))))
set_option maxHeartbeats 4000000 in
set_option maxRecDepth 100000 in
theorem mX2_hasPlace (l : Launch) (D : va_G) (ks : Nat → ClassId) (b : Nat) {w : xmW} {th : (Option Nat)} {a1 : Int32} {y : Int32} (hf : fX2_hasPlace w th a1 = some y) : xmM l yX2_hasPlace (Cond.code yX2_hasPlace cX2_hasPlace 2 (some (FieldType.boolean)) :: xmTs) 0 0 0 0 D ks b w [xR th, xI a1] (some (xI y)) w := by
  unfold fX2_hasPlace at hf
  obtain ⟨_, _, hf⟩ := xm_bind hf
  refine xmM.of (own := RX2) (lv0 := [(0, xR th), (1, xI a1)]) (by decide) rfl (Nat.le_of_ble_eq_true rfl) rfl ?_
  intro p e s m args below meth c hC hr hnm
  refine xj_iload_n hC dX2_hasPlace_0 rfl 1 rfl ?_
  refine xb_if_lt (tgt := 16) hC dX2_hasPlace_1 (by decide) hf (fun hf => ?_) (fun hf => ?_)
  · refine xj_iconst (v := 0) hC dX2_hasPlace_16 (by decide) ?_
    exact xj_zret hC hr (by decide) (by decide) dX2_hasPlace_17 hf rfl
  · refine xj_iload_n hC dX2_hasPlace_4 rfl 1 rfl ?_
    refine xj_aload_n hC dX2_hasPlace_5 rfl 0 rfl ?_
    refine xb_getI hC 2 1 xcl_2 (by decide) xw_fl_X2_15 dX2_hasPlace_6 hf (fun v1 hf => ?_)
    refine xj_dia (cnd := v1 ≤ a1) (x := 0) (y := 1) (pc2 := 17) (st2 := []) (fun hc hk => ?_) (fun hc hk => ?_) ?_
    · exact xj_ic_ge (tgt := 16) hC dX2_hasPlace_9 (by decide) (fun _ => xj_iconst (v := 0) hC dX2_hasPlace_16 (by decide) hk) (fun hn => absurd hc hn)
    · exact xj_ic_ge (tgt := 16) hC dX2_hasPlace_9 (by decide) (fun hn => absurd hn hc) (fun _ => xj_iconst (v := 1) hC dX2_hasPlace_12 (by decide) (xj_goto (tgt := 17) hC dX2_hasPlace_13 (by decide) hk))
    exact xj_zret hC hr (by decide) (by decide) dX2_hasPlace_17 hf rfl
def fX2_setCode (w : xmW) (th : (Option Nat)) (a1 : Int32) (a2 : Int32) : Option xmW := ((xmob w th 2).bind fun _ => (if a1 < 0 then (some w) else ((xmgR w th 2 2).bind fun v1 => ((xmlen w v1 0).bind fun v2 => (if v2 ≤ a1 then (some w) else ((xmgR w th 2 2).bind fun v3 => ((xmist w v3 0 a1 a2).bind fun w4 => (some w4))))))))
set_option maxHeartbeats 4000000 in
set_option maxRecDepth 100000 in
theorem mX2_setCode (l : Launch) (D : va_G) (ks : Nat → ClassId) (b : Nat) {w : xmW} {th : (Option Nat)} {a1 : Int32} {a2 : Int32} {wz : xmW} (hf : fX2_setCode w th a1 a2 = some wz) : xmM l yX2_setCode (Cond.code yX2_setCode cX2_setCode 3 none :: xmTs) 0 0 0 0 D ks b w [xR th, xI a1, xI a2] none wz := by
  unfold fX2_setCode at hf
  obtain ⟨_, _, hf⟩ := xm_bind hf
  refine xmM.of (own := RX2) (lv0 := [(0, xR th), (1, xI a1), (2, xI a2)]) (by decide) rfl (Nat.le_of_ble_eq_true rfl) rfl ?_
  intro p e s m args below meth c hC hr hnm
  refine xj_iload_n hC dX2_setCode_0 rfl 1 rfl ?_
  refine xb_if_lt (tgt := 20) hC dX2_setCode_1 (by decide) hf (fun hf => ?_) (fun hf => ?_)
  · exact xj_vret hC hr (by decide) (by decide) dX2_setCode_20 (Option.some.inj hf)
  · refine xj_iload_n hC dX2_setCode_4 rfl 1 rfl ?_
    refine xj_aload_n hC dX2_setCode_5 rfl 0 rfl ?_
    refine xb_getR hC 2 2 xcl_2 (by decide) xw_fl_X2_19 dX2_setCode_6 hf (fun v1 hf => ?_)
    refine xb_alen hC dX2_setCode_9 hf (fun v2 hf => ?_)
    refine xb_ic_ge (tgt := 20) hC dX2_setCode_10 (by decide) hf (fun hf => ?_) (fun hf => ?_)
    · exact xj_vret hC hr (by decide) (by decide) dX2_setCode_20 (Option.some.inj hf)
    · refine xj_aload_n hC dX2_setCode_13 rfl 0 rfl ?_
      refine xb_getR hC 2 2 xcl_2 (by decide) xw_fl_X2_19 dX2_setCode_14 hf (fun v3 hf => ?_)
      refine xj_iload_n hC dX2_setCode_17 rfl 1 rfl ?_
      refine xj_iload_n hC dX2_setCode_18 rfl 2 rfl ?_
      refine xb_iast hC dX2_setCode_19 hf (fun w4 hf => ?_)
      exact xj_vret hC hr (by decide) (by decide) dX2_setCode_20 (Option.some.inj hf)
def fX2_byteCount (w : xmW) (th : (Option Nat)) : Option Int32 := ((xmob w th 2).bind fun _ => ((xmgI w th 2 1).bind fun v1 => ((xmgR w th 2 0).bind fun v2 => ((fX1_bits w (v2) ).bind fun v4 => (some (((v1 * v4) + (7 : Int32)) >>> ((3 : Int32) &&& 31)))))))
set_option maxHeartbeats 4000000 in
set_option maxRecDepth 100000 in
theorem mX2_byteCount (l : Launch) (D : va_G) (ks : Nat → ClassId) (b : Nat) {w : xmW} {th : (Option Nat)} {y : Int32} (hf : fX2_byteCount w th = some y) : xmM l yX2_byteCount (Cond.code yX2_byteCount cX2_byteCount 1 (some (FieldType.int)) :: xmTs) 1 20 0 0 D ks b w [xR th] (some (xI y)) w := by
  unfold fX2_byteCount at hf
  obtain ⟨_, _, hf⟩ := xm_bind hf
  refine xmM.of (own := RX2) (lv0 := [(0, xR th)]) (by decide) rfl (Nat.le_of_ble_eq_true rfl) rfl ?_
  intro p e s m args below meth c hC hr hnm
  refine xj_aload_n hC dX2_byteCount_0 rfl 0 rfl ?_
  refine xb_getI hC 2 1 xcl_2 (by decide) xw_fl_X2_15 dX2_byteCount_1 hf (fun v1 hf => ?_)
  refine xj_aload_n hC dX2_byteCount_4 rfl 0 rfl ?_
  refine xb_getR hC 2 0 xcl_2 (by decide) xw_fl_X2_9 dX2_byteCount_5 hf (fun v2 hf => ?_)
  obtain ⟨v4, hc3, hf⟩ := xm_bind hf
  obtain ⟨_, hob, _⟩ := xm_bind hc3
  refine xj_reti (xr_V hC (mX1_bits l D ks b hc3) hob rfl xw_cod_X1_bits xw_ini_X1 xw_ins_X1_bits xw_sel_X1_bits xw_ml_X2_32 xds_X1_bits ⟨Nat.le_of_ble_eq_true rfl, Nat.le_of_ble_eq_true rfl⟩ rfl rfl (Nat.le_of_ble_eq_true rfl) ⟨Nat.le_of_ble_eq_true rfl, Nat.le_of_ble_eq_true rfl⟩ dX2_byteCount_8) ?_
  refine xj_imul hC dX2_byteCount_11 ?_
  refine xj_bipush (v := 7) hC dX2_byteCount_12 (by decide) ?_
  refine xj_iadd hC dX2_byteCount_14 ?_
  refine xj_iconst (v := 3) hC dX2_byteCount_15 (by decide) ?_
  refine xj_ishr hC dX2_byteCount_16 ?_
  exact xj_iret hC hr (by decide) (by decide) dX2_byteCount_17 (Option.some.inj hf) rfl
def fX2_byteAt_L4 : Nat → xmW → (Option Nat) → Int32 → Int32 → Int32 → Option Int32
  | 0, _, _, _, _, _ => none
  | n + 1, w, p0, p1, p2, p3 => ((xmgI w p0 2 1).bind fun v1 => (if v1 ≤ p3 then (some (p2 &&& (255 : Int32))) else ((xmgR w p0 2 0).bind fun v2 => ((fX1_bits w (v2) ).bind fun v4 => (if ((p3 * v4) - ((8 : Int32) * p1)) < 0 then (if 0 ≤ ((p3 * v4) - ((8 : Int32) * p1)) then (fX2_byteAt_L4 n w (p0) (p1) (p2) ((p3 + (1 : Int32))) ) else ((xmgR w p0 2 0).bind fun v5 => ((fX1_bits w (v5) ).bind fun v7 => (if ((p3 * v4) - ((8 : Int32) * p1)) ≤ (-v7) then (fX2_byteAt_L4 n w (p0) (p1) (p2) ((p3 + (1 : Int32))) ) else ((fX2_codeAt w (p0) (p3)).bind fun v9 => (fX2_byteAt_L4 n w (p0) (p1) ((p2 ||| (v9 >>> ((-((p3 * v4) - ((8 : Int32) * p1))) &&& 31)))) ((p3 + (1 : Int32))) )))))) else (if (8 : Int32) ≤ ((p3 * v4) - ((8 : Int32) * p1)) then (if 0 ≤ ((p3 * v4) - ((8 : Int32) * p1)) then (fX2_byteAt_L4 n w (p0) (p1) (p2) ((p3 + (1 : Int32))) ) else ((xmgR w p0 2 0).bind fun v10 => ((fX1_bits w (v10) ).bind fun v12 => (if ((p3 * v4) - ((8 : Int32) * p1)) ≤ (-v12) then (fX2_byteAt_L4 n w (p0) (p1) (p2) ((p3 + (1 : Int32))) ) else ((fX2_codeAt w (p0) (p3)).bind fun v14 => (fX2_byteAt_L4 n w (p0) (p1) ((p2 ||| (v14 >>> ((-((p3 * v4) - ((8 : Int32) * p1))) &&& 31)))) ((p3 + (1 : Int32))) )))))) else ((fX2_codeAt w (p0) (p3)).bind fun v16 => (fX2_byteAt_L4 n w (p0) (p1) ((p2 ||| (v16 <<< (((p3 * v4) - ((8 : Int32) * p1)) &&& 31)))) ((p3 + (1 : Int32))) ))))))))
set_option maxHeartbeats 4000000 in
set_option maxRecDepth 100000 in
theorem lX2_byteAt_L4 {p : Program} {l : Launch} {e : Env} {s : State} {m : MethodId} {args : Array Value} {below : List Frame} {meth : Method} {c : Code} {D : va_G} {ks : Nat → ClassId} {b : Nat} (hC : xmC p s m args meth c D ks b 5 cX2_byteAt RX2) (hr : meth.sig.returnType = (some (FieldType.int))) {y : Int32} : ∀ (n : Nat) (w : xmW) (p0 : (Option Nat)) (p1 : Int32) (p2 : Int32) (p3 : Int32), fX2_byteAt_L4 n w p0 p1 p2 p3 = some y → xmJ p l e ({ frames := 1, cells := 0, slots := 0, locals := 21 } : Room) s m args below meth c D ks b 5 (MQ below (xmQ D ks b (some (xI y)) w) args s 0 0 (xmA b)) w 0 0 4 [(0, xR p0), (1, xI p1), (2, xI p2), (3, xI p3)] [] := by
  intro n
  induction n with
  | zero => intro w p0 p1 p2 p3 hf; simp [fX2_byteAt_L4] at hf
  | succ n ih =>
    intro w p0 p1 p2 p3 hf
    rw [fX2_byteAt_L4] at hf
    refine xj_iload_n hC dX2_byteAt_4 rfl 3 rfl ?_
    refine xj_aload_n hC dX2_byteAt_5 rfl 0 rfl ?_
    refine xb_getI hC 2 1 xcl_2 (by decide) xw_fl_X2_15 dX2_byteAt_6 hf (fun v1 hf => ?_)
    refine xb_ic_ge (tgt := 90) hC dX2_byteAt_9 (by decide) hf (fun hf => ?_) (fun hf => ?_)
    · refine xj_iload_n hC dX2_byteAt_90 rfl 2 rfl ?_
      refine xj_sipush (v := 255) hC dX2_byteAt_91 (by decide) ?_
      refine xj_iand hC dX2_byteAt_94 ?_
      exact xj_iret hC hr (by decide) (by decide) dX2_byteAt_95 (Option.some.inj hf) rfl
    · refine xj_iload_n hC dX2_byteAt_12 rfl 3 rfl ?_
      refine xj_aload_n hC dX2_byteAt_13 rfl 0 rfl ?_
      refine xb_getR hC 2 0 xcl_2 (by decide) xw_fl_X2_9 dX2_byteAt_14 hf (fun v2 hf => ?_)
      obtain ⟨v4, hc3, hf⟩ := xm_bind hf
      obtain ⟨_, hob, _⟩ := xm_bind hc3
      refine xj_reti (xr_V hC (mX1_bits l D ks b hc3) hob rfl xw_cod_X1_bits xw_ini_X1 xw_ins_X1_bits xw_sel_X1_bits xw_ml_X2_32 xds_X1_bits ⟨Nat.le_of_ble_eq_true rfl, Nat.le_of_ble_eq_true rfl⟩ rfl rfl (Nat.le_of_ble_eq_true rfl) ⟨Nat.le_of_ble_eq_true rfl, Nat.le_of_ble_eq_true rfl⟩ dX2_byteAt_17) ?_
      refine xj_imul hC dX2_byteAt_20 ?_
      refine xj_bipush (v := 8) hC dX2_byteAt_21 (by decide) ?_
      refine xj_iload_n hC dX2_byteAt_23 rfl 1 rfl ?_
      refine xj_imul hC dX2_byteAt_24 ?_
      refine xj_isub hC dX2_byteAt_25 ?_
      refine xj_istore (lv' := [(4, xI ((p3 * v4) - ((8 : Int32) * p1))), (0, xR p0), (1, xI p1), (2, xI p2), (3, xI p3)]) hC dX2_byteAt_26 (by decide) rfl ?_
      refine xj_iload hC dX2_byteAt_28 0 rfl ?_
      refine xb_if_lt (tgt := 54) hC dX2_byteAt_30 (by decide) hf (fun hf => ?_) (fun hf => ?_)
      · refine xj_iload hC dX2_byteAt_54 0 rfl ?_
        refine xb_if_ge (tgt := 84) hC dX2_byteAt_56 (by decide) hf (fun hf => ?_) (fun hf => ?_)
        · refine xj_iinc (v := (p3 + (1 : Int32))) (lv' := [(3, xI (p3 + (1 : Int32))), (4, xI ((p3 * v4) - ((8 : Int32) * p1))), (0, xR p0), (1, xI p1), (2, xI p2)]) hC dX2_byteAt_84 4 rfl rfl (by decide) rfl ?_
          refine xj_goto (tgt := 4) hC dX2_byteAt_87 (by decide) ?_
          refine xj_lv [2, 3, 4, 0] rfl ?_
          exact ih w (p0) (p1) (p2) ((p3 + (1 : Int32)))  hf
        · refine xj_iload hC dX2_byteAt_59 0 rfl ?_
          refine xj_aload_n hC dX2_byteAt_61 rfl 1 rfl ?_
          refine xb_getR hC 2 0 xcl_2 (by decide) xw_fl_X2_9 dX2_byteAt_62 hf (fun v5 hf => ?_)
          obtain ⟨v7, hc6, hf⟩ := xm_bind hf
          obtain ⟨_, hob, _⟩ := xm_bind hc6
          refine xj_reti (xr_V hC (mX1_bits l D ks b hc6) hob rfl xw_cod_X1_bits xw_ini_X1 xw_ins_X1_bits xw_sel_X1_bits xw_ml_X2_32 xds_X1_bits ⟨Nat.le_of_ble_eq_true rfl, Nat.le_of_ble_eq_true rfl⟩ rfl rfl (Nat.le_of_ble_eq_true rfl) ⟨Nat.le_of_ble_eq_true rfl, Nat.le_of_ble_eq_true rfl⟩ dX2_byteAt_65) ?_
          refine xj_ineg hC dX2_byteAt_68 ?_
          refine xb_ic_le (tgt := 84) hC dX2_byteAt_69 (by decide) hf (fun hf => ?_) (fun hf => ?_)
          · refine xj_iinc (v := (p3 + (1 : Int32))) (lv' := [(3, xI (p3 + (1 : Int32))), (4, xI ((p3 * v4) - ((8 : Int32) * p1))), (0, xR p0), (1, xI p1), (2, xI p2)]) hC dX2_byteAt_84 4 rfl rfl (by decide) rfl ?_
            refine xj_goto (tgt := 4) hC dX2_byteAt_87 (by decide) ?_
            refine xj_lv [2, 3, 4, 0] rfl ?_
            exact ih w (p0) (p1) (p2) ((p3 + (1 : Int32)))  hf
          · refine xj_iload_n hC dX2_byteAt_72 rfl 3 rfl ?_
            refine xj_aload_n hC dX2_byteAt_73 rfl 1 rfl ?_
            refine xj_iload_n hC dX2_byteAt_74 rfl 4 rfl ?_
            obtain ⟨v9, hc8, hf⟩ := xm_bind hf
            obtain ⟨_, hob, _⟩ := xm_bind hc8
            refine xj_reti (xr_V hC (mX2_codeAt l D ks b hc8) hob rfl xw_cod_X2_codeAt xw_ini_X2 xw_ins_X2_codeAt xw_sel_X2_codeAt xw_ml_X2_38 xds_X2_codeAt ⟨Nat.le_of_ble_eq_true rfl, Nat.le_of_ble_eq_true rfl⟩ rfl rfl (Nat.le_of_ble_eq_true rfl) ⟨Nat.le_of_ble_eq_true rfl, Nat.le_of_ble_eq_true rfl⟩ dX2_byteAt_75) ?_
            refine xj_iload hC dX2_byteAt_78 0 rfl ?_
            refine xj_ineg hC dX2_byteAt_80 ?_
            refine xj_ishr hC dX2_byteAt_81 ?_
            refine xj_ior hC dX2_byteAt_82 ?_
            refine xj_istore_n (lv' := [(2, xI (p2 ||| (v9 >>> ((-((p3 * v4) - ((8 : Int32) * p1))) &&& 31)))), (4, xI ((p3 * v4) - ((8 : Int32) * p1))), (0, xR p0), (1, xI p1), (3, xI p3)]) hC dX2_byteAt_83 rfl (by decide) rfl ?_
            refine xj_iinc (v := (p3 + (1 : Int32))) (lv' := [(3, xI (p3 + (1 : Int32))), (2, xI (p2 ||| (v9 >>> ((-((p3 * v4) - ((8 : Int32) * p1))) &&& 31)))), (4, xI ((p3 * v4) - ((8 : Int32) * p1))), (0, xR p0), (1, xI p1)]) hC dX2_byteAt_84 4 rfl rfl (by decide) rfl ?_
            refine xj_goto (tgt := 4) hC dX2_byteAt_87 (by decide) ?_
            refine xj_lv [3, 4, 1, 0] rfl ?_
            exact ih w (p0) (p1) ((p2 ||| (v9 >>> ((-((p3 * v4) - ((8 : Int32) * p1))) &&& 31)))) ((p3 + (1 : Int32)))  hf
      · refine xj_iload hC dX2_byteAt_33 0 rfl ?_
        refine xj_bipush (v := 8) hC dX2_byteAt_35 (by decide) ?_
        refine xb_ic_ge (tgt := 54) hC dX2_byteAt_37 (by decide) hf (fun hf => ?_) (fun hf => ?_)
        · refine xj_iload hC dX2_byteAt_54 0 rfl ?_
          refine xb_if_ge (tgt := 84) hC dX2_byteAt_56 (by decide) hf (fun hf => ?_) (fun hf => ?_)
          · refine xj_iinc (v := (p3 + (1 : Int32))) (lv' := [(3, xI (p3 + (1 : Int32))), (4, xI ((p3 * v4) - ((8 : Int32) * p1))), (0, xR p0), (1, xI p1), (2, xI p2)]) hC dX2_byteAt_84 4 rfl rfl (by decide) rfl ?_
            refine xj_goto (tgt := 4) hC dX2_byteAt_87 (by decide) ?_
            refine xj_lv [2, 3, 4, 0] rfl ?_
            exact ih w (p0) (p1) (p2) ((p3 + (1 : Int32)))  hf
          · refine xj_iload hC dX2_byteAt_59 0 rfl ?_
            refine xj_aload_n hC dX2_byteAt_61 rfl 1 rfl ?_
            refine xb_getR hC 2 0 xcl_2 (by decide) xw_fl_X2_9 dX2_byteAt_62 hf (fun v10 hf => ?_)
            obtain ⟨v12, hc11, hf⟩ := xm_bind hf
            obtain ⟨_, hob, _⟩ := xm_bind hc11
            refine xj_reti (xr_V hC (mX1_bits l D ks b hc11) hob rfl xw_cod_X1_bits xw_ini_X1 xw_ins_X1_bits xw_sel_X1_bits xw_ml_X2_32 xds_X1_bits ⟨Nat.le_of_ble_eq_true rfl, Nat.le_of_ble_eq_true rfl⟩ rfl rfl (Nat.le_of_ble_eq_true rfl) ⟨Nat.le_of_ble_eq_true rfl, Nat.le_of_ble_eq_true rfl⟩ dX2_byteAt_65) ?_
            refine xj_ineg hC dX2_byteAt_68 ?_
            refine xb_ic_le (tgt := 84) hC dX2_byteAt_69 (by decide) hf (fun hf => ?_) (fun hf => ?_)
            · refine xj_iinc (v := (p3 + (1 : Int32))) (lv' := [(3, xI (p3 + (1 : Int32))), (4, xI ((p3 * v4) - ((8 : Int32) * p1))), (0, xR p0), (1, xI p1), (2, xI p2)]) hC dX2_byteAt_84 4 rfl rfl (by decide) rfl ?_
              refine xj_goto (tgt := 4) hC dX2_byteAt_87 (by decide) ?_
              refine xj_lv [2, 3, 4, 0] rfl ?_
              exact ih w (p0) (p1) (p2) ((p3 + (1 : Int32)))  hf
            · refine xj_iload_n hC dX2_byteAt_72 rfl 3 rfl ?_
              refine xj_aload_n hC dX2_byteAt_73 rfl 1 rfl ?_
              refine xj_iload_n hC dX2_byteAt_74 rfl 4 rfl ?_
              obtain ⟨v14, hc13, hf⟩ := xm_bind hf
              obtain ⟨_, hob, _⟩ := xm_bind hc13
              refine xj_reti (xr_V hC (mX2_codeAt l D ks b hc13) hob rfl xw_cod_X2_codeAt xw_ini_X2 xw_ins_X2_codeAt xw_sel_X2_codeAt xw_ml_X2_38 xds_X2_codeAt ⟨Nat.le_of_ble_eq_true rfl, Nat.le_of_ble_eq_true rfl⟩ rfl rfl (Nat.le_of_ble_eq_true rfl) ⟨Nat.le_of_ble_eq_true rfl, Nat.le_of_ble_eq_true rfl⟩ dX2_byteAt_75) ?_
              refine xj_iload hC dX2_byteAt_78 0 rfl ?_
              refine xj_ineg hC dX2_byteAt_80 ?_
              refine xj_ishr hC dX2_byteAt_81 ?_
              refine xj_ior hC dX2_byteAt_82 ?_
              refine xj_istore_n (lv' := [(2, xI (p2 ||| (v14 >>> ((-((p3 * v4) - ((8 : Int32) * p1))) &&& 31)))), (4, xI ((p3 * v4) - ((8 : Int32) * p1))), (0, xR p0), (1, xI p1), (3, xI p3)]) hC dX2_byteAt_83 rfl (by decide) rfl ?_
              refine xj_iinc (v := (p3 + (1 : Int32))) (lv' := [(3, xI (p3 + (1 : Int32))), (2, xI (p2 ||| (v14 >>> ((-((p3 * v4) - ((8 : Int32) * p1))) &&& 31)))), (4, xI ((p3 * v4) - ((8 : Int32) * p1))), (0, xR p0), (1, xI p1)]) hC dX2_byteAt_84 4 rfl rfl (by decide) rfl ?_
              refine xj_goto (tgt := 4) hC dX2_byteAt_87 (by decide) ?_
              refine xj_lv [3, 4, 1, 0] rfl ?_
              exact ih w (p0) (p1) ((p2 ||| (v14 >>> ((-((p3 * v4) - ((8 : Int32) * p1))) &&& 31)))) ((p3 + (1 : Int32)))  hf
        · refine xj_iload_n hC dX2_byteAt_40 rfl 3 rfl ?_
          refine xj_aload_n hC dX2_byteAt_41 rfl 1 rfl ?_
          refine xj_iload_n hC dX2_byteAt_42 rfl 4 rfl ?_
          obtain ⟨v16, hc15, hf⟩ := xm_bind hf
          obtain ⟨_, hob, _⟩ := xm_bind hc15
          refine xj_reti (xr_V hC (mX2_codeAt l D ks b hc15) hob rfl xw_cod_X2_codeAt xw_ini_X2 xw_ins_X2_codeAt xw_sel_X2_codeAt xw_ml_X2_38 xds_X2_codeAt ⟨Nat.le_of_ble_eq_true rfl, Nat.le_of_ble_eq_true rfl⟩ rfl rfl (Nat.le_of_ble_eq_true rfl) ⟨Nat.le_of_ble_eq_true rfl, Nat.le_of_ble_eq_true rfl⟩ dX2_byteAt_43) ?_
          refine xj_iload hC dX2_byteAt_46 0 rfl ?_
          refine xj_ishl hC dX2_byteAt_48 ?_
          refine xj_ior hC dX2_byteAt_49 ?_
          refine xj_istore_n (lv' := [(2, xI (p2 ||| (v16 <<< (((p3 * v4) - ((8 : Int32) * p1)) &&& 31)))), (4, xI ((p3 * v4) - ((8 : Int32) * p1))), (0, xR p0), (1, xI p1), (3, xI p3)]) hC dX2_byteAt_50 rfl (by decide) rfl ?_
          refine xj_goto (tgt := 84) hC dX2_byteAt_51 (by decide) ?_
          refine xj_iinc (v := (p3 + (1 : Int32))) (lv' := [(3, xI (p3 + (1 : Int32))), (2, xI (p2 ||| (v16 <<< (((p3 * v4) - ((8 : Int32) * p1)) &&& 31)))), (4, xI ((p3 * v4) - ((8 : Int32) * p1))), (0, xR p0), (1, xI p1)]) hC dX2_byteAt_84 4 rfl rfl (by decide) rfl ?_
          refine xj_goto (tgt := 4) hC dX2_byteAt_87 (by decide) ?_
          refine xj_lv [3, 4, 1, 0] rfl ?_
          exact ih w (p0) (p1) ((p2 ||| (v16 <<< (((p3 * v4) - ((8 : Int32) * p1)) &&& 31)))) ((p3 + (1 : Int32)))  hf
def fX2_byteAt (w : xmW) (th : (Option Nat)) (a1 : Int32) : Option Int32 := ((xmob w th 2).bind fun _ => (fX2_byteAt_L4 xmN w (th) (a1) ((0 : Int32)) ((0 : Int32)) ))
set_option maxHeartbeats 4000000 in
set_option maxRecDepth 100000 in
theorem mX2_byteAt (l : Launch) (D : va_G) (ks : Nat → ClassId) (b : Nat) {w : xmW} {th : (Option Nat)} {a1 : Int32} {y : Int32} (hf : fX2_byteAt w th a1 = some y) : xmM l yX2_byteAt (Cond.code yX2_byteAt cX2_byteAt 5 (some (FieldType.int)) :: xmTs) 1 21 0 0 D ks b w [xR th, xI a1] (some (xI y)) w := by
  unfold fX2_byteAt at hf
  obtain ⟨_, _, hf⟩ := xm_bind hf
  refine xmM.of (own := RX2) (lv0 := [(0, xR th), (1, xI a1)]) (by decide) rfl (Nat.le_of_ble_eq_true rfl) rfl ?_
  intro p e s m args below meth c hC hr hnm
  refine xj_iconst (v := 0) hC dX2_byteAt_0 (by decide) ?_
  refine xj_istore_n (lv' := [(2, xI (0 : Int32)), (0, xR th), (1, xI a1)]) hC dX2_byteAt_1 rfl (by decide) rfl ?_
  refine xj_iconst (v := 0) hC dX2_byteAt_2 (by decide) ?_
  refine xj_istore_n (lv' := [(3, xI (0 : Int32)), (2, xI (0 : Int32)), (0, xR th), (1, xI a1)]) hC dX2_byteAt_3 rfl (by decide) rfl ?_
  refine xj_lv [2, 3, 1, 0] rfl ?_
  exact lX2_byteAt_L4 hC hr  xmN w (th) (a1) ((0 : Int32)) ((0 : Int32))  hf
def fX2_areNumbers (w : xmW) (th : (Option Nat)) (a1 : (Option Nat)) (a2 : Int32) : Option Int32 := ((xmob w th 2).bind fun _ => ((xmgR w th 2 0).bind fun v1 => ((fX2_codeAt w (th) (a2)).bind fun v3 => ((fX1_isNumber w (v1) (v3)).bind fun v5 => (if v5 = 0 then (xmbz (0 : Int32)) else ((xmgR w a1 2 0).bind fun v6 => ((fX2_codeAt w (a1) (a2)).bind fun v8 => ((fX1_isNumber w (v6) (v8)).bind fun v10 => (xmbz (if v10 = 0 then (0 : Int32) else (1 : Int32)))))))))))
set_option maxHeartbeats 4000000 in
set_option maxRecDepth 100000 in
theorem mX2_areNumbers (l : Launch) (D : va_G) (ks : Nat → ClassId) (b : Nat) {w : xmW} {th : (Option Nat)} {a1 : (Option Nat)} {a2 : Int32} {y : Int32} (hf : fX2_areNumbers w th a1 a2 = some y) : xmM l yX2_areNumbers (Cond.code yX2_areNumbers cX2_areNumbers 3 (some (FieldType.boolean)) :: xmTs) 2 42 0 0 D ks b w [xR th, xR a1, xI a2] (some (xI y)) w := by
  unfold fX2_areNumbers at hf
  obtain ⟨_, _, hf⟩ := xm_bind hf
  refine xmM.of (own := RX2) (lv0 := [(0, xR th), (1, xR a1), (2, xI a2)]) (by decide) rfl (Nat.le_of_ble_eq_true rfl) rfl ?_
  intro p e s m args below meth c hC hr hnm
  refine xj_aload_n hC dX2_areNumbers_0 rfl 0 rfl ?_
  refine xb_getR hC 2 0 xcl_2 (by decide) xw_fl_X2_9 dX2_areNumbers_1 hf (fun v1 hf => ?_)
  refine xj_aload_n hC dX2_areNumbers_4 rfl 0 rfl ?_
  refine xj_iload_n hC dX2_areNumbers_5 rfl 2 rfl ?_
  obtain ⟨v3, hc2, hf⟩ := xm_bind hf
  obtain ⟨_, hob, _⟩ := xm_bind hc2
  refine xj_reti (xr_V hC (mX2_codeAt l D ks b hc2) hob rfl xw_cod_X2_codeAt xw_ini_X2 xw_ins_X2_codeAt xw_sel_X2_codeAt xw_ml_X2_38 xds_X2_codeAt ⟨Nat.le_of_ble_eq_true rfl, Nat.le_of_ble_eq_true rfl⟩ rfl rfl (Nat.le_of_ble_eq_true rfl) ⟨Nat.le_of_ble_eq_true rfl, Nat.le_of_ble_eq_true rfl⟩ dX2_areNumbers_6) ?_
  obtain ⟨v5, hc4, hf⟩ := xm_bind hf
  obtain ⟨_, hob, _⟩ := xm_bind hc4
  refine xj_reti (xr_V hC (mX1_isNumber l D ks b hc4) hob rfl xw_cod_X1_isNumber xw_ini_X1 xw_ins_X1_isNumber xw_sel_X1_isNumber xw_ml_X2_42 xds_X1_isNumber ⟨Nat.le_of_ble_eq_true rfl, Nat.le_of_ble_eq_true rfl⟩ rfl rfl (Nat.le_of_ble_eq_true rfl) ⟨Nat.le_of_ble_eq_true rfl, Nat.le_of_ble_eq_true rfl⟩ dX2_areNumbers_9) ?_
  refine xb_if_eq (tgt := 34) hC dX2_areNumbers_12 (by decide) hf (fun hf => ?_) (fun hf => ?_)
  · refine xj_iconst (v := 0) hC dX2_areNumbers_34 (by decide) ?_
    exact xj_zret hC hr (by decide) (by decide) dX2_areNumbers_35 hf rfl
  · refine xj_aload_n hC dX2_areNumbers_15 rfl 1 rfl ?_
    refine xb_getR hC 2 0 xcl_2 (by decide) xw_fl_X2_9 dX2_areNumbers_16 hf (fun v6 hf => ?_)
    refine xj_aload_n hC dX2_areNumbers_19 rfl 1 rfl ?_
    refine xj_iload_n hC dX2_areNumbers_20 rfl 2 rfl ?_
    obtain ⟨v8, hc7, hf⟩ := xm_bind hf
    obtain ⟨_, hob, _⟩ := xm_bind hc7
    refine xj_reti (xr_V hC (mX2_codeAt l D ks b hc7) hob rfl xw_cod_X2_codeAt xw_ini_X2 xw_ins_X2_codeAt xw_sel_X2_codeAt xw_ml_X2_38 xds_X2_codeAt ⟨Nat.le_of_ble_eq_true rfl, Nat.le_of_ble_eq_true rfl⟩ rfl rfl (Nat.le_of_ble_eq_true rfl) ⟨Nat.le_of_ble_eq_true rfl, Nat.le_of_ble_eq_true rfl⟩ dX2_areNumbers_21) ?_
    obtain ⟨v10, hc9, hf⟩ := xm_bind hf
    obtain ⟨_, hob, _⟩ := xm_bind hc9
    refine xj_reti (xr_V hC (mX1_isNumber l D ks b hc9) hob rfl xw_cod_X1_isNumber xw_ini_X1 xw_ins_X1_isNumber xw_sel_X1_isNumber xw_ml_X2_42 xds_X1_isNumber ⟨Nat.le_of_ble_eq_true rfl, Nat.le_of_ble_eq_true rfl⟩ rfl rfl (Nat.le_of_ble_eq_true rfl) ⟨Nat.le_of_ble_eq_true rfl, Nat.le_of_ble_eq_true rfl⟩ dX2_areNumbers_24) ?_
    refine xj_dia (cnd := v10 = 0) (x := 0) (y := 1) (pc2 := 35) (st2 := []) (fun hc hk => ?_) (fun hc hk => ?_) ?_
    · exact xj_if_eq (tgt := 34) hC dX2_areNumbers_27 (by decide) (fun _ => xj_iconst (v := 0) hC dX2_areNumbers_34 (by decide) hk) (fun hn => absurd hc hn)
    · exact xj_if_eq (tgt := 34) hC dX2_areNumbers_27 (by decide) (fun hn => absurd hn hc) (fun _ => xj_iconst (v := 1) hC dX2_areNumbers_30 (by decide) (xj_goto (tgt := 35) hC dX2_areNumbers_31 (by decide) hk))
    exact xj_zret hC hr (by decide) (by decide) dX2_areNumbers_35 hf rfl
def fX2_distance (w : xmW) (th : (Option Nat)) (a1 : (Option Nat)) (a2 : Int32) : Option Int64 := ((xmob w th 2).bind fun _ => ((xmgR w th 2 0).bind fun v1 => ((fX1_scale w (v1) ).bind fun v3 => ((xmgR w a1 2 0).bind fun v4 => ((fX1_scale w (v4) ).bind fun v6 => ((xmgR w th 2 0).bind fun v7 => ((fX2_codeAt w (th) (a2)).bind fun v9 => ((fX1_unitsOf w (v7) (v9)).bind fun v11 => ((xmgR w th 2 0).bind fun v12 => ((fX1_scale w (v12) ).bind fun v14 => ((xmgR w a1 2 0).bind fun v15 => ((fX2_codeAt w (a1) (a2)).bind fun v17 => ((fX1_unitsOf w (v15) (v17)).bind fun v19 => ((xmgR w a1 2 0).bind fun v20 => ((fX1_scale w (v20) ).bind fun v22 => (some (if 0 < ((v11 <<< ((((if v3 < v6 then v6 else v3) - v14)).toInt64 &&& 63)) - (v19 <<< ((((if v3 < v6 then v6 else v3) - v22)).toInt64 &&& 63))) then ((v11 <<< ((((if v3 < v6 then v6 else v3) - v14)).toInt64 &&& 63)) - (v19 <<< ((((if v3 < v6 then v6 else v3) - v22)).toInt64 &&& 63))) else -((v11 <<< ((((if v3 < v6 then v6 else v3) - v14)).toInt64 &&& 63)) - (v19 <<< ((((if v3 < v6 then v6 else v3) - v22)).toInt64 &&& 63))))))))))))))))))))
set_option maxHeartbeats 4000000 in
set_option maxRecDepth 100000 in
theorem mX2_distance (l : Launch) (D : va_G) (ks : Nat → ClassId) (b : Nat) {w : xmW} {th : (Option Nat)} {a1 : (Option Nat)} {a2 : Int32} {y : Int64} (hf : fX2_distance w th a1 a2 = some y) : xmM l yX2_distance (Cond.code yX2_distance cX2_distance 8 (some (FieldType.long)) :: xmTs) 2 47 0 0 D ks b w [xR th, xR a1, xI a2] (some (xL y)) w := by
  unfold fX2_distance at hf
  obtain ⟨_, _, hf⟩ := xm_bind hf
  refine xmM.of (own := RX2) (lv0 := [(0, xR th), (1, xR a1), (2, xI a2)]) (by decide) rfl (Nat.le_of_ble_eq_true rfl) rfl ?_
  intro p e s m args below meth c hC hr hnm
  refine xj_aload_n hC dX2_distance_0 rfl 0 rfl ?_
  refine xb_getR hC 2 0 xcl_2 (by decide) xw_fl_X2_9 dX2_distance_1 hf (fun v1 hf => ?_)
  obtain ⟨v3, hc2, hf⟩ := xm_bind hf
  obtain ⟨_, hob, _⟩ := xm_bind hc2
  refine xj_reti (xr_V hC (mX1_scale l D ks b hc2) hob rfl xw_cod_X1_scale xw_ini_X1 xw_ins_X1_scale xw_sel_X1_scale xw_ml_X2_46 xds_X1_scale ⟨Nat.le_of_ble_eq_true rfl, Nat.le_of_ble_eq_true rfl⟩ rfl rfl (Nat.le_of_ble_eq_true rfl) ⟨Nat.le_of_ble_eq_true rfl, Nat.le_of_ble_eq_true rfl⟩ dX2_distance_4) ?_
  refine xj_aload_n hC dX2_distance_7 rfl 1 rfl ?_
  refine xb_getR hC 2 0 xcl_2 (by decide) xw_fl_X2_9 dX2_distance_8 hf (fun v4 hf => ?_)
  obtain ⟨v6, hc5, hf⟩ := xm_bind hf
  obtain ⟨_, hob, _⟩ := xm_bind hc5
  refine xj_reti (xr_V hC (mX1_scale l D ks b hc5) hob rfl xw_cod_X1_scale xw_ini_X1 xw_ins_X1_scale xw_sel_X1_scale xw_ml_X2_46 xds_X1_scale ⟨Nat.le_of_ble_eq_true rfl, Nat.le_of_ble_eq_true rfl⟩ rfl rfl (Nat.le_of_ble_eq_true rfl) ⟨Nat.le_of_ble_eq_true rfl, Nat.le_of_ble_eq_true rfl⟩ dX2_distance_11) ?_
  refine xj_mmax hC xw_ml_X2_29 xw_sta_J9_max_i xw_ini_J9 xw_cod_J9_max_i ⟨Nat.le_of_ble_eq_true rfl, Nat.le_of_ble_eq_true rfl⟩ (Nat.le_of_ble_eq_true rfl) (Nat.le_of_ble_eq_true rfl) dX2_distance_14 ?_
  refine xj_istore_n (lv' := [(3, xI (if v3 < v6 then v6 else v3)), (0, xR th), (1, xR a1), (2, xI a2)]) hC dX2_distance_17 rfl (by decide) rfl ?_
  refine xj_aload_n hC dX2_distance_18 rfl 1 rfl ?_
  refine xb_getR hC 2 0 xcl_2 (by decide) xw_fl_X2_9 dX2_distance_19 hf (fun v7 hf => ?_)
  refine xj_aload_n hC dX2_distance_22 rfl 1 rfl ?_
  refine xj_iload_n hC dX2_distance_23 rfl 3 rfl ?_
  obtain ⟨v9, hc8, hf⟩ := xm_bind hf
  obtain ⟨_, hob, _⟩ := xm_bind hc8
  refine xj_reti (xr_V hC (mX2_codeAt l D ks b hc8) hob rfl xw_cod_X2_codeAt xw_ini_X2 xw_ins_X2_codeAt xw_sel_X2_codeAt xw_ml_X2_38 xds_X2_codeAt ⟨Nat.le_of_ble_eq_true rfl, Nat.le_of_ble_eq_true rfl⟩ rfl rfl (Nat.le_of_ble_eq_true rfl) ⟨Nat.le_of_ble_eq_true rfl, Nat.le_of_ble_eq_true rfl⟩ dX2_distance_24) ?_
  obtain ⟨v11, hc10, hf⟩ := xm_bind hf
  obtain ⟨_, hob, _⟩ := xm_bind hc10
  refine xj_retl (xr_V hC (mX1_unitsOf l D ks b hc10) hob rfl xw_cod_X1_unitsOf xw_ini_X1 xw_ins_X1_unitsOf xw_sel_X1_unitsOf xw_ml_X2_49 xds_X1_unitsOf ⟨Nat.le_of_ble_eq_true rfl, Nat.le_of_ble_eq_true rfl⟩ rfl rfl (Nat.le_of_ble_eq_true rfl) ⟨Nat.le_of_ble_eq_true rfl, Nat.le_of_ble_eq_true rfl⟩ dX2_distance_27) ?_
  refine xj_iload_n hC dX2_distance_30 rfl 0 rfl ?_
  refine xj_aload_n hC dX2_distance_31 rfl 1 rfl ?_
  refine xb_getR hC 2 0 xcl_2 (by decide) xw_fl_X2_9 dX2_distance_32 hf (fun v12 hf => ?_)
  obtain ⟨v14, hc13, hf⟩ := xm_bind hf
  obtain ⟨_, hob, _⟩ := xm_bind hc13
  refine xj_reti (xr_V hC (mX1_scale l D ks b hc13) hob rfl xw_cod_X1_scale xw_ini_X1 xw_ins_X1_scale xw_sel_X1_scale xw_ml_X2_46 xds_X1_scale ⟨Nat.le_of_ble_eq_true rfl, Nat.le_of_ble_eq_true rfl⟩ rfl rfl (Nat.le_of_ble_eq_true rfl) ⟨Nat.le_of_ble_eq_true rfl, Nat.le_of_ble_eq_true rfl⟩ dX2_distance_35) ?_
  refine xj_isub hC dX2_distance_38 ?_
  refine xj_lshl hC dX2_distance_39 ?_
  refine xj_lstore (lv' := [(4, xL (v11 <<< ((((if v3 < v6 then v6 else v3) - v14)).toInt64 &&& 63))), (3, xI (if v3 < v6 then v6 else v3)), (0, xR th), (1, xR a1), (2, xI a2)]) hC dX2_distance_40 (by decide) rfl ?_
  refine xj_aload_n hC dX2_distance_42 rfl 3 rfl ?_
  refine xb_getR hC 2 0 xcl_2 (by decide) xw_fl_X2_9 dX2_distance_43 hf (fun v15 hf => ?_)
  refine xj_aload_n hC dX2_distance_46 rfl 3 rfl ?_
  refine xj_iload_n hC dX2_distance_47 rfl 4 rfl ?_
  obtain ⟨v17, hc16, hf⟩ := xm_bind hf
  obtain ⟨_, hob, _⟩ := xm_bind hc16
  refine xj_reti (xr_V hC (mX2_codeAt l D ks b hc16) hob rfl xw_cod_X2_codeAt xw_ini_X2 xw_ins_X2_codeAt xw_sel_X2_codeAt xw_ml_X2_38 xds_X2_codeAt ⟨Nat.le_of_ble_eq_true rfl, Nat.le_of_ble_eq_true rfl⟩ rfl rfl (Nat.le_of_ble_eq_true rfl) ⟨Nat.le_of_ble_eq_true rfl, Nat.le_of_ble_eq_true rfl⟩ dX2_distance_48) ?_
  obtain ⟨v19, hc18, hf⟩ := xm_bind hf
  obtain ⟨_, hob, _⟩ := xm_bind hc18
  refine xj_retl (xr_V hC (mX1_unitsOf l D ks b hc18) hob rfl xw_cod_X1_unitsOf xw_ini_X1 xw_ins_X1_unitsOf xw_sel_X1_unitsOf xw_ml_X2_49 xds_X1_unitsOf ⟨Nat.le_of_ble_eq_true rfl, Nat.le_of_ble_eq_true rfl⟩ rfl rfl (Nat.le_of_ble_eq_true rfl) ⟨Nat.le_of_ble_eq_true rfl, Nat.le_of_ble_eq_true rfl⟩ dX2_distance_51) ?_
  refine xj_iload_n hC dX2_distance_54 rfl 1 rfl ?_
  refine xj_aload_n hC dX2_distance_55 rfl 3 rfl ?_
  refine xb_getR hC 2 0 xcl_2 (by decide) xw_fl_X2_9 dX2_distance_56 hf (fun v20 hf => ?_)
  obtain ⟨v22, hc21, hf⟩ := xm_bind hf
  obtain ⟨_, hob, _⟩ := xm_bind hc21
  refine xj_reti (xr_V hC (mX1_scale l D ks b hc21) hob rfl xw_cod_X1_scale xw_ini_X1 xw_ins_X1_scale xw_sel_X1_scale xw_ml_X2_46 xds_X1_scale ⟨Nat.le_of_ble_eq_true rfl, Nat.le_of_ble_eq_true rfl⟩ rfl rfl (Nat.le_of_ble_eq_true rfl) ⟨Nat.le_of_ble_eq_true rfl, Nat.le_of_ble_eq_true rfl⟩ dX2_distance_59) ?_
  refine xj_isub hC dX2_distance_62 ?_
  refine xj_lshl hC dX2_distance_63 ?_
  refine xj_lstore (lv' := [(6, xL (v19 <<< ((((if v3 < v6 then v6 else v3) - v22)).toInt64 &&& 63))), (4, xL (v11 <<< ((((if v3 < v6 then v6 else v3) - v14)).toInt64 &&& 63))), (3, xI (if v3 < v6 then v6 else v3)), (0, xR th), (1, xR a1), (2, xI a2)]) hC dX2_distance_64 (by decide) rfl ?_
  refine xj_lload hC dX2_distance_66 1 rfl ?_
  refine xj_lload hC dX2_distance_68 0 rfl ?_
  refine xj_lsub hC dX2_distance_70 ?_
  refine xj_mabs_long hC xw_ml_X2_53 xw_sta_J9_abs_l xw_ini_J9 xw_cod_J9_abs_l ⟨Nat.le_of_ble_eq_true rfl, Nat.le_of_ble_eq_true rfl⟩ (Nat.le_of_ble_eq_true rfl) (Nat.le_of_ble_eq_true rfl) dX2_distance_71 ?_
  exact xj_lret hC hr (by decide) (by decide) dX2_distance_74 (Option.some.inj hf) rfl
def fX2_worstPlace_L8 : Nat → xmW → (Option Nat) → (Option Nat) → Int32 → Int64 → Int32 → Option Int32
  | 0, _, _, _, _, _, _ => none
  | n + 1, w, p0, p1, p2, p3, p5 => ((xmgI w p0 2 1).bind fun v1 => (if v1 ≤ p5 then (some p2) else ((fX2_areNumbers w (p0) (p1) (p5)).bind fun v3 => (if v3 = 0 then (fX2_worstPlace_L8 n w (p0) (p1) (p2) (p3) ((p5 + (1 : Int32))) ) else ((fX2_distance w (p0) (p1) (p5)).bind fun v5 => (if (lg_cmp v5 p3) ≤ 0 then (fX2_worstPlace_L8 n w (p0) (p1) (p2) (p3) ((p5 + (1 : Int32))) ) else ((fX2_distance w (p0) (p1) (p5)).bind fun v7 => (fX2_worstPlace_L8 n w (p0) (p1) (p5) (v7) ((p5 + (1 : Int32))) ))))))))
set_option maxHeartbeats 4000000 in
set_option maxRecDepth 100000 in
theorem lX2_worstPlace_L8 {p : Program} {l : Launch} {e : Env} {s : State} {m : MethodId} {args : Array Value} {below : List Frame} {meth : Method} {c : Code} {D : va_G} {ks : Nat → ClassId} {b : Nat} (hC : xmC p s m args meth c D ks b 6 cX2_worstPlace RX2) (hr : meth.sig.returnType = (some (FieldType.int))) {y : Int32} : ∀ (n : Nat) (w : xmW) (p0 : (Option Nat)) (p1 : (Option Nat)) (p2 : Int32) (p3 : Int64) (p5 : Int32), fX2_worstPlace_L8 n w p0 p1 p2 p3 p5 = some y → xmJ p l e ({ frames := 3, cells := 0, slots := 0, locals := 74 } : Room) s m args below meth c D ks b 6 (MQ below (xmQ D ks b (some (xI y)) w) args s 0 0 (xmA b)) w 0 0 8 [(0, xR p0), (1, xR p1), (2, xI p2), (3, xL p3), (5, xI p5)] [] := by
  intro n
  induction n with
  | zero => intro w p0 p1 p2 p3 p5 hf; simp [fX2_worstPlace_L8] at hf
  | succ n ih =>
    intro w p0 p1 p2 p3 p5 hf
    rw [fX2_worstPlace_L8] at hf
    refine xj_iload hC dX2_worstPlace_8 4 rfl ?_
    refine xj_aload_n hC dX2_worstPlace_10 rfl 0 rfl ?_
    refine xb_getI hC 2 1 xcl_2 (by decide) xw_fl_X2_15 dX2_worstPlace_11 hf (fun v1 hf => ?_)
    refine xb_ic_ge (tgt := 56) hC dX2_worstPlace_14 (by decide) hf (fun hf => ?_) (fun hf => ?_)
    · refine xj_iload_n hC dX2_worstPlace_56 rfl 2 rfl ?_
      exact xj_iret hC hr (by decide) (by decide) dX2_worstPlace_57 (Option.some.inj hf) rfl
    · refine xj_aload_n hC dX2_worstPlace_17 rfl 0 rfl ?_
      refine xj_aload_n hC dX2_worstPlace_18 rfl 1 rfl ?_
      refine xj_iload hC dX2_worstPlace_19 4 rfl ?_
      obtain ⟨v3, hc2, hf⟩ := xm_bind hf
      obtain ⟨_, hob, _⟩ := xm_bind hc2
      refine xj_reti (xr_V hC (mX2_areNumbers l D ks b hc2) hob rfl xw_cod_X2_areNumbers xw_ini_X2 xw_ins_X2_areNumbers xw_sel_X2_areNumbers xw_ml_X2_57 xds_X2_areNumbers ⟨Nat.le_of_ble_eq_true rfl, Nat.le_of_ble_eq_true rfl⟩ rfl rfl (Nat.le_of_ble_eq_true rfl) ⟨Nat.le_of_ble_eq_true rfl, Nat.le_of_ble_eq_true rfl⟩ dX2_worstPlace_21) ?_
      refine xb_if_eq (tgt := 50) hC dX2_worstPlace_24 (by decide) hf (fun hf => ?_) (fun hf => ?_)
      · refine xj_iinc (v := (p5 + (1 : Int32))) (lv' := [(5, xI (p5 + (1 : Int32))), (0, xR p0), (1, xR p1), (2, xI p2), (3, xL p3)]) hC dX2_worstPlace_50 4 rfl rfl (by decide) rfl ?_
        refine xj_goto (tgt := 8) hC dX2_worstPlace_53 (by decide) ?_
        refine xj_lv [1, 2, 3, 4, 0] rfl ?_
        exact ih w (p0) (p1) (p2) (p3) ((p5 + (1 : Int32)))  hf
      · refine xj_aload_n hC dX2_worstPlace_27 rfl 0 rfl ?_
        refine xj_aload_n hC dX2_worstPlace_28 rfl 1 rfl ?_
        refine xj_iload hC dX2_worstPlace_29 4 rfl ?_
        obtain ⟨v5, hc4, hf⟩ := xm_bind hf
        obtain ⟨_, hob, _⟩ := xm_bind hc4
        refine xj_retl (xr_V hC (mX2_distance l D ks b hc4) hob rfl xw_cod_X2_distance xw_ini_X2 xw_ins_X2_distance xw_sel_X2_distance xw_ml_X2_61 xds_X2_distance ⟨Nat.le_of_ble_eq_true rfl, Nat.le_of_ble_eq_true rfl⟩ rfl rfl (Nat.le_of_ble_eq_true rfl) ⟨Nat.le_of_ble_eq_true rfl, Nat.le_of_ble_eq_true rfl⟩ dX2_worstPlace_31) ?_
        refine xj_lload_n hC dX2_worstPlace_34 rfl 3 rfl ?_
        refine xj_lcmp hC dX2_worstPlace_35 ?_
        refine xb_if_le (tgt := 50) hC dX2_worstPlace_36 (by decide) hf (fun hf => ?_) (fun hf => ?_)
        · refine xj_iinc (v := (p5 + (1 : Int32))) (lv' := [(5, xI (p5 + (1 : Int32))), (0, xR p0), (1, xR p1), (2, xI p2), (3, xL p3)]) hC dX2_worstPlace_50 4 rfl rfl (by decide) rfl ?_
          refine xj_goto (tgt := 8) hC dX2_worstPlace_53 (by decide) ?_
          refine xj_lv [1, 2, 3, 4, 0] rfl ?_
          exact ih w (p0) (p1) (p2) (p3) ((p5 + (1 : Int32)))  hf
        · refine xj_aload_n hC dX2_worstPlace_39 rfl 0 rfl ?_
          refine xj_aload_n hC dX2_worstPlace_40 rfl 1 rfl ?_
          refine xj_iload hC dX2_worstPlace_41 4 rfl ?_
          obtain ⟨v7, hc6, hf⟩ := xm_bind hf
          obtain ⟨_, hob, _⟩ := xm_bind hc6
          refine xj_retl (xr_V hC (mX2_distance l D ks b hc6) hob rfl xw_cod_X2_distance xw_ini_X2 xw_ins_X2_distance xw_sel_X2_distance xw_ml_X2_61 xds_X2_distance ⟨Nat.le_of_ble_eq_true rfl, Nat.le_of_ble_eq_true rfl⟩ rfl rfl (Nat.le_of_ble_eq_true rfl) ⟨Nat.le_of_ble_eq_true rfl, Nat.le_of_ble_eq_true rfl⟩ dX2_worstPlace_43) ?_
          refine xj_lstore_n (lv' := [(3, xL v7), (0, xR p0), (1, xR p1), (2, xI p2), (5, xI p5)]) hC dX2_worstPlace_46 rfl (by decide) rfl ?_
          refine xj_iload hC dX2_worstPlace_47 4 rfl ?_
          refine xj_istore_n (lv' := [(2, xI p5), (3, xL v7), (0, xR p0), (1, xR p1), (5, xI p5)]) hC dX2_worstPlace_49 rfl (by decide) rfl ?_
          refine xj_iinc (v := (p5 + (1 : Int32))) (lv' := [(5, xI (p5 + (1 : Int32))), (2, xI p5), (3, xL v7), (0, xR p0), (1, xR p1)]) hC dX2_worstPlace_50 4 rfl rfl (by decide) rfl ?_
          refine xj_goto (tgt := 8) hC dX2_worstPlace_53 (by decide) ?_
          refine xj_lv [3, 4, 1, 2, 0] rfl ?_
          exact ih w (p0) (p1) (p5) (v7) ((p5 + (1 : Int32)))  hf
def fX2_worstPlace (w : xmW) (th : (Option Nat)) (a1 : (Option Nat)) : Option Int32 := ((xmob w th 2).bind fun _ => (fX2_worstPlace_L8 xmN w (th) (a1) ((-9 : Int32)) ((0 : Int64)) ((0 : Int32)) ))
set_option maxHeartbeats 4000000 in
set_option maxRecDepth 100000 in
theorem mX2_worstPlace (l : Launch) (D : va_G) (ks : Nat → ClassId) (b : Nat) {w : xmW} {th : (Option Nat)} {a1 : (Option Nat)} {y : Int32} (hf : fX2_worstPlace w th a1 = some y) : xmM l yX2_worstPlace (Cond.code yX2_worstPlace cX2_worstPlace 6 (some (FieldType.int)) :: xmTs) 3 74 0 0 D ks b w [xR th, xR a1] (some (xI y)) w := by
  unfold fX2_worstPlace at hf
  obtain ⟨_, _, hf⟩ := xm_bind hf
  refine xmM.of (own := RX2) (lv0 := [(0, xR th), (1, xR a1)]) (by decide) rfl (Nat.le_of_ble_eq_true rfl) rfl ?_
  intro p e s m args below meth c hC hr hnm
  refine xj_bipush (v := -9) hC dX2_worstPlace_0 (by decide) ?_
  refine xj_istore_n (lv' := [(2, xI (-9 : Int32)), (0, xR th), (1, xR a1)]) hC dX2_worstPlace_2 rfl (by decide) rfl ?_
  refine xj_lconst (v := 0) hC dX2_worstPlace_3 (by decide) ?_
  refine xj_lstore_n (lv' := [(3, xL (0 : Int64)), (2, xI (-9 : Int32)), (0, xR th), (1, xR a1)]) hC dX2_worstPlace_4 rfl (by decide) rfl ?_
  refine xj_iconst (v := 0) hC dX2_worstPlace_5 (by decide) ?_
  refine xj_istore (lv' := [(5, xI (0 : Int32)), (3, xL (0 : Int64)), (2, xI (-9 : Int32)), (0, xR th), (1, xR a1)]) hC dX2_worstPlace_6 (by decide) rfl ?_
  refine xj_lv [3, 4, 2, 1, 0] rfl ?_
  exact lX2_worstPlace_L8 hC hr  xmN w (th) (a1) ((-9 : Int32)) ((0 : Int64)) ((0 : Int32))  hf
def fX2_differences_L4 : Nat → xmW → (Option Nat) → (Option Nat) → Int32 → Int32 → Option Int32
  | 0, _, _, _, _, _ => none
  | n + 1, w, p0, p1, p2, p3 => ((xmgI w p0 2 1).bind fun v1 => (if v1 ≤ p3 then (some p2) else ((fX2_areNumbers w (p0) (p1) (p3)).bind fun v3 => (if v3 = 0 then (fX2_differences_L4 n w (p0) (p1) (p2) ((p3 + (1 : Int32))) ) else ((fX2_distance w (p0) (p1) (p3)).bind fun v5 => (if (lg_cmp v5 (0 : Int64)) ≤ 0 then (fX2_differences_L4 n w (p0) (p1) (p2) ((p3 + (1 : Int32))) ) else (fX2_differences_L4 n w (p0) (p1) ((p2 + (1 : Int32))) ((p3 + (1 : Int32))) )))))))
set_option maxHeartbeats 4000000 in
set_option maxRecDepth 100000 in
theorem lX2_differences_L4 {p : Program} {l : Launch} {e : Env} {s : State} {m : MethodId} {args : Array Value} {below : List Frame} {meth : Method} {c : Code} {D : va_G} {ks : Nat → ClassId} {b : Nat} (hC : xmC p s m args meth c D ks b 4 cX2_differences RX2) (hr : meth.sig.returnType = (some (FieldType.int))) {y : Int32} : ∀ (n : Nat) (w : xmW) (p0 : (Option Nat)) (p1 : (Option Nat)) (p2 : Int32) (p3 : Int32), fX2_differences_L4 n w p0 p1 p2 p3 = some y → xmJ p l e ({ frames := 3, cells := 0, slots := 0, locals := 74 } : Room) s m args below meth c D ks b 4 (MQ below (xmQ D ks b (some (xI y)) w) args s 0 0 (xmA b)) w 0 0 4 [(0, xR p0), (1, xR p1), (2, xI p2), (3, xI p3)] [] := by
  intro n
  induction n with
  | zero => intro w p0 p1 p2 p3 hf; simp [fX2_differences_L4] at hf
  | succ n ih =>
    intro w p0 p1 p2 p3 hf
    rw [fX2_differences_L4] at hf
    refine xj_iload_n hC dX2_differences_4 rfl 3 rfl ?_
    refine xj_aload_n hC dX2_differences_5 rfl 0 rfl ?_
    refine xb_getI hC 2 1 xcl_2 (by decide) xw_fl_X2_15 dX2_differences_6 hf (fun v1 hf => ?_)
    refine xb_ic_ge (tgt := 41) hC dX2_differences_9 (by decide) hf (fun hf => ?_) (fun hf => ?_)
    · refine xj_iload_n hC dX2_differences_41 rfl 2 rfl ?_
      exact xj_iret hC hr (by decide) (by decide) dX2_differences_42 (Option.some.inj hf) rfl
    · refine xj_aload_n hC dX2_differences_12 rfl 0 rfl ?_
      refine xj_aload_n hC dX2_differences_13 rfl 1 rfl ?_
      refine xj_iload_n hC dX2_differences_14 rfl 3 rfl ?_
      obtain ⟨v3, hc2, hf⟩ := xm_bind hf
      obtain ⟨_, hob, _⟩ := xm_bind hc2
      refine xj_reti (xr_V hC (mX2_areNumbers l D ks b hc2) hob rfl xw_cod_X2_areNumbers xw_ini_X2 xw_ins_X2_areNumbers xw_sel_X2_areNumbers xw_ml_X2_57 xds_X2_areNumbers ⟨Nat.le_of_ble_eq_true rfl, Nat.le_of_ble_eq_true rfl⟩ rfl rfl (Nat.le_of_ble_eq_true rfl) ⟨Nat.le_of_ble_eq_true rfl, Nat.le_of_ble_eq_true rfl⟩ dX2_differences_15) ?_
      refine xb_if_eq (tgt := 35) hC dX2_differences_18 (by decide) hf (fun hf => ?_) (fun hf => ?_)
      · refine xj_iinc (v := (p3 + (1 : Int32))) (lv' := [(3, xI (p3 + (1 : Int32))), (0, xR p0), (1, xR p1), (2, xI p2)]) hC dX2_differences_35 3 rfl rfl (by decide) rfl ?_
        refine xj_goto (tgt := 4) hC dX2_differences_38 (by decide) ?_
        refine xj_lv [1, 2, 3, 0] rfl ?_
        exact ih w (p0) (p1) (p2) ((p3 + (1 : Int32)))  hf
      · refine xj_aload_n hC dX2_differences_21 rfl 0 rfl ?_
        refine xj_aload_n hC dX2_differences_22 rfl 1 rfl ?_
        refine xj_iload_n hC dX2_differences_23 rfl 3 rfl ?_
        obtain ⟨v5, hc4, hf⟩ := xm_bind hf
        obtain ⟨_, hob, _⟩ := xm_bind hc4
        refine xj_retl (xr_V hC (mX2_distance l D ks b hc4) hob rfl xw_cod_X2_distance xw_ini_X2 xw_ins_X2_distance xw_sel_X2_distance xw_ml_X2_61 xds_X2_distance ⟨Nat.le_of_ble_eq_true rfl, Nat.le_of_ble_eq_true rfl⟩ rfl rfl (Nat.le_of_ble_eq_true rfl) ⟨Nat.le_of_ble_eq_true rfl, Nat.le_of_ble_eq_true rfl⟩ dX2_differences_24) ?_
        refine xj_lconst (v := 0) hC dX2_differences_27 (by decide) ?_
        refine xj_lcmp hC dX2_differences_28 ?_
        refine xb_if_le (tgt := 35) hC dX2_differences_29 (by decide) hf (fun hf => ?_) (fun hf => ?_)
        · refine xj_iinc (v := (p3 + (1 : Int32))) (lv' := [(3, xI (p3 + (1 : Int32))), (0, xR p0), (1, xR p1), (2, xI p2)]) hC dX2_differences_35 3 rfl rfl (by decide) rfl ?_
          refine xj_goto (tgt := 4) hC dX2_differences_38 (by decide) ?_
          refine xj_lv [1, 2, 3, 0] rfl ?_
          exact ih w (p0) (p1) (p2) ((p3 + (1 : Int32)))  hf
        · refine xj_iinc (v := (p2 + (1 : Int32))) (lv' := [(2, xI (p2 + (1 : Int32))), (0, xR p0), (1, xR p1), (3, xI p3)]) hC dX2_differences_32 2 rfl rfl (by decide) rfl ?_
          refine xj_iinc (v := (p3 + (1 : Int32))) (lv' := [(3, xI (p3 + (1 : Int32))), (2, xI (p2 + (1 : Int32))), (0, xR p0), (1, xR p1)]) hC dX2_differences_35 3 rfl rfl (by decide) rfl ?_
          refine xj_goto (tgt := 4) hC dX2_differences_38 (by decide) ?_
          refine xj_lv [2, 3, 1, 0] rfl ?_
          exact ih w (p0) (p1) ((p2 + (1 : Int32))) ((p3 + (1 : Int32)))  hf
def fX2_differences (w : xmW) (th : (Option Nat)) (a1 : (Option Nat)) : Option Int32 := ((xmob w th 2).bind fun _ => (fX2_differences_L4 xmN w (th) (a1) ((0 : Int32)) ((0 : Int32)) ))
set_option maxHeartbeats 4000000 in
set_option maxRecDepth 100000 in
theorem mX2_differences (l : Launch) (D : va_G) (ks : Nat → ClassId) (b : Nat) {w : xmW} {th : (Option Nat)} {a1 : (Option Nat)} {y : Int32} (hf : fX2_differences w th a1 = some y) : xmM l yX2_differences (Cond.code yX2_differences cX2_differences 4 (some (FieldType.int)) :: xmTs) 3 74 0 0 D ks b w [xR th, xR a1] (some (xI y)) w := by
  unfold fX2_differences at hf
  obtain ⟨_, _, hf⟩ := xm_bind hf
  refine xmM.of (own := RX2) (lv0 := [(0, xR th), (1, xR a1)]) (by decide) rfl (Nat.le_of_ble_eq_true rfl) rfl ?_
  intro p e s m args below meth c hC hr hnm
  refine xj_iconst (v := 0) hC dX2_differences_0 (by decide) ?_
  refine xj_istore_n (lv' := [(2, xI (0 : Int32)), (0, xR th), (1, xR a1)]) hC dX2_differences_1 rfl (by decide) rfl ?_
  refine xj_iconst (v := 0) hC dX2_differences_2 (by decide) ?_
  refine xj_istore_n (lv' := [(3, xI (0 : Int32)), (2, xI (0 : Int32)), (0, xR th), (1, xR a1)]) hC dX2_differences_3 rfl (by decide) rfl ?_
  refine xj_lv [2, 3, 1, 0] rfl ?_
  exact lX2_differences_L4 hC hr  xmN w (th) (a1) ((0 : Int32)) ((0 : Int32))  hf
def fX2_noNumbers_L4 : Nat → xmW → (Option Nat) → (Option Nat) → Int32 → Int32 → Option Int32
  | 0, _, _, _, _, _ => none
  | n + 1, w, p0, p1, p2, p3 => ((xmgI w p0 2 1).bind fun v1 => (if v1 ≤ p3 then (some p2) else ((fX2_areNumbers w (p0) (p1) (p3)).bind fun v3 => (if v3 = 0 then (fX2_noNumbers_L4 n w (p0) (p1) ((p2 + (1 : Int32))) ((p3 + (1 : Int32))) ) else (fX2_noNumbers_L4 n w (p0) (p1) (p2) ((p3 + (1 : Int32))) )))))
set_option maxHeartbeats 4000000 in
set_option maxRecDepth 100000 in
theorem lX2_noNumbers_L4 {p : Program} {l : Launch} {e : Env} {s : State} {m : MethodId} {args : Array Value} {below : List Frame} {meth : Method} {c : Code} {D : va_G} {ks : Nat → ClassId} {b : Nat} (hC : xmC p s m args meth c D ks b 4 cX2_noNumbers RX2) (hr : meth.sig.returnType = (some (FieldType.int))) {y : Int32} : ∀ (n : Nat) (w : xmW) (p0 : (Option Nat)) (p1 : (Option Nat)) (p2 : Int32) (p3 : Int32), fX2_noNumbers_L4 n w p0 p1 p2 p3 = some y → xmJ p l e ({ frames := 3, cells := 0, slots := 0, locals := 64 } : Room) s m args below meth c D ks b 4 (MQ below (xmQ D ks b (some (xI y)) w) args s 0 0 (xmA b)) w 0 0 4 [(0, xR p0), (1, xR p1), (2, xI p2), (3, xI p3)] [] := by
  intro n
  induction n with
  | zero => intro w p0 p1 p2 p3 hf; simp [fX2_noNumbers_L4] at hf
  | succ n ih =>
    intro w p0 p1 p2 p3 hf
    rw [fX2_noNumbers_L4] at hf
    refine xj_iload_n hC dX2_noNumbers_4 rfl 3 rfl ?_
    refine xj_aload_n hC dX2_noNumbers_5 rfl 0 rfl ?_
    refine xb_getI hC 2 1 xcl_2 (by decide) xw_fl_X2_15 dX2_noNumbers_6 hf (fun v1 hf => ?_)
    refine xb_ic_ge (tgt := 30) hC dX2_noNumbers_9 (by decide) hf (fun hf => ?_) (fun hf => ?_)
    · refine xj_iload_n hC dX2_noNumbers_30 rfl 2 rfl ?_
      exact xj_iret hC hr (by decide) (by decide) dX2_noNumbers_31 (Option.some.inj hf) rfl
    · refine xj_aload_n hC dX2_noNumbers_12 rfl 0 rfl ?_
      refine xj_aload_n hC dX2_noNumbers_13 rfl 1 rfl ?_
      refine xj_iload_n hC dX2_noNumbers_14 rfl 3 rfl ?_
      obtain ⟨v3, hc2, hf⟩ := xm_bind hf
      obtain ⟨_, hob, _⟩ := xm_bind hc2
      refine xj_reti (xr_V hC (mX2_areNumbers l D ks b hc2) hob rfl xw_cod_X2_areNumbers xw_ini_X2 xw_ins_X2_areNumbers xw_sel_X2_areNumbers xw_ml_X2_57 xds_X2_areNumbers ⟨Nat.le_of_ble_eq_true rfl, Nat.le_of_ble_eq_true rfl⟩ rfl rfl (Nat.le_of_ble_eq_true rfl) ⟨Nat.le_of_ble_eq_true rfl, Nat.le_of_ble_eq_true rfl⟩ dX2_noNumbers_15) ?_
      refine xb_if_ne (tgt := 24) hC dX2_noNumbers_18 (by decide) hf (fun hf => ?_) (fun hf => ?_)
      · refine xj_iinc (v := (p3 + (1 : Int32))) (lv' := [(3, xI (p3 + (1 : Int32))), (0, xR p0), (1, xR p1), (2, xI p2)]) hC dX2_noNumbers_24 3 rfl rfl (by decide) rfl ?_
        refine xj_goto (tgt := 4) hC dX2_noNumbers_27 (by decide) ?_
        refine xj_lv [1, 2, 3, 0] rfl ?_
        exact ih w (p0) (p1) (p2) ((p3 + (1 : Int32)))  hf
      · refine xj_iinc (v := (p2 + (1 : Int32))) (lv' := [(2, xI (p2 + (1 : Int32))), (0, xR p0), (1, xR p1), (3, xI p3)]) hC dX2_noNumbers_21 2 rfl rfl (by decide) rfl ?_
        refine xj_iinc (v := (p3 + (1 : Int32))) (lv' := [(3, xI (p3 + (1 : Int32))), (2, xI (p2 + (1 : Int32))), (0, xR p0), (1, xR p1)]) hC dX2_noNumbers_24 3 rfl rfl (by decide) rfl ?_
        refine xj_goto (tgt := 4) hC dX2_noNumbers_27 (by decide) ?_
        refine xj_lv [2, 3, 1, 0] rfl ?_
        exact ih w (p0) (p1) ((p2 + (1 : Int32))) ((p3 + (1 : Int32)))  hf
def fX2_noNumbers (w : xmW) (th : (Option Nat)) (a1 : (Option Nat)) : Option Int32 := ((xmob w th 2).bind fun _ => (fX2_noNumbers_L4 xmN w (th) (a1) ((0 : Int32)) ((0 : Int32)) ))
set_option maxHeartbeats 4000000 in
set_option maxRecDepth 100000 in
theorem mX2_noNumbers (l : Launch) (D : va_G) (ks : Nat → ClassId) (b : Nat) {w : xmW} {th : (Option Nat)} {a1 : (Option Nat)} {y : Int32} (hf : fX2_noNumbers w th a1 = some y) : xmM l yX2_noNumbers (Cond.code yX2_noNumbers cX2_noNumbers 4 (some (FieldType.int)) :: xmTs) 3 64 0 0 D ks b w [xR th, xR a1] (some (xI y)) w := by
  unfold fX2_noNumbers at hf
  obtain ⟨_, _, hf⟩ := xm_bind hf
  refine xmM.of (own := RX2) (lv0 := [(0, xR th), (1, xR a1)]) (by decide) rfl (Nat.le_of_ble_eq_true rfl) rfl ?_
  intro p e s m args below meth c hC hr hnm
  refine xj_iconst (v := 0) hC dX2_noNumbers_0 (by decide) ?_
  refine xj_istore_n (lv' := [(2, xI (0 : Int32)), (0, xR th), (1, xR a1)]) hC dX2_noNumbers_1 rfl (by decide) rfl ?_
  refine xj_iconst (v := 0) hC dX2_noNumbers_2 (by decide) ?_
  refine xj_istore_n (lv' := [(3, xI (0 : Int32)), (2, xI (0 : Int32)), (0, xR th), (1, xR a1)]) hC dX2_noNumbers_3 rfl (by decide) rfl ?_
  refine xj_lv [2, 3, 1, 0] rfl ?_
  exact lX2_noNumbers_L4 hC hr  xmN w (th) (a1) ((0 : Int32)) ((0 : Int32))  hf
