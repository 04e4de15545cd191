theorem xj_slen {p : Program} {l : Launch} {e : Env} {R : Room} {s : State} {m : MethodId} {args : Array Value} {below : List Frame} {meth : Method} {c : Code} {D : va_G} {ks : Nat → ClassId} {b nL : Nat} {Q : State → Prop} {w : xmW} {cells slots pc : Nat} {lv : List (Nat × xmV)} {st : List xmV} {cc : ByteArray} {own : String} {ba Ln : Nat} {xs : Nat → Int32} (hC : xmC p s m args meth c D ks b nL cc own) (hX : va_X ba Ln xs s s.heap) (hbl : ba < s.heap.size) (hbb : b = s.heap.size) (hdg : decode cc pc = .ok (.arraylength, 1)) (kk : xmJ p l e R s m args below meth c D ks b nL Q w cells slots (pc + 1) lv (xI (Int32.ofNat Ln) :: st)) : xmJ p l e R s m args below meth c D ks b nL Q w cells slots pc lv (xS ba :: st) := by
  intro H locs ls hP hS hl
  exact va_slen hC.hx hC.hb hX hbl (by show ¬ b ≤ ba; omega) hS hdg (kk H locs ls hP hS hl)
theorem xb_sld {p : Program} {l : Launch} {e : Env} {R : Room} {s : State} {m : MethodId} {args : Array Value} {below : List Frame} {meth : Method} {c : Code} {D : va_G} {ks : Nat → ClassId} {b nL : Nat} {Q : State → Prop} {w : xmW} {cells slots pc : Nat} {lv : List (Nat × xmV)} {st : List xmV} {cc : ByteArray} {own : String} {ba Ln : Nat} {xs : Nat → Int32} {i : Int32} {α : Type} {A : Option α} {z : α} (hC : xmC p s m args meth c D ks b nL cc own) (hX : va_X ba Ln xs s s.heap) (hbl : ba < s.heap.size) (hbb : b = s.heap.size) (hdg : decode cc pc = .ok (.iaload, 1)) (hf : (if 0 ≤ i ∧ i.toNatClampNeg < Ln then A else none) = some z) (kk : A = some z → xmJ p l e R s m args below meth c D ks b nL Q w cells slots (pc + 1) lv (xI (xs i.toNatClampNeg) :: st)) : xmJ p l e R s m args below meth c D ks b nL Q w cells slots pc lv (xI i :: xS ba :: st) := by
  obtain ⟨hi, hf2⟩ := xm_ift hf
  intro H locs ls hP hS hl
  exact va_sld hC.hx hC.hb hX hbl (by show ¬ b ≤ ba; omega) hS (xm_in hi) hdg (kk hf2 H locs ls hP hS hl)
def fLc_0 (xs : Nat → Int32) (Ln : Nat) (w : xmW) (p1 p2 : Option Nat) (p3 : Int32) : Option xmW := (if 0 ≤ (p3 + (1 : Int32)) ∧ ((p3 + (1 : Int32))).toNatClampNeg < Ln then (if 0 ≤ (p3 + (2 : Int32)) ∧ ((p3 + (2 : Int32))).toNatClampNeg < Ln then (if 0 ≤ (p3 + (3 : Int32)) ∧ ((p3 + (3 : Int32))).toNatClampNeg < Ln then (if 0 ≤ (p3 + (4 : Int32)) ∧ ((p3 + (4 : Int32))).toNatClampNeg < Ln then (if 0 ≤ (p3 + (5 : Int32)) ∧ ((p3 + (5 : Int32))).toNatClampNeg < Ln then (if 0 ≤ (p3 + (6 : Int32)) ∧ ((p3 + (6 : Int32))).toNatClampNeg < Ln then (xmb2 (fX4_format w (p1) ((xs ((p3 + (1 : Int32))).toNatClampNeg)) ((xs ((p3 + (2 : Int32))).toNatClampNeg)) ((xs ((p3 + (3 : Int32))).toNatClampNeg)) ((xs ((p3 + (4 : Int32))).toNatClampNeg)) ((if (xs ((p3 + (5 : Int32))).toNatClampNeg) = 0 then (0 : Int32) else (1 : Int32))) ((xs ((p3 + (6 : Int32))).toNatClampNeg))) fun v2 w3 => (if 0 ≤ (p3 + (1 : Int32)) ∧ ((p3 + (1 : Int32))).toNatClampNeg < Ln then (if 0 ≤ (p3 + (2 : Int32)) ∧ ((p3 + (2 : Int32))).toNatClampNeg < Ln then (if 0 ≤ (p3 + (3 : Int32)) ∧ ((p3 + (3 : Int32))).toNatClampNeg < Ln then (if 0 ≤ (p3 + (4 : Int32)) ∧ ((p3 + (4 : Int32))).toNatClampNeg < Ln then (if 0 ≤ (p3 + (5 : Int32)) ∧ ((p3 + (5 : Int32))).toNatClampNeg < Ln then (if 0 ≤ (p3 + (6 : Int32)) ∧ ((p3 + (6 : Int32))).toNatClampNeg < Ln then (xmb2 (fX5_format w3 (p2) ((xs ((p3 + (1 : Int32))).toNatClampNeg)) ((xs ((p3 + (2 : Int32))).toNatClampNeg)) ((xs ((p3 + (3 : Int32))).toNatClampNeg)) ((xs ((p3 + (4 : Int32))).toNatClampNeg)) ((if (xs ((p3 + (5 : Int32))).toNatClampNeg) = 0 then (0 : Int32) else (1 : Int32))) ((xs ((p3 + (6 : Int32))).toNatClampNeg))) fun v5 w6 => (if v2 = v5 then (some w6) else none)) else none) else none) else none) else none) else none) else none)) else none) else none) else none) else none) else none) else none)
set_option maxHeartbeats 4000000 in
set_option maxRecDepth 100000 in
theorem lLc_0 {p : Program} {l : Launch} {e : Env} {s : State} {m : MethodId} {below : List Frame} {meth : Method} {c : Code} {D : va_G} {ks : Nat → ClassId} {b ba Ln : Nat} {xs : Nat → Int32} (hC : xmC p s m #[Value.ref ba] meth c D ks b 4 cL_law RL) (hX : va_X ba Ln xs s s.heap) (hbl : ba < s.heap.size) (hbb : b = s.heap.size) {w w2 : xmW} {p1 p2 : Option Nat} {p3 : Int32} {cl sl : Nat} (hcl : cl + 1 ≤ 10000) (hsl : sl + 7 ≤ 100000) (hf : fLc_0 xs Ln w p1 p2 p3 = some w2) (kk : xmJ p l e room_1 s m #[Value.ref ba] below meth c D ks b 4 (lw_Z below #[Value.ref ba] s) w2 (cl + 1) (sl + 7) 1328 [(0, xS ba), (1, xR p1), (2, xR p2), (3, xI p3)] []) : xmJ p l e room_1 s m #[Value.ref ba] below meth c D ks b 4 (lw_Z below #[Value.ref ba] s) w cl sl 140 [(0, xS ba), (1, xR p1), (2, xR p2), (3, xI p3)] [] := by
  unfold fLc_0 at hf
  refine xj_aload_n hC dL_law_140 rfl 1 rfl ?_
  refine xj_aloadS_n hC dL_law_141 rfl 0 rfl ?_
  refine xj_iload_n hC dL_law_142 rfl 3 rfl ?_
  refine xj_iconst (v := 1) hC dL_law_143 (by decide) ?_
  refine xj_iadd hC dL_law_144 ?_
  refine xb_sld hC hX hbl hbb dL_law_145 hf (fun hf => ?_)
  refine xj_aloadS_n hC dL_law_146 rfl 0 rfl ?_
  refine xj_iload_n hC dL_law_147 rfl 3 rfl ?_
  refine xj_iconst (v := 2) hC dL_law_148 (by decide) ?_
  refine xj_iadd hC dL_law_149 ?_
  refine xb_sld hC hX hbl hbb dL_law_150 hf (fun hf => ?_)
  refine xj_aloadS_n hC dL_law_151 rfl 0 rfl ?_
  refine xj_iload_n hC dL_law_152 rfl 3 rfl ?_
  refine xj_iconst (v := 3) hC dL_law_153 (by decide) ?_
  refine xj_iadd hC dL_law_154 ?_
  refine xb_sld hC hX hbl hbb dL_law_155 hf (fun hf => ?_)
  refine xj_aloadS_n hC dL_law_156 rfl 0 rfl ?_
  refine xj_iload_n hC dL_law_157 rfl 3 rfl ?_
  refine xj_iconst (v := 4) hC dL_law_158 (by decide) ?_
  refine xj_iadd hC dL_law_159 ?_
  refine xb_sld hC hX hbl hbb dL_law_160 hf (fun hf => ?_)
  refine xj_aloadS_n hC dL_law_161 rfl 0 rfl ?_
  refine xj_iload_n hC dL_law_162 rfl 3 rfl ?_
  refine xj_iconst (v := 5) hC dL_law_163 (by decide) ?_
  refine xj_iadd hC dL_law_164 ?_
  refine xb_sld hC hX hbl hbb dL_law_165 hf (fun hf => ?_)
  refine xj_dia (cnd := (xs ((p3 + (5 : Int32))).toNatClampNeg) = 0) (x := 0) (y := 1) (pc2 := 174) (st2 := [xI (xs ((p3 + (4 : Int32))).toNatClampNeg), xI (xs ((p3 + (3 : Int32))).toNatClampNeg), xI (xs ((p3 + (2 : Int32))).toNatClampNeg), xI (xs ((p3 + (1 : Int32))).toNatClampNeg), xR p1]) (fun hc hk => ?_) (fun hc hk => ?_) ?_
  · exact xj_if_eq (tgt := 173) hC dL_law_166 (by decide) (fun _ => xj_iconst (v := 0) hC dL_law_173 (by decide) hk) (fun hn => absurd hc hn)
  · exact xj_if_eq (tgt := 173) hC dL_law_166 (by decide) (fun hn => absurd hn hc) (fun _ => xj_iconst (v := 1) hC dL_law_169 (by decide) (xj_goto (tgt := 174) hC dL_law_170 (by decide) hk))
  refine xj_aloadS_n hC dL_law_174 rfl 0 rfl ?_
  refine xj_iload_n hC dL_law_175 rfl 3 rfl ?_
  refine xj_bipush (v := 6) hC dL_law_176 (by decide) ?_
  refine xj_iadd hC dL_law_178 ?_
  refine xb_sld hC hX hbl hbb dL_law_179 hf (fun hf => ?_)
  obtain ⟨v2, w3, hc1, hf⟩ := xm_b2 hf
  obtain ⟨_, hob, _⟩ := xm_bind hc1
  refine xj_retiM (xr_V hC (mX4_format l D ks b hc1) hob rfl xw_cod_X4_format xw_ini_X4 xw_ins_X4_format xw_sel_X4_format xw_ml_L_13 xds_X4_format ⟨Nat.le_of_ble_eq_true rfl, Nat.le_of_ble_eq_true rfl⟩ rfl rfl (Nat.le_of_ble_eq_true rfl) ⟨by simp only [room_1]; omega, by simp only [room_1]; omega⟩ dL_law_180) ?_
  refine xj_aload_n hC dL_law_183 rfl 2 rfl ?_
  refine xj_aloadS_n hC dL_law_184 rfl 0 rfl ?_
  refine xj_iload_n hC dL_law_185 rfl 3 rfl ?_
  refine xj_iconst (v := 1) hC dL_law_186 (by decide) ?_
  refine xj_iadd hC dL_law_187 ?_
  refine xb_sld hC hX hbl hbb dL_law_188 hf (fun hf => ?_)
  refine xj_aloadS_n hC dL_law_189 rfl 0 rfl ?_
  refine xj_iload_n hC dL_law_190 rfl 3 rfl ?_
  refine xj_iconst (v := 2) hC dL_law_191 (by decide) ?_
  refine xj_iadd hC dL_law_192 ?_
  refine xb_sld hC hX hbl hbb dL_law_193 hf (fun hf => ?_)
  refine xj_aloadS_n hC dL_law_194 rfl 0 rfl ?_
  refine xj_iload_n hC dL_law_195 rfl 3 rfl ?_
  refine xj_iconst (v := 3) hC dL_law_196 (by decide) ?_
  refine xj_iadd hC dL_law_197 ?_
  refine xb_sld hC hX hbl hbb dL_law_198 hf (fun hf => ?_)
  refine xj_aloadS_n hC dL_law_199 rfl 0 rfl ?_
  refine xj_iload_n hC dL_law_200 rfl 3 rfl ?_
  refine xj_iconst (v := 4) hC dL_law_201 (by decide) ?_
  refine xj_iadd hC dL_law_202 ?_
  refine xb_sld hC hX hbl hbb dL_law_203 hf (fun hf => ?_)
  refine xj_aloadS_n hC dL_law_204 rfl 0 rfl ?_
  refine xj_iload_n hC dL_law_205 rfl 3 rfl ?_
  refine xj_iconst (v := 5) hC dL_law_206 (by decide) ?_
  refine xj_iadd hC dL_law_207 ?_
  refine xb_sld hC hX hbl hbb dL_law_208 hf (fun hf => ?_)
  refine xj_dia (cnd := (xs ((p3 + (5 : Int32))).toNatClampNeg) = 0) (x := 0) (y := 1) (pc2 := 217) (st2 := [xI (xs ((p3 + (4 : Int32))).toNatClampNeg), xI (xs ((p3 + (3 : Int32))).toNatClampNeg), xI (xs ((p3 + (2 : Int32))).toNatClampNeg), xI (xs ((p3 + (1 : Int32))).toNatClampNeg), xR p2, xI v2]) (fun hc hk => ?_) (fun hc hk => ?_) ?_
  · exact xj_if_eq (tgt := 216) hC dL_law_209 (by decide) (fun _ => xj_iconst (v := 0) hC dL_law_216 (by decide) hk) (fun hn => absurd hc hn)
  · exact xj_if_eq (tgt := 216) hC dL_law_209 (by decide) (fun hn => absurd hn hc) (fun _ => xj_iconst (v := 1) hC dL_law_212 (by decide) (xj_goto (tgt := 217) hC dL_law_213 (by decide) hk))
  refine xj_aloadS_n hC dL_law_217 rfl 0 rfl ?_
  refine xj_iload_n hC dL_law_218 rfl 3 rfl ?_
  refine xj_bipush (v := 6) hC dL_law_219 (by decide) ?_
  refine xj_iadd hC dL_law_221 ?_
  refine xb_sld hC hX hbl hbb dL_law_222 hf (fun hf => ?_)
  obtain ⟨v5, w6, hc4, hf⟩ := xm_b2 hf
  obtain ⟨_, hob, _⟩ := xm_bind hc4
  refine xj_reti (xr_V hC (mX5_format l D ks b hc4) hob rfl xw_cod_X5_format xw_ini_X5 xw_ins_X5_format xw_sel_X5_format xw_ml_L_17 xds_X5_format ⟨Nat.le_of_ble_eq_true rfl, Nat.le_of_ble_eq_true rfl⟩ rfl rfl (Nat.le_of_ble_eq_true rfl) ⟨by simp only [room_1]; omega, by simp only [room_1]; omega⟩ dL_law_223) ?_
  refine xb_ic_eq (tgt := 1328) hC dL_law_226 (by decide) hf (fun hf => ?_) (fun hf => ?_)
  · have hw := Option.some.inj hf
    subst hw
    exact kk
  · refine xj_iconst (v := 0) hC dL_law_229 (by decide) ?_
    cases hf
def fLc_1 (xs : Nat → Int32) (Ln : Nat) (w : xmW) (p1 p2 : Option Nat) (p3 : Int32) : Option xmW := (if 0 ≤ (p3 + (1 : Int32)) ∧ ((p3 + (1 : Int32))).toNatClampNeg < Ln then (if 0 ≤ (p3 + (2 : Int32)) ∧ ((p3 + (2 : Int32))).toNatClampNeg < Ln then (xmb2 (fX4_about w (p1) ((xs ((p3 + (1 : Int32))).toNatClampNeg)) ((xs ((p3 + (2 : Int32))).toNatClampNeg))) fun v8 w9 => (if 0 ≤ (p3 + (1 : Int32)) ∧ ((p3 + (1 : Int32))).toNatClampNeg < Ln then (if 0 ≤ (p3 + (2 : Int32)) ∧ ((p3 + (2 : Int32))).toNatClampNeg < Ln then (xmb2 (fX5_about w9 (p2) ((xs ((p3 + (1 : Int32))).toNatClampNeg)) ((xs ((p3 + (2 : Int32))).toNatClampNeg))) fun v11 w12 => (if v8 = v11 then (some w12) else none)) else none) else none)) else none) else none)
set_option maxHeartbeats 4000000 in
set_option maxRecDepth 100000 in
theorem lLc_1 {p : Program} {l : Launch} {e : Env} {s : State} {m : MethodId} {below : List Frame} {meth : Method} {c : Code} {D : va_G} {ks : Nat → ClassId} {b ba Ln : Nat} {xs : Nat → Int32} (hC : xmC p s m #[Value.ref ba] meth c D ks b 4 cL_law RL) (hX : va_X ba Ln xs s s.heap) (hbl : ba < s.heap.size) (hbb : b = s.heap.size) {w w2 : xmW} {p1 p2 : Option Nat} {p3 : Int32} {cl sl : Nat} (hcl : cl + 1 ≤ 10000) (hsl : sl + 7 ≤ 100000) (hf : fLc_1 xs Ln w p1 p2 p3 = some w2) (kk : xmJ p l e room_1 s m #[Value.ref ba] below meth c D ks b 4 (lw_Z below #[Value.ref ba] s) w2 cl sl 1328 [(0, xS ba), (1, xR p1), (2, xR p2), (3, xI p3)] []) : xmJ p l e room_1 s m #[Value.ref ba] below meth c D ks b 4 (lw_Z below #[Value.ref ba] s) w cl sl 231 [(0, xS ba), (1, xR p1), (2, xR p2), (3, xI p3)] [] := by
  unfold fLc_1 at hf
  refine xj_aload_n hC dL_law_231 rfl 1 rfl ?_
  refine xj_aloadS_n hC dL_law_232 rfl 0 rfl ?_
  refine xj_iload_n hC dL_law_233 rfl 3 rfl ?_
  refine xj_iconst (v := 1) hC dL_law_234 (by decide) ?_
  refine xj_iadd hC dL_law_235 ?_
  refine xb_sld hC hX hbl hbb dL_law_236 hf (fun hf => ?_)
  refine xj_aloadS_n hC dL_law_237 rfl 0 rfl ?_
  refine xj_iload_n hC dL_law_238 rfl 3 rfl ?_
  refine xj_iconst (v := 2) hC dL_law_239 (by decide) ?_
  refine xj_iadd hC dL_law_240 ?_
  refine xb_sld hC hX hbl hbb dL_law_241 hf (fun hf => ?_)
  obtain ⟨v8, w9, hc7, hf⟩ := xm_b2 hf
  obtain ⟨_, hob, _⟩ := xm_bind hc7
  refine xj_reti (xr_V hC (mX4_about l D ks b hc7) hob rfl xw_cod_X4_about xw_ini_X4 xw_ins_X4_about xw_sel_X4_about xw_ml_L_18 xds_X4_about ⟨Nat.le_of_ble_eq_true rfl, Nat.le_of_ble_eq_true rfl⟩ rfl rfl (Nat.le_of_ble_eq_true rfl) ⟨by simp only [room_1]; omega, by simp only [room_1]; omega⟩ dL_law_242) ?_
  refine xj_aload_n hC dL_law_245 rfl 2 rfl ?_
  refine xj_aloadS_n hC dL_law_246 rfl 0 rfl ?_
  refine xj_iload_n hC dL_law_247 rfl 3 rfl ?_
  refine xj_iconst (v := 1) hC dL_law_248 (by decide) ?_
  refine xj_iadd hC dL_law_249 ?_
  refine xb_sld hC hX hbl hbb dL_law_250 hf (fun hf => ?_)
  refine xj_aloadS_n hC dL_law_251 rfl 0 rfl ?_
  refine xj_iload_n hC dL_law_252 rfl 3 rfl ?_
  refine xj_iconst (v := 2) hC dL_law_253 (by decide) ?_
  refine xj_iadd hC dL_law_254 ?_
  refine xb_sld hC hX hbl hbb dL_law_255 hf (fun hf => ?_)
  obtain ⟨v11, w12, hc10, hf⟩ := xm_b2 hf
  obtain ⟨_, hob, _⟩ := xm_bind hc10
  refine xj_reti (xr_V hC (mX5_about l D ks b hc10) hob rfl xw_cod_X5_about xw_ini_X5 xw_ins_X5_about xw_sel_X5_about xw_ml_L_22 xds_X5_about ⟨Nat.le_of_ble_eq_true rfl, Nat.le_of_ble_eq_true rfl⟩ rfl rfl (Nat.le_of_ble_eq_true rfl) ⟨by simp only [room_1]; omega, by simp only [room_1]; omega⟩ dL_law_256) ?_
  refine xb_ic_eq (tgt := 1328) hC dL_law_259 (by decide) hf (fun hf => ?_) (fun hf => ?_)
  · have hw := Option.some.inj hf
    subst hw
    exact kk
  · refine xj_iconst (v := 0) hC dL_law_262 (by decide) ?_
    cases hf
def fLc_2 (xs : Nat → Int32) (Ln : Nat) (w : xmW) (p1 p2 : Option Nat) (p3 : Int32) : Option xmW := (if 0 ≤ (p3 + (1 : Int32)) ∧ ((p3 + (1 : Int32))).toNatClampNeg < Ln then (if 0 ≤ (p3 + (2 : Int32)) ∧ ((p3 + (2 : Int32))).toNatClampNeg < Ln then (if 0 ≤ (p3 + (3 : Int32)) ∧ ((p3 + (3 : Int32))).toNatClampNeg < Ln then (xmb2 (fX4_kind w (p1) ((xs ((p3 + (1 : Int32))).toNatClampNeg)) ((xs ((p3 + (2 : Int32))).toNatClampNeg)) ((xs ((p3 + (3 : Int32))).toNatClampNeg))) fun v14 w15 => (if 0 ≤ (p3 + (1 : Int32)) ∧ ((p3 + (1 : Int32))).toNatClampNeg < Ln then (if 0 ≤ (p3 + (2 : Int32)) ∧ ((p3 + (2 : Int32))).toNatClampNeg < Ln then (if 0 ≤ (p3 + (3 : Int32)) ∧ ((p3 + (3 : Int32))).toNatClampNeg < Ln then (xmb2 (fX5_kind w15 (p2) ((xs ((p3 + (1 : Int32))).toNatClampNeg)) ((xs ((p3 + (2 : Int32))).toNatClampNeg)) ((xs ((p3 + (3 : Int32))).toNatClampNeg))) fun v17 w18 => (if v14 = v17 then (some w18) else none)) else none) else none) else none)) else none) else none) else none)
set_option maxHeartbeats 4000000 in
set_option maxRecDepth 100000 in
theorem lLc_2 {p : Program} {l : Launch} {e : Env} {s : State} {m : MethodId} {below : List Frame} {meth : Method} {c : Code} {D : va_G} {ks : Nat → ClassId} {b ba Ln : Nat} {xs : Nat → Int32} (hC : xmC p s m #[Value.ref ba] meth c D ks b 4 cL_law RL) (hX : va_X ba Ln xs s s.heap) (hbl : ba < s.heap.size) (hbb : b = s.heap.size) {w w2 : xmW} {p1 p2 : Option Nat} {p3 : Int32} {cl sl : Nat} (hcl : cl + 1 ≤ 10000) (hsl : sl + 7 ≤ 100000) (hf : fLc_2 xs Ln w p1 p2 p3 = some w2) (kk : xmJ p l e room_1 s m #[Value.ref ba] below meth c D ks b 4 (lw_Z below #[Value.ref ba] s) w2 cl sl 1328 [(0, xS ba), (1, xR p1), (2, xR p2), (3, xI p3)] []) : xmJ p l e room_1 s m #[Value.ref ba] below meth c D ks b 4 (lw_Z below #[Value.ref ba] s) w cl sl 264 [(0, xS ba), (1, xR p1), (2, xR p2), (3, xI p3)] [] := by
  unfold fLc_2 at hf
  refine xj_aload_n hC dL_law_264 rfl 1 rfl ?_
  refine xj_aloadS_n hC dL_law_265 rfl 0 rfl ?_
  refine xj_iload_n hC dL_law_266 rfl 3 rfl ?_
  refine xj_iconst (v := 1) hC dL_law_267 (by decide) ?_
  refine xj_iadd hC dL_law_268 ?_
  refine xb_sld hC hX hbl hbb dL_law_269 hf (fun hf => ?_)
  refine xj_aloadS_n hC dL_law_270 rfl 0 rfl ?_
  refine xj_iload_n hC dL_law_271 rfl 3 rfl ?_
  refine xj_iconst (v := 2) hC dL_law_272 (by decide) ?_
  refine xj_iadd hC dL_law_273 ?_
  refine xb_sld hC hX hbl hbb dL_law_274 hf (fun hf => ?_)
  refine xj_aloadS_n hC dL_law_275 rfl 0 rfl ?_
  refine xj_iload_n hC dL_law_276 rfl 3 rfl ?_
  refine xj_iconst (v := 3) hC dL_law_277 (by decide) ?_
  refine xj_iadd hC dL_law_278 ?_
  refine xb_sld hC hX hbl hbb dL_law_279 hf (fun hf => ?_)
  obtain ⟨v14, w15, hc13, hf⟩ := xm_b2 hf
  obtain ⟨_, hob, _⟩ := xm_bind hc13
  refine xj_reti (xr_V hC (mX4_kind l D ks b hc13) hob rfl xw_cod_X4_kind xw_ini_X4 xw_ins_X4_kind xw_sel_X4_kind xw_ml_L_23 xds_X4_kind ⟨Nat.le_of_ble_eq_true rfl, Nat.le_of_ble_eq_true rfl⟩ rfl rfl (Nat.le_of_ble_eq_true rfl) ⟨by simp only [room_1]; omega, by simp only [room_1]; omega⟩ dL_law_280) ?_
  refine xj_aload_n hC dL_law_283 rfl 2 rfl ?_
  refine xj_aloadS_n hC dL_law_284 rfl 0 rfl ?_
  refine xj_iload_n hC dL_law_285 rfl 3 rfl ?_
  refine xj_iconst (v := 1) hC dL_law_286 (by decide) ?_
  refine xj_iadd hC dL_law_287 ?_
  refine xb_sld hC hX hbl hbb dL_law_288 hf (fun hf => ?_)
  refine xj_aloadS_n hC dL_law_289 rfl 0 rfl ?_
  refine xj_iload_n hC dL_law_290 rfl 3 rfl ?_
  refine xj_iconst (v := 2) hC dL_law_291 (by decide) ?_
  refine xj_iadd hC dL_law_292 ?_
  refine xb_sld hC hX hbl hbb dL_law_293 hf (fun hf => ?_)
  refine xj_aloadS_n hC dL_law_294 rfl 0 rfl ?_
  refine xj_iload_n hC dL_law_295 rfl 3 rfl ?_
  refine xj_iconst (v := 3) hC dL_law_296 (by decide) ?_
  refine xj_iadd hC dL_law_297 ?_
  refine xb_sld hC hX hbl hbb dL_law_298 hf (fun hf => ?_)
  obtain ⟨v17, w18, hc16, hf⟩ := xm_b2 hf
  obtain ⟨_, hob, _⟩ := xm_bind hc16
  refine xj_reti (xr_V hC (mX5_kind l D ks b hc16) hob rfl xw_cod_X5_kind xw_ini_X5 xw_ins_X5_kind xw_sel_X5_kind xw_ml_L_27 xds_X5_kind ⟨Nat.le_of_ble_eq_true rfl, Nat.le_of_ble_eq_true rfl⟩ rfl rfl (Nat.le_of_ble_eq_true rfl) ⟨by simp only [room_1]; omega, by simp only [room_1]; omega⟩ dL_law_299) ?_
  refine xb_ic_eq (tgt := 1328) hC dL_law_302 (by decide) hf (fun hf => ?_) (fun hf => ?_)
  · have hw := Option.some.inj hf
    subst hw
    exact kk
  · refine xj_iconst (v := 0) hC dL_law_305 (by decide) ?_
    cases hf
def fLc_3 (xs : Nat → Int32) (Ln : Nat) (w : xmW) (p1 p2 : Option Nat) (p3 : Int32) : Option xmW := (if 0 ≤ (p3 + (1 : Int32)) ∧ ((p3 + (1 : Int32))).toNatClampNeg < Ln then (if 0 ≤ (p3 + (2 : Int32)) ∧ ((p3 + (2 : Int32))).toNatClampNeg < Ln then (xmb2 (fX4_units w (p1) ((xs ((p3 + (1 : Int32))).toNatClampNeg)) ((xs ((p3 + (2 : Int32))).toNatClampNeg))) fun v20 w21 => (if 0 ≤ (p3 + (1 : Int32)) ∧ ((p3 + (1 : Int32))).toNatClampNeg < Ln then (if 0 ≤ (p3 + (2 : Int32)) ∧ ((p3 + (2 : Int32))).toNatClampNeg < Ln then (xmb2 (fX5_units w21 (p2) ((xs ((p3 + (1 : Int32))).toNatClampNeg)) ((xs ((p3 + (2 : Int32))).toNatClampNeg))) fun v23 w24 => (if (lg_cmp v20 v23) = 0 then (some w24) else none)) else none) else none)) else none) else none)
set_option maxHeartbeats 4000000 in
set_option maxRecDepth 100000 in
theorem lLc_3 {p : Program} {l : Launch} {e : Env} {s : State} {m : MethodId} {below : List Frame} {meth : Method} {c : Code} {D : va_G} {ks : Nat → ClassId} {b ba Ln : Nat} {xs : Nat → Int32} (hC : xmC p s m #[Value.ref ba] meth c D ks b 4 cL_law RL) (hX : va_X ba Ln xs s s.heap) (hbl : ba < s.heap.size) (hbb : b = s.heap.size) {w w2 : xmW} {p1 p2 : Option Nat} {p3 : Int32} {cl sl : Nat} (hcl : cl + 1 ≤ 10000) (hsl : sl + 7 ≤ 100000) (hf : fLc_3 xs Ln w p1 p2 p3 = some w2) (kk : xmJ p l e room_1 s m #[Value.ref ba] below meth c D ks b 4 (lw_Z below #[Value.ref ba] s) w2 cl sl 1328 [(0, xS ba), (1, xR p1), (2, xR p2), (3, xI p3)] []) : xmJ p l e room_1 s m #[Value.ref ba] below meth c D ks b 4 (lw_Z below #[Value.ref ba] s) w cl sl 307 [(0, xS ba), (1, xR p1), (2, xR p2), (3, xI p3)] [] := by
  unfold fLc_3 at hf
  refine xj_aload_n hC dL_law_307 rfl 1 rfl ?_
  refine xj_aloadS_n hC dL_law_308 rfl 0 rfl ?_
  refine xj_iload_n hC dL_law_309 rfl 3 rfl ?_
  refine xj_iconst (v := 1) hC dL_law_310 (by decide) ?_
  refine xj_iadd hC dL_law_311 ?_
  refine xb_sld hC hX hbl hbb dL_law_312 hf (fun hf => ?_)
  refine xj_aloadS_n hC dL_law_313 rfl 0 rfl ?_
  refine xj_iload_n hC dL_law_314 rfl 3 rfl ?_
  refine xj_iconst (v := 2) hC dL_law_315 (by decide) ?_
  refine xj_iadd hC dL_law_316 ?_
  refine xb_sld hC hX hbl hbb dL_law_317 hf (fun hf => ?_)
  obtain ⟨v20, w21, hc19, hf⟩ := xm_b2 hf
  obtain ⟨_, hob, _⟩ := xm_bind hc19
  refine xj_retl (xr_V hC (mX4_units l D ks b hc19) hob rfl xw_cod_X4_units xw_ini_X4 xw_ins_X4_units xw_sel_X4_units xw_ml_L_28 xds_X4_units ⟨Nat.le_of_ble_eq_true rfl, Nat.le_of_ble_eq_true rfl⟩ rfl rfl (Nat.le_of_ble_eq_true rfl) ⟨by simp only [room_1]; omega, by simp only [room_1]; omega⟩ dL_law_318) ?_
  refine xj_aload_n hC dL_law_321 rfl 2 rfl ?_
  refine xj_aloadS_n hC dL_law_322 rfl 0 rfl ?_
  refine xj_iload_n hC dL_law_323 rfl 3 rfl ?_
  refine xj_iconst (v := 1) hC dL_law_324 (by decide) ?_
  refine xj_iadd hC dL_law_325 ?_
  refine xb_sld hC hX hbl hbb dL_law_326 hf (fun hf => ?_)
  refine xj_aloadS_n hC dL_law_327 rfl 0 rfl ?_
  refine xj_iload_n hC dL_law_328 rfl 3 rfl ?_
  refine xj_iconst (v := 2) hC dL_law_329 (by decide) ?_
  refine xj_iadd hC dL_law_330 ?_
  refine xb_sld hC hX hbl hbb dL_law_331 hf (fun hf => ?_)
  obtain ⟨v23, w24, hc22, hf⟩ := xm_b2 hf
  obtain ⟨_, hob, _⟩ := xm_bind hc22
  refine xj_retl (xr_V hC (mX5_units l D ks b hc22) hob rfl xw_cod_X5_units xw_ini_X5 xw_ins_X5_units xw_sel_X5_units xw_ml_L_32 xds_X5_units ⟨Nat.le_of_ble_eq_true rfl, Nat.le_of_ble_eq_true rfl⟩ rfl rfl (Nat.le_of_ble_eq_true rfl) ⟨by simp only [room_1]; omega, by simp only [room_1]; omega⟩ dL_law_332) ?_
  refine xj_lcmp hC dL_law_335 ?_
  refine xb_if_eq (tgt := 1328) hC dL_law_336 (by decide) hf (fun hf => ?_) (fun hf => ?_)
  · have hw := Option.some.inj hf
    subst hw
    exact kk
  · refine xj_iconst (v := 0) hC dL_law_339 (by decide) ?_
    cases hf
def fLc_4 (xs : Nat → Int32) (Ln : Nat) (w : xmW) (p1 p2 : Option Nat) (p3 : Int32) : Option xmW := (if 0 ≤ (p3 + (1 : Int32)) ∧ ((p3 + (1 : Int32))).toNatClampNeg < Ln then (if 0 ≤ (p3 + (2 : Int32)) ∧ ((p3 + (2 : Int32))).toNatClampNeg < Ln then (if 0 ≤ (p3 + (3 : Int32)) ∧ ((p3 + (3 : Int32))).toNatClampNeg < Ln then (if 0 ≤ (p3 + (4 : Int32)) ∧ ((p3 + (4 : Int32))).toNatClampNeg < Ln then (if 0 ≤ (p3 + (5 : Int32)) ∧ ((p3 + (5 : Int32))).toNatClampNeg < Ln then (if 0 ≤ (p3 + (6 : Int32)) ∧ ((p3 + (6 : Int32))).toNatClampNeg < Ln then (xmb2 (fX4_code w (p1) ((xs ((p3 + (1 : Int32))).toNatClampNeg)) (((((xs ((p3 + (2 : Int32))).toNatClampNeg)).toInt64 <<< (((32 : Int32)).toInt64 &&& 63)) ||| (((xs ((p3 + (3 : Int32))).toNatClampNeg)).toInt64 &&& (4294967295 : Int64)))) (((((xs ((p3 + (4 : Int32))).toNatClampNeg)).toInt64 <<< (((32 : Int32)).toInt64 &&& 63)) ||| (((xs ((p3 + (5 : Int32))).toNatClampNeg)).toInt64 &&& (4294967295 : Int64)))) ((xs ((p3 + (6 : Int32))).toNatClampNeg))) fun v26 w27 => (if 0 ≤ (p3 + (1 : Int32)) ∧ ((p3 + (1 : Int32))).toNatClampNeg < Ln then (if 0 ≤ (p3 + (2 : Int32)) ∧ ((p3 + (2 : Int32))).toNatClampNeg < Ln then (if 0 ≤ (p3 + (3 : Int32)) ∧ ((p3 + (3 : Int32))).toNatClampNeg < Ln then (if 0 ≤ (p3 + (4 : Int32)) ∧ ((p3 + (4 : Int32))).toNatClampNeg < Ln then (if 0 ≤ (p3 + (5 : Int32)) ∧ ((p3 + (5 : Int32))).toNatClampNeg < Ln then (if 0 ≤ (p3 + (6 : Int32)) ∧ ((p3 + (6 : Int32))).toNatClampNeg < Ln then (xmb2 (fX5_code w27 (p2) ((xs ((p3 + (1 : Int32))).toNatClampNeg)) (((((xs ((p3 + (2 : Int32))).toNatClampNeg)).toInt64 <<< (((32 : Int32)).toInt64 &&& 63)) ||| (((xs ((p3 + (3 : Int32))).toNatClampNeg)).toInt64 &&& (4294967295 : Int64)))) (((((xs ((p3 + (4 : Int32))).toNatClampNeg)).toInt64 <<< (((32 : Int32)).toInt64 &&& 63)) ||| (((xs ((p3 + (5 : Int32))).toNatClampNeg)).toInt64 &&& (4294967295 : Int64)))) ((xs ((p3 + (6 : Int32))).toNatClampNeg))) fun v29 w30 => (if v26 = v29 then (some w30) else none)) else none) else none) else none) else none) else none) else none)) else none) else none) else none) else none) else none) else none)
set_option maxHeartbeats 4000000 in
set_option maxRecDepth 100000 in
theorem lLc_4 {p : Program} {l : Launch} {e : Env} {s : State} {m : MethodId} {below : List Frame} {meth : Method} {c : Code} {D : va_G} {ks : Nat → ClassId} {b ba Ln : Nat} {xs : Nat → Int32} (hC : xmC p s m #[Value.ref ba] meth c D ks b 4 cL_law RL) (hX : va_X ba Ln xs s s.heap) (hbl : ba < s.heap.size) (hbb : b = s.heap.size) {w w2 : xmW} {p1 p2 : Option Nat} {p3 : Int32} {cl sl : Nat} (hcl : cl + 1 ≤ 10000) (hsl : sl + 7 ≤ 100000) (hf : fLc_4 xs Ln w p1 p2 p3 = some w2) (kk : xmJ p l e room_1 s m #[Value.ref ba] below meth c D ks b 4 (lw_Z below #[Value.ref ba] s) w2 cl sl 1328 [(0, xS ba), (1, xR p1), (2, xR p2), (3, xI p3)] []) : xmJ p l e room_1 s m #[Value.ref ba] below meth c D ks b 4 (lw_Z below #[Value.ref ba] s) w cl sl 341 [(0, xS ba), (1, xR p1), (2, xR p2), (3, xI p3)] [] := by
  unfold fLc_4 at hf
  refine xj_aload_n hC dL_law_341 rfl 1 rfl ?_
  refine xj_aloadS_n hC dL_law_342 rfl 0 rfl ?_
  refine xj_iload_n hC dL_law_343 rfl 3 rfl ?_
  refine xj_iconst (v := 1) hC dL_law_344 (by decide) ?_
  refine xj_iadd hC dL_law_345 ?_
  refine xb_sld hC hX hbl hbb dL_law_346 hf (fun hf => ?_)
  refine xj_aloadS_n hC dL_law_347 rfl 0 rfl ?_
  refine xj_iload_n hC dL_law_348 rfl 3 rfl ?_
  refine xj_iconst (v := 2) hC dL_law_349 (by decide) ?_
  refine xj_iadd hC dL_law_350 ?_
  refine xb_sld hC hX hbl hbb dL_law_351 hf (fun hf => ?_)
  refine xj_i2l hC dL_law_352 ?_
  refine xj_bipush (v := 32) hC dL_law_353 (by decide) ?_
  refine xj_lshl hC dL_law_355 ?_
  refine xj_aloadS_n hC dL_law_356 rfl 0 rfl ?_
  refine xj_iload_n hC dL_law_357 rfl 3 rfl ?_
  refine xj_iconst (v := 3) hC dL_law_358 (by decide) ?_
  refine xj_iadd hC dL_law_359 ?_
  refine xb_sld hC hX hbl hbb dL_law_360 hf (fun hf => ?_)
  refine xj_i2l hC dL_law_361 ?_
  refine xj_ldc2 hC xw_cst_L_33 dL_law_362 ?_
  refine xj_land hC dL_law_365 ?_
  refine xj_lor hC dL_law_366 ?_
  refine xj_aloadS_n hC dL_law_367 rfl 0 rfl ?_
  refine xj_iload_n hC dL_law_368 rfl 3 rfl ?_
  refine xj_iconst (v := 4) hC dL_law_369 (by decide) ?_
  refine xj_iadd hC dL_law_370 ?_
  refine xb_sld hC hX hbl hbb dL_law_371 hf (fun hf => ?_)
  refine xj_i2l hC dL_law_372 ?_
  refine xj_bipush (v := 32) hC dL_law_373 (by decide) ?_
  refine xj_lshl hC dL_law_375 ?_
  refine xj_aloadS_n hC dL_law_376 rfl 0 rfl ?_
  refine xj_iload_n hC dL_law_377 rfl 3 rfl ?_
  refine xj_iconst (v := 5) hC dL_law_378 (by decide) ?_
  refine xj_iadd hC dL_law_379 ?_
  refine xb_sld hC hX hbl hbb dL_law_380 hf (fun hf => ?_)
  refine xj_i2l hC dL_law_381 ?_
  refine xj_ldc2 hC xw_cst_L_33 dL_law_382 ?_
  refine xj_land hC dL_law_385 ?_
  refine xj_lor hC dL_law_386 ?_
  refine xj_aloadS_n hC dL_law_387 rfl 0 rfl ?_
  refine xj_iload_n hC dL_law_388 rfl 3 rfl ?_
  refine xj_bipush (v := 6) hC dL_law_389 (by decide) ?_
  refine xj_iadd hC dL_law_391 ?_
  refine xb_sld hC hX hbl hbb dL_law_392 hf (fun hf => ?_)
  obtain ⟨v26, w27, hc25, hf⟩ := xm_b2 hf
  obtain ⟨_, hob, _⟩ := xm_bind hc25
  refine xj_reti (xr_V hC (mX4_code l D ks b hc25) hob rfl xw_cod_X4_code xw_ini_X4 xw_ins_X4_code xw_sel_X4_code xw_ml_L_35 xds_X4_code ⟨Nat.le_of_ble_eq_true rfl, Nat.le_of_ble_eq_true rfl⟩ rfl rfl (Nat.le_of_ble_eq_true rfl) ⟨by simp only [room_1]; omega, by simp only [room_1]; omega⟩ dL_law_393) ?_
  refine xj_aload_n hC dL_law_396 rfl 2 rfl ?_
  refine xj_aloadS_n hC dL_law_397 rfl 0 rfl ?_
  refine xj_iload_n hC dL_law_398 rfl 3 rfl ?_
  refine xj_iconst (v := 1) hC dL_law_399 (by decide) ?_
  refine xj_iadd hC dL_law_400 ?_
  refine xb_sld hC hX hbl hbb dL_law_401 hf (fun hf => ?_)
  refine xj_aloadS_n hC dL_law_402 rfl 0 rfl ?_
  refine xj_iload_n hC dL_law_403 rfl 3 rfl ?_
  refine xj_iconst (v := 2) hC dL_law_404 (by decide) ?_
  refine xj_iadd hC dL_law_405 ?_
  refine xb_sld hC hX hbl hbb dL_law_406 hf (fun hf => ?_)
  refine xj_i2l hC dL_law_407 ?_
  refine xj_bipush (v := 32) hC dL_law_408 (by decide) ?_
  refine xj_lshl hC dL_law_410 ?_
  refine xj_aloadS_n hC dL_law_411 rfl 0 rfl ?_
  refine xj_iload_n hC dL_law_412 rfl 3 rfl ?_
  refine xj_iconst (v := 3) hC dL_law_413 (by decide) ?_
  refine xj_iadd hC dL_law_414 ?_
  refine xb_sld hC hX hbl hbb dL_law_415 hf (fun hf => ?_)
  refine xj_i2l hC dL_law_416 ?_
  refine xj_ldc2 hC xw_cst_L_33 dL_law_417 ?_
  refine xj_land hC dL_law_420 ?_
  refine xj_lor hC dL_law_421 ?_
  refine xj_aloadS_n hC dL_law_422 rfl 0 rfl ?_
  refine xj_iload_n hC dL_law_423 rfl 3 rfl ?_
  refine xj_iconst (v := 4) hC dL_law_424 (by decide) ?_
  refine xj_iadd hC dL_law_425 ?_
  refine xb_sld hC hX hbl hbb dL_law_426 hf (fun hf => ?_)
  refine xj_i2l hC dL_law_427 ?_
  refine xj_bipush (v := 32) hC dL_law_428 (by decide) ?_
  refine xj_lshl hC dL_law_430 ?_
  refine xj_aloadS_n hC dL_law_431 rfl 0 rfl ?_
  refine xj_iload_n hC dL_law_432 rfl 3 rfl ?_
  refine xj_iconst (v := 5) hC dL_law_433 (by decide) ?_
  refine xj_iadd hC dL_law_434 ?_
  refine xb_sld hC hX hbl hbb dL_law_435 hf (fun hf => ?_)
  refine xj_i2l hC dL_law_436 ?_
  refine xj_ldc2 hC xw_cst_L_33 dL_law_437 ?_
  refine xj_land hC dL_law_440 ?_
  refine xj_lor hC dL_law_441 ?_
  refine xj_aloadS_n hC dL_law_442 rfl 0 rfl ?_
  refine xj_iload_n hC dL_law_443 rfl 3 rfl ?_
  refine xj_bipush (v := 6) hC dL_law_444 (by decide) ?_
  refine xj_iadd hC dL_law_446 ?_
  refine xb_sld hC hX hbl hbb dL_law_447 hf (fun hf => ?_)
  obtain ⟨v29, w30, hc28, hf⟩ := xm_b2 hf
  obtain ⟨_, hob, _⟩ := xm_bind hc28
  refine xj_reti (xr_V hC (mX5_code l D ks b hc28) hob rfl xw_cod_X5_code xw_ini_X5 xw_ins_X5_code xw_sel_X5_code xw_ml_L_39 xds_X5_code ⟨Nat.le_of_ble_eq_true rfl, Nat.le_of_ble_eq_true rfl⟩ rfl rfl (Nat.le_of_ble_eq_true rfl) ⟨by simp only [room_1]; omega, by simp only [room_1]; omega⟩ dL_law_448) ?_
  refine xb_ic_eq (tgt := 1328) hC dL_law_451 (by decide) hf (fun hf => ?_) (fun hf => ?_)
  · have hw := Option.some.inj hf
    subst hw
    exact kk
  · refine xj_iconst (v := 0) hC dL_law_454 (by decide) ?_
    cases hf
def fLc_5 (xs : Nat → Int32) (Ln : Nat) (w : xmW) (p1 p2 : Option Nat) (p3 : Int32) : Option xmW := (if 0 ≤ (p3 + (1 : Int32)) ∧ ((p3 + (1 : Int32))).toNatClampNeg < Ln then (if 0 ≤ (p3 + (2 : Int32)) ∧ ((p3 + (2 : Int32))).toNatClampNeg < Ln then (if 0 ≤ (p3 + (3 : Int32)) ∧ ((p3 + (3 : Int32))).toNatClampNeg < Ln then (if 0 ≤ (p3 + (4 : Int32)) ∧ ((p3 + (4 : Int32))).toNatClampNeg < Ln then (xmb2 (fX4_cross w (p1) ((xs ((p3 + (1 : Int32))).toNatClampNeg)) ((xs ((p3 + (2 : Int32))).toNatClampNeg)) ((xs ((p3 + (3 : Int32))).toNatClampNeg)) ((xs ((p3 + (4 : Int32))).toNatClampNeg))) fun v32 w33 => (if 0 ≤ (p3 + (1 : Int32)) ∧ ((p3 + (1 : Int32))).toNatClampNeg < Ln then (if 0 ≤ (p3 + (2 : Int32)) ∧ ((p3 + (2 : Int32))).toNatClampNeg < Ln then (if 0 ≤ (p3 + (3 : Int32)) ∧ ((p3 + (3 : Int32))).toNatClampNeg < Ln then (if 0 ≤ (p3 + (4 : Int32)) ∧ ((p3 + (4 : Int32))).toNatClampNeg < Ln then (xmb2 (fX5_cross w33 (p2) ((xs ((p3 + (1 : Int32))).toNatClampNeg)) ((xs ((p3 + (2 : Int32))).toNatClampNeg)) ((xs ((p3 + (3 : Int32))).toNatClampNeg)) ((xs ((p3 + (4 : Int32))).toNatClampNeg))) fun v35 w36 => (if v32 = v35 then (some w36) else none)) else none) else none) else none) else none)) else none) else none) else none) else none)
set_option maxHeartbeats 4000000 in
set_option maxRecDepth 100000 in
theorem lLc_5 {p : Program} {l : Launch} {e : Env} {s : State} {m : MethodId} {below : List Frame} {meth : Method} {c : Code} {D : va_G} {ks : Nat → ClassId} {b ba Ln : Nat} {xs : Nat → Int32} (hC : xmC p s m #[Value.ref ba] meth c D ks b 4 cL_law RL) (hX : va_X ba Ln xs s s.heap) (hbl : ba < s.heap.size) (hbb : b = s.heap.size) {w w2 : xmW} {p1 p2 : Option Nat} {p3 : Int32} {cl sl : Nat} (hcl : cl + 1 ≤ 10000) (hsl : sl + 7 ≤ 100000) (hf : fLc_5 xs Ln w p1 p2 p3 = some w2) (kk : xmJ p l e room_1 s m #[Value.ref ba] below meth c D ks b 4 (lw_Z below #[Value.ref ba] s) w2 cl sl 1328 [(0, xS ba), (1, xR p1), (2, xR p2), (3, xI p3)] []) : xmJ p l e room_1 s m #[Value.ref ba] below meth c D ks b 4 (lw_Z below #[Value.ref ba] s) w cl sl 456 [(0, xS ba), (1, xR p1), (2, xR p2), (3, xI p3)] [] := by
  unfold fLc_5 at hf
  refine xj_aload_n hC dL_law_456 rfl 1 rfl ?_
  refine xj_aloadS_n hC dL_law_457 rfl 0 rfl ?_
  refine xj_iload_n hC dL_law_458 rfl 3 rfl ?_
  refine xj_iconst (v := 1) hC dL_law_459 (by decide) ?_
  refine xj_iadd hC dL_law_460 ?_
  refine xb_sld hC hX hbl hbb dL_law_461 hf (fun hf => ?_)
  refine xj_aloadS_n hC dL_law_462 rfl 0 rfl ?_
  refine xj_iload_n hC dL_law_463 rfl 3 rfl ?_
  refine xj_iconst (v := 2) hC dL_law_464 (by decide) ?_
  refine xj_iadd hC dL_law_465 ?_
  refine xb_sld hC hX hbl hbb dL_law_466 hf (fun hf => ?_)
  refine xj_aloadS_n hC dL_law_467 rfl 0 rfl ?_
  refine xj_iload_n hC dL_law_468 rfl 3 rfl ?_
  refine xj_iconst (v := 3) hC dL_law_469 (by decide) ?_
  refine xj_iadd hC dL_law_470 ?_
  refine xb_sld hC hX hbl hbb dL_law_471 hf (fun hf => ?_)
  refine xj_aloadS_n hC dL_law_472 rfl 0 rfl ?_
  refine xj_iload_n hC dL_law_473 rfl 3 rfl ?_
  refine xj_iconst (v := 4) hC dL_law_474 (by decide) ?_
  refine xj_iadd hC dL_law_475 ?_
  refine xb_sld hC hX hbl hbb dL_law_476 hf (fun hf => ?_)
  obtain ⟨v32, w33, hc31, hf⟩ := xm_b2 hf
  obtain ⟨_, hob, _⟩ := xm_bind hc31
  refine xj_reti (xr_V hC (mX4_cross l D ks b hc31) hob rfl xw_cod_X4_cross xw_ini_X4 xw_ins_X4_cross xw_sel_X4_cross xw_ml_L_40 xds_X4_cross ⟨Nat.le_of_ble_eq_true rfl, Nat.le_of_ble_eq_true rfl⟩ rfl rfl (Nat.le_of_ble_eq_true rfl) ⟨by simp only [room_1]; omega, by simp only [room_1]; omega⟩ dL_law_477) ?_
  refine xj_aload_n hC dL_law_480 rfl 2 rfl ?_
  refine xj_aloadS_n hC dL_law_481 rfl 0 rfl ?_
  refine xj_iload_n hC dL_law_482 rfl 3 rfl ?_
  refine xj_iconst (v := 1) hC dL_law_483 (by decide) ?_
  refine xj_iadd hC dL_law_484 ?_
  refine xb_sld hC hX hbl hbb dL_law_485 hf (fun hf => ?_)
  refine xj_aloadS_n hC dL_law_486 rfl 0 rfl ?_
  refine xj_iload_n hC dL_law_487 rfl 3 rfl ?_
  refine xj_iconst (v := 2) hC dL_law_488 (by decide) ?_
  refine xj_iadd hC dL_law_489 ?_
  refine xb_sld hC hX hbl hbb dL_law_490 hf (fun hf => ?_)
  refine xj_aloadS_n hC dL_law_491 rfl 0 rfl ?_
  refine xj_iload_n hC dL_law_492 rfl 3 rfl ?_
  refine xj_iconst (v := 3) hC dL_law_493 (by decide) ?_
  refine xj_iadd hC dL_law_494 ?_
  refine xb_sld hC hX hbl hbb dL_law_495 hf (fun hf => ?_)
  refine xj_aloadS_n hC dL_law_496 rfl 0 rfl ?_
  refine xj_iload_n hC dL_law_497 rfl 3 rfl ?_
  refine xj_iconst (v := 4) hC dL_law_498 (by decide) ?_
  refine xj_iadd hC dL_law_499 ?_
  refine xb_sld hC hX hbl hbb dL_law_500 hf (fun hf => ?_)
  obtain ⟨v35, w36, hc34, hf⟩ := xm_b2 hf
  obtain ⟨_, hob, _⟩ := xm_bind hc34
  refine xj_reti (xr_V hC (mX5_cross l D ks b hc34) hob rfl xw_cod_X5_cross xw_ini_X5 xw_ins_X5_cross xw_sel_X5_cross xw_ml_L_44 xds_X5_cross ⟨Nat.le_of_ble_eq_true rfl, Nat.le_of_ble_eq_true rfl⟩ rfl rfl (Nat.le_of_ble_eq_true rfl) ⟨by simp only [room_1]; omega, by simp only [room_1]; omega⟩ dL_law_501) ?_
  refine xb_ic_eq (tgt := 1328) hC dL_law_504 (by decide) hf (fun hf => ?_) (fun hf => ?_)
  · have hw := Option.some.inj hf
    subst hw
    exact kk
  · refine xj_iconst (v := 0) hC dL_law_507 (by decide) ?_
    cases hf
def fLc_6 (xs : Nat → Int32) (Ln : Nat) (w : xmW) (p1 p2 : Option Nat) (p3 : Int32) : Option xmW := (if 0 ≤ (p3 + (1 : Int32)) ∧ ((p3 + (1 : Int32))).toNatClampNeg < Ln then (if 0 ≤ (p3 + (2 : Int32)) ∧ ((p3 + (2 : Int32))).toNatClampNeg < Ln then (if 0 ≤ (p3 + (3 : Int32)) ∧ ((p3 + (3 : Int32))).toNatClampNeg < Ln then (if 0 ≤ (p3 + (4 : Int32)) ∧ ((p3 + (4 : Int32))).toNatClampNeg < Ln then (if 0 ≤ (p3 + (5 : Int32)) ∧ ((p3 + (5 : Int32))).toNatClampNeg < Ln then (xmb2 (fX4_act w (p1) ((xs ((p3 + (1 : Int32))).toNatClampNeg)) ((xs ((p3 + (2 : Int32))).toNatClampNeg)) ((xs ((p3 + (3 : Int32))).toNatClampNeg)) ((xs ((p3 + (4 : Int32))).toNatClampNeg)) ((xs ((p3 + (5 : Int32))).toNatClampNeg))) fun v38 w39 => (if 0 ≤ (p3 + (1 : Int32)) ∧ ((p3 + (1 : Int32))).toNatClampNeg < Ln then (if 0 ≤ (p3 + (2 : Int32)) ∧ ((p3 + (2 : Int32))).toNatClampNeg < Ln then (if 0 ≤ (p3 + (3 : Int32)) ∧ ((p3 + (3 : Int32))).toNatClampNeg < Ln then (if 0 ≤ (p3 + (4 : Int32)) ∧ ((p3 + (4 : Int32))).toNatClampNeg < Ln then (if 0 ≤ (p3 + (5 : Int32)) ∧ ((p3 + (5 : Int32))).toNatClampNeg < Ln then (xmb2 (fX5_act w39 (p2) ((xs ((p3 + (1 : Int32))).toNatClampNeg)) ((xs ((p3 + (2 : Int32))).toNatClampNeg)) ((xs ((p3 + (3 : Int32))).toNatClampNeg)) ((xs ((p3 + (4 : Int32))).toNatClampNeg)) ((xs ((p3 + (5 : Int32))).toNatClampNeg))) fun v41 w42 => (if v38 = v41 then (some w42) else none)) else none) else none) else none) else none) else none)) else none) else none) else none) else none) else none)
set_option maxHeartbeats 4000000 in
set_option maxRecDepth 100000 in
theorem lLc_6 {p : Program} {l : Launch} {e : Env} {s : State} {m : MethodId} {below : List Frame} {meth : Method} {c : Code} {D : va_G} {ks : Nat → ClassId} {b ba Ln : Nat} {xs : Nat → Int32} (hC : xmC p s m #[Value.ref ba] meth c D ks b 4 cL_law RL) (hX : va_X ba Ln xs s s.heap) (hbl : ba < s.heap.size) (hbb : b = s.heap.size) {w w2 : xmW} {p1 p2 : Option Nat} {p3 : Int32} {cl sl : Nat} (hcl : cl + 1 ≤ 10000) (hsl : sl + 7 ≤ 100000) (hf : fLc_6 xs Ln w p1 p2 p3 = some w2) (kk : xmJ p l e room_1 s m #[Value.ref ba] below meth c D ks b 4 (lw_Z below #[Value.ref ba] s) w2 cl sl 1328 [(0, xS ba), (1, xR p1), (2, xR p2), (3, xI p3)] []) : xmJ p l e room_1 s m #[Value.ref ba] below meth c D ks b 4 (lw_Z below #[Value.ref ba] s) w cl sl 509 [(0, xS ba), (1, xR p1), (2, xR p2), (3, xI p3)] [] := by
  unfold fLc_6 at hf
  refine xj_aload_n hC dL_law_509 rfl 1 rfl ?_
  refine xj_aloadS_n hC dL_law_510 rfl 0 rfl ?_
  refine xj_iload_n hC dL_law_511 rfl 3 rfl ?_
  refine xj_iconst (v := 1) hC dL_law_512 (by decide) ?_
  refine xj_iadd hC dL_law_513 ?_
  refine xb_sld hC hX hbl hbb dL_law_514 hf (fun hf => ?_)
  refine xj_aloadS_n hC dL_law_515 rfl 0 rfl ?_
  refine xj_iload_n hC dL_law_516 rfl 3 rfl ?_
  refine xj_iconst (v := 2) hC dL_law_517 (by decide) ?_
  refine xj_iadd hC dL_law_518 ?_
  refine xb_sld hC hX hbl hbb dL_law_519 hf (fun hf => ?_)
  refine xj_aloadS_n hC dL_law_520 rfl 0 rfl ?_
  refine xj_iload_n hC dL_law_521 rfl 3 rfl ?_
  refine xj_iconst (v := 3) hC dL_law_522 (by decide) ?_
  refine xj_iadd hC dL_law_523 ?_
  refine xb_sld hC hX hbl hbb dL_law_524 hf (fun hf => ?_)
  refine xj_aloadS_n hC dL_law_525 rfl 0 rfl ?_
  refine xj_iload_n hC dL_law_526 rfl 3 rfl ?_
  refine xj_iconst (v := 4) hC dL_law_527 (by decide) ?_
  refine xj_iadd hC dL_law_528 ?_
  refine xb_sld hC hX hbl hbb dL_law_529 hf (fun hf => ?_)
  refine xj_aloadS_n hC dL_law_530 rfl 0 rfl ?_
  refine xj_iload_n hC dL_law_531 rfl 3 rfl ?_
  refine xj_iconst (v := 5) hC dL_law_532 (by decide) ?_
  refine xj_iadd hC dL_law_533 ?_
  refine xb_sld hC hX hbl hbb dL_law_534 hf (fun hf => ?_)
  obtain ⟨v38, w39, hc37, hf⟩ := xm_b2 hf
  obtain ⟨_, hob, _⟩ := xm_bind hc37
  refine xj_reti (xr_V hC (mX4_act l D ks b hc37) hob rfl xw_cod_X4_act xw_ini_X4 xw_ins_X4_act xw_sel_X4_act xw_ml_L_45 xds_X4_act ⟨Nat.le_of_ble_eq_true rfl, Nat.le_of_ble_eq_true rfl⟩ rfl rfl (Nat.le_of_ble_eq_true rfl) ⟨by simp only [room_1]; omega, by simp only [room_1]; omega⟩ dL_law_535) ?_
  refine xj_aload_n hC dL_law_538 rfl 2 rfl ?_
  refine xj_aloadS_n hC dL_law_539 rfl 0 rfl ?_
  refine xj_iload_n hC dL_law_540 rfl 3 rfl ?_
  refine xj_iconst (v := 1) hC dL_law_541 (by decide) ?_
  refine xj_iadd hC dL_law_542 ?_
  refine xb_sld hC hX hbl hbb dL_law_543 hf (fun hf => ?_)
  refine xj_aloadS_n hC dL_law_544 rfl 0 rfl ?_
  refine xj_iload_n hC dL_law_545 rfl 3 rfl ?_
  refine xj_iconst (v := 2) hC dL_law_546 (by decide) ?_
  refine xj_iadd hC dL_law_547 ?_
  refine xb_sld hC hX hbl hbb dL_law_548 hf (fun hf => ?_)
  refine xj_aloadS_n hC dL_law_549 rfl 0 rfl ?_
  refine xj_iload_n hC dL_law_550 rfl 3 rfl ?_
  refine xj_iconst (v := 3) hC dL_law_551 (by decide) ?_
  refine xj_iadd hC dL_law_552 ?_
  refine xb_sld hC hX hbl hbb dL_law_553 hf (fun hf => ?_)
  refine xj_aloadS_n hC dL_law_554 rfl 0 rfl ?_
  refine xj_iload_n hC dL_law_555 rfl 3 rfl ?_
  refine xj_iconst (v := 4) hC dL_law_556 (by decide) ?_
  refine xj_iadd hC dL_law_557 ?_
  refine xb_sld hC hX hbl hbb dL_law_558 hf (fun hf => ?_)
  refine xj_aloadS_n hC dL_law_559 rfl 0 rfl ?_
  refine xj_iload_n hC dL_law_560 rfl 3 rfl ?_
  refine xj_iconst (v := 5) hC dL_law_561 (by decide) ?_
  refine xj_iadd hC dL_law_562 ?_
  refine xb_sld hC hX hbl hbb dL_law_563 hf (fun hf => ?_)
  obtain ⟨v41, w42, hc40, hf⟩ := xm_b2 hf
  obtain ⟨_, hob, _⟩ := xm_bind hc40
  refine xj_reti (xr_V hC (mX5_act l D ks b hc40) hob rfl xw_cod_X5_act xw_ini_X5 xw_ins_X5_act xw_sel_X5_act xw_ml_L_49 xds_X5_act ⟨Nat.le_of_ble_eq_true rfl, Nat.le_of_ble_eq_true rfl⟩ rfl rfl (Nat.le_of_ble_eq_true rfl) ⟨by simp only [room_1]; omega, by simp only [room_1]; omega⟩ dL_law_564) ?_
  refine xb_ic_eq (tgt := 1328) hC dL_law_567 (by decide) hf (fun hf => ?_) (fun hf => ?_)
  · have hw := Option.some.inj hf
    subst hw
    exact kk
  · refine xj_iconst (v := 0) hC dL_law_570 (by decide) ?_
    cases hf
def fLc_7 (xs : Nat → Int32) (Ln : Nat) (w : xmW) (p1 p2 : Option Nat) (p3 : Int32) : Option xmW := (if 0 ≤ (p3 + (1 : Int32)) ∧ ((p3 + (1 : Int32))).toNatClampNeg < Ln then (if 0 ≤ (p3 + (2 : Int32)) ∧ ((p3 + (2 : Int32))).toNatClampNeg < Ln then (if 0 ≤ (p3 + (3 : Int32)) ∧ ((p3 + (3 : Int32))).toNatClampNeg < Ln then (if 0 ≤ (p3 + (4 : Int32)) ∧ ((p3 + (4 : Int32))).toNatClampNeg < Ln then (if 0 ≤ (p3 + (5 : Int32)) ∧ ((p3 + (5 : Int32))).toNatClampNeg < Ln then (xmb2 (fX4_fused w (p1) ((xs ((p3 + (1 : Int32))).toNatClampNeg)) ((xs ((p3 + (2 : Int32))).toNatClampNeg)) ((xs ((p3 + (3 : Int32))).toNatClampNeg)) ((xs ((p3 + (4 : Int32))).toNatClampNeg)) ((xs ((p3 + (5 : Int32))).toNatClampNeg))) fun v44 w45 => (if 0 ≤ (p3 + (1 : Int32)) ∧ ((p3 + (1 : Int32))).toNatClampNeg < Ln then (if 0 ≤ (p3 + (2 : Int32)) ∧ ((p3 + (2 : Int32))).toNatClampNeg < Ln then (if 0 ≤ (p3 + (3 : Int32)) ∧ ((p3 + (3 : Int32))).toNatClampNeg < Ln then (if 0 ≤ (p3 + (4 : Int32)) ∧ ((p3 + (4 : Int32))).toNatClampNeg < Ln then (if 0 ≤ (p3 + (5 : Int32)) ∧ ((p3 + (5 : Int32))).toNatClampNeg < Ln then (xmb2 (fX5_fused w45 (p2) ((xs ((p3 + (1 : Int32))).toNatClampNeg)) ((xs ((p3 + (2 : Int32))).toNatClampNeg)) ((xs ((p3 + (3 : Int32))).toNatClampNeg)) ((xs ((p3 + (4 : Int32))).toNatClampNeg)) ((xs ((p3 + (5 : Int32))).toNatClampNeg))) fun v47 w48 => (if v44 = v47 then (some w48) else none)) else none) else none) else none) else none) else none)) else none) else none) else none) else none) else none)
set_option maxHeartbeats 4000000 in
set_option maxRecDepth 100000 in
theorem lLc_7 {p : Program} {l : Launch} {e : Env} {s : State} {m : MethodId} {below : List Frame} {meth : Method} {c : Code} {D : va_G} {ks : Nat → ClassId} {b ba Ln : Nat} {xs : Nat → Int32} (hC : xmC p s m #[Value.ref ba] meth c D ks b 4 cL_law RL) (hX : va_X ba Ln xs s s.heap) (hbl : ba < s.heap.size) (hbb : b = s.heap.size) {w w2 : xmW} {p1 p2 : Option Nat} {p3 : Int32} {cl sl : Nat} (hcl : cl + 1 ≤ 10000) (hsl : sl + 7 ≤ 100000) (hf : fLc_7 xs Ln w p1 p2 p3 = some w2) (kk : xmJ p l e room_1 s m #[Value.ref ba] below meth c D ks b 4 (lw_Z below #[Value.ref ba] s) w2 cl sl 1328 [(0, xS ba), (1, xR p1), (2, xR p2), (3, xI p3)] []) : xmJ p l e room_1 s m #[Value.ref ba] below meth c D ks b 4 (lw_Z below #[Value.ref ba] s) w cl sl 572 [(0, xS ba), (1, xR p1), (2, xR p2), (3, xI p3)] [] := by
  unfold fLc_7 at hf
  refine xj_aload_n hC dL_law_572 rfl 1 rfl ?_
  refine xj_aloadS_n hC dL_law_573 rfl 0 rfl ?_
  refine xj_iload_n hC dL_law_574 rfl 3 rfl ?_
  refine xj_iconst (v := 1) hC dL_law_575 (by decide) ?_
  refine xj_iadd hC dL_law_576 ?_
  refine xb_sld hC hX hbl hbb dL_law_577 hf (fun hf => ?_)
  refine xj_aloadS_n hC dL_law_578 rfl 0 rfl ?_
  refine xj_iload_n hC dL_law_579 rfl 3 rfl ?_
  refine xj_iconst (v := 2) hC dL_law_580 (by decide) ?_
  refine xj_iadd hC dL_law_581 ?_
  refine xb_sld hC hX hbl hbb dL_law_582 hf (fun hf => ?_)
  refine xj_aloadS_n hC dL_law_583 rfl 0 rfl ?_
  refine xj_iload_n hC dL_law_584 rfl 3 rfl ?_
  refine xj_iconst (v := 3) hC dL_law_585 (by decide) ?_
  refine xj_iadd hC dL_law_586 ?_
  refine xb_sld hC hX hbl hbb dL_law_587 hf (fun hf => ?_)
  refine xj_aloadS_n hC dL_law_588 rfl 0 rfl ?_
  refine xj_iload_n hC dL_law_589 rfl 3 rfl ?_
  refine xj_iconst (v := 4) hC dL_law_590 (by decide) ?_
  refine xj_iadd hC dL_law_591 ?_
  refine xb_sld hC hX hbl hbb dL_law_592 hf (fun hf => ?_)
  refine xj_aloadS_n hC dL_law_593 rfl 0 rfl ?_
  refine xj_iload_n hC dL_law_594 rfl 3 rfl ?_
  refine xj_iconst (v := 5) hC dL_law_595 (by decide) ?_
  refine xj_iadd hC dL_law_596 ?_
  refine xb_sld hC hX hbl hbb dL_law_597 hf (fun hf => ?_)
  obtain ⟨v44, w45, hc43, hf⟩ := xm_b2 hf
  obtain ⟨_, hob, _⟩ := xm_bind hc43
  refine xj_reti (xr_V hC (mX4_fused l D ks b hc43) hob rfl xw_cod_X4_fused xw_ini_X4 xw_ins_X4_fused xw_sel_X4_fused xw_ml_L_50 xds_X4_fused ⟨Nat.le_of_ble_eq_true rfl, Nat.le_of_ble_eq_true rfl⟩ rfl rfl (Nat.le_of_ble_eq_true rfl) ⟨by simp only [room_1]; omega, by simp only [room_1]; omega⟩ dL_law_598) ?_
  refine xj_aload_n hC dL_law_601 rfl 2 rfl ?_
  refine xj_aloadS_n hC dL_law_602 rfl 0 rfl ?_
  refine xj_iload_n hC dL_law_603 rfl 3 rfl ?_
  refine xj_iconst (v := 1) hC dL_law_604 (by decide) ?_
  refine xj_iadd hC dL_law_605 ?_
  refine xb_sld hC hX hbl hbb dL_law_606 hf (fun hf => ?_)
  refine xj_aloadS_n hC dL_law_607 rfl 0 rfl ?_
  refine xj_iload_n hC dL_law_608 rfl 3 rfl ?_
  refine xj_iconst (v := 2) hC dL_law_609 (by decide) ?_
  refine xj_iadd hC dL_law_610 ?_
  refine xb_sld hC hX hbl hbb dL_law_611 hf (fun hf => ?_)
  refine xj_aloadS_n hC dL_law_612 rfl 0 rfl ?_
  refine xj_iload_n hC dL_law_613 rfl 3 rfl ?_
  refine xj_iconst (v := 3) hC dL_law_614 (by decide) ?_
  refine xj_iadd hC dL_law_615 ?_
  refine xb_sld hC hX hbl hbb dL_law_616 hf (fun hf => ?_)
  refine xj_aloadS_n hC dL_law_617 rfl 0 rfl ?_
  refine xj_iload_n hC dL_law_618 rfl 3 rfl ?_
  refine xj_iconst (v := 4) hC dL_law_619 (by decide) ?_
  refine xj_iadd hC dL_law_620 ?_
  refine xb_sld hC hX hbl hbb dL_law_621 hf (fun hf => ?_)
  refine xj_aloadS_n hC dL_law_622 rfl 0 rfl ?_
  refine xj_iload_n hC dL_law_623 rfl 3 rfl ?_
  refine xj_iconst (v := 5) hC dL_law_624 (by decide) ?_
  refine xj_iadd hC dL_law_625 ?_
  refine xb_sld hC hX hbl hbb dL_law_626 hf (fun hf => ?_)
  obtain ⟨v47, w48, hc46, hf⟩ := xm_b2 hf
  obtain ⟨_, hob, _⟩ := xm_bind hc46
  refine xj_reti (xr_V hC (mX5_fused l D ks b hc46) hob rfl xw_cod_X5_fused xw_ini_X5 xw_ins_X5_fused xw_sel_X5_fused xw_ml_L_53 xds_X5_fused ⟨Nat.le_of_ble_eq_true rfl, Nat.le_of_ble_eq_true rfl⟩ rfl rfl (Nat.le_of_ble_eq_true rfl) ⟨by simp only [room_1]; omega, by simp only [room_1]; omega⟩ dL_law_627) ?_
  refine xb_ic_eq (tgt := 1328) hC dL_law_630 (by decide) hf (fun hf => ?_) (fun hf => ?_)
  · have hw := Option.some.inj hf
    subst hw
    exact kk
  · refine xj_iconst (v := 0) hC dL_law_633 (by decide) ?_
    cases hf
def fLc_8 (xs : Nat → Int32) (Ln : Nat) (w : xmW) (p1 p2 : Option Nat) (p3 : Int32) : Option xmW := (if 0 ≤ (p3 + (1 : Int32)) ∧ ((p3 + (1 : Int32))).toNatClampNeg < Ln then (if 0 ≤ (p3 + (2 : Int32)) ∧ ((p3 + (2 : Int32))).toNatClampNeg < Ln then (if 0 ≤ (p3 + (3 : Int32)) ∧ ((p3 + (3 : Int32))).toNatClampNeg < Ln then (xmb2 (fX4_next w (p1) ((xs ((p3 + (1 : Int32))).toNatClampNeg)) ((xs ((p3 + (2 : Int32))).toNatClampNeg)) ((if (xs ((p3 + (3 : Int32))).toNatClampNeg) = 0 then (0 : Int32) else (1 : Int32)))) fun v50 w51 => (if 0 ≤ (p3 + (1 : Int32)) ∧ ((p3 + (1 : Int32))).toNatClampNeg < Ln then (if 0 ≤ (p3 + (2 : Int32)) ∧ ((p3 + (2 : Int32))).toNatClampNeg < Ln then (if 0 ≤ (p3 + (3 : Int32)) ∧ ((p3 + (3 : Int32))).toNatClampNeg < Ln then (xmb2 (fX5_next w51 (p2) ((xs ((p3 + (1 : Int32))).toNatClampNeg)) ((xs ((p3 + (2 : Int32))).toNatClampNeg)) ((if (xs ((p3 + (3 : Int32))).toNatClampNeg) = 0 then (0 : Int32) else (1 : Int32)))) fun v53 w54 => (if v50 = v53 then (some w54) else none)) else none) else none) else none)) else none) else none) else none)
set_option maxHeartbeats 4000000 in
set_option maxRecDepth 100000 in
theorem lLc_8 {p : Program} {l : Launch} {e : Env} {s : State} {m : MethodId} {below : List Frame} {meth : Method} {c : Code} {D : va_G} {ks : Nat → ClassId} {b ba Ln : Nat} {xs : Nat → Int32} (hC : xmC p s m #[Value.ref ba] meth c D ks b 4 cL_law RL) (hX : va_X ba Ln xs s s.heap) (hbl : ba < s.heap.size) (hbb : b = s.heap.size) {w w2 : xmW} {p1 p2 : Option Nat} {p3 : Int32} {cl sl : Nat} (hcl : cl + 1 ≤ 10000) (hsl : sl + 7 ≤ 100000) (hf : fLc_8 xs Ln w p1 p2 p3 = some w2) (kk : xmJ p l e room_1 s m #[Value.ref ba] below meth c D ks b 4 (lw_Z below #[Value.ref ba] s) w2 cl sl 1328 [(0, xS ba), (1, xR p1), (2, xR p2), (3, xI p3)] []) : xmJ p l e room_1 s m #[Value.ref ba] below meth c D ks b 4 (lw_Z below #[Value.ref ba] s) w cl sl 635 [(0, xS ba), (1, xR p1), (2, xR p2), (3, xI p3)] [] := by
  unfold fLc_8 at hf
  refine xj_aload_n hC dL_law_635 rfl 1 rfl ?_
  refine xj_aloadS_n hC dL_law_636 rfl 0 rfl ?_
  refine xj_iload_n hC dL_law_637 rfl 3 rfl ?_
  refine xj_iconst (v := 1) hC dL_law_638 (by decide) ?_
  refine xj_iadd hC dL_law_639 ?_
  refine xb_sld hC hX hbl hbb dL_law_640 hf (fun hf => ?_)
  refine xj_aloadS_n hC dL_law_641 rfl 0 rfl ?_
  refine xj_iload_n hC dL_law_642 rfl 3 rfl ?_
  refine xj_iconst (v := 2) hC dL_law_643 (by decide) ?_
  refine xj_iadd hC dL_law_644 ?_
  refine xb_sld hC hX hbl hbb dL_law_645 hf (fun hf => ?_)
  refine xj_aloadS_n hC dL_law_646 rfl 0 rfl ?_
  refine xj_iload_n hC dL_law_647 rfl 3 rfl ?_
  refine xj_iconst (v := 3) hC dL_law_648 (by decide) ?_
  refine xj_iadd hC dL_law_649 ?_
  refine xb_sld hC hX hbl hbb dL_law_650 hf (fun hf => ?_)
  refine xj_dia (cnd := (xs ((p3 + (3 : Int32))).toNatClampNeg) = 0) (x := 0) (y := 1) (pc2 := 659) (st2 := [xI (xs ((p3 + (2 : Int32))).toNatClampNeg), xI (xs ((p3 + (1 : Int32))).toNatClampNeg), xR p1]) (fun hc hk => ?_) (fun hc hk => ?_) ?_
  · exact xj_if_eq (tgt := 658) hC dL_law_651 (by decide) (fun _ => xj_iconst (v := 0) hC dL_law_658 (by decide) hk) (fun hn => absurd hc hn)
  · exact xj_if_eq (tgt := 658) hC dL_law_651 (by decide) (fun hn => absurd hn hc) (fun _ => xj_iconst (v := 1) hC dL_law_654 (by decide) (xj_goto (tgt := 659) hC dL_law_655 (by decide) hk))
  obtain ⟨v50, w51, hc49, hf⟩ := xm_b2 hf
  obtain ⟨_, hob, _⟩ := xm_bind hc49
  refine xj_reti (xr_V hC (mX4_next l D ks b hc49) hob rfl xw_cod_X4_next xw_ini_X4 xw_ins_X4_next xw_sel_X4_next xw_ml_L_54 xds_X4_next ⟨Nat.le_of_ble_eq_true rfl, Nat.le_of_ble_eq_true rfl⟩ rfl rfl (Nat.le_of_ble_eq_true rfl) ⟨by simp only [room_1]; omega, by simp only [room_1]; omega⟩ dL_law_659) ?_
  refine xj_aload_n hC dL_law_662 rfl 2 rfl ?_
  refine xj_aloadS_n hC dL_law_663 rfl 0 rfl ?_
  refine xj_iload_n hC dL_law_664 rfl 3 rfl ?_
  refine xj_iconst (v := 1) hC dL_law_665 (by decide) ?_
  refine xj_iadd hC dL_law_666 ?_
  refine xb_sld hC hX hbl hbb dL_law_667 hf (fun hf => ?_)
  refine xj_aloadS_n hC dL_law_668 rfl 0 rfl ?_
  refine xj_iload_n hC dL_law_669 rfl 3 rfl ?_
  refine xj_iconst (v := 2) hC dL_law_670 (by decide) ?_
  refine xj_iadd hC dL_law_671 ?_
  refine xb_sld hC hX hbl hbb dL_law_672 hf (fun hf => ?_)
  refine xj_aloadS_n hC dL_law_673 rfl 0 rfl ?_
  refine xj_iload_n hC dL_law_674 rfl 3 rfl ?_
  refine xj_iconst (v := 3) hC dL_law_675 (by decide) ?_
  refine xj_iadd hC dL_law_676 ?_
  refine xb_sld hC hX hbl hbb dL_law_677 hf (fun hf => ?_)
  refine xj_dia (cnd := (xs ((p3 + (3 : Int32))).toNatClampNeg) = 0) (x := 0) (y := 1) (pc2 := 686) (st2 := [xI (xs ((p3 + (2 : Int32))).toNatClampNeg), xI (xs ((p3 + (1 : Int32))).toNatClampNeg), xR p2, xI v50]) (fun hc hk => ?_) (fun hc hk => ?_) ?_
  · exact xj_if_eq (tgt := 685) hC dL_law_678 (by decide) (fun _ => xj_iconst (v := 0) hC dL_law_685 (by decide) hk) (fun hn => absurd hc hn)
  · exact xj_if_eq (tgt := 685) hC dL_law_678 (by decide) (fun hn => absurd hn hc) (fun _ => xj_iconst (v := 1) hC dL_law_681 (by decide) (xj_goto (tgt := 686) hC dL_law_682 (by decide) hk))
  obtain ⟨v53, w54, hc52, hf⟩ := xm_b2 hf
  obtain ⟨_, hob, _⟩ := xm_bind hc52
  refine xj_reti (xr_V hC (mX5_next l D ks b hc52) hob rfl xw_cod_X5_next xw_ini_X5 xw_ins_X5_next xw_sel_X5_next xw_ml_L_58 xds_X5_next ⟨Nat.le_of_ble_eq_true rfl, Nat.le_of_ble_eq_true rfl⟩ rfl rfl (Nat.le_of_ble_eq_true rfl) ⟨by simp only [room_1]; omega, by simp only [room_1]; omega⟩ dL_law_686) ?_
  refine xb_ic_eq (tgt := 1328) hC dL_law_689 (by decide) hf (fun hf => ?_) (fun hf => ?_)
  · have hw := Option.some.inj hf
    subst hw
    exact kk
  · refine xj_iconst (v := 0) hC dL_law_692 (by decide) ?_
    cases hf
def fLc_9 (xs : Nat → Int32) (Ln : Nat) (w : xmW) (p1 p2 : Option Nat) (p3 : Int32) : Option xmW := (if 0 ≤ (p3 + (1 : Int32)) ∧ ((p3 + (1 : Int32))).toNatClampNeg < Ln then (if 0 ≤ (p3 + (2 : Int32)) ∧ ((p3 + (2 : Int32))).toNatClampNeg < Ln then (if 0 ≤ (p3 + (3 : Int32)) ∧ ((p3 + (3 : Int32))).toNatClampNeg < Ln then (xmb2 (fX4_order w (p1) ((xs ((p3 + (1 : Int32))).toNatClampNeg)) ((xs ((p3 + (2 : Int32))).toNatClampNeg)) ((xs ((p3 + (3 : Int32))).toNatClampNeg))) fun v56 w57 => (if 0 ≤ (p3 + (1 : Int32)) ∧ ((p3 + (1 : Int32))).toNatClampNeg < Ln then (if 0 ≤ (p3 + (2 : Int32)) ∧ ((p3 + (2 : Int32))).toNatClampNeg < Ln then (if 0 ≤ (p3 + (3 : Int32)) ∧ ((p3 + (3 : Int32))).toNatClampNeg < Ln then (xmb2 (fX5_order w57 (p2) ((xs ((p3 + (1 : Int32))).toNatClampNeg)) ((xs ((p3 + (2 : Int32))).toNatClampNeg)) ((xs ((p3 + (3 : Int32))).toNatClampNeg))) fun v59 w60 => (if v56 = v59 then (some w60) else none)) else none) else none) else none)) else none) else none) else none)
set_option maxHeartbeats 4000000 in
set_option maxRecDepth 100000 in
theorem lLc_9 {p : Program} {l : Launch} {e : Env} {s : State} {m : MethodId} {below : List Frame} {meth : Method} {c : Code} {D : va_G} {ks : Nat → ClassId} {b ba Ln : Nat} {xs : Nat → Int32} (hC : xmC p s m #[Value.ref ba] meth c D ks b 4 cL_law RL) (hX : va_X ba Ln xs s s.heap) (hbl : ba < s.heap.size) (hbb : b = s.heap.size) {w w2 : xmW} {p1 p2 : Option Nat} {p3 : Int32} {cl sl : Nat} (hcl : cl + 1 ≤ 10000) (hsl : sl + 7 ≤ 100000) (hf : fLc_9 xs Ln w p1 p2 p3 = some w2) (kk : xmJ p l e room_1 s m #[Value.ref ba] below meth c D ks b 4 (lw_Z below #[Value.ref ba] s) w2 cl sl 1328 [(0, xS ba), (1, xR p1), (2, xR p2), (3, xI p3)] []) : xmJ p l e room_1 s m #[Value.ref ba] below meth c D ks b 4 (lw_Z below #[Value.ref ba] s) w cl sl 694 [(0, xS ba), (1, xR p1), (2, xR p2), (3, xI p3)] [] := by
  unfold fLc_9 at hf
  refine xj_aload_n hC dL_law_694 rfl 1 rfl ?_
  refine xj_aloadS_n hC dL_law_695 rfl 0 rfl ?_
  refine xj_iload_n hC dL_law_696 rfl 3 rfl ?_
  refine xj_iconst (v := 1) hC dL_law_697 (by decide) ?_
  refine xj_iadd hC dL_law_698 ?_
  refine xb_sld hC hX hbl hbb dL_law_699 hf (fun hf => ?_)
  refine xj_aloadS_n hC dL_law_700 rfl 0 rfl ?_
  refine xj_iload_n hC dL_law_701 rfl 3 rfl ?_
  refine xj_iconst (v := 2) hC dL_law_702 (by decide) ?_
  refine xj_iadd hC dL_law_703 ?_
  refine xb_sld hC hX hbl hbb dL_law_704 hf (fun hf => ?_)
  refine xj_aloadS_n hC dL_law_705 rfl 0 rfl ?_
  refine xj_iload_n hC dL_law_706 rfl 3 rfl ?_
  refine xj_iconst (v := 3) hC dL_law_707 (by decide) ?_
  refine xj_iadd hC dL_law_708 ?_
  refine xb_sld hC hX hbl hbb dL_law_709 hf (fun hf => ?_)
  obtain ⟨v56, w57, hc55, hf⟩ := xm_b2 hf
  obtain ⟨_, hob, _⟩ := xm_bind hc55
  refine xj_reti (xr_V hC (mX4_order l D ks b hc55) hob rfl xw_cod_X4_order xw_ini_X4 xw_ins_X4_order xw_sel_X4_order xw_ml_L_59 xds_X4_order ⟨Nat.le_of_ble_eq_true rfl, Nat.le_of_ble_eq_true rfl⟩ rfl rfl (Nat.le_of_ble_eq_true rfl) ⟨by simp only [room_1]; omega, by simp only [room_1]; omega⟩ dL_law_710) ?_
  refine xj_aload_n hC dL_law_713 rfl 2 rfl ?_
  refine xj_aloadS_n hC dL_law_714 rfl 0 rfl ?_
  refine xj_iload_n hC dL_law_715 rfl 3 rfl ?_
  refine xj_iconst (v := 1) hC dL_law_716 (by decide) ?_
  refine xj_iadd hC dL_law_717 ?_
  refine xb_sld hC hX hbl hbb dL_law_718 hf (fun hf => ?_)
  refine xj_aloadS_n hC dL_law_719 rfl 0 rfl ?_
  refine xj_iload_n hC dL_law_720 rfl 3 rfl ?_
  refine xj_iconst (v := 2) hC dL_law_721 (by decide) ?_
  refine xj_iadd hC dL_law_722 ?_
  refine xb_sld hC hX hbl hbb dL_law_723 hf (fun hf => ?_)
  refine xj_aloadS_n hC dL_law_724 rfl 0 rfl ?_
  refine xj_iload_n hC dL_law_725 rfl 3 rfl ?_
  refine xj_iconst (v := 3) hC dL_law_726 (by decide) ?_
  refine xj_iadd hC dL_law_727 ?_
  refine xb_sld hC hX hbl hbb dL_law_728 hf (fun hf => ?_)
  obtain ⟨v59, w60, hc58, hf⟩ := xm_b2 hf
  obtain ⟨_, hob, _⟩ := xm_bind hc58
  refine xj_reti (xr_V hC (mX5_order l D ks b hc58) hob rfl xw_cod_X5_order xw_ini_X5 xw_ins_X5_order xw_sel_X5_order xw_ml_L_62 xds_X5_order ⟨Nat.le_of_ble_eq_true rfl, Nat.le_of_ble_eq_true rfl⟩ rfl rfl (Nat.le_of_ble_eq_true rfl) ⟨by simp only [room_1]; omega, by simp only [room_1]; omega⟩ dL_law_729) ?_
  refine xb_ic_eq (tgt := 1328) hC dL_law_732 (by decide) hf (fun hf => ?_) (fun hf => ?_)
  · have hw := Option.some.inj hf
    subst hw
    exact kk
  · refine xj_iconst (v := 0) hC dL_law_735 (by decide) ?_
    cases hf
def fLc_10 (xs : Nat → Int32) (Ln : Nat) (w : xmW) (p1 p2 : Option Nat) (p3 : Int32) : Option xmW := (if 0 ≤ (p3 + (1 : Int32)) ∧ ((p3 + (1 : Int32))).toNatClampNeg < Ln then (if 0 ≤ (p3 + (2 : Int32)) ∧ ((p3 + (2 : Int32))).toNatClampNeg < Ln then (if 0 ≤ (p3 + (3 : Int32)) ∧ ((p3 + (3 : Int32))).toNatClampNeg < Ln then (if 0 ≤ (p3 + (4 : Int32)) ∧ ((p3 + (4 : Int32))).toNatClampNeg < Ln then (if 0 ≤ (p3 + (5 : Int32)) ∧ ((p3 + (5 : Int32))).toNatClampNeg < Ln then (xmb2 (fX4_numbers w (p1) ((xs ((p3 + (1 : Int32))).toNatClampNeg)) (((((xs ((p3 + (2 : Int32))).toNatClampNeg)).toInt64 <<< (((32 : Int32)).toInt64 &&& 63)) ||| (((xs ((p3 + (3 : Int32))).toNatClampNeg)).toInt64 &&& (4294967295 : Int64)))) (((((xs ((p3 + (4 : Int32))).toNatClampNeg)).toInt64 <<< (((32 : Int32)).toInt64 &&& 63)) ||| (((xs ((p3 + (5 : Int32))).toNatClampNeg)).toInt64 &&& (4294967295 : Int64))))) fun v62 w63 => (if 0 ≤ (p3 + (1 : Int32)) ∧ ((p3 + (1 : Int32))).toNatClampNeg < Ln then (if 0 ≤ (p3 + (2 : Int32)) ∧ ((p3 + (2 : Int32))).toNatClampNeg < Ln then (if 0 ≤ (p3 + (3 : Int32)) ∧ ((p3 + (3 : Int32))).toNatClampNeg < Ln then (if 0 ≤ (p3 + (4 : Int32)) ∧ ((p3 + (4 : Int32))).toNatClampNeg < Ln then (if 0 ≤ (p3 + (5 : Int32)) ∧ ((p3 + (5 : Int32))).toNatClampNeg < Ln then (xmb2 (fX5_numbers w63 (p2) ((xs ((p3 + (1 : Int32))).toNatClampNeg)) (((((xs ((p3 + (2 : Int32))).toNatClampNeg)).toInt64 <<< (((32 : Int32)).toInt64 &&& 63)) ||| (((xs ((p3 + (3 : Int32))).toNatClampNeg)).toInt64 &&& (4294967295 : Int64)))) (((((xs ((p3 + (4 : Int32))).toNatClampNeg)).toInt64 <<< (((32 : Int32)).toInt64 &&& 63)) ||| (((xs ((p3 + (5 : Int32))).toNatClampNeg)).toInt64 &&& (4294967295 : Int64))))) fun v65 w66 => (if v62 = v65 then (some w66) else none)) else none) else none) else none) else none) else none)) else none) else none) else none) else none) else none)
set_option maxHeartbeats 4000000 in
set_option maxRecDepth 100000 in
theorem lLc_10 {p : Program} {l : Launch} {e : Env} {s : State} {m : MethodId} {below : List Frame} {meth : Method} {c : Code} {D : va_G} {ks : Nat → ClassId} {b ba Ln : Nat} {xs : Nat → Int32} (hC : xmC p s m #[Value.ref ba] meth c D ks b 4 cL_law RL) (hX : va_X ba Ln xs s s.heap) (hbl : ba < s.heap.size) (hbb : b = s.heap.size) {w w2 : xmW} {p1 p2 : Option Nat} {p3 : Int32} {cl sl : Nat} (hcl : cl + 1 ≤ 10000) (hsl : sl + 7 ≤ 100000) (hf : fLc_10 xs Ln w p1 p2 p3 = some w2) (kk : xmJ p l e room_1 s m #[Value.ref ba] below meth c D ks b 4 (lw_Z below #[Value.ref ba] s) w2 cl sl 1328 [(0, xS ba), (1, xR p1), (2, xR p2), (3, xI p3)] []) : xmJ p l e room_1 s m #[Value.ref ba] below meth c D ks b 4 (lw_Z below #[Value.ref ba] s) w cl sl 737 [(0, xS ba), (1, xR p1), (2, xR p2), (3, xI p3)] [] := by
  unfold fLc_10 at hf
  refine xj_aload_n hC dL_law_737 rfl 1 rfl ?_
  refine xj_aloadS_n hC dL_law_738 rfl 0 rfl ?_
  refine xj_iload_n hC dL_law_739 rfl 3 rfl ?_
  refine xj_iconst (v := 1) hC dL_law_740 (by decide) ?_
  refine xj_iadd hC dL_law_741 ?_
  refine xb_sld hC hX hbl hbb dL_law_742 hf (fun hf => ?_)
  refine xj_aloadS_n hC dL_law_743 rfl 0 rfl ?_
  refine xj_iload_n hC dL_law_744 rfl 3 rfl ?_
  refine xj_iconst (v := 2) hC dL_law_745 (by decide) ?_
  refine xj_iadd hC dL_law_746 ?_
  refine xb_sld hC hX hbl hbb dL_law_747 hf (fun hf => ?_)
  refine xj_i2l hC dL_law_748 ?_
  refine xj_bipush (v := 32) hC dL_law_749 (by decide) ?_
  refine xj_lshl hC dL_law_751 ?_
  refine xj_aloadS_n hC dL_law_752 rfl 0 rfl ?_
  refine xj_iload_n hC dL_law_753 rfl 3 rfl ?_
  refine xj_iconst (v := 3) hC dL_law_754 (by decide) ?_
  refine xj_iadd hC dL_law_755 ?_
  refine xb_sld hC hX hbl hbb dL_law_756 hf (fun hf => ?_)
  refine xj_i2l hC dL_law_757 ?_
  refine xj_ldc2 hC xw_cst_L_33 dL_law_758 ?_
  refine xj_land hC dL_law_761 ?_
  refine xj_lor hC dL_law_762 ?_
  refine xj_aloadS_n hC dL_law_763 rfl 0 rfl ?_
  refine xj_iload_n hC dL_law_764 rfl 3 rfl ?_
  refine xj_iconst (v := 4) hC dL_law_765 (by decide) ?_
  refine xj_iadd hC dL_law_766 ?_
  refine xb_sld hC hX hbl hbb dL_law_767 hf (fun hf => ?_)
  refine xj_i2l hC dL_law_768 ?_
  refine xj_bipush (v := 32) hC dL_law_769 (by decide) ?_
  refine xj_lshl hC dL_law_771 ?_
  refine xj_aloadS_n hC dL_law_772 rfl 0 rfl ?_
  refine xj_iload_n hC dL_law_773 rfl 3 rfl ?_
  refine xj_iconst (v := 5) hC dL_law_774 (by decide) ?_
  refine xj_iadd hC dL_law_775 ?_
  refine xb_sld hC hX hbl hbb dL_law_776 hf (fun hf => ?_)
  refine xj_i2l hC dL_law_777 ?_
  refine xj_ldc2 hC xw_cst_L_33 dL_law_778 ?_
  refine xj_land hC dL_law_781 ?_
  refine xj_lor hC dL_law_782 ?_
  obtain ⟨v62, w63, hc61, hf⟩ := xm_b2 hf
  obtain ⟨_, hob, _⟩ := xm_bind hc61
  refine xj_reti (xr_V hC (mX4_numbers l D ks b hc61) hob rfl xw_cod_X4_numbers xw_ini_X4 xw_ins_X4_numbers xw_sel_X4_numbers xw_ml_L_63 xds_X4_numbers ⟨Nat.le_of_ble_eq_true rfl, Nat.le_of_ble_eq_true rfl⟩ rfl rfl (Nat.le_of_ble_eq_true rfl) ⟨by simp only [room_1]; omega, by simp only [room_1]; omega⟩ dL_law_783) ?_
  refine xj_aload_n hC dL_law_786 rfl 2 rfl ?_
  refine xj_aloadS_n hC dL_law_787 rfl 0 rfl ?_
  refine xj_iload_n hC dL_law_788 rfl 3 rfl ?_
  refine xj_iconst (v := 1) hC dL_law_789 (by decide) ?_
  refine xj_iadd hC dL_law_790 ?_
  refine xb_sld hC hX hbl hbb dL_law_791 hf (fun hf => ?_)
  refine xj_aloadS_n hC dL_law_792 rfl 0 rfl ?_
  refine xj_iload_n hC dL_law_793 rfl 3 rfl ?_
  refine xj_iconst (v := 2) hC dL_law_794 (by decide) ?_
  refine xj_iadd hC dL_law_795 ?_
  refine xb_sld hC hX hbl hbb dL_law_796 hf (fun hf => ?_)
  refine xj_i2l hC dL_law_797 ?_
  refine xj_bipush (v := 32) hC dL_law_798 (by decide) ?_
  refine xj_lshl hC dL_law_800 ?_
  refine xj_aloadS_n hC dL_law_801 rfl 0 rfl ?_
  refine xj_iload_n hC dL_law_802 rfl 3 rfl ?_
  refine xj_iconst (v := 3) hC dL_law_803 (by decide) ?_
  refine xj_iadd hC dL_law_804 ?_
  refine xb_sld hC hX hbl hbb dL_law_805 hf (fun hf => ?_)
  refine xj_i2l hC dL_law_806 ?_
  refine xj_ldc2 hC xw_cst_L_33 dL_law_807 ?_
  refine xj_land hC dL_law_810 ?_
  refine xj_lor hC dL_law_811 ?_
  refine xj_aloadS_n hC dL_law_812 rfl 0 rfl ?_
  refine xj_iload_n hC dL_law_813 rfl 3 rfl ?_
  refine xj_iconst (v := 4) hC dL_law_814 (by decide) ?_
  refine xj_iadd hC dL_law_815 ?_
  refine xb_sld hC hX hbl hbb dL_law_816 hf (fun hf => ?_)
  refine xj_i2l hC dL_law_817 ?_
  refine xj_bipush (v := 32) hC dL_law_818 (by decide) ?_
  refine xj_lshl hC dL_law_820 ?_
  refine xj_aloadS_n hC dL_law_821 rfl 0 rfl ?_
  refine xj_iload_n hC dL_law_822 rfl 3 rfl ?_
  refine xj_iconst (v := 5) hC dL_law_823 (by decide) ?_
  refine xj_iadd hC dL_law_824 ?_
  refine xb_sld hC hX hbl hbb dL_law_825 hf (fun hf => ?_)
  refine xj_i2l hC dL_law_826 ?_
  refine xj_ldc2 hC xw_cst_L_33 dL_law_827 ?_
  refine xj_land hC dL_law_830 ?_
  refine xj_lor hC dL_law_831 ?_
  obtain ⟨v65, w66, hc64, hf⟩ := xm_b2 hf
  obtain ⟨_, hob, _⟩ := xm_bind hc64
  refine xj_reti (xr_V hC (mX5_numbers l D ks b hc64) hob rfl xw_cod_X5_numbers xw_ini_X5 xw_ins_X5_numbers xw_sel_X5_numbers xw_ml_L_67 xds_X5_numbers ⟨Nat.le_of_ble_eq_true rfl, Nat.le_of_ble_eq_true rfl⟩ rfl rfl (Nat.le_of_ble_eq_true rfl) ⟨by simp only [room_1]; omega, by simp only [room_1]; omega⟩ dL_law_832) ?_
  refine xb_ic_eq (tgt := 1328) hC dL_law_835 (by decide) hf (fun hf => ?_) (fun hf => ?_)
  · have hw := Option.some.inj hf
    subst hw
    exact kk
  · refine xj_iconst (v := 0) hC dL_law_838 (by decide) ?_
    cases hf
def fLc_11 (xs : Nat → Int32) (Ln : Nat) (w : xmW) (p1 p2 : Option Nat) (p3 : Int32) : Option xmW := (if 0 ≤ (p3 + (1 : Int32)) ∧ ((p3 + (1 : Int32))).toNatClampNeg < Ln then (if 0 ≤ (p3 + (2 : Int32)) ∧ ((p3 + (2 : Int32))).toNatClampNeg < Ln then (if 0 ≤ (p3 + (3 : Int32)) ∧ ((p3 + (3 : Int32))).toNatClampNeg < Ln then (xmb2 (fX4_row w (p1) ((xs ((p3 + (1 : Int32))).toNatClampNeg)) ((xs ((p3 + (2 : Int32))).toNatClampNeg)) ((xs ((p3 + (3 : Int32))).toNatClampNeg))) fun v68 w69 => (if 0 ≤ (p3 + (1 : Int32)) ∧ ((p3 + (1 : Int32))).toNatClampNeg < Ln then (if 0 ≤ (p3 + (2 : Int32)) ∧ ((p3 + (2 : Int32))).toNatClampNeg < Ln then (if 0 ≤ (p3 + (3 : Int32)) ∧ ((p3 + (3 : Int32))).toNatClampNeg < Ln then (xmb2 (fX5_row w69 (p2) ((xs ((p3 + (1 : Int32))).toNatClampNeg)) ((xs ((p3 + (2 : Int32))).toNatClampNeg)) ((xs ((p3 + (3 : Int32))).toNatClampNeg))) fun v71 w72 => (if v68 = v71 then (some w72) else none)) else none) else none) else none)) else none) else none) else none)
set_option maxHeartbeats 4000000 in
set_option maxRecDepth 100000 in
theorem lLc_11 {p : Program} {l : Launch} {e : Env} {s : State} {m : MethodId} {below : List Frame} {meth : Method} {c : Code} {D : va_G} {ks : Nat → ClassId} {b ba Ln : Nat} {xs : Nat → Int32} (hC : xmC p s m #[Value.ref ba] meth c D ks b 4 cL_law RL) (hX : va_X ba Ln xs s s.heap) (hbl : ba < s.heap.size) (hbb : b = s.heap.size) {w w2 : xmW} {p1 p2 : Option Nat} {p3 : Int32} {cl sl : Nat} (hcl : cl + 1 ≤ 10000) (hsl : sl + 7 ≤ 100000) (hf : fLc_11 xs Ln w p1 p2 p3 = some w2) (kk : xmJ p l e room_1 s m #[Value.ref ba] below meth c D ks b 4 (lw_Z below #[Value.ref ba] s) w2 cl sl 1328 [(0, xS ba), (1, xR p1), (2, xR p2), (3, xI p3)] []) : xmJ p l e room_1 s m #[Value.ref ba] below meth c D ks b 4 (lw_Z below #[Value.ref ba] s) w cl sl 840 [(0, xS ba), (1, xR p1), (2, xR p2), (3, xI p3)] [] := by
  unfold fLc_11 at hf
  refine xj_aload_n hC dL_law_840 rfl 1 rfl ?_
  refine xj_aloadS_n hC dL_law_841 rfl 0 rfl ?_
  refine xj_iload_n hC dL_law_842 rfl 3 rfl ?_
  refine xj_iconst (v := 1) hC dL_law_843 (by decide) ?_
  refine xj_iadd hC dL_law_844 ?_
  refine xb_sld hC hX hbl hbb dL_law_845 hf (fun hf => ?_)
  refine xj_aloadS_n hC dL_law_846 rfl 0 rfl ?_
  refine xj_iload_n hC dL_law_847 rfl 3 rfl ?_
  refine xj_iconst (v := 2) hC dL_law_848 (by decide) ?_
  refine xj_iadd hC dL_law_849 ?_
  refine xb_sld hC hX hbl hbb dL_law_850 hf (fun hf => ?_)
  refine xj_aloadS_n hC dL_law_851 rfl 0 rfl ?_
  refine xj_iload_n hC dL_law_852 rfl 3 rfl ?_
  refine xj_iconst (v := 3) hC dL_law_853 (by decide) ?_
  refine xj_iadd hC dL_law_854 ?_
  refine xb_sld hC hX hbl hbb dL_law_855 hf (fun hf => ?_)
  obtain ⟨v68, w69, hc67, hf⟩ := xm_b2 hf
  obtain ⟨_, hob, _⟩ := xm_bind hc67
  refine xj_reti (xr_V hC (mX4_row l D ks b hc67) hob rfl xw_cod_X4_row xw_ini_X4 xw_ins_X4_row xw_sel_X4_row xw_ml_L_68 xds_X4_row ⟨Nat.le_of_ble_eq_true rfl, Nat.le_of_ble_eq_true rfl⟩ rfl rfl (Nat.le_of_ble_eq_true rfl) ⟨by simp only [room_1]; omega, by simp only [room_1]; omega⟩ dL_law_856) ?_
  refine xj_aload_n hC dL_law_859 rfl 2 rfl ?_
  refine xj_aloadS_n hC dL_law_860 rfl 0 rfl ?_
  refine xj_iload_n hC dL_law_861 rfl 3 rfl ?_
  refine xj_iconst (v := 1) hC dL_law_862 (by decide) ?_
  refine xj_iadd hC dL_law_863 ?_
  refine xb_sld hC hX hbl hbb dL_law_864 hf (fun hf => ?_)
  refine xj_aloadS_n hC dL_law_865 rfl 0 rfl ?_
  refine xj_iload_n hC dL_law_866 rfl 3 rfl ?_
  refine xj_iconst (v := 2) hC dL_law_867 (by decide) ?_
  refine xj_iadd hC dL_law_868 ?_
  refine xb_sld hC hX hbl hbb dL_law_869 hf (fun hf => ?_)
  refine xj_aloadS_n hC dL_law_870 rfl 0 rfl ?_
  refine xj_iload_n hC dL_law_871 rfl 3 rfl ?_
  refine xj_iconst (v := 3) hC dL_law_872 (by decide) ?_
  refine xj_iadd hC dL_law_873 ?_
  refine xb_sld hC hX hbl hbb dL_law_874 hf (fun hf => ?_)
  obtain ⟨v71, w72, hc70, hf⟩ := xm_b2 hf
  obtain ⟨_, hob, _⟩ := xm_bind hc70
  refine xj_reti (xr_V hC (mX5_row l D ks b hc70) hob rfl xw_cod_X5_row xw_ini_X5 xw_ins_X5_row xw_sel_X5_row xw_ml_L_71 xds_X5_row ⟨Nat.le_of_ble_eq_true rfl, Nat.le_of_ble_eq_true rfl⟩ rfl rfl (Nat.le_of_ble_eq_true rfl) ⟨by simp only [room_1]; omega, by simp only [room_1]; omega⟩ dL_law_875) ?_
  refine xb_ic_eq (tgt := 1328) hC dL_law_878 (by decide) hf (fun hf => ?_) (fun hf => ?_)
  · have hw := Option.some.inj hf
    subst hw
    exact kk
  · refine xj_iconst (v := 0) hC dL_law_881 (by decide) ?_
    cases hf
def fLc_12 (xs : Nat → Int32) (Ln : Nat) (w : xmW) (p1 p2 : Option Nat) (p3 : Int32) : Option xmW := (if 0 ≤ (p3 + (1 : Int32)) ∧ ((p3 + (1 : Int32))).toNatClampNeg < Ln then (if 0 ≤ (p3 + (2 : Int32)) ∧ ((p3 + (2 : Int32))).toNatClampNeg < Ln then (if 0 ≤ (p3 + (3 : Int32)) ∧ ((p3 + (3 : Int32))).toNatClampNeg < Ln then (xmb2 (fX4_put w (p1) ((xs ((p3 + (1 : Int32))).toNatClampNeg)) ((xs ((p3 + (2 : Int32))).toNatClampNeg)) ((xs ((p3 + (3 : Int32))).toNatClampNeg))) fun v74 w75 => (if 0 ≤ (p3 + (1 : Int32)) ∧ ((p3 + (1 : Int32))).toNatClampNeg < Ln then (if 0 ≤ (p3 + (2 : Int32)) ∧ ((p3 + (2 : Int32))).toNatClampNeg < Ln then (if 0 ≤ (p3 + (3 : Int32)) ∧ ((p3 + (3 : Int32))).toNatClampNeg < Ln then (xmb2 (fX5_put w75 (p2) ((xs ((p3 + (1 : Int32))).toNatClampNeg)) ((xs ((p3 + (2 : Int32))).toNatClampNeg)) ((xs ((p3 + (3 : Int32))).toNatClampNeg))) fun v77 w78 => (if v74 = v77 then (some w78) else none)) else none) else none) else none)) else none) else none) else none)
set_option maxHeartbeats 4000000 in
set_option maxRecDepth 100000 in
theorem lLc_12 {p : Program} {l : Launch} {e : Env} {s : State} {m : MethodId} {below : List Frame} {meth : Method} {c : Code} {D : va_G} {ks : Nat → ClassId} {b ba Ln : Nat} {xs : Nat → Int32} (hC : xmC p s m #[Value.ref ba] meth c D ks b 4 cL_law RL) (hX : va_X ba Ln xs s s.heap) (hbl : ba < s.heap.size) (hbb : b = s.heap.size) {w w2 : xmW} {p1 p2 : Option Nat} {p3 : Int32} {cl sl : Nat} (hcl : cl + 1 ≤ 10000) (hsl : sl + 7 ≤ 100000) (hf : fLc_12 xs Ln w p1 p2 p3 = some w2) (kk : xmJ p l e room_1 s m #[Value.ref ba] below meth c D ks b 4 (lw_Z below #[Value.ref ba] s) w2 cl sl 1328 [(0, xS ba), (1, xR p1), (2, xR p2), (3, xI p3)] []) : xmJ p l e room_1 s m #[Value.ref ba] below meth c D ks b 4 (lw_Z below #[Value.ref ba] s) w cl sl 883 [(0, xS ba), (1, xR p1), (2, xR p2), (3, xI p3)] [] := by
  unfold fLc_12 at hf
  refine xj_aload_n hC dL_law_883 rfl 1 rfl ?_
  refine xj_aloadS_n hC dL_law_884 rfl 0 rfl ?_
  refine xj_iload_n hC dL_law_885 rfl 3 rfl ?_
  refine xj_iconst (v := 1) hC dL_law_886 (by decide) ?_
  refine xj_iadd hC dL_law_887 ?_
  refine xb_sld hC hX hbl hbb dL_law_888 hf (fun hf => ?_)
  refine xj_aloadS_n hC dL_law_889 rfl 0 rfl ?_
  refine xj_iload_n hC dL_law_890 rfl 3 rfl ?_
  refine xj_iconst (v := 2) hC dL_law_891 (by decide) ?_
  refine xj_iadd hC dL_law_892 ?_
  refine xb_sld hC hX hbl hbb dL_law_893 hf (fun hf => ?_)
  refine xj_aloadS_n hC dL_law_894 rfl 0 rfl ?_
  refine xj_iload_n hC dL_law_895 rfl 3 rfl ?_
  refine xj_iconst (v := 3) hC dL_law_896 (by decide) ?_
  refine xj_iadd hC dL_law_897 ?_
  refine xb_sld hC hX hbl hbb dL_law_898 hf (fun hf => ?_)
  obtain ⟨v74, w75, hc73, hf⟩ := xm_b2 hf
  obtain ⟨_, hob, _⟩ := xm_bind hc73
  refine xj_reti (xr_V hC (mX4_put l D ks b hc73) hob rfl xw_cod_X4_put xw_ini_X4 xw_ins_X4_put xw_sel_X4_put xw_ml_L_72 xds_X4_put ⟨Nat.le_of_ble_eq_true rfl, Nat.le_of_ble_eq_true rfl⟩ rfl rfl (Nat.le_of_ble_eq_true rfl) ⟨by simp only [room_1]; omega, by simp only [room_1]; omega⟩ dL_law_899) ?_
  refine xj_aload_n hC dL_law_902 rfl 2 rfl ?_
  refine xj_aloadS_n hC dL_law_903 rfl 0 rfl ?_
  refine xj_iload_n hC dL_law_904 rfl 3 rfl ?_
  refine xj_iconst (v := 1) hC dL_law_905 (by decide) ?_
  refine xj_iadd hC dL_law_906 ?_
  refine xb_sld hC hX hbl hbb dL_law_907 hf (fun hf => ?_)
  refine xj_aloadS_n hC dL_law_908 rfl 0 rfl ?_
  refine xj_iload_n hC dL_law_909 rfl 3 rfl ?_
  refine xj_iconst (v := 2) hC dL_law_910 (by decide) ?_
  refine xj_iadd hC dL_law_911 ?_
  refine xb_sld hC hX hbl hbb dL_law_912 hf (fun hf => ?_)
  refine xj_aloadS_n hC dL_law_913 rfl 0 rfl ?_
  refine xj_iload_n hC dL_law_914 rfl 3 rfl ?_
  refine xj_iconst (v := 3) hC dL_law_915 (by decide) ?_
  refine xj_iadd hC dL_law_916 ?_
  refine xb_sld hC hX hbl hbb dL_law_917 hf (fun hf => ?_)
  obtain ⟨v77, w78, hc76, hf⟩ := xm_b2 hf
  obtain ⟨_, hob, _⟩ := xm_bind hc76
  refine xj_reti (xr_V hC (mX5_put l D ks b hc76) hob rfl xw_cod_X5_put xw_ini_X5 xw_ins_X5_put xw_sel_X5_put xw_ml_L_75 xds_X5_put ⟨Nat.le_of_ble_eq_true rfl, Nat.le_of_ble_eq_true rfl⟩ rfl rfl (Nat.le_of_ble_eq_true rfl) ⟨by simp only [room_1]; omega, by simp only [room_1]; omega⟩ dL_law_918) ?_
  refine xb_ic_eq (tgt := 1328) hC dL_law_921 (by decide) hf (fun hf => ?_) (fun hf => ?_)
  · have hw := Option.some.inj hf
    subst hw
    exact kk
  · refine xj_iconst (v := 0) hC dL_law_924 (by decide) ?_
    cases hf
def fLc_13 (xs : Nat → Int32) (Ln : Nat) (w : xmW) (p1 p2 : Option Nat) (p3 : Int32) : Option xmW := (if 0 ≤ (p3 + (1 : Int32)) ∧ ((p3 + (1 : Int32))).toNatClampNeg < Ln then (if 0 ≤ (p3 + (2 : Int32)) ∧ ((p3 + (2 : Int32))).toNatClampNeg < Ln then (xmb2 (fX4_at w (p1) ((xs ((p3 + (1 : Int32))).toNatClampNeg)) ((xs ((p3 + (2 : Int32))).toNatClampNeg))) fun v80 w81 => (if 0 ≤ (p3 + (1 : Int32)) ∧ ((p3 + (1 : Int32))).toNatClampNeg < Ln then (if 0 ≤ (p3 + (2 : Int32)) ∧ ((p3 + (2 : Int32))).toNatClampNeg < Ln then (xmb2 (fX5_at w81 (p2) ((xs ((p3 + (1 : Int32))).toNatClampNeg)) ((xs ((p3 + (2 : Int32))).toNatClampNeg))) fun v83 w84 => (if v80 = v83 then (some w84) else none)) else none) else none)) else none) else none)
set_option maxHeartbeats 4000000 in
set_option maxRecDepth 100000 in
theorem lLc_13 {p : Program} {l : Launch} {e : Env} {s : State} {m : MethodId} {below : List Frame} {meth : Method} {c : Code} {D : va_G} {ks : Nat → ClassId} {b ba Ln : Nat} {xs : Nat → Int32} (hC : xmC p s m #[Value.ref ba] meth c D ks b 4 cL_law RL) (hX : va_X ba Ln xs s s.heap) (hbl : ba < s.heap.size) (hbb : b = s.heap.size) {w w2 : xmW} {p1 p2 : Option Nat} {p3 : Int32} {cl sl : Nat} (hcl : cl + 1 ≤ 10000) (hsl : sl + 7 ≤ 100000) (hf : fLc_13 xs Ln w p1 p2 p3 = some w2) (kk : xmJ p l e room_1 s m #[Value.ref ba] below meth c D ks b 4 (lw_Z below #[Value.ref ba] s) w2 cl sl 1328 [(0, xS ba), (1, xR p1), (2, xR p2), (3, xI p3)] []) : xmJ p l e room_1 s m #[Value.ref ba] below meth c D ks b 4 (lw_Z below #[Value.ref ba] s) w cl sl 926 [(0, xS ba), (1, xR p1), (2, xR p2), (3, xI p3)] [] := by
  unfold fLc_13 at hf
  refine xj_aload_n hC dL_law_926 rfl 1 rfl ?_
  refine xj_aloadS_n hC dL_law_927 rfl 0 rfl ?_
  refine xj_iload_n hC dL_law_928 rfl 3 rfl ?_
  refine xj_iconst (v := 1) hC dL_law_929 (by decide) ?_
  refine xj_iadd hC dL_law_930 ?_
  refine xb_sld hC hX hbl hbb dL_law_931 hf (fun hf => ?_)
  refine xj_aloadS_n hC dL_law_932 rfl 0 rfl ?_
  refine xj_iload_n hC dL_law_933 rfl 3 rfl ?_
  refine xj_iconst (v := 2) hC dL_law_934 (by decide) ?_
  refine xj_iadd hC dL_law_935 ?_
  refine xb_sld hC hX hbl hbb dL_law_936 hf (fun hf => ?_)
  obtain ⟨v80, w81, hc79, hf⟩ := xm_b2 hf
  obtain ⟨_, hob, _⟩ := xm_bind hc79
  refine xj_reti (xr_V hC (mX4_at l D ks b hc79) hob rfl xw_cod_X4_at xw_ini_X4 xw_ins_X4_at xw_sel_X4_at xw_ml_L_76 xds_X4_at ⟨Nat.le_of_ble_eq_true rfl, Nat.le_of_ble_eq_true rfl⟩ rfl rfl (Nat.le_of_ble_eq_true rfl) ⟨by simp only [room_1]; omega, by simp only [room_1]; omega⟩ dL_law_937) ?_
  refine xj_aload_n hC dL_law_940 rfl 2 rfl ?_
  refine xj_aloadS_n hC dL_law_941 rfl 0 rfl ?_
  refine xj_iload_n hC dL_law_942 rfl 3 rfl ?_
  refine xj_iconst (v := 1) hC dL_law_943 (by decide) ?_
  refine xj_iadd hC dL_law_944 ?_
  refine xb_sld hC hX hbl hbb dL_law_945 hf (fun hf => ?_)
  refine xj_aloadS_n hC dL_law_946 rfl 0 rfl ?_
  refine xj_iload_n hC dL_law_947 rfl 3 rfl ?_
  refine xj_iconst (v := 2) hC dL_law_948 (by decide) ?_
  refine xj_iadd hC dL_law_949 ?_
  refine xb_sld hC hX hbl hbb dL_law_950 hf (fun hf => ?_)
  obtain ⟨v83, w84, hc82, hf⟩ := xm_b2 hf
  obtain ⟨_, hob, _⟩ := xm_bind hc82
  refine xj_reti (xr_V hC (mX5_at l D ks b hc82) hob rfl xw_cod_X5_at xw_ini_X5 xw_ins_X5_at xw_sel_X5_at xw_ml_L_79 xds_X5_at ⟨Nat.le_of_ble_eq_true rfl, Nat.le_of_ble_eq_true rfl⟩ rfl rfl (Nat.le_of_ble_eq_true rfl) ⟨by simp only [room_1]; omega, by simp only [room_1]; omega⟩ dL_law_951) ?_
  refine xb_ic_eq (tgt := 1328) hC dL_law_954 (by decide) hf (fun hf => ?_) (fun hf => ?_)
  · have hw := Option.some.inj hf
    subst hw
    exact kk
  · refine xj_iconst (v := 0) hC dL_law_957 (by decide) ?_
    cases hf
def fLc_14 (xs : Nat → Int32) (Ln : Nat) (w : xmW) (p1 p2 : Option Nat) (p3 : Int32) : Option xmW := (if 0 ≤ (p3 + (1 : Int32)) ∧ ((p3 + (1 : Int32))).toNatClampNeg < Ln then (if 0 ≤ (p3 + (2 : Int32)) ∧ ((p3 + (2 : Int32))).toNatClampNeg < Ln then (xmb2 (fX4_packed w (p1) ((xs ((p3 + (1 : Int32))).toNatClampNeg)) ((xs ((p3 + (2 : Int32))).toNatClampNeg))) fun v86 w87 => (if 0 ≤ (p3 + (1 : Int32)) ∧ ((p3 + (1 : Int32))).toNatClampNeg < Ln then (if 0 ≤ (p3 + (2 : Int32)) ∧ ((p3 + (2 : Int32))).toNatClampNeg < Ln then (xmb2 (fX5_packed w87 (p2) ((xs ((p3 + (1 : Int32))).toNatClampNeg)) ((xs ((p3 + (2 : Int32))).toNatClampNeg))) fun v89 w90 => (if v86 = v89 then (some w90) else none)) else none) else none)) else none) else none)
set_option maxHeartbeats 4000000 in
set_option maxRecDepth 100000 in
theorem lLc_14 {p : Program} {l : Launch} {e : Env} {s : State} {m : MethodId} {below : List Frame} {meth : Method} {c : Code} {D : va_G} {ks : Nat → ClassId} {b ba Ln : Nat} {xs : Nat → Int32} (hC : xmC p s m #[Value.ref ba] meth c D ks b 4 cL_law RL) (hX : va_X ba Ln xs s s.heap) (hbl : ba < s.heap.size) (hbb : b = s.heap.size) {w w2 : xmW} {p1 p2 : Option Nat} {p3 : Int32} {cl sl : Nat} (hcl : cl + 1 ≤ 10000) (hsl : sl + 7 ≤ 100000) (hf : fLc_14 xs Ln w p1 p2 p3 = some w2) (kk : xmJ p l e room_1 s m #[Value.ref ba] below meth c D ks b 4 (lw_Z below #[Value.ref ba] s) w2 cl sl 1328 [(0, xS ba), (1, xR p1), (2, xR p2), (3, xI p3)] []) : xmJ p l e room_1 s m #[Value.ref ba] below meth c D ks b 4 (lw_Z below #[Value.ref ba] s) w cl sl 959 [(0, xS ba), (1, xR p1), (2, xR p2), (3, xI p3)] [] := by
  unfold fLc_14 at hf
  refine xj_aload_n hC dL_law_959 rfl 1 rfl ?_
  refine xj_aloadS_n hC dL_law_960 rfl 0 rfl ?_
  refine xj_iload_n hC dL_law_961 rfl 3 rfl ?_
  refine xj_iconst (v := 1) hC dL_law_962 (by decide) ?_
  refine xj_iadd hC dL_law_963 ?_
  refine xb_sld hC hX hbl hbb dL_law_964 hf (fun hf => ?_)
  refine xj_aloadS_n hC dL_law_965 rfl 0 rfl ?_
  refine xj_iload_n hC dL_law_966 rfl 3 rfl ?_
  refine xj_iconst (v := 2) hC dL_law_967 (by decide) ?_
  refine xj_iadd hC dL_law_968 ?_
  refine xb_sld hC hX hbl hbb dL_law_969 hf (fun hf => ?_)
  obtain ⟨v86, w87, hc85, hf⟩ := xm_b2 hf
  obtain ⟨_, hob, _⟩ := xm_bind hc85
  refine xj_reti (xr_V hC (mX4_packed l D ks b hc85) hob rfl xw_cod_X4_packed xw_ini_X4 xw_ins_X4_packed xw_sel_X4_packed xw_ml_L_80 xds_X4_packed ⟨Nat.le_of_ble_eq_true rfl, Nat.le_of_ble_eq_true rfl⟩ rfl rfl (Nat.le_of_ble_eq_true rfl) ⟨by simp only [room_1]; omega, by simp only [room_1]; omega⟩ dL_law_970) ?_
  refine xj_aload_n hC dL_law_973 rfl 2 rfl ?_
  refine xj_aloadS_n hC dL_law_974 rfl 0 rfl ?_
  refine xj_iload_n hC dL_law_975 rfl 3 rfl ?_
  refine xj_iconst (v := 1) hC dL_law_976 (by decide) ?_
  refine xj_iadd hC dL_law_977 ?_
  refine xb_sld hC hX hbl hbb dL_law_978 hf (fun hf => ?_)
  refine xj_aloadS_n hC dL_law_979 rfl 0 rfl ?_
  refine xj_iload_n hC dL_law_980 rfl 3 rfl ?_
  refine xj_iconst (v := 2) hC dL_law_981 (by decide) ?_
  refine xj_iadd hC dL_law_982 ?_
  refine xb_sld hC hX hbl hbb dL_law_983 hf (fun hf => ?_)
  obtain ⟨v89, w90, hc88, hf⟩ := xm_b2 hf
  obtain ⟨_, hob, _⟩ := xm_bind hc88
  refine xj_reti (xr_V hC (mX5_packed l D ks b hc88) hob rfl xw_cod_X5_packed xw_ini_X5 xw_ins_X5_packed xw_sel_X5_packed xw_ml_L_83 xds_X5_packed ⟨Nat.le_of_ble_eq_true rfl, Nat.le_of_ble_eq_true rfl⟩ rfl rfl (Nat.le_of_ble_eq_true rfl) ⟨by simp only [room_1]; omega, by simp only [room_1]; omega⟩ dL_law_984) ?_
  refine xb_ic_eq (tgt := 1328) hC dL_law_987 (by decide) hf (fun hf => ?_) (fun hf => ?_)
  · have hw := Option.some.inj hf
    subst hw
    exact kk
  · refine xj_iconst (v := 0) hC dL_law_990 (by decide) ?_
    cases hf
def fLc_15 (xs : Nat → Int32) (Ln : Nat) (w : xmW) (p1 p2 : Option Nat) (p3 : Int32) : Option xmW := (if 0 ≤ (p3 + (1 : Int32)) ∧ ((p3 + (1 : Int32))).toNatClampNeg < Ln then (if 0 ≤ (p3 + (2 : Int32)) ∧ ((p3 + (2 : Int32))).toNatClampNeg < Ln then (if 0 ≤ (p3 + (3 : Int32)) ∧ ((p3 + (3 : Int32))).toNatClampNeg < Ln then (if 0 ≤ (p3 + (4 : Int32)) ∧ ((p3 + (4 : Int32))).toNatClampNeg < Ln then (xmb2 (fX4_quantise w (p1) ((xs ((p3 + (1 : Int32))).toNatClampNeg)) ((xs ((p3 + (2 : Int32))).toNatClampNeg)) ((xs ((p3 + (3 : Int32))).toNatClampNeg)) ((xs ((p3 + (4 : Int32))).toNatClampNeg))) fun v92 w93 => (if 0 ≤ (p3 + (1 : Int32)) ∧ ((p3 + (1 : Int32))).toNatClampNeg < Ln then (if 0 ≤ (p3 + (2 : Int32)) ∧ ((p3 + (2 : Int32))).toNatClampNeg < Ln then (if 0 ≤ (p3 + (3 : Int32)) ∧ ((p3 + (3 : Int32))).toNatClampNeg < Ln then (if 0 ≤ (p3 + (4 : Int32)) ∧ ((p3 + (4 : Int32))).toNatClampNeg < Ln then (xmb2 (fX5_quantise w93 (p2) ((xs ((p3 + (1 : Int32))).toNatClampNeg)) ((xs ((p3 + (2 : Int32))).toNatClampNeg)) ((xs ((p3 + (3 : Int32))).toNatClampNeg)) ((xs ((p3 + (4 : Int32))).toNatClampNeg))) fun v95 w96 => (if v92 = v95 then (some w96) else none)) else none) else none) else none) else none)) else none) else none) else none) else none)
set_option maxHeartbeats 4000000 in
set_option maxRecDepth 100000 in
theorem lLc_15 {p : Program} {l : Launch} {e : Env} {s : State} {m : MethodId} {below : List Frame} {meth : Method} {c : Code} {D : va_G} {ks : Nat → ClassId} {b ba Ln : Nat} {xs : Nat → Int32} (hC : xmC p s m #[Value.ref ba] meth c D ks b 4 cL_law RL) (hX : va_X ba Ln xs s s.heap) (hbl : ba < s.heap.size) (hbb : b = s.heap.size) {w w2 : xmW} {p1 p2 : Option Nat} {p3 : Int32} {cl sl : Nat} (hcl : cl + 1 ≤ 10000) (hsl : sl + 7 ≤ 100000) (hf : fLc_15 xs Ln w p1 p2 p3 = some w2) (kk : xmJ p l e room_1 s m #[Value.ref ba] below meth c D ks b 4 (lw_Z below #[Value.ref ba] s) w2 cl sl 1328 [(0, xS ba), (1, xR p1), (2, xR p2), (3, xI p3)] []) : xmJ p l e room_1 s m #[Value.ref ba] below meth c D ks b 4 (lw_Z below #[Value.ref ba] s) w cl sl 992 [(0, xS ba), (1, xR p1), (2, xR p2), (3, xI p3)] [] := by
  unfold fLc_15 at hf
  refine xj_aload_n hC dL_law_992 rfl 1 rfl ?_
  refine xj_aloadS_n hC dL_law_993 rfl 0 rfl ?_
  refine xj_iload_n hC dL_law_994 rfl 3 rfl ?_
  refine xj_iconst (v := 1) hC dL_law_995 (by decide) ?_
  refine xj_iadd hC dL_law_996 ?_
  refine xb_sld hC hX hbl hbb dL_law_997 hf (fun hf => ?_)
  refine xj_aloadS_n hC dL_law_998 rfl 0 rfl ?_
  refine xj_iload_n hC dL_law_999 rfl 3 rfl ?_
  refine xj_iconst (v := 2) hC dL_law_1000 (by decide) ?_
  refine xj_iadd hC dL_law_1001 ?_
  refine xb_sld hC hX hbl hbb dL_law_1002 hf (fun hf => ?_)
  refine xj_aloadS_n hC dL_law_1003 rfl 0 rfl ?_
  refine xj_iload_n hC dL_law_1004 rfl 3 rfl ?_
  refine xj_iconst (v := 3) hC dL_law_1005 (by decide) ?_
  refine xj_iadd hC dL_law_1006 ?_
  refine xb_sld hC hX hbl hbb dL_law_1007 hf (fun hf => ?_)
  refine xj_aloadS_n hC dL_law_1008 rfl 0 rfl ?_
  refine xj_iload_n hC dL_law_1009 rfl 3 rfl ?_
  refine xj_iconst (v := 4) hC dL_law_1010 (by decide) ?_
  refine xj_iadd hC dL_law_1011 ?_
  refine xb_sld hC hX hbl hbb dL_law_1012 hf (fun hf => ?_)
  obtain ⟨v92, w93, hc91, hf⟩ := xm_b2 hf
  obtain ⟨_, hob, _⟩ := xm_bind hc91
  refine xj_reti (xr_V hC (mX4_quantise l D ks b hc91) hob rfl xw_cod_X4_quantise xw_ini_X4 xw_ins_X4_quantise xw_sel_X4_quantise xw_ml_L_84 xds_X4_quantise ⟨Nat.le_of_ble_eq_true rfl, Nat.le_of_ble_eq_true rfl⟩ rfl rfl (Nat.le_of_ble_eq_true rfl) ⟨by simp only [room_1]; omega, by simp only [room_1]; omega⟩ dL_law_1013) ?_
  refine xj_aload_n hC dL_law_1016 rfl 2 rfl ?_
  refine xj_aloadS_n hC dL_law_1017 rfl 0 rfl ?_
  refine xj_iload_n hC dL_law_1018 rfl 3 rfl ?_
  refine xj_iconst (v := 1) hC dL_law_1019 (by decide) ?_
  refine xj_iadd hC dL_law_1020 ?_
  refine xb_sld hC hX hbl hbb dL_law_1021 hf (fun hf => ?_)
  refine xj_aloadS_n hC dL_law_1022 rfl 0 rfl ?_
  refine xj_iload_n hC dL_law_1023 rfl 3 rfl ?_
  refine xj_iconst (v := 2) hC dL_law_1024 (by decide) ?_
  refine xj_iadd hC dL_law_1025 ?_
  refine xb_sld hC hX hbl hbb dL_law_1026 hf (fun hf => ?_)
  refine xj_aloadS_n hC dL_law_1027 rfl 0 rfl ?_
  refine xj_iload_n hC dL_law_1028 rfl 3 rfl ?_
  refine xj_iconst (v := 3) hC dL_law_1029 (by decide) ?_
  refine xj_iadd hC dL_law_1030 ?_
  refine xb_sld hC hX hbl hbb dL_law_1031 hf (fun hf => ?_)
  refine xj_aloadS_n hC dL_law_1032 rfl 0 rfl ?_
  refine xj_iload_n hC dL_law_1033 rfl 3 rfl ?_
  refine xj_iconst (v := 4) hC dL_law_1034 (by decide) ?_
  refine xj_iadd hC dL_law_1035 ?_
  refine xb_sld hC hX hbl hbb dL_law_1036 hf (fun hf => ?_)
  obtain ⟨v95, w96, hc94, hf⟩ := xm_b2 hf
  obtain ⟨_, hob, _⟩ := xm_bind hc94
  refine xj_reti (xr_V hC (mX5_quantise l D ks b hc94) hob rfl xw_cod_X5_quantise xw_ini_X5 xw_ins_X5_quantise xw_sel_X5_quantise xw_ml_L_87 xds_X5_quantise ⟨Nat.le_of_ble_eq_true rfl, Nat.le_of_ble_eq_true rfl⟩ rfl rfl (Nat.le_of_ble_eq_true rfl) ⟨by simp only [room_1]; omega, by simp only [room_1]; omega⟩ dL_law_1037) ?_
  refine xb_ic_eq (tgt := 1328) hC dL_law_1040 (by decide) hf (fun hf => ?_) (fun hf => ?_)
  · have hw := Option.some.inj hf
    subst hw
    exact kk
  · refine xj_iconst (v := 0) hC dL_law_1043 (by decide) ?_
    cases hf
def fLc_16 (xs : Nat → Int32) (Ln : Nat) (w : xmW) (p1 p2 : Option Nat) (p3 : Int32) : Option xmW := (if 0 ≤ (p3 + (1 : Int32)) ∧ ((p3 + (1 : Int32))).toNatClampNeg < Ln then (if 0 ≤ (p3 + (2 : Int32)) ∧ ((p3 + (2 : Int32))).toNatClampNeg < Ln then (if 0 ≤ (p3 + (3 : Int32)) ∧ ((p3 + (3 : Int32))).toNatClampNeg < Ln then (xmb2 (fX4_worst w (p1) ((xs ((p3 + (1 : Int32))).toNatClampNeg)) ((xs ((p3 + (2 : Int32))).toNatClampNeg)) ((xs ((p3 + (3 : Int32))).toNatClampNeg))) fun v98 w99 => (if 0 ≤ (p3 + (1 : Int32)) ∧ ((p3 + (1 : Int32))).toNatClampNeg < Ln then (if 0 ≤ (p3 + (2 : Int32)) ∧ ((p3 + (2 : Int32))).toNatClampNeg < Ln then (if 0 ≤ (p3 + (3 : Int32)) ∧ ((p3 + (3 : Int32))).toNatClampNeg < Ln then (xmb2 (fX5_worst w99 (p2) ((xs ((p3 + (1 : Int32))).toNatClampNeg)) ((xs ((p3 + (2 : Int32))).toNatClampNeg)) ((xs ((p3 + (3 : Int32))).toNatClampNeg))) fun v101 w102 => (if v98 = v101 then (some w102) else none)) else none) else none) else none)) else none) else none) else none)
set_option maxHeartbeats 4000000 in
set_option maxRecDepth 100000 in
theorem lLc_16 {p : Program} {l : Launch} {e : Env} {s : State} {m : MethodId} {below : List Frame} {meth : Method} {c : Code} {D : va_G} {ks : Nat → ClassId} {b ba Ln : Nat} {xs : Nat → Int32} (hC : xmC p s m #[Value.ref ba] meth c D ks b 4 cL_law RL) (hX : va_X ba Ln xs s s.heap) (hbl : ba < s.heap.size) (hbb : b = s.heap.size) {w w2 : xmW} {p1 p2 : Option Nat} {p3 : Int32} {cl sl : Nat} (hcl : cl + 1 ≤ 10000) (hsl : sl + 7 ≤ 100000) (hf : fLc_16 xs Ln w p1 p2 p3 = some w2) (kk : xmJ p l e room_1 s m #[Value.ref ba] below meth c D ks b 4 (lw_Z below #[Value.ref ba] s) w2 cl sl 1328 [(0, xS ba), (1, xR p1), (2, xR p2), (3, xI p3)] []) : xmJ p l e room_1 s m #[Value.ref ba] below meth c D ks b 4 (lw_Z below #[Value.ref ba] s) w cl sl 1045 [(0, xS ba), (1, xR p1), (2, xR p2), (3, xI p3)] [] := by
  unfold fLc_16 at hf
  refine xj_aload_n hC dL_law_1045 rfl 1 rfl ?_
  refine xj_aloadS_n hC dL_law_1046 rfl 0 rfl ?_
  refine xj_iload_n hC dL_law_1047 rfl 3 rfl ?_
  refine xj_iconst (v := 1) hC dL_law_1048 (by decide) ?_
  refine xj_iadd hC dL_law_1049 ?_
  refine xb_sld hC hX hbl hbb dL_law_1050 hf (fun hf => ?_)
  refine xj_aloadS_n hC dL_law_1051 rfl 0 rfl ?_
  refine xj_iload_n hC dL_law_1052 rfl 3 rfl ?_
  refine xj_iconst (v := 2) hC dL_law_1053 (by decide) ?_
  refine xj_iadd hC dL_law_1054 ?_
  refine xb_sld hC hX hbl hbb dL_law_1055 hf (fun hf => ?_)
  refine xj_aloadS_n hC dL_law_1056 rfl 0 rfl ?_
  refine xj_iload_n hC dL_law_1057 rfl 3 rfl ?_
  refine xj_iconst (v := 3) hC dL_law_1058 (by decide) ?_
  refine xj_iadd hC dL_law_1059 ?_
  refine xb_sld hC hX hbl hbb dL_law_1060 hf (fun hf => ?_)
  obtain ⟨v98, w99, hc97, hf⟩ := xm_b2 hf
  obtain ⟨_, hob, _⟩ := xm_bind hc97
  refine xj_reti (xr_V hC (mX4_worst l D ks b hc97) hob rfl xw_cod_X4_worst xw_ini_X4 xw_ins_X4_worst xw_sel_X4_worst xw_ml_L_88 xds_X4_worst ⟨Nat.le_of_ble_eq_true rfl, Nat.le_of_ble_eq_true rfl⟩ rfl rfl (Nat.le_of_ble_eq_true rfl) ⟨by simp only [room_1]; omega, by simp only [room_1]; omega⟩ dL_law_1061) ?_
  refine xj_aload_n hC dL_law_1064 rfl 2 rfl ?_
  refine xj_aloadS_n hC dL_law_1065 rfl 0 rfl ?_
  refine xj_iload_n hC dL_law_1066 rfl 3 rfl ?_
  refine xj_iconst (v := 1) hC dL_law_1067 (by decide) ?_
  refine xj_iadd hC dL_law_1068 ?_
  refine xb_sld hC hX hbl hbb dL_law_1069 hf (fun hf => ?_)
  refine xj_aloadS_n hC dL_law_1070 rfl 0 rfl ?_
  refine xj_iload_n hC dL_law_1071 rfl 3 rfl ?_
  refine xj_iconst (v := 2) hC dL_law_1072 (by decide) ?_
  refine xj_iadd hC dL_law_1073 ?_
  refine xb_sld hC hX hbl hbb dL_law_1074 hf (fun hf => ?_)
  refine xj_aloadS_n hC dL_law_1075 rfl 0 rfl ?_
  refine xj_iload_n hC dL_law_1076 rfl 3 rfl ?_
  refine xj_iconst (v := 3) hC dL_law_1077 (by decide) ?_
  refine xj_iadd hC dL_law_1078 ?_
  refine xb_sld hC hX hbl hbb dL_law_1079 hf (fun hf => ?_)
  obtain ⟨v101, w102, hc100, hf⟩ := xm_b2 hf
  obtain ⟨_, hob, _⟩ := xm_bind hc100
  refine xj_reti (xr_V hC (mX5_worst l D ks b hc100) hob rfl xw_cod_X5_worst xw_ini_X5 xw_ins_X5_worst xw_sel_X5_worst xw_ml_L_91 xds_X5_worst ⟨Nat.le_of_ble_eq_true rfl, Nat.le_of_ble_eq_true rfl⟩ rfl rfl (Nat.le_of_ble_eq_true rfl) ⟨by simp only [room_1]; omega, by simp only [room_1]; omega⟩ dL_law_1080) ?_
  refine xb_ic_eq (tgt := 1328) hC dL_law_1083 (by decide) hf (fun hf => ?_) (fun hf => ?_)
  · have hw := Option.some.inj hf
    subst hw
    exact kk
  · refine xj_iconst (v := 0) hC dL_law_1086 (by decide) ?_
    cases hf
def fLc_17 (xs : Nat → Int32) (Ln : Nat) (w : xmW) (p1 p2 : Option Nat) (p3 : Int32) : Option xmW := (if 0 ≤ (p3 + (1 : Int32)) ∧ ((p3 + (1 : Int32))).toNatClampNeg < Ln then (if 0 ≤ (p3 + (2 : Int32)) ∧ ((p3 + (2 : Int32))).toNatClampNeg < Ln then (if 0 ≤ (p3 + (3 : Int32)) ∧ ((p3 + (3 : Int32))).toNatClampNeg < Ln then (xmb2 (fX4_sum w (p1) ((xs ((p3 + (1 : Int32))).toNatClampNeg)) ((xs ((p3 + (2 : Int32))).toNatClampNeg)) ((if (xs ((p3 + (3 : Int32))).toNatClampNeg) = 0 then (0 : Int32) else (1 : Int32)))) fun v104 w105 => (if 0 ≤ (p3 + (1 : Int32)) ∧ ((p3 + (1 : Int32))).toNatClampNeg < Ln then (if 0 ≤ (p3 + (2 : Int32)) ∧ ((p3 + (2 : Int32))).toNatClampNeg < Ln then (if 0 ≤ (p3 + (3 : Int32)) ∧ ((p3 + (3 : Int32))).toNatClampNeg < Ln then (xmb2 (fX5_sum w105 (p2) ((xs ((p3 + (1 : Int32))).toNatClampNeg)) ((xs ((p3 + (2 : Int32))).toNatClampNeg)) ((if (xs ((p3 + (3 : Int32))).toNatClampNeg) = 0 then (0 : Int32) else (1 : Int32)))) fun v107 w108 => (if v104 = v107 then (some w108) else none)) else none) else none) else none)) else none) else none) else none)
set_option maxHeartbeats 4000000 in
set_option maxRecDepth 100000 in
theorem lLc_17 {p : Program} {l : Launch} {e : Env} {s : State} {m : MethodId} {below : List Frame} {meth : Method} {c : Code} {D : va_G} {ks : Nat → ClassId} {b ba Ln : Nat} {xs : Nat → Int32} (hC : xmC p s m #[Value.ref ba] meth c D ks b 4 cL_law RL) (hX : va_X ba Ln xs s s.heap) (hbl : ba < s.heap.size) (hbb : b = s.heap.size) {w w2 : xmW} {p1 p2 : Option Nat} {p3 : Int32} {cl sl : Nat} (hcl : cl + 1 ≤ 10000) (hsl : sl + 7 ≤ 100000) (hf : fLc_17 xs Ln w p1 p2 p3 = some w2) (kk : xmJ p l e room_1 s m #[Value.ref ba] below meth c D ks b 4 (lw_Z below #[Value.ref ba] s) w2 cl sl 1328 [(0, xS ba), (1, xR p1), (2, xR p2), (3, xI p3)] []) : xmJ p l e room_1 s m #[Value.ref ba] below meth c D ks b 4 (lw_Z below #[Value.ref ba] s) w cl sl 1088 [(0, xS ba), (1, xR p1), (2, xR p2), (3, xI p3)] [] := by
  unfold fLc_17 at hf
  refine xj_aload_n hC dL_law_1088 rfl 1 rfl ?_
  refine xj_aloadS_n hC dL_law_1089 rfl 0 rfl ?_
  refine xj_iload_n hC dL_law_1090 rfl 3 rfl ?_
  refine xj_iconst (v := 1) hC dL_law_1091 (by decide) ?_
  refine xj_iadd hC dL_law_1092 ?_
  refine xb_sld hC hX hbl hbb dL_law_1093 hf (fun hf => ?_)
  refine xj_aloadS_n hC dL_law_1094 rfl 0 rfl ?_
  refine xj_iload_n hC dL_law_1095 rfl 3 rfl ?_
  refine xj_iconst (v := 2) hC dL_law_1096 (by decide) ?_
  refine xj_iadd hC dL_law_1097 ?_
  refine xb_sld hC hX hbl hbb dL_law_1098 hf (fun hf => ?_)
  refine xj_aloadS_n hC dL_law_1099 rfl 0 rfl ?_
  refine xj_iload_n hC dL_law_1100 rfl 3 rfl ?_
  refine xj_iconst (v := 3) hC dL_law_1101 (by decide) ?_
  refine xj_iadd hC dL_law_1102 ?_
  refine xb_sld hC hX hbl hbb dL_law_1103 hf (fun hf => ?_)
  refine xj_dia (cnd := (xs ((p3 + (3 : Int32))).toNatClampNeg) = 0) (x := 0) (y := 1) (pc2 := 1112) (st2 := [xI (xs ((p3 + (2 : Int32))).toNatClampNeg), xI (xs ((p3 + (1 : Int32))).toNatClampNeg), xR p1]) (fun hc hk => ?_) (fun hc hk => ?_) ?_
  · exact xj_if_eq (tgt := 1111) hC dL_law_1104 (by decide) (fun _ => xj_iconst (v := 0) hC dL_law_1111 (by decide) hk) (fun hn => absurd hc hn)
  · exact xj_if_eq (tgt := 1111) hC dL_law_1104 (by decide) (fun hn => absurd hn hc) (fun _ => xj_iconst (v := 1) hC dL_law_1107 (by decide) (xj_goto (tgt := 1112) hC dL_law_1108 (by decide) hk))
  obtain ⟨v104, w105, hc103, hf⟩ := xm_b2 hf
  obtain ⟨_, hob, _⟩ := xm_bind hc103
  refine xj_reti (xr_V hC (mX4_sum l D ks b hc103) hob rfl xw_cod_X4_sum xw_ini_X4 xw_ins_X4_sum xw_sel_X4_sum xw_ml_L_92 xds_X4_sum ⟨Nat.le_of_ble_eq_true rfl, Nat.le_of_ble_eq_true rfl⟩ rfl rfl (Nat.le_of_ble_eq_true rfl) ⟨by simp only [room_1]; omega, by simp only [room_1]; omega⟩ dL_law_1112) ?_
  refine xj_aload_n hC dL_law_1115 rfl 2 rfl ?_
  refine xj_aloadS_n hC dL_law_1116 rfl 0 rfl ?_
  refine xj_iload_n hC dL_law_1117 rfl 3 rfl ?_
  refine xj_iconst (v := 1) hC dL_law_1118 (by decide) ?_
  refine xj_iadd hC dL_law_1119 ?_
  refine xb_sld hC hX hbl hbb dL_law_1120 hf (fun hf => ?_)
  refine xj_aloadS_n hC dL_law_1121 rfl 0 rfl ?_
  refine xj_iload_n hC dL_law_1122 rfl 3 rfl ?_
  refine xj_iconst (v := 2) hC dL_law_1123 (by decide) ?_
  refine xj_iadd hC dL_law_1124 ?_
  refine xb_sld hC hX hbl hbb dL_law_1125 hf (fun hf => ?_)
  refine xj_aloadS_n hC dL_law_1126 rfl 0 rfl ?_
  refine xj_iload_n hC dL_law_1127 rfl 3 rfl ?_
  refine xj_iconst (v := 3) hC dL_law_1128 (by decide) ?_
  refine xj_iadd hC dL_law_1129 ?_
  refine xb_sld hC hX hbl hbb dL_law_1130 hf (fun hf => ?_)
  refine xj_dia (cnd := (xs ((p3 + (3 : Int32))).toNatClampNeg) = 0) (x := 0) (y := 1) (pc2 := 1139) (st2 := [xI (xs ((p3 + (2 : Int32))).toNatClampNeg), xI (xs ((p3 + (1 : Int32))).toNatClampNeg), xR p2, xI v104]) (fun hc hk => ?_) (fun hc hk => ?_) ?_
  · exact xj_if_eq (tgt := 1138) hC dL_law_1131 (by decide) (fun _ => xj_iconst (v := 0) hC dL_law_1138 (by decide) hk) (fun hn => absurd hc hn)
  · exact xj_if_eq (tgt := 1138) hC dL_law_1131 (by decide) (fun hn => absurd hn hc) (fun _ => xj_iconst (v := 1) hC dL_law_1134 (by decide) (xj_goto (tgt := 1139) hC dL_law_1135 (by decide) hk))
  obtain ⟨v107, w108, hc106, hf⟩ := xm_b2 hf
  obtain ⟨_, hob, _⟩ := xm_bind hc106
  refine xj_reti (xr_V hC (mX5_sum l D ks b hc106) hob rfl xw_cod_X5_sum xw_ini_X5 xw_ins_X5_sum xw_sel_X5_sum xw_ml_L_95 xds_X5_sum ⟨Nat.le_of_ble_eq_true rfl, Nat.le_of_ble_eq_true rfl⟩ rfl rfl (Nat.le_of_ble_eq_true rfl) ⟨by simp only [room_1]; omega, by simp only [room_1]; omega⟩ dL_law_1139) ?_
  refine xb_ic_eq (tgt := 1328) hC dL_law_1142 (by decide) hf (fun hf => ?_) (fun hf => ?_)
  · have hw := Option.some.inj hf
    subst hw
    exact kk
  · refine xj_iconst (v := 0) hC dL_law_1145 (by decide) ?_
    cases hf
def fLc_18 (xs : Nat → Int32) (Ln : Nat) (w : xmW) (p1 p2 : Option Nat) (p3 : Int32) : Option xmW := (if 0 ≤ (p3 + (1 : Int32)) ∧ ((p3 + (1 : Int32))).toNatClampNeg < Ln then (if 0 ≤ (p3 + (2 : Int32)) ∧ ((p3 + (2 : Int32))).toNatClampNeg < Ln then (if 0 ≤ (p3 + (3 : Int32)) ∧ ((p3 + (3 : Int32))).toNatClampNeg < Ln then (if 0 ≤ (p3 + (4 : Int32)) ∧ ((p3 + (4 : Int32))).toNatClampNeg < Ln then (xmb2 (fX4_dot w (p1) ((xs ((p3 + (1 : Int32))).toNatClampNeg)) ((xs ((p3 + (2 : Int32))).toNatClampNeg)) ((xs ((p3 + (3 : Int32))).toNatClampNeg)) ((if (xs ((p3 + (4 : Int32))).toNatClampNeg) = 0 then (0 : Int32) else (1 : Int32)))) fun v110 w111 => (if 0 ≤ (p3 + (1 : Int32)) ∧ ((p3 + (1 : Int32))).toNatClampNeg < Ln then (if 0 ≤ (p3 + (2 : Int32)) ∧ ((p3 + (2 : Int32))).toNatClampNeg < Ln then (if 0 ≤ (p3 + (3 : Int32)) ∧ ((p3 + (3 : Int32))).toNatClampNeg < Ln then (if 0 ≤ (p3 + (4 : Int32)) ∧ ((p3 + (4 : Int32))).toNatClampNeg < Ln then (xmb2 (fX5_dot w111 (p2) ((xs ((p3 + (1 : Int32))).toNatClampNeg)) ((xs ((p3 + (2 : Int32))).toNatClampNeg)) ((xs ((p3 + (3 : Int32))).toNatClampNeg)) ((if (xs ((p3 + (4 : Int32))).toNatClampNeg) = 0 then (0 : Int32) else (1 : Int32)))) fun v113 w114 => (if v110 = v113 then (some w114) else none)) else none) else none) else none) else none)) else none) else none) else none) else none)
set_option maxHeartbeats 4000000 in
set_option maxRecDepth 100000 in
theorem lLc_18 {p : Program} {l : Launch} {e : Env} {s : State} {m : MethodId} {below : List Frame} {meth : Method} {c : Code} {D : va_G} {ks : Nat → ClassId} {b ba Ln : Nat} {xs : Nat → Int32} (hC : xmC p s m #[Value.ref ba] meth c D ks b 4 cL_law RL) (hX : va_X ba Ln xs s s.heap) (hbl : ba < s.heap.size) (hbb : b = s.heap.size) {w w2 : xmW} {p1 p2 : Option Nat} {p3 : Int32} {cl sl : Nat} (hcl : cl + 1 ≤ 10000) (hsl : sl + 7 ≤ 100000) (hf : fLc_18 xs Ln w p1 p2 p3 = some w2) (kk : xmJ p l e room_1 s m #[Value.ref ba] below meth c D ks b 4 (lw_Z below #[Value.ref ba] s) w2 cl sl 1328 [(0, xS ba), (1, xR p1), (2, xR p2), (3, xI p3)] []) : xmJ p l e room_1 s m #[Value.ref ba] below meth c D ks b 4 (lw_Z below #[Value.ref ba] s) w cl sl 1147 [(0, xS ba), (1, xR p1), (2, xR p2), (3, xI p3)] [] := by
  unfold fLc_18 at hf
  refine xj_aload_n hC dL_law_1147 rfl 1 rfl ?_
  refine xj_aloadS_n hC dL_law_1148 rfl 0 rfl ?_
  refine xj_iload_n hC dL_law_1149 rfl 3 rfl ?_
  refine xj_iconst (v := 1) hC dL_law_1150 (by decide) ?_
  refine xj_iadd hC dL_law_1151 ?_
  refine xb_sld hC hX hbl hbb dL_law_1152 hf (fun hf => ?_)
  refine xj_aloadS_n hC dL_law_1153 rfl 0 rfl ?_
  refine xj_iload_n hC dL_law_1154 rfl 3 rfl ?_
  refine xj_iconst (v := 2) hC dL_law_1155 (by decide) ?_
  refine xj_iadd hC dL_law_1156 ?_
  refine xb_sld hC hX hbl hbb dL_law_1157 hf (fun hf => ?_)
  refine xj_aloadS_n hC dL_law_1158 rfl 0 rfl ?_
  refine xj_iload_n hC dL_law_1159 rfl 3 rfl ?_
  refine xj_iconst (v := 3) hC dL_law_1160 (by decide) ?_
  refine xj_iadd hC dL_law_1161 ?_
  refine xb_sld hC hX hbl hbb dL_law_1162 hf (fun hf => ?_)
  refine xj_aloadS_n hC dL_law_1163 rfl 0 rfl ?_
  refine xj_iload_n hC dL_law_1164 rfl 3 rfl ?_
  refine xj_iconst (v := 4) hC dL_law_1165 (by decide) ?_
  refine xj_iadd hC dL_law_1166 ?_
  refine xb_sld hC hX hbl hbb dL_law_1167 hf (fun hf => ?_)
  refine xj_dia (cnd := (xs ((p3 + (4 : Int32))).toNatClampNeg) = 0) (x := 0) (y := 1) (pc2 := 1176) (st2 := [xI (xs ((p3 + (3 : Int32))).toNatClampNeg), xI (xs ((p3 + (2 : Int32))).toNatClampNeg), xI (xs ((p3 + (1 : Int32))).toNatClampNeg), xR p1]) (fun hc hk => ?_) (fun hc hk => ?_) ?_
  · exact xj_if_eq (tgt := 1175) hC dL_law_1168 (by decide) (fun _ => xj_iconst (v := 0) hC dL_law_1175 (by decide) hk) (fun hn => absurd hc hn)
  · exact xj_if_eq (tgt := 1175) hC dL_law_1168 (by decide) (fun hn => absurd hn hc) (fun _ => xj_iconst (v := 1) hC dL_law_1171 (by decide) (xj_goto (tgt := 1176) hC dL_law_1172 (by decide) hk))
  obtain ⟨v110, w111, hc109, hf⟩ := xm_b2 hf
  obtain ⟨_, hob, _⟩ := xm_bind hc109
  refine xj_reti (xr_V hC (mX4_dot l D ks b hc109) hob rfl xw_cod_X4_dot xw_ini_X4 xw_ins_X4_dot xw_sel_X4_dot xw_ml_L_96 xds_X4_dot ⟨Nat.le_of_ble_eq_true rfl, Nat.le_of_ble_eq_true rfl⟩ rfl rfl (Nat.le_of_ble_eq_true rfl) ⟨by simp only [room_1]; omega, by simp only [room_1]; omega⟩ dL_law_1176) ?_
  refine xj_aload_n hC dL_law_1179 rfl 2 rfl ?_
  refine xj_aloadS_n hC dL_law_1180 rfl 0 rfl ?_
  refine xj_iload_n hC dL_law_1181 rfl 3 rfl ?_
  refine xj_iconst (v := 1) hC dL_law_1182 (by decide) ?_
  refine xj_iadd hC dL_law_1183 ?_
  refine xb_sld hC hX hbl hbb dL_law_1184 hf (fun hf => ?_)
  refine xj_aloadS_n hC dL_law_1185 rfl 0 rfl ?_
  refine xj_iload_n hC dL_law_1186 rfl 3 rfl ?_
  refine xj_iconst (v := 2) hC dL_law_1187 (by decide) ?_
  refine xj_iadd hC dL_law_1188 ?_
  refine xb_sld hC hX hbl hbb dL_law_1189 hf (fun hf => ?_)
  refine xj_aloadS_n hC dL_law_1190 rfl 0 rfl ?_
  refine xj_iload_n hC dL_law_1191 rfl 3 rfl ?_
  refine xj_iconst (v := 3) hC dL_law_1192 (by decide) ?_
  refine xj_iadd hC dL_law_1193 ?_
  refine xb_sld hC hX hbl hbb dL_law_1194 hf (fun hf => ?_)
  refine xj_aloadS_n hC dL_law_1195 rfl 0 rfl ?_
  refine xj_iload_n hC dL_law_1196 rfl 3 rfl ?_
  refine xj_iconst (v := 4) hC dL_law_1197 (by decide) ?_
  refine xj_iadd hC dL_law_1198 ?_
  refine xb_sld hC hX hbl hbb dL_law_1199 hf (fun hf => ?_)
  refine xj_dia (cnd := (xs ((p3 + (4 : Int32))).toNatClampNeg) = 0) (x := 0) (y := 1) (pc2 := 1208) (st2 := [xI (xs ((p3 + (3 : Int32))).toNatClampNeg), xI (xs ((p3 + (2 : Int32))).toNatClampNeg), xI (xs ((p3 + (1 : Int32))).toNatClampNeg), xR p2, xI v110]) (fun hc hk => ?_) (fun hc hk => ?_) ?_
  · exact xj_if_eq (tgt := 1207) hC dL_law_1200 (by decide) (fun _ => xj_iconst (v := 0) hC dL_law_1207 (by decide) hk) (fun hn => absurd hc hn)
  · exact xj_if_eq (tgt := 1207) hC dL_law_1200 (by decide) (fun hn => absurd hn hc) (fun _ => xj_iconst (v := 1) hC dL_law_1203 (by decide) (xj_goto (tgt := 1208) hC dL_law_1204 (by decide) hk))
  obtain ⟨v113, w114, hc112, hf⟩ := xm_b2 hf
  obtain ⟨_, hob, _⟩ := xm_bind hc112
  refine xj_reti (xr_V hC (mX5_dot l D ks b hc112) hob rfl xw_cod_X5_dot xw_ini_X5 xw_ins_X5_dot xw_sel_X5_dot xw_ml_L_100 xds_X5_dot ⟨Nat.le_of_ble_eq_true rfl, Nat.le_of_ble_eq_true rfl⟩ rfl rfl (Nat.le_of_ble_eq_true rfl) ⟨by simp only [room_1]; omega, by simp only [room_1]; omega⟩ dL_law_1208) ?_
  refine xb_ic_eq (tgt := 1328) hC dL_law_1211 (by decide) hf (fun hf => ?_) (fun hf => ?_)
  · have hw := Option.some.inj hf
    subst hw
    exact kk
  · refine xj_iconst (v := 0) hC dL_law_1214 (by decide) ?_
    cases hf
def fLc_19 (xs : Nat → Int32) (Ln : Nat) (w : xmW) (p1 p2 : Option Nat) (p3 : Int32) : Option xmW := (if 0 ≤ (p3 + (1 : Int32)) ∧ ((p3 + (1 : Int32))).toNatClampNeg < Ln then (if 0 ≤ (p3 + (2 : Int32)) ∧ ((p3 + (2 : Int32))).toNatClampNeg < Ln then (if 0 ≤ (p3 + (3 : Int32)) ∧ ((p3 + (3 : Int32))).toNatClampNeg < Ln then (xmb2 (fX4_table w (p1) ((xs ((p3 + (1 : Int32))).toNatClampNeg)) ((xs ((p3 + (2 : Int32))).toNatClampNeg)) ((xs ((p3 + (3 : Int32))).toNatClampNeg))) fun v116 w117 => (if 0 ≤ (p3 + (1 : Int32)) ∧ ((p3 + (1 : Int32))).toNatClampNeg < Ln then (if 0 ≤ (p3 + (2 : Int32)) ∧ ((p3 + (2 : Int32))).toNatClampNeg < Ln then (if 0 ≤ (p3 + (3 : Int32)) ∧ ((p3 + (3 : Int32))).toNatClampNeg < Ln then (xmb2 (fX5_table w117 (p2) ((xs ((p3 + (1 : Int32))).toNatClampNeg)) ((xs ((p3 + (2 : Int32))).toNatClampNeg)) ((xs ((p3 + (3 : Int32))).toNatClampNeg))) fun v119 w120 => (if v116 = v119 then (some w120) else none)) else none) else none) else none)) else none) else none) else none)
set_option maxHeartbeats 4000000 in
set_option maxRecDepth 100000 in
theorem lLc_19 {p : Program} {l : Launch} {e : Env} {s : State} {m : MethodId} {below : List Frame} {meth : Method} {c : Code} {D : va_G} {ks : Nat → ClassId} {b ba Ln : Nat} {xs : Nat → Int32} (hC : xmC p s m #[Value.ref ba] meth c D ks b 4 cL_law RL) (hX : va_X ba Ln xs s s.heap) (hbl : ba < s.heap.size) (hbb : b = s.heap.size) {w w2 : xmW} {p1 p2 : Option Nat} {p3 : Int32} {cl sl : Nat} (hcl : cl + 1 ≤ 10000) (hsl : sl + 7 ≤ 100000) (hf : fLc_19 xs Ln w p1 p2 p3 = some w2) (kk : xmJ p l e room_1 s m #[Value.ref ba] below meth c D ks b 4 (lw_Z below #[Value.ref ba] s) w2 cl sl 1328 [(0, xS ba), (1, xR p1), (2, xR p2), (3, xI p3)] []) : xmJ p l e room_1 s m #[Value.ref ba] below meth c D ks b 4 (lw_Z below #[Value.ref ba] s) w cl sl 1216 [(0, xS ba), (1, xR p1), (2, xR p2), (3, xI p3)] [] := by
  unfold fLc_19 at hf
  refine xj_aload_n hC dL_law_1216 rfl 1 rfl ?_
  refine xj_aloadS_n hC dL_law_1217 rfl 0 rfl ?_
  refine xj_iload_n hC dL_law_1218 rfl 3 rfl ?_
  refine xj_iconst (v := 1) hC dL_law_1219 (by decide) ?_
  refine xj_iadd hC dL_law_1220 ?_
  refine xb_sld hC hX hbl hbb dL_law_1221 hf (fun hf => ?_)
  refine xj_aloadS_n hC dL_law_1222 rfl 0 rfl ?_
  refine xj_iload_n hC dL_law_1223 rfl 3 rfl ?_
  refine xj_iconst (v := 2) hC dL_law_1224 (by decide) ?_
  refine xj_iadd hC dL_law_1225 ?_
  refine xb_sld hC hX hbl hbb dL_law_1226 hf (fun hf => ?_)
  refine xj_aloadS_n hC dL_law_1227 rfl 0 rfl ?_
  refine xj_iload_n hC dL_law_1228 rfl 3 rfl ?_
  refine xj_iconst (v := 3) hC dL_law_1229 (by decide) ?_
  refine xj_iadd hC dL_law_1230 ?_
  refine xb_sld hC hX hbl hbb dL_law_1231 hf (fun hf => ?_)
  obtain ⟨v116, w117, hc115, hf⟩ := xm_b2 hf
  obtain ⟨_, hob, _⟩ := xm_bind hc115
  refine xj_reti (xr_V hC (mX4_table l D ks b hc115) hob rfl xw_cod_X4_table xw_ini_X4 xw_ins_X4_table xw_sel_X4_table xw_ml_L_101 xds_X4_table ⟨Nat.le_of_ble_eq_true rfl, Nat.le_of_ble_eq_true rfl⟩ rfl rfl (Nat.le_of_ble_eq_true rfl) ⟨by simp only [room_1]; omega, by simp only [room_1]; omega⟩ dL_law_1232) ?_
  refine xj_aload_n hC dL_law_1235 rfl 2 rfl ?_
  refine xj_aloadS_n hC dL_law_1236 rfl 0 rfl ?_
  refine xj_iload_n hC dL_law_1237 rfl 3 rfl ?_
  refine xj_iconst (v := 1) hC dL_law_1238 (by decide) ?_
  refine xj_iadd hC dL_law_1239 ?_
  refine xb_sld hC hX hbl hbb dL_law_1240 hf (fun hf => ?_)
  refine xj_aloadS_n hC dL_law_1241 rfl 0 rfl ?_
  refine xj_iload_n hC dL_law_1242 rfl 3 rfl ?_
  refine xj_iconst (v := 2) hC dL_law_1243 (by decide) ?_
  refine xj_iadd hC dL_law_1244 ?_
  refine xb_sld hC hX hbl hbb dL_law_1245 hf (fun hf => ?_)
  refine xj_aloadS_n hC dL_law_1246 rfl 0 rfl ?_
  refine xj_iload_n hC dL_law_1247 rfl 3 rfl ?_
  refine xj_iconst (v := 3) hC dL_law_1248 (by decide) ?_
  refine xj_iadd hC dL_law_1249 ?_
  refine xb_sld hC hX hbl hbb dL_law_1250 hf (fun hf => ?_)
  obtain ⟨v119, w120, hc118, hf⟩ := xm_b2 hf
  obtain ⟨_, hob, _⟩ := xm_bind hc118
  refine xj_reti (xr_V hC (mX5_table l D ks b hc118) hob rfl xw_cod_X5_table xw_ini_X5 xw_ins_X5_table xw_sel_X5_table xw_ml_L_104 xds_X5_table ⟨Nat.le_of_ble_eq_true rfl, Nat.le_of_ble_eq_true rfl⟩ rfl rfl (Nat.le_of_ble_eq_true rfl) ⟨by simp only [room_1]; omega, by simp only [room_1]; omega⟩ dL_law_1251) ?_
  refine xb_ic_eq (tgt := 1328) hC dL_law_1254 (by decide) hf (fun hf => ?_) (fun hf => ?_)
  · have hw := Option.some.inj hf
    subst hw
    exact kk
  · refine xj_iconst (v := 0) hC dL_law_1257 (by decide) ?_
    cases hf
def fLc_20 (xs : Nat → Int32) (Ln : Nat) (w : xmW) (p1 p2 : Option Nat) (p3 : Int32) : Option xmW := (if 0 ≤ (p3 + (1 : Int32)) ∧ ((p3 + (1 : Int32))).toNatClampNeg < Ln then (if 0 ≤ (p3 + (2 : Int32)) ∧ ((p3 + (2 : Int32))).toNatClampNeg < Ln then (xmb2 (fX4_lookup w (p1) ((xs ((p3 + (1 : Int32))).toNatClampNeg)) ((xs ((p3 + (2 : Int32))).toNatClampNeg))) fun v122 w123 => (if 0 ≤ (p3 + (1 : Int32)) ∧ ((p3 + (1 : Int32))).toNatClampNeg < Ln then (if 0 ≤ (p3 + (2 : Int32)) ∧ ((p3 + (2 : Int32))).toNatClampNeg < Ln then (xmb2 (fX5_lookup w123 (p2) ((xs ((p3 + (1 : Int32))).toNatClampNeg)) ((xs ((p3 + (2 : Int32))).toNatClampNeg))) fun v125 w126 => (if v122 = v125 then (some w126) else none)) else none) else none)) else none) else none)
set_option maxHeartbeats 4000000 in
set_option maxRecDepth 100000 in
theorem lLc_20 {p : Program} {l : Launch} {e : Env} {s : State} {m : MethodId} {below : List Frame} {meth : Method} {c : Code} {D : va_G} {ks : Nat → ClassId} {b ba Ln : Nat} {xs : Nat → Int32} (hC : xmC p s m #[Value.ref ba] meth c D ks b 4 cL_law RL) (hX : va_X ba Ln xs s s.heap) (hbl : ba < s.heap.size) (hbb : b = s.heap.size) {w w2 : xmW} {p1 p2 : Option Nat} {p3 : Int32} {cl sl : Nat} (hcl : cl + 1 ≤ 10000) (hsl : sl + 7 ≤ 100000) (hf : fLc_20 xs Ln w p1 p2 p3 = some w2) (kk : xmJ p l e room_1 s m #[Value.ref ba] below meth c D ks b 4 (lw_Z below #[Value.ref ba] s) w2 cl sl 1328 [(0, xS ba), (1, xR p1), (2, xR p2), (3, xI p3)] []) : xmJ p l e room_1 s m #[Value.ref ba] below meth c D ks b 4 (lw_Z below #[Value.ref ba] s) w cl sl 1259 [(0, xS ba), (1, xR p1), (2, xR p2), (3, xI p3)] [] := by
  unfold fLc_20 at hf
  refine xj_aload_n hC dL_law_1259 rfl 1 rfl ?_
  refine xj_aloadS_n hC dL_law_1260 rfl 0 rfl ?_
  refine xj_iload_n hC dL_law_1261 rfl 3 rfl ?_
  refine xj_iconst (v := 1) hC dL_law_1262 (by decide) ?_
  refine xj_iadd hC dL_law_1263 ?_
  refine xb_sld hC hX hbl hbb dL_law_1264 hf (fun hf => ?_)
  refine xj_aloadS_n hC dL_law_1265 rfl 0 rfl ?_
  refine xj_iload_n hC dL_law_1266 rfl 3 rfl ?_
  refine xj_iconst (v := 2) hC dL_law_1267 (by decide) ?_
  refine xj_iadd hC dL_law_1268 ?_
  refine xb_sld hC hX hbl hbb dL_law_1269 hf (fun hf => ?_)
  obtain ⟨v122, w123, hc121, hf⟩ := xm_b2 hf
  obtain ⟨_, hob, _⟩ := xm_bind hc121
  refine xj_reti (xr_V hC (mX4_lookup l D ks b hc121) hob rfl xw_cod_X4_lookup xw_ini_X4 xw_ins_X4_lookup xw_sel_X4_lookup xw_ml_L_105 xds_X4_lookup ⟨Nat.le_of_ble_eq_true rfl, Nat.le_of_ble_eq_true rfl⟩ rfl rfl (Nat.le_of_ble_eq_true rfl) ⟨by simp only [room_1]; omega, by simp only [room_1]; omega⟩ dL_law_1270) ?_
  refine xj_aload_n hC dL_law_1273 rfl 2 rfl ?_
  refine xj_aloadS_n hC dL_law_1274 rfl 0 rfl ?_
  refine xj_iload_n hC dL_law_1275 rfl 3 rfl ?_
  refine xj_iconst (v := 1) hC dL_law_1276 (by decide) ?_
  refine xj_iadd hC dL_law_1277 ?_
  refine xb_sld hC hX hbl hbb dL_law_1278 hf (fun hf => ?_)
  refine xj_aloadS_n hC dL_law_1279 rfl 0 rfl ?_
  refine xj_iload_n hC dL_law_1280 rfl 3 rfl ?_
  refine xj_iconst (v := 2) hC dL_law_1281 (by decide) ?_
  refine xj_iadd hC dL_law_1282 ?_
  refine xb_sld hC hX hbl hbb dL_law_1283 hf (fun hf => ?_)
  obtain ⟨v125, w126, hc124, hf⟩ := xm_b2 hf
  obtain ⟨_, hob, _⟩ := xm_bind hc124
  refine xj_reti (xr_V hC (mX5_lookup l D ks b hc124) hob rfl xw_cod_X5_lookup xw_ini_X5 xw_ins_X5_lookup xw_sel_X5_lookup xw_ml_L_108 xds_X5_lookup ⟨Nat.le_of_ble_eq_true rfl, Nat.le_of_ble_eq_true rfl⟩ rfl rfl (Nat.le_of_ble_eq_true rfl) ⟨by simp only [room_1]; omega, by simp only [room_1]; omega⟩ dL_law_1284) ?_
  refine xb_ic_eq (tgt := 1328) hC dL_law_1287 (by decide) hf (fun hf => ?_) (fun hf => ?_)
  · have hw := Option.some.inj hf
    subst hw
    exact kk
  · refine xj_iconst (v := 0) hC dL_law_1290 (by decide) ?_
    cases hf
def fLc_21 (xs : Nat → Int32) (Ln : Nat) (w : xmW) (p1 p2 : Option Nat) (p3 : Int32) : Option xmW := (if 0 ≤ (p3 + (1 : Int32)) ∧ ((p3 + (1 : Int32))).toNatClampNeg < Ln then ((fX4_count w (p1) ((xs ((p3 + (1 : Int32))).toNatClampNeg))).bind fun v128 => (if 0 ≤ (p3 + (1 : Int32)) ∧ ((p3 + (1 : Int32))).toNatClampNeg < Ln then ((fX5_count w (p2) ((xs ((p3 + (1 : Int32))).toNatClampNeg))).bind fun v130 => (if v128 = v130 then (some w) else none)) else none)) else none)
set_option maxHeartbeats 4000000 in
set_option maxRecDepth 100000 in
theorem lLc_21 {p : Program} {l : Launch} {e : Env} {s : State} {m : MethodId} {below : List Frame} {meth : Method} {c : Code} {D : va_G} {ks : Nat → ClassId} {b ba Ln : Nat} {xs : Nat → Int32} (hC : xmC p s m #[Value.ref ba] meth c D ks b 4 cL_law RL) (hX : va_X ba Ln xs s s.heap) (hbl : ba < s.heap.size) (hbb : b = s.heap.size) {w w2 : xmW} {p1 p2 : Option Nat} {p3 : Int32} {cl sl : Nat} (hcl : cl + 1 ≤ 10000) (hsl : sl + 7 ≤ 100000) (hf : fLc_21 xs Ln w p1 p2 p3 = some w2) (kk : xmJ p l e room_1 s m #[Value.ref ba] below meth c D ks b 4 (lw_Z below #[Value.ref ba] s) w2 cl sl 1328 [(0, xS ba), (1, xR p1), (2, xR p2), (3, xI p3)] []) : xmJ p l e room_1 s m #[Value.ref ba] below meth c D ks b 4 (lw_Z below #[Value.ref ba] s) w cl sl 1292 [(0, xS ba), (1, xR p1), (2, xR p2), (3, xI p3)] [] := by
  unfold fLc_21 at hf
  refine xj_aload_n hC dL_law_1292 rfl 1 rfl ?_
  refine xj_aloadS_n hC dL_law_1293 rfl 0 rfl ?_
  refine xj_iload_n hC dL_law_1294 rfl 3 rfl ?_
  refine xj_iconst (v := 1) hC dL_law_1295 (by decide) ?_
  refine xj_iadd hC dL_law_1296 ?_
  refine xb_sld hC hX hbl hbb dL_law_1297 hf (fun hf => ?_)
  obtain ⟨v128, hc127, hf⟩ := xm_bind hf
  obtain ⟨_, hob, _⟩ := xm_bind hc127
  refine xj_reti (xr_V hC (mX4_count l D ks b hc127) hob rfl xw_cod_X4_count xw_ini_X4 xw_ins_X4_count xw_sel_X4_count xw_ml_L_109 xds_X4_count ⟨Nat.le_of_ble_eq_true rfl, Nat.le_of_ble_eq_true rfl⟩ rfl rfl (Nat.le_of_ble_eq_true rfl) ⟨by simp only [room_1]; omega, by simp only [room_1]; omega⟩ dL_law_1298) ?_
  refine xj_aload_n hC dL_law_1301 rfl 2 rfl ?_
  refine xj_aloadS_n hC dL_law_1302 rfl 0 rfl ?_
  refine xj_iload_n hC dL_law_1303 rfl 3 rfl ?_
  refine xj_iconst (v := 1) hC dL_law_1304 (by decide) ?_
  refine xj_iadd hC dL_law_1305 ?_
  refine xb_sld hC hX hbl hbb dL_law_1306 hf (fun hf => ?_)
  obtain ⟨v130, hc129, hf⟩ := xm_bind hf
  obtain ⟨_, hob, _⟩ := xm_bind hc129
  refine xj_reti (xr_V hC (mX5_count l D ks b hc129) hob rfl xw_cod_X5_count xw_ini_X5 xw_ins_X5_count xw_sel_X5_count xw_ml_L_113 xds_X5_count ⟨Nat.le_of_ble_eq_true rfl, Nat.le_of_ble_eq_true rfl⟩ rfl rfl (Nat.le_of_ble_eq_true rfl) ⟨by simp only [room_1]; omega, by simp only [room_1]; omega⟩ dL_law_1307) ?_
  refine xb_ic_eq (tgt := 1328) hC dL_law_1310 (by decide) hf (fun hf => ?_) (fun hf => ?_)
  · have hw := Option.some.inj hf
    subst hw
    exact kk
  · refine xj_iconst (v := 0) hC dL_law_1313 (by decide) ?_
    cases hf
def fLc_22 (xs : Nat → Int32) (Ln : Nat) (w : xmW) (p1 p2 : Option Nat) (p3 : Int32) : Option xmW := ((fX4_told w (p1) ).bind fun v132 => ((fX5_told w (p2) ).bind fun v134 => (if v132 = v134 then (some w) else none)))
set_option maxHeartbeats 4000000 in
set_option maxRecDepth 100000 in
theorem lLc_22 {p : Program} {l : Launch} {e : Env} {s : State} {m : MethodId} {below : List Frame} {meth : Method} {c : Code} {D : va_G} {ks : Nat → ClassId} {b ba Ln : Nat} {xs : Nat → Int32} (hC : xmC p s m #[Value.ref ba] meth c D ks b 4 cL_law RL) (hX : va_X ba Ln xs s s.heap) (hbl : ba < s.heap.size) (hbb : b = s.heap.size) {w w2 : xmW} {p1 p2 : Option Nat} {p3 : Int32} {cl sl : Nat} (hcl : cl + 1 ≤ 10000) (hsl : sl + 7 ≤ 100000) (hf : fLc_22 xs Ln w p1 p2 p3 = some w2) (kk : xmJ p l e room_1 s m #[Value.ref ba] below meth c D ks b 4 (lw_Z below #[Value.ref ba] s) w2 cl sl 1328 [(0, xS ba), (1, xR p1), (2, xR p2), (3, xI p3)] []) : xmJ p l e room_1 s m #[Value.ref ba] below meth c D ks b 4 (lw_Z below #[Value.ref ba] s) w cl sl 1315 [(0, xS ba), (1, xR p1), (2, xR p2), (3, xI p3)] [] := by
  unfold fLc_22 at hf
  refine xj_aload_n hC dL_law_1315 rfl 1 rfl ?_
  obtain ⟨v132, hc131, hf⟩ := xm_bind hf
  obtain ⟨_, hob, _⟩ := xm_bind hc131
  refine xj_reti (xr_V hC (mX4_told l D ks b hc131) hob rfl xw_cod_X4_told xw_ini_X4 xw_ins_X4_told xw_sel_X4_told xw_ml_L_114 xds_X4_told ⟨Nat.le_of_ble_eq_true rfl, Nat.le_of_ble_eq_true rfl⟩ rfl rfl (Nat.le_of_ble_eq_true rfl) ⟨by simp only [room_1]; omega, by simp only [room_1]; omega⟩ dL_law_1316) ?_
  refine xj_aload_n hC dL_law_1319 rfl 2 rfl ?_
  obtain ⟨v134, hc133, hf⟩ := xm_bind hf
  obtain ⟨_, hob, _⟩ := xm_bind hc133
  refine xj_reti (xr_V hC (mX5_told l D ks b hc133) hob rfl xw_cod_X5_told xw_ini_X5 xw_ins_X5_told xw_sel_X5_told xw_ml_L_118 xds_X5_told ⟨Nat.le_of_ble_eq_true rfl, Nat.le_of_ble_eq_true rfl⟩ rfl rfl (Nat.le_of_ble_eq_true rfl) ⟨by simp only [room_1]; omega, by simp only [room_1]; omega⟩ dL_law_1320) ?_
  refine xb_ic_eq (tgt := 1328) hC dL_law_1323 (by decide) hf (fun hf => ?_) (fun hf => ?_)
  · have hw := Option.some.inj hf
    subst hw
    exact kk
  · refine xj_iconst (v := 0) hC dL_law_1326 (by decide) ?_
    cases hf
def fL_loop (xs : Nat → Int32) (Ln : Nat) : Nat → xmW → Option Nat → Option Nat → Int32 → Option Unit
  | 0, _, _, _, _ => none
  | n + 1, w, p1, p2, p3 => (if (Int32.ofNat Ln - (7 : Int32)) < p3 then (some ()) else (if 0 ≤ p3 ∧ p3.toNatClampNeg < Ln then (fun v : Int32 => (if v = (0 : Int32) then ((fLc_0 xs Ln w p1 p2 p3).bind fun w2 => fL_loop xs Ln n w2 p1 p2 (p3 + (7 : Int32))) else (if v = (1 : Int32) then ((fLc_1 xs Ln w p1 p2 p3).bind fun w2 => fL_loop xs Ln n w2 p1 p2 (p3 + (7 : Int32))) else (if v = (2 : Int32) then ((fLc_2 xs Ln w p1 p2 p3).bind fun w2 => fL_loop xs Ln n w2 p1 p2 (p3 + (7 : Int32))) else (if v = (3 : Int32) then ((fLc_3 xs Ln w p1 p2 p3).bind fun w2 => fL_loop xs Ln n w2 p1 p2 (p3 + (7 : Int32))) else (if v = (4 : Int32) then ((fLc_4 xs Ln w p1 p2 p3).bind fun w2 => fL_loop xs Ln n w2 p1 p2 (p3 + (7 : Int32))) else (if v = (5 : Int32) then ((fLc_5 xs Ln w p1 p2 p3).bind fun w2 => fL_loop xs Ln n w2 p1 p2 (p3 + (7 : Int32))) else (if v = (6 : Int32) then ((fLc_6 xs Ln w p1 p2 p3).bind fun w2 => fL_loop xs Ln n w2 p1 p2 (p3 + (7 : Int32))) else (if v = (7 : Int32) then ((fLc_7 xs Ln w p1 p2 p3).bind fun w2 => fL_loop xs Ln n w2 p1 p2 (p3 + (7 : Int32))) else (if v = (8 : Int32) then ((fLc_8 xs Ln w p1 p2 p3).bind fun w2 => fL_loop xs Ln n w2 p1 p2 (p3 + (7 : Int32))) else (if v = (9 : Int32) then ((fLc_9 xs Ln w p1 p2 p3).bind fun w2 => fL_loop xs Ln n w2 p1 p2 (p3 + (7 : Int32))) else (if v = (10 : Int32) then ((fLc_10 xs Ln w p1 p2 p3).bind fun w2 => fL_loop xs Ln n w2 p1 p2 (p3 + (7 : Int32))) else (if v = (11 : Int32) then ((fLc_11 xs Ln w p1 p2 p3).bind fun w2 => fL_loop xs Ln n w2 p1 p2 (p3 + (7 : Int32))) else (if v = (12 : Int32) then ((fLc_12 xs Ln w p1 p2 p3).bind fun w2 => fL_loop xs Ln n w2 p1 p2 (p3 + (7 : Int32))) else (if v = (13 : Int32) then ((fLc_13 xs Ln w p1 p2 p3).bind fun w2 => fL_loop xs Ln n w2 p1 p2 (p3 + (7 : Int32))) else (if v = (14 : Int32) then ((fLc_14 xs Ln w p1 p2 p3).bind fun w2 => fL_loop xs Ln n w2 p1 p2 (p3 + (7 : Int32))) else (if v = (15 : Int32) then ((fLc_15 xs Ln w p1 p2 p3).bind fun w2 => fL_loop xs Ln n w2 p1 p2 (p3 + (7 : Int32))) else (if v = (16 : Int32) then ((fLc_16 xs Ln w p1 p2 p3).bind fun w2 => fL_loop xs Ln n w2 p1 p2 (p3 + (7 : Int32))) else (if v = (17 : Int32) then ((fLc_17 xs Ln w p1 p2 p3).bind fun w2 => fL_loop xs Ln n w2 p1 p2 (p3 + (7 : Int32))) else (if v = (18 : Int32) then ((fLc_18 xs Ln w p1 p2 p3).bind fun w2 => fL_loop xs Ln n w2 p1 p2 (p3 + (7 : Int32))) else (if v = (19 : Int32) then ((fLc_19 xs Ln w p1 p2 p3).bind fun w2 => fL_loop xs Ln n w2 p1 p2 (p3 + (7 : Int32))) else (if v = (20 : Int32) then ((fLc_20 xs Ln w p1 p2 p3).bind fun w2 => fL_loop xs Ln n w2 p1 p2 (p3 + (7 : Int32))) else (if v = (21 : Int32) then ((fLc_21 xs Ln w p1 p2 p3).bind fun w2 => fL_loop xs Ln n w2 p1 p2 (p3 + (7 : Int32))) else (if v = (22 : Int32) then ((fLc_22 xs Ln w p1 p2 p3).bind fun w2 => fL_loop xs Ln n w2 p1 p2 (p3 + (7 : Int32))) else (fL_loop xs Ln n w p1 p2 (p3 + (7 : Int32))))))))))))))))))))))))))) (xs p3.toNatClampNeg &&& (31 : Int32)) else none))
set_option maxHeartbeats 4000000 in
set_option maxRecDepth 100000 in
theorem lL_loop {p : Program} {l : Launch} {e : Env} {s : State} {m : MethodId} {below : List Frame} {meth : Method} {c : Code} {D : va_G} {ks : Nat → ClassId} {b ba Ln : Nat} {xs : Nat → Int32} (hC : xmC p s m #[Value.ref ba] meth c D ks b 4 cL_law RL) (hX : va_X ba Ln xs s s.heap) (hbl : ba < s.heap.size) (hbb : b = s.heap.size) (hr : meth.sig.returnType = ret) : ∀ (n : Nat) (w : xmW) (p1 p2 : Option Nat) (p3 : Int32) (cl sl : Nat), cl + n ≤ 10000 → sl + 7 * n ≤ 100000 → fL_loop xs Ln n w p1 p2 p3 = some () → xmJ p l e room_1 s m #[Value.ref ba] below meth c D ks b 4 (lw_Z below #[Value.ref ba] s) w cl sl 18 [(0, xS ba), (1, xR p1), (2, xR p2), (3, xI p3)] [] := by
  intro n
  induction n with
  | zero => intro w p1 p2 p3 cl sl _ _ hf; simp [fL_loop] at hf
  | succ n ih =>
    intro w p1 p2 p3 cl sl h1 h2 hf
    rw [fL_loop] at hf
    refine xj_iload_n hC dL_law_18 rfl 3 rfl ?_
    refine xj_aloadS_n hC dL_law_19 rfl 0 rfl ?_
    refine xj_slen hC hX hbl hbb dL_law_20 ?_
    refine xj_bipush (v := 7) hC dL_law_21 (by decide) ?_
    refine xj_isub hC dL_law_23 ?_
    refine xb_ic_gt (tgt := 1334) hC dL_law_24 (by decide) hf (fun hf => ?_) (fun hf => ?_)
    · refine xj_iconst (v := 1) hC dL_law_1334 (by decide) ?_
      intro H locs ls hP hS hl
      subst hbb
      refine va_forget (fun q hq => hS.2.2 q hq) ?_
      refine W.widen (k := room_1.cells) (n := room_1.slots) (by simp only [room_1]; omega) (by simp only [room_1]; omega) ?_
      exact lw_ret hC.hx hC.hb hr hC.hq dL_law_1335
    · refine xj_aloadS_n hC dL_law_27 rfl 0 rfl ?_
      refine xj_iload_n hC dL_law_28 rfl 3 rfl ?_
      refine xb_sld hC hX hbl hbb dL_law_29 hf (fun hf => ?_)
      refine xj_bipush (v := 31) hC dL_law_30 (by decide) ?_
      refine xj_iand hC dL_law_32 ?_
      have hf := hf
      generalize (xs p3.toNatClampNeg &&& (31 : Int32)) = v at hf ⊢
      refine xb_case hf (fun hx hf => ?_) (fun hn0 hf => ?_)
      · obtain ⟨w2, hc, hf⟩ := xm_bind hf
        refine xj_tableIn (tgt := 140) hC (107) dL_law_33 hx (by decide) (by decide) (by decide) (by decide) ?_
        refine lLc_0 hC hX hbl hbb (by omega) (by omega) hc ?_
        refine xj_iinc (v := (p3 + (7 : Int32))) (lv' := [(3, xI (p3 + (7 : Int32))), (0, xS ba), (1, xR p1), (2, xR p2)]) hC dL_law_1328 3 rfl rfl (by decide) rfl ?_
        refine xj_goto (tgt := 18) hC dL_law_1331 (by decide) ?_
        refine xj_lv [1, 2, 3, 0] rfl ?_
        exact ih w2 p1 p2 (p3 + (7 : Int32)) (cl + 1) (sl + 7) (by omega) (by omega) hf
      refine xb_case hf (fun hx hf => ?_) (fun hn1 hf => ?_)
      · obtain ⟨w2, hc, hf⟩ := xm_bind hf
        refine xj_tableIn (tgt := 231) hC (198) dL_law_33 hx (by decide) (by decide) (by decide) (by decide) ?_
        refine lLc_1 hC hX hbl hbb (by omega) (by omega) hc ?_
        refine xj_iinc (v := (p3 + (7 : Int32))) (lv' := [(3, xI (p3 + (7 : Int32))), (0, xS ba), (1, xR p1), (2, xR p2)]) hC dL_law_1328 3 rfl rfl (by decide) rfl ?_
        refine xj_goto (tgt := 18) hC dL_law_1331 (by decide) ?_
        refine xj_lv [1, 2, 3, 0] rfl ?_
        exact ih w2 p1 p2 (p3 + (7 : Int32)) cl sl (by omega) (by omega) hf
      refine xb_case hf (fun hx hf => ?_) (fun hn2 hf => ?_)
      · obtain ⟨w2, hc, hf⟩ := xm_bind hf
        refine xj_tableIn (tgt := 264) hC (231) dL_law_33 hx (by decide) (by decide) (by decide) (by decide) ?_
        refine lLc_2 hC hX hbl hbb (by omega) (by omega) hc ?_
        refine xj_iinc (v := (p3 + (7 : Int32))) (lv' := [(3, xI (p3 + (7 : Int32))), (0, xS ba), (1, xR p1), (2, xR p2)]) hC dL_law_1328 3 rfl rfl (by decide) rfl ?_
        refine xj_goto (tgt := 18) hC dL_law_1331 (by decide) ?_
        refine xj_lv [1, 2, 3, 0] rfl ?_
        exact ih w2 p1 p2 (p3 + (7 : Int32)) cl sl (by omega) (by omega) hf
      refine xb_case hf (fun hx hf => ?_) (fun hn3 hf => ?_)
      · obtain ⟨w2, hc, hf⟩ := xm_bind hf
        refine xj_tableIn (tgt := 307) hC (274) dL_law_33 hx (by decide) (by decide) (by decide) (by decide) ?_
        refine lLc_3 hC hX hbl hbb (by omega) (by omega) hc ?_
        refine xj_iinc (v := (p3 + (7 : Int32))) (lv' := [(3, xI (p3 + (7 : Int32))), (0, xS ba), (1, xR p1), (2, xR p2)]) hC dL_law_1328 3 rfl rfl (by decide) rfl ?_
        refine xj_goto (tgt := 18) hC dL_law_1331 (by decide) ?_
        refine xj_lv [1, 2, 3, 0] rfl ?_
        exact ih w2 p1 p2 (p3 + (7 : Int32)) cl sl (by omega) (by omega) hf
      refine xb_case hf (fun hx hf => ?_) (fun hn4 hf => ?_)
      · obtain ⟨w2, hc, hf⟩ := xm_bind hf
        refine xj_tableIn (tgt := 341) hC (308) dL_law_33 hx (by decide) (by decide) (by decide) (by decide) ?_
        refine lLc_4 hC hX hbl hbb (by omega) (by omega) hc ?_
        refine xj_iinc (v := (p3 + (7 : Int32))) (lv' := [(3, xI (p3 + (7 : Int32))), (0, xS ba), (1, xR p1), (2, xR p2)]) hC dL_law_1328 3 rfl rfl (by decide) rfl ?_
        refine xj_goto (tgt := 18) hC dL_law_1331 (by decide) ?_
        refine xj_lv [1, 2, 3, 0] rfl ?_
        exact ih w2 p1 p2 (p3 + (7 : Int32)) cl sl (by omega) (by omega) hf
      refine xb_case hf (fun hx hf => ?_) (fun hn5 hf => ?_)
      · obtain ⟨w2, hc, hf⟩ := xm_bind hf
        refine xj_tableIn (tgt := 456) hC (423) dL_law_33 hx (by decide) (by decide) (by decide) (by decide) ?_
        refine lLc_5 hC hX hbl hbb (by omega) (by omega) hc ?_
        refine xj_iinc (v := (p3 + (7 : Int32))) (lv' := [(3, xI (p3 + (7 : Int32))), (0, xS ba), (1, xR p1), (2, xR p2)]) hC dL_law_1328 3 rfl rfl (by decide) rfl ?_
        refine xj_goto (tgt := 18) hC dL_law_1331 (by decide) ?_
        refine xj_lv [1, 2, 3, 0] rfl ?_
        exact ih w2 p1 p2 (p3 + (7 : Int32)) cl sl (by omega) (by omega) hf
      refine xb_case hf (fun hx hf => ?_) (fun hn6 hf => ?_)
      · obtain ⟨w2, hc, hf⟩ := xm_bind hf
        refine xj_tableIn (tgt := 509) hC (476) dL_law_33 hx (by decide) (by decide) (by decide) (by decide) ?_
        refine lLc_6 hC hX hbl hbb (by omega) (by omega) hc ?_
        refine xj_iinc (v := (p3 + (7 : Int32))) (lv' := [(3, xI (p3 + (7 : Int32))), (0, xS ba), (1, xR p1), (2, xR p2)]) hC dL_law_1328 3 rfl rfl (by decide) rfl ?_
        refine xj_goto (tgt := 18) hC dL_law_1331 (by decide) ?_
        refine xj_lv [1, 2, 3, 0] rfl ?_
        exact ih w2 p1 p2 (p3 + (7 : Int32)) cl sl (by omega) (by omega) hf
      refine xb_case hf (fun hx hf => ?_) (fun hn7 hf => ?_)
      · obtain ⟨w2, hc, hf⟩ := xm_bind hf
        refine xj_tableIn (tgt := 572) hC (539) dL_law_33 hx (by decide) (by decide) (by decide) (by decide) ?_
        refine lLc_7 hC hX hbl hbb (by omega) (by omega) hc ?_
        refine xj_iinc (v := (p3 + (7 : Int32))) (lv' := [(3, xI (p3 + (7 : Int32))), (0, xS ba), (1, xR p1), (2, xR p2)]) hC dL_law_1328 3 rfl rfl (by decide) rfl ?_
        refine xj_goto (tgt := 18) hC dL_law_1331 (by decide) ?_
        refine xj_lv [1, 2, 3, 0] rfl ?_
        exact ih w2 p1 p2 (p3 + (7 : Int32)) cl sl (by omega) (by omega) hf
      refine xb_case hf (fun hx hf => ?_) (fun hn8 hf => ?_)
      · obtain ⟨w2, hc, hf⟩ := xm_bind hf
        refine xj_tableIn (tgt := 635) hC (602) dL_law_33 hx (by decide) (by decide) (by decide) (by decide) ?_
        refine lLc_8 hC hX hbl hbb (by omega) (by omega) hc ?_
        refine xj_iinc (v := (p3 + (7 : Int32))) (lv' := [(3, xI (p3 + (7 : Int32))), (0, xS ba), (1, xR p1), (2, xR p2)]) hC dL_law_1328 3 rfl rfl (by decide) rfl ?_
        refine xj_goto (tgt := 18) hC dL_law_1331 (by decide) ?_
        refine xj_lv [1, 2, 3, 0] rfl ?_
        exact ih w2 p1 p2 (p3 + (7 : Int32)) cl sl (by omega) (by omega) hf
      refine xb_case hf (fun hx hf => ?_) (fun hn9 hf => ?_)
      · obtain ⟨w2, hc, hf⟩ := xm_bind hf
        refine xj_tableIn (tgt := 694) hC (661) dL_law_33 hx (by decide) (by decide) (by decide) (by decide) ?_
        refine lLc_9 hC hX hbl hbb (by omega) (by omega) hc ?_
        refine xj_iinc (v := (p3 + (7 : Int32))) (lv' := [(3, xI (p3 + (7 : Int32))), (0, xS ba), (1, xR p1), (2, xR p2)]) hC dL_law_1328 3 rfl rfl (by decide) rfl ?_
        refine xj_goto (tgt := 18) hC dL_law_1331 (by decide) ?_
        refine xj_lv [1, 2, 3, 0] rfl ?_
        exact ih w2 p1 p2 (p3 + (7 : Int32)) cl sl (by omega) (by omega) hf
      refine xb_case hf (fun hx hf => ?_) (fun hn10 hf => ?_)
      · obtain ⟨w2, hc, hf⟩ := xm_bind hf
        refine xj_tableIn (tgt := 737) hC (704) dL_law_33 hx (by decide) (by decide) (by decide) (by decide) ?_
        refine lLc_10 hC hX hbl hbb (by omega) (by omega) hc ?_
        refine xj_iinc (v := (p3 + (7 : Int32))) (lv' := [(3, xI (p3 + (7 : Int32))), (0, xS ba), (1, xR p1), (2, xR p2)]) hC dL_law_1328 3 rfl rfl (by decide) rfl ?_
        refine xj_goto (tgt := 18) hC dL_law_1331 (by decide) ?_
        refine xj_lv [1, 2, 3, 0] rfl ?_
        exact ih w2 p1 p2 (p3 + (7 : Int32)) cl sl (by omega) (by omega) hf
      refine xb_case hf (fun hx hf => ?_) (fun hn11 hf => ?_)
      · obtain ⟨w2, hc, hf⟩ := xm_bind hf
        refine xj_tableIn (tgt := 840) hC (807) dL_law_33 hx (by decide) (by decide) (by decide) (by decide) ?_
        refine lLc_11 hC hX hbl hbb (by omega) (by omega) hc ?_
        refine xj_iinc (v := (p3 + (7 : Int32))) (lv' := [(3, xI (p3 + (7 : Int32))), (0, xS ba), (1, xR p1), (2, xR p2)]) hC dL_law_1328 3 rfl rfl (by decide) rfl ?_
        refine xj_goto (tgt := 18) hC dL_law_1331 (by decide) ?_
        refine xj_lv [1, 2, 3, 0] rfl ?_
        exact ih w2 p1 p2 (p3 + (7 : Int32)) cl sl (by omega) (by omega) hf
      refine xb_case hf (fun hx hf => ?_) (fun hn12 hf => ?_)
      · obtain ⟨w2, hc, hf⟩ := xm_bind hf
        refine xj_tableIn (tgt := 883) hC (850) dL_law_33 hx (by decide) (by decide) (by decide) (by decide) ?_
        refine lLc_12 hC hX hbl hbb (by omega) (by omega) hc ?_
        refine xj_iinc (v := (p3 + (7 : Int32))) (lv' := [(3, xI (p3 + (7 : Int32))), (0, xS ba), (1, xR p1), (2, xR p2)]) hC dL_law_1328 3 rfl rfl (by decide) rfl ?_
        refine xj_goto (tgt := 18) hC dL_law_1331 (by decide) ?_
        refine xj_lv [1, 2, 3, 0] rfl ?_
        exact ih w2 p1 p2 (p3 + (7 : Int32)) cl sl (by omega) (by omega) hf
      refine xb_case hf (fun hx hf => ?_) (fun hn13 hf => ?_)
      · obtain ⟨w2, hc, hf⟩ := xm_bind hf
        refine xj_tableIn (tgt := 926) hC (893) dL_law_33 hx (by decide) (by decide) (by decide) (by decide) ?_
        refine lLc_13 hC hX hbl hbb (by omega) (by omega) hc ?_
        refine xj_iinc (v := (p3 + (7 : Int32))) (lv' := [(3, xI (p3 + (7 : Int32))), (0, xS ba), (1, xR p1), (2, xR p2)]) hC dL_law_1328 3 rfl rfl (by decide) rfl ?_
        refine xj_goto (tgt := 18) hC dL_law_1331 (by decide) ?_
        refine xj_lv [1, 2, 3, 0] rfl ?_
        exact ih w2 p1 p2 (p3 + (7 : Int32)) cl sl (by omega) (by omega) hf
      refine xb_case hf (fun hx hf => ?_) (fun hn14 hf => ?_)
      · obtain ⟨w2, hc, hf⟩ := xm_bind hf
        refine xj_tableIn (tgt := 959) hC (926) dL_law_33 hx (by decide) (by decide) (by decide) (by decide) ?_
        refine lLc_14 hC hX hbl hbb (by omega) (by omega) hc ?_
        refine xj_iinc (v := (p3 + (7 : Int32))) (lv' := [(3, xI (p3 + (7 : Int32))), (0, xS ba), (1, xR p1), (2, xR p2)]) hC dL_law_1328 3 rfl rfl (by decide) rfl ?_
        refine xj_goto (tgt := 18) hC dL_law_1331 (by decide) ?_
        refine xj_lv [1, 2, 3, 0] rfl ?_
        exact ih w2 p1 p2 (p3 + (7 : Int32)) cl sl (by omega) (by omega) hf
      refine xb_case hf (fun hx hf => ?_) (fun hn15 hf => ?_)
      · obtain ⟨w2, hc, hf⟩ := xm_bind hf
        refine xj_tableIn (tgt := 992) hC (959) dL_law_33 hx (by decide) (by decide) (by decide) (by decide) ?_
        refine lLc_15 hC hX hbl hbb (by omega) (by omega) hc ?_
        refine xj_iinc (v := (p3 + (7 : Int32))) (lv' := [(3, xI (p3 + (7 : Int32))), (0, xS ba), (1, xR p1), (2, xR p2)]) hC dL_law_1328 3 rfl rfl (by decide) rfl ?_
        refine xj_goto (tgt := 18) hC dL_law_1331 (by decide) ?_
        refine xj_lv [1, 2, 3, 0] rfl ?_
        exact ih w2 p1 p2 (p3 + (7 : Int32)) cl sl (by omega) (by omega) hf
      refine xb_case hf (fun hx hf => ?_) (fun hn16 hf => ?_)
      · obtain ⟨w2, hc, hf⟩ := xm_bind hf
        refine xj_tableIn (tgt := 1045) hC (1012) dL_law_33 hx (by decide) (by decide) (by decide) (by decide) ?_
        refine lLc_16 hC hX hbl hbb (by omega) (by omega) hc ?_
        refine xj_iinc (v := (p3 + (7 : Int32))) (lv' := [(3, xI (p3 + (7 : Int32))), (0, xS ba), (1, xR p1), (2, xR p2)]) hC dL_law_1328 3 rfl rfl (by decide) rfl ?_
        refine xj_goto (tgt := 18) hC dL_law_1331 (by decide) ?_
        refine xj_lv [1, 2, 3, 0] rfl ?_
        exact ih w2 p1 p2 (p3 + (7 : Int32)) cl sl (by omega) (by omega) hf
      refine xb_case hf (fun hx hf => ?_) (fun hn17 hf => ?_)
      · obtain ⟨w2, hc, hf⟩ := xm_bind hf
        refine xj_tableIn (tgt := 1088) hC (1055) dL_law_33 hx (by decide) (by decide) (by decide) (by decide) ?_
        refine lLc_17 hC hX hbl hbb (by omega) (by omega) hc ?_
        refine xj_iinc (v := (p3 + (7 : Int32))) (lv' := [(3, xI (p3 + (7 : Int32))), (0, xS ba), (1, xR p1), (2, xR p2)]) hC dL_law_1328 3 rfl rfl (by decide) rfl ?_
        refine xj_goto (tgt := 18) hC dL_law_1331 (by decide) ?_
        refine xj_lv [1, 2, 3, 0] rfl ?_
        exact ih w2 p1 p2 (p3 + (7 : Int32)) cl sl (by omega) (by omega) hf
      refine xb_case hf (fun hx hf => ?_) (fun hn18 hf => ?_)
      · obtain ⟨w2, hc, hf⟩ := xm_bind hf
        refine xj_tableIn (tgt := 1147) hC (1114) dL_law_33 hx (by decide) (by decide) (by decide) (by decide) ?_
        refine lLc_18 hC hX hbl hbb (by omega) (by omega) hc ?_
        refine xj_iinc (v := (p3 + (7 : Int32))) (lv' := [(3, xI (p3 + (7 : Int32))), (0, xS ba), (1, xR p1), (2, xR p2)]) hC dL_law_1328 3 rfl rfl (by decide) rfl ?_
        refine xj_goto (tgt := 18) hC dL_law_1331 (by decide) ?_
        refine xj_lv [1, 2, 3, 0] rfl ?_
        exact ih w2 p1 p2 (p3 + (7 : Int32)) cl sl (by omega) (by omega) hf
      refine xb_case hf (fun hx hf => ?_) (fun hn19 hf => ?_)
      · obtain ⟨w2, hc, hf⟩ := xm_bind hf
        refine xj_tableIn (tgt := 1216) hC (1183) dL_law_33 hx (by decide) (by decide) (by decide) (by decide) ?_
        refine lLc_19 hC hX hbl hbb (by omega) (by omega) hc ?_
        refine xj_iinc (v := (p3 + (7 : Int32))) (lv' := [(3, xI (p3 + (7 : Int32))), (0, xS ba), (1, xR p1), (2, xR p2)]) hC dL_law_1328 3 rfl rfl (by decide) rfl ?_
        refine xj_goto (tgt := 18) hC dL_law_1331 (by decide) ?_
        refine xj_lv [1, 2, 3, 0] rfl ?_
        exact ih w2 p1 p2 (p3 + (7 : Int32)) cl sl (by omega) (by omega) hf
      refine xb_case hf (fun hx hf => ?_) (fun hn20 hf => ?_)
      · obtain ⟨w2, hc, hf⟩ := xm_bind hf
        refine xj_tableIn (tgt := 1259) hC (1226) dL_law_33 hx (by decide) (by decide) (by decide) (by decide) ?_
        refine lLc_20 hC hX hbl hbb (by omega) (by omega) hc ?_
        refine xj_iinc (v := (p3 + (7 : Int32))) (lv' := [(3, xI (p3 + (7 : Int32))), (0, xS ba), (1, xR p1), (2, xR p2)]) hC dL_law_1328 3 rfl rfl (by decide) rfl ?_
        refine xj_goto (tgt := 18) hC dL_law_1331 (by decide) ?_
        refine xj_lv [1, 2, 3, 0] rfl ?_
        exact ih w2 p1 p2 (p3 + (7 : Int32)) cl sl (by omega) (by omega) hf
      refine xb_case hf (fun hx hf => ?_) (fun hn21 hf => ?_)
      · obtain ⟨w2, hc, hf⟩ := xm_bind hf
        refine xj_tableIn (tgt := 1292) hC (1259) dL_law_33 hx (by decide) (by decide) (by decide) (by decide) ?_
        refine lLc_21 hC hX hbl hbb (by omega) (by omega) hc ?_
        refine xj_iinc (v := (p3 + (7 : Int32))) (lv' := [(3, xI (p3 + (7 : Int32))), (0, xS ba), (1, xR p1), (2, xR p2)]) hC dL_law_1328 3 rfl rfl (by decide) rfl ?_
        refine xj_goto (tgt := 18) hC dL_law_1331 (by decide) ?_
        refine xj_lv [1, 2, 3, 0] rfl ?_
        exact ih w2 p1 p2 (p3 + (7 : Int32)) cl sl (by omega) (by omega) hf
      refine xb_case hf (fun hx hf => ?_) (fun hn22 hf => ?_)
      · obtain ⟨w2, hc, hf⟩ := xm_bind hf
        refine xj_tableIn (tgt := 1315) hC (1282) dL_law_33 hx (by decide) (by decide) (by decide) (by decide) ?_
        refine lLc_22 hC hX hbl hbb (by omega) (by omega) hc ?_
        refine xj_iinc (v := (p3 + (7 : Int32))) (lv' := [(3, xI (p3 + (7 : Int32))), (0, xS ba), (1, xR p1), (2, xR p2)]) hC dL_law_1328 3 rfl rfl (by decide) rfl ?_
        refine xj_goto (tgt := 18) hC dL_law_1331 (by decide) ?_
        refine xj_lv [1, 2, 3, 0] rfl ?_
        exact ih w2 p1 p2 (p3 + (7 : Int32)) cl sl (by omega) (by omega) hf
      have hx0 := lv_neT hn0 (a := 0) (by decide)
      have hx1 := lv_neT hn1 (a := 1) (by decide)
      have hx2 := lv_neT hn2 (a := 2) (by decide)
      have hx3 := lv_neT hn3 (a := 3) (by decide)
      have hx4 := lv_neT hn4 (a := 4) (by decide)
      have hx5 := lv_neT hn5 (a := 5) (by decide)
      have hx6 := lv_neT hn6 (a := 6) (by decide)
      have hx7 := lv_neT hn7 (a := 7) (by decide)
      have hx8 := lv_neT hn8 (a := 8) (by decide)
      have hx9 := lv_neT hn9 (a := 9) (by decide)
      have hx10 := lv_neT hn10 (a := 10) (by decide)
      have hx11 := lv_neT hn11 (a := 11) (by decide)
      have hx12 := lv_neT hn12 (a := 12) (by decide)
      have hx13 := lv_neT hn13 (a := 13) (by decide)
      have hx14 := lv_neT hn14 (a := 14) (by decide)
      have hx15 := lv_neT hn15 (a := 15) (by decide)
      have hx16 := lv_neT hn16 (a := 16) (by decide)
      have hx17 := lv_neT hn17 (a := 17) (by decide)
      have hx18 := lv_neT hn18 (a := 18) (by decide)
      have hx19 := lv_neT hn19 (a := 19) (by decide)
      have hx20 := lv_neT hn20 (a := 20) (by decide)
      have hx21 := lv_neT hn21 (a := 21) (by decide)
      have hx22 := lv_neT hn22 (a := 22) (by decide)
      refine xj_tableOut (tgt := 1328) hC dL_law_33 (by omega) (by decide) ?_
      refine xj_iinc (v := (p3 + (7 : Int32))) (lv' := [(3, xI (p3 + (7 : Int32))), (0, xS ba), (1, xR p1), (2, xR p2)]) hC dL_law_1328 3 rfl rfl (by decide) rfl ?_
      refine xj_goto (tgt := 18) hC dL_law_1331 (by decide) ?_
      refine xj_lv [1, 2, 3, 0] rfl ?_
      exact ih w p1 p2 (p3 + (7 : Int32)) cl sl (by omega) (by omega) hf
def fL_law (xs : Nat → Int32) (Ln : Nat) : Option Unit := ((xmnew ([] : xmW) 4 [xR none, xI 0, xR none, xR none, xR none, xR none, xI 0, xR none, xI 0, xI 0, xI 0]).bind fun w135 => ((fX4_init w135 ((some ([] : xmW).length)) ).bind fun w137 => ((xmnew w137 5 [xI 0, xR none, xR none, xR none, xR none, xR none, xR none, xR none, xR none, xR none, xI 0, xI 0, xI 0, xI 0, xI 0, xI 0, xI 0, xI 0, xI 0, xI 0, xI 0, xL 0, xL 0, xI 0, xL 0, xR none]).bind fun w138 => ((fX5_init w138 ((some w137.length)) ).bind fun w140 => (fL_loop xs Ln xmN w140 (some ([] : xmW).length) (some w137.length) (0 : Int32))))))
set_option maxHeartbeats 4000000 in
set_option maxRecDepth 100000 in
theorem lL_start {p : Program} {l : Launch} {e : Env} {s : State} {m : MethodId} {below : List Frame} {meth : Method} {c : Code} {D : va_G} {ks : Nat → ClassId} {b ba Ln : Nat} {xs : Nat → Int32} (hC : xmC p s m #[Value.ref ba] meth c D ks b 4 cL_law RL) (hX : va_X ba Ln xs s s.heap) (hbl : ba < s.heap.size) (hbb : b = s.heap.size) (hr : meth.sig.returnType = ret) (hf : fL_law xs Ln = some ()) : xmJ p l e room_1 s m #[Value.ref ba] below meth c D ks b 4 (lw_Z below #[Value.ref ba] s) ([] : xmW) 0 0 0 [(0, xS ba)] [] := by
  unfold fL_law at hf
  refine xb_new hC 4 xcl_4 xw_cl_L_7 xw_inst_X4 xw_ini_X4 xdf_4 (by decide) (by decide) dL_law_0 hf (fun w135 hf => ?_)
  refine xj_dup hC dL_law_3 rfl ?_
  obtain ⟨w137, hc136, hf⟩ := xm_bind hf
  refine xj_retvM (xr_I hC (mX4_init l D ks b hc136) rfl xw_cod_X4_init xw_ini_X4 xw_ins_X4_init xw_ml_L_9 xds_X4_init ⟨Nat.le_of_ble_eq_true rfl, Nat.le_of_ble_eq_true rfl⟩ rfl rfl (Nat.le_of_ble_eq_true rfl) ⟨Nat.le_of_ble_eq_true rfl, Nat.le_of_ble_eq_true rfl⟩ dL_law_4) ?_
  refine xj_astore_n (lv' := [(1, xR (some ([] : xmW).length)), (0, xS ba)]) hC dL_law_7 rfl (by decide) rfl ?_
  refine xb_new hC 5 xcl_5 xw_cl_L_10 xw_inst_X5 xw_ini_X5 xdf_5 (by decide) (by decide) dL_law_8 hf (fun w138 hf => ?_)
  refine xj_dup hC dL_law_11 rfl ?_
  obtain ⟨w140, hc139, hf⟩ := xm_bind hf
  refine xj_retvM (xr_I hC (mX5_init l D ks b hc139) rfl xw_cod_X5_init xw_ini_X5 xw_ins_X5_init xw_ml_L_12 xds_X5_init ⟨Nat.le_of_ble_eq_true rfl, Nat.le_of_ble_eq_true rfl⟩ rfl rfl (Nat.le_of_ble_eq_true rfl) ⟨Nat.le_of_ble_eq_true rfl, Nat.le_of_ble_eq_true rfl⟩ dL_law_12) ?_
  refine xj_astore_n (lv' := [(2, xR (some w137.length)), (1, xR (some ([] : xmW).length)), (0, xS ba)]) hC dL_law_15 rfl (by decide) rfl ?_
  refine xj_iconst (v := 0) hC dL_law_16 (by decide) ?_
  refine xj_istore_n (lv' := [(3, xI (0 : Int32)), (2, xR (some w137.length)), (1, xR (some ([] : xmW).length)), (0, xS ba)]) hC dL_law_17 rfl (by decide) rfl ?_
  refine xj_lv [3, 2, 1, 0] rfl ?_
  exact lL_loop hC hX hbl hbb hr xmN w140 (some ([] : xmW).length) (some w137.length) 0 _ _ (by decide) (by decide) hf
