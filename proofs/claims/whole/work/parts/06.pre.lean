/-! what the printed rows stand on -/
def xmN : Nat := 4000
def xmb2 {α β : Type} (x : Option (α × xmW)) (f : α → xmW → Option β) : Option β := match x with
  | some (a, w) => f a w
  | none => none
theorem xm_b2 {α β : Type} {x : Option (α × xmW)} {f : α → xmW → Option β} {z : β} (h : xmb2 x f = some z) : ∃ a w, x = some (a, w) ∧ f a w = some z := by
  cases x with
  | none => cases h
  | some q => exact ⟨q.1, q.2, rfl, h⟩
theorem xm_ift {c : Prop} [Decidable c] {α : Type} {A : Option α} {z : α} (h : (if c then A else none) = some z) : c ∧ A = some z := by
  by_cases hc : c
  · rw [if_pos hc] at h; exact ⟨hc, h⟩
  · rw [if_neg hc] at h; cases h
theorem xm_ifn {c : Prop} [Decidable c] {α : Type} {A : Option α} {z : α} (h : (if c then none else A) = some z) : ¬ c ∧ A = some z := by
  by_cases hc : c
  · rw [if_pos hc] at h; cases h
  · rw [if_neg hc] at h; exact ⟨hc, h⟩
def xmpick (lv : List (Nat × xmV)) (ks : List Nat) : List (Nat × xmV) := ks.filterMap (fun k => lv[k]?)
theorem xmpick_lv (b : Nat) (lv : List (Nat × xmV)) (ks : List Nat) : lv_pick (xmlv b lv) ks = xmlv b (xmpick lv ks) := by
  unfold lv_pick xmpick xmlv
  induction ks with
  | nil => rfl
  | cons k ks ih =>
    rw [List.filterMap_cons, List.filterMap_cons, List.getElem?_map]
    cases hk : lv[k]? with
    | none => exact ih
    | some q => exact congrArg (fun z => (q.1, xmcv b q.2) :: z) ih
theorem xj_lv {p : Program} {l : Launch} {e : Env} {R : Room} {s : State} {m : MethodId} {args : Array Value} {below : List Frame} {meth : Method} {c : Code} {D : va_G} {ks : Nat → ClassId} {b nL : Nat} {Q : State → Prop} {w : xmW} {cells slots pc : Nat} {lv lv' : List (Nat × xmV)} {st : List xmV} (js : List Nat) (h : xmpick lv js = lv') (kk : xmJ p l e R s m args below meth c D ks b nL Q w cells slots pc lv' st) : xmJ p l e R s m args below meth c D ks b nL Q w cells slots pc lv st := by
  intro H locs ls hP hS hl
  subst h
  exact kk H locs ls hP hS (lv_sub hl js (xmpick_lv b lv js))
theorem xcl_0 : xmCL 0 RX0 TX0 1 tyX0 := ⟨rfl, xin_0, tyX0_ok, nmX0⟩
theorem xdf_0 : ∀ b j, j < 1 → defaultValue (tyX0 j) = vp_V (([xR none] : List xmV).map (xmcv b)) j := by
  intro b j hj
  match j, hj with
  | 0, _ => rfl
  | k + 1, h => exact absurd h (by omega)
theorem xcl_1 : xmCL 1 RX1 TX1 7 tyX1 := ⟨rfl, xin_1, tyX1_ok, nmX1⟩
theorem xdf_1 : ∀ b j, j < 7 → defaultValue (tyX1 j) = vp_V (([xI 0, xI 0, xI 0, xI 0, xI 0, xI 0, xI 0] : List xmV).map (xmcv b)) j := by
  intro b j hj
  match j, hj with
  | 0, _ => rfl
  | 1, _ => rfl
  | 2, _ => rfl
  | 3, _ => rfl
  | 4, _ => rfl
  | 5, _ => rfl
  | 6, _ => rfl
  | k + 7, h => exact absurd h (by omega)
theorem xcl_2 : xmCL 2 RX2 TX2 3 tyX2 := ⟨rfl, xin_2, tyX2_ok, nmX2⟩
theorem xdf_2 : ∀ b j, j < 3 → defaultValue (tyX2 j) = vp_V (([xR none, xI 0, xR none] : List xmV).map (xmcv b)) j := by
  intro b j hj
  match j, hj with
  | 0, _ => rfl
  | 1, _ => rfl
  | 2, _ => rfl
  | k + 3, h => exact absurd h (by omega)
theorem xcl_3 : xmCL 3 RX3 TX3 3 tyX3 := ⟨rfl, xin_3, tyX3_ok, nmX3⟩
theorem xdf_3 : ∀ b j, j < 3 → defaultValue (tyX3 j) = vp_V (([xI 0, xI 0, xI 0] : List xmV).map (xmcv b)) j := by
  intro b j hj
  match j, hj with
  | 0, _ => rfl
  | 1, _ => rfl
  | 2, _ => rfl
  | k + 3, h => exact absurd h (by omega)
theorem xcl_4 : xmCL 4 RX4 TX4 11 tyX4 := ⟨rfl, xin_4, tyX4_ok, nmX4⟩
theorem xdf_4 : ∀ b j, j < 11 → defaultValue (tyX4 j) = vp_V (([xR none, xI 0, xR none, xR none, xR none, xR none, xI 0, xR none, xI 0, xI 0, xI 0] : List xmV).map (xmcv b)) j := by
  intro b j hj
  match j, hj with
  | 0, _ => rfl
  | 1, _ => rfl
  | 2, _ => rfl
  | 3, _ => rfl
  | 4, _ => rfl
  | 5, _ => rfl
  | 6, _ => rfl
  | 7, _ => rfl
  | 8, _ => rfl
  | 9, _ => rfl
  | 10, _ => rfl
  | k + 11, h => exact absurd h (by omega)
theorem xcl_5 : xmCL 5 RX5 TX5 26 tyX5 := ⟨rfl, xin_5, tyX5_ok, nmX5⟩
theorem xdf_5 : ∀ b j, j < 26 → defaultValue (tyX5 j) = vp_V (([xI 0, xR none, xR none, xR none, xR none, xR none, xR none, xR none, xR none, xR none, xI 0, xI 0, xI 0, xI 0, xI 0, xI 0, xI 0, xI 0, xI 0, xI 0, xI 0, xL 0, xL 0, xI 0, xL 0, xR none] : List xmV).map (xmcv b)) j := by
  intro b j hj
  match j, hj with
  | 0, _ => rfl
  | 1, _ => rfl
  | 2, _ => rfl
  | 3, _ => rfl
  | 4, _ => rfl
  | 5, _ => rfl
  | 6, _ => rfl
  | 7, _ => rfl
  | 8, _ => rfl
  | 9, _ => rfl
  | 10, _ => rfl
  | 11, _ => rfl
  | 12, _ => rfl
  | 13, _ => rfl
  | 14, _ => rfl
  | 15, _ => rfl
  | 16, _ => rfl
  | 17, _ => rfl
  | 18, _ => rfl
  | 19, _ => rfl
  | 20, _ => rfl
  | 21, _ => rfl
  | 22, _ => rfl
  | 23, _ => rfl
  | 24, _ => rfl
  | 25, _ => rfl
  | k + 26, h => exact absurd h (by omega)
theorem xds_X3_init : xmDs yX3_init 0 := ⟨by decide +kernel, by decide +kernel, by decide +kernel⟩
theorem xds_X0_init : xmDs yX0_init 0 := ⟨by decide +kernel, by decide +kernel, by decide +kernel⟩
theorem xds_X1_noneCode : xmDs yX1_noneCode 0 := ⟨by decide +kernel, by decide +kernel, by decide +kernel⟩
theorem xds_X0_invalid : xmDs yX0_invalid 1 := ⟨by decide +kernel, by decide +kernel, by decide +kernel⟩
theorem xds_J13_compare_74951 : xmDs yJ13_compare_74951 2 := ⟨by decide +kernel, by decide +kernel, by decide +kernel⟩
theorem xds_X0_goesOut : xmDs yX0_goesOut 5 := ⟨by decide +kernel, by decide +kernel, by decide +kernel⟩
theorem xds_X1_unitsOfMagnitude : xmDs yX1_unitsOfMagnitude 1 := ⟨by decide +kernel, by decide +kernel, by decide +kernel⟩
theorem xds_X0_greatestUpTo : xmDs yX0_greatestUpTo 3 := ⟨by decide +kernel, by decide +kernel, by decide +kernel⟩
theorem xds_X1_withSign : xmDs yX1_withSign 2 := ⟨by decide +kernel, by decide +kernel, by decide +kernel⟩
theorem xds_X1_beyond : xmDs yX1_beyond 1 := ⟨by decide +kernel, by decide +kernel, by decide +kernel⟩
theorem xds_X1_twiceMiddleAbove : xmDs yX1_twiceMiddleAbove 1 := ⟨by decide +kernel, by decide +kernel, by decide +kernel⟩
theorem xds_X0_rounded : xmDs yX0_rounded 5 := ⟨by decide +kernel, by decide +kernel, by decide +kernel⟩
theorem xds_X1_scale : xmDs yX1_scale 0 := ⟨by decide +kernel, by decide +kernel, by decide +kernel⟩
theorem xds_X0_fraction : xmDs yX0_fraction 4 := ⟨by decide +kernel, by decide +kernel, by decide +kernel⟩
theorem xds_X1_isMinus : xmDs yX1_isMinus 1 := ⟨by decide +kernel, by decide +kernel, by decide +kernel⟩
theorem xds_X1_magnitude : xmDs yX1_magnitude 1 := ⟨by decide +kernel, by decide +kernel, by decide +kernel⟩
theorem xds_X1_sizeOf : xmDs yX1_sizeOf 1 := ⟨by decide +kernel, by decide +kernel, by decide +kernel⟩
theorem xds_X0_crossed : xmDs yX0_crossed 4 := ⟨by decide +kernel, by decide +kernel, by decide +kernel⟩
theorem xds_X0_endlessOfSum : xmDs yX0_endlessOfSum 5 := ⟨by decide +kernel, by decide +kernel, by decide +kernel⟩
theorem xds_X0_signed : xmDs yX0_signed 2 := ⟨by decide +kernel, by decide +kernel, by decide +kernel⟩
theorem xds_X0_added : xmDs yX0_added 5 := ⟨by decide +kernel, by decide +kernel, by decide +kernel⟩
theorem xds_X0_divided : xmDs yX0_divided 4 := ⟨by decide +kernel, by decide +kernel, by decide +kernel⟩
theorem xds_X1_sizeOfProduct : xmDs yX1_sizeOfProduct 2 := ⟨by decide +kernel, by decide +kernel, by decide +kernel⟩
theorem xds_X0_multiplied : xmDs yX0_multiplied 4 := ⟨by decide +kernel, by decide +kernel, by decide +kernel⟩
theorem xds_X0_wholeRoot : xmDs yX0_wholeRoot 1 := ⟨by decide +kernel, by decide +kernel, by decide +kernel⟩
theorem xds_X0_rootOf : xmDs yX0_rootOf 3 := ⟨by decide +kernel, by decide +kernel, by decide +kernel⟩
theorem xds_X1_rank : xmDs yX1_rank 1 := ⟨by decide +kernel, by decide +kernel, by decide +kernel⟩
theorem xds_X1_greater : xmDs yX1_greater 2 := ⟨by decide +kernel, by decide +kernel, by decide +kernel⟩
theorem xds_X1_isEndless : xmDs yX1_isEndless 1 := ⟨by decide +kernel, by decide +kernel, by decide +kernel⟩
theorem xds_X1_isNumber : xmDs yX1_isNumber 1 := ⟨by decide +kernel, by decide +kernel, by decide +kernel⟩
theorem xds_X1_isNone : xmDs yX1_isNone 1 := ⟨by decide +kernel, by decide +kernel, by decide +kernel⟩
theorem xds_X1_lesser : xmDs yX1_lesser 2 := ⟨by decide +kernel, by decide +kernel, by decide +kernel⟩
theorem xds_X0_acted : xmDs yX0_acted 5 := ⟨by decide +kernel, by decide +kernel, by decide +kernel⟩
theorem xds_X0_fusedOf : xmDs yX0_fusedOf 5 := ⟨by decide +kernel, by decide +kernel, by decide +kernel⟩
theorem xds_X0_termCount : xmDs yX0_termCount 2 := ⟨by decide +kernel, by decide +kernel, by decide +kernel⟩
theorem xds_X2_codeAt : xmDs yX2_codeAt 1 := ⟨by decide +kernel, by decide +kernel, by decide +kernel⟩
theorem xds_X0_exactTotal : xmDs yX0_exactTotal 3 := ⟨by decide +kernel, by decide +kernel, by decide +kernel⟩
theorem xds_X0_stepwiseTotal : xmDs yX0_stepwiseTotal 3 := ⟨by decide +kernel, by decide +kernel, by decide +kernel⟩
theorem xds_X1_init : xmDs yX1_init 6 := ⟨by decide +kernel, by decide +kernel, by decide +kernel⟩
theorem xds_X1_isAlike : xmDs yX1_isAlike 1 := ⟨by decide +kernel, by decide +kernel, by decide +kernel⟩
theorem xds_X1_bits : xmDs yX1_bits 0 := ⟨by decide +kernel, by decide +kernel, by decide +kernel⟩
theorem xds_X1_hasCode : xmDs yX1_hasCode 1 := ⟨by decide +kernel, by decide +kernel, by decide +kernel⟩
theorem xds_X1_kindOf : xmDs yX1_kindOf 1 := ⟨by decide +kernel, by decide +kernel, by decide +kernel⟩
theorem xds_X1_unitsOf : xmDs yX1_unitsOf 1 := ⟨by decide +kernel, by decide +kernel, by decide +kernel⟩
theorem xds_X1_neighbour : xmDs yX1_neighbour 2 := ⟨by decide +kernel, by decide +kernel, by decide +kernel⟩
theorem xds_X1_magnitudesUpTo : xmDs yX1_magnitudesUpTo 1 := ⟨by decide +kernel, by decide +kernel, by decide +kernel⟩
theorem xds_X1_numbersBetween : xmDs yX1_numbersBetween 2 := ⟨by decide +kernel, by decide +kernel, by decide +kernel⟩
theorem xds_X2_init : xmDs yX2_init 0 := ⟨by decide +kernel, by decide +kernel, by decide +kernel⟩
theorem xds_X2_become : xmDs yX2_become 2 := ⟨by decide +kernel, by decide +kernel, by decide +kernel⟩
theorem xds_X2_hasPlace : xmDs yX2_hasPlace 1 := ⟨by decide +kernel, by decide +kernel, by decide +kernel⟩
theorem xds_X2_setCode : xmDs yX2_setCode 2 := ⟨by decide +kernel, by decide +kernel, by decide +kernel⟩
theorem xds_X2_byteCount : xmDs yX2_byteCount 0 := ⟨by decide +kernel, by decide +kernel, by decide +kernel⟩
theorem xds_X2_byteAt : xmDs yX2_byteAt 1 := ⟨by decide +kernel, by decide +kernel, by decide +kernel⟩
theorem xds_X2_areNumbers : xmDs yX2_areNumbers 2 := ⟨by decide +kernel, by decide +kernel, by decide +kernel⟩
theorem xds_X2_distance : xmDs yX2_distance 2 := ⟨by decide +kernel, by decide +kernel, by decide +kernel⟩
theorem xds_X2_worstPlace : xmDs yX2_worstPlace 1 := ⟨by decide +kernel, by decide +kernel, by decide +kernel⟩
theorem xds_X2_differences : xmDs yX2_differences 1 := ⟨by decide +kernel, by decide +kernel, by decide +kernel⟩
theorem xds_X2_noNumbers : xmDs yX2_noNumbers 1 := ⟨by decide +kernel, by decide +kernel, by decide +kernel⟩
theorem xds_X3_clear : xmDs yX3_clear 0 := ⟨by decide +kernel, by decide +kernel, by decide +kernel⟩
theorem xds_X3_add : xmDs yX3_add 1 := ⟨by decide +kernel, by decide +kernel, by decide +kernel⟩
theorem xds_X4_init : xmDs yX4_init 0 := ⟨by decide +kernel, by decide +kernel, by decide +kernel⟩
theorem xds_X4_answered : xmDs yX4_answered 1 := ⟨by decide +kernel, by decide +kernel, by decide +kernel⟩
theorem xds_X4_within : xmDs yX4_within 3 := ⟨by decide +kernel, by decide +kernel, by decide +kernel⟩
theorem xds_X4_formatAt : xmDs yX4_formatAt 1 := ⟨by decide +kernel, by decide +kernel, by decide +kernel⟩
theorem xds_X4_refused : xmDs yX4_refused 1 := ⟨by decide +kernel, by decide +kernel, by decide +kernel⟩
theorem xds_X4_format : xmDs yX4_format 6 := ⟨by decide +kernel, by decide +kernel, by decide +kernel⟩
theorem xds_X4_about : xmDs yX4_about 2 := ⟨by decide +kernel, by decide +kernel, by decide +kernel⟩
theorem xds_X4_kind : xmDs yX4_kind 3 := ⟨by decide +kernel, by decide +kernel, by decide +kernel⟩
theorem xds_X4_units : xmDs yX4_units 2 := ⟨by decide +kernel, by decide +kernel, by decide +kernel⟩
theorem xds_X4_isMode : xmDs yX4_isMode 1 := ⟨by decide +kernel, by decide +kernel, by decide +kernel⟩
theorem xds_X4_settled : xmDs yX4_settled 1 := ⟨by decide +kernel, by decide +kernel, by decide +kernel⟩
theorem xds_X4_code : xmDs yX4_code 4 := ⟨by decide +kernel, by decide +kernel, by decide +kernel⟩
theorem xds_X4_cross : xmDs yX4_cross 4 := ⟨by decide +kernel, by decide +kernel, by decide +kernel⟩
theorem xds_X4_act : xmDs yX4_act 5 := ⟨by decide +kernel, by decide +kernel, by decide +kernel⟩
theorem xds_X4_fused : xmDs yX4_fused 5 := ⟨by decide +kernel, by decide +kernel, by decide +kernel⟩
theorem xds_X4_next : xmDs yX4_next 3 := ⟨by decide +kernel, by decide +kernel, by decide +kernel⟩
theorem xds_J6_compare_7cf53 : xmDs yJ6_compare_7cf53 2 := ⟨by decide +kernel, by decide +kernel, by decide +kernel⟩
theorem xds_X4_order : xmDs yX4_order 3 := ⟨by decide +kernel, by decide +kernel, by decide +kernel⟩
theorem xds_X4_numbers : xmDs yX4_numbers 3 := ⟨by decide +kernel, by decide +kernel, by decide +kernel⟩
theorem xds_X4_row : xmDs yX4_row 3 := ⟨by decide +kernel, by decide +kernel, by decide +kernel⟩
theorem xds_X4_rowAt : xmDs yX4_rowAt 1 := ⟨by decide +kernel, by decide +kernel, by decide +kernel⟩
theorem xds_X4_put : xmDs yX4_put 3 := ⟨by decide +kernel, by decide +kernel, by decide +kernel⟩
theorem xds_X4_at : xmDs yX4_at 2 := ⟨by decide +kernel, by decide +kernel, by decide +kernel⟩
theorem xds_X4_packed : xmDs yX4_packed 2 := ⟨by decide +kernel, by decide +kernel, by decide +kernel⟩
theorem xds_X4_quantise : xmDs yX4_quantise 4 := ⟨by decide +kernel, by decide +kernel, by decide +kernel⟩
theorem xds_X4_worst : xmDs yX4_worst 3 := ⟨by decide +kernel, by decide +kernel, by decide +kernel⟩
theorem xds_X4_sum : xmDs yX4_sum 3 := ⟨by decide +kernel, by decide +kernel, by decide +kernel⟩
theorem xds_X4_dot : xmDs yX4_dot 4 := ⟨by decide +kernel, by decide +kernel, by decide +kernel⟩
theorem xds_X4_table : xmDs yX4_table 3 := ⟨by decide +kernel, by decide +kernel, by decide +kernel⟩
theorem xds_X4_lookup : xmDs yX4_lookup 2 := ⟨by decide +kernel, by decide +kernel, by decide +kernel⟩
theorem xds_X4_count : xmDs yX4_count 1 := ⟨by decide +kernel, by decide +kernel, by decide +kernel⟩
theorem xds_X4_told : xmDs yX4_told 0 := ⟨by decide +kernel, by decide +kernel, by decide +kernel⟩
theorem xds_X5_init : xmDs yX5_init 0 := ⟨by decide +kernel, by decide +kernel, by decide +kernel⟩
theorem xds_X5_in : xmDs yX5_in 3 := ⟨by decide +kernel, by decide +kernel, by decide +kernel⟩
theorem xds_X5_refused : xmDs yX5_refused 1 := ⟨by decide +kernel, by decide +kernel, by decide +kernel⟩
theorem xds_X5_fine : xmDs yX5_fine 1 := ⟨by decide +kernel, by decide +kernel, by decide +kernel⟩
theorem xds_X5_begins : xmDs yX5_begins 0 := ⟨by decide +kernel, by decide +kernel, by decide +kernel⟩
theorem xds_X5_ends : xmDs yX5_ends 1 := ⟨by decide +kernel, by decide +kernel, by decide +kernel⟩
theorem xds_X5_isFormat : xmDs yX5_isFormat 1 := ⟨by decide +kernel, by decide +kernel, by decide +kernel⟩
theorem xds_X5_bits : xmDs yX5_bits 1 := ⟨by decide +kernel, by decide +kernel, by decide +kernel⟩
theorem xds_X5_isCode : xmDs yX5_isCode 2 := ⟨by decide +kernel, by decide +kernel, by decide +kernel⟩
theorem xds_X5_signBit : xmDs yX5_signBit 1 := ⟨by decide +kernel, by decide +kernel, by decide +kernel⟩
theorem xds_X5_isMinus : xmDs yX5_isMinus 2 := ⟨by decide +kernel, by decide +kernel, by decide +kernel⟩
theorem xds_X5_plain : xmDs yX5_plain 2 := ⟨by decide +kernel, by decide +kernel, by decide +kernel⟩
theorem xds_X5_signed : xmDs yX5_signed 3 := ⟨by decide +kernel, by decide +kernel, by decide +kernel⟩
theorem xds_X5_allOnes : xmDs yX5_allOnes 1 := ⟨by decide +kernel, by decide +kernel, by decide +kernel⟩
theorem xds_X5_kindOf : xmDs yX5_kindOf 2 := ⟨by decide +kernel, by decide +kernel, by decide +kernel⟩
theorem xds_X5_isNumber : xmDs yX5_isNumber 2 := ⟨by decide +kernel, by decide +kernel, by decide +kernel⟩
theorem xds_X5_size : xmDs yX5_size 2 := ⟨by decide +kernel, by decide +kernel, by decide +kernel⟩
theorem xds_X5_unitsOf : xmDs yX5_unitsOf 2 := ⟨by decide +kernel, by decide +kernel, by decide +kernel⟩
theorem xds_X5_great : xmDs yX5_great 1 := ⟨by decide +kernel, by decide +kernel, by decide +kernel⟩
theorem xds_X5_last : xmDs yX5_last 1 := ⟨by decide +kernel, by decide +kernel, by decide +kernel⟩
theorem xds_X5_noneOf : xmDs yX5_noneOf 1 := ⟨by decide +kernel, by decide +kernel, by decide +kernel⟩
theorem xds_X5_endless : xmDs yX5_endless 1 := ⟨by decide +kernel, by decide +kernel, by decide +kernel⟩
theorem xds_X5_scale : xmDs yX5_scale 1 := ⟨by decide +kernel, by decide +kernel, by decide +kernel⟩
theorem xds_X5_format : xmDs yX5_format 6 := ⟨by decide +kernel, by decide +kernel, by decide +kernel⟩
theorem xds_X5_about : xmDs yX5_about 2 := ⟨by decide +kernel, by decide +kernel, by decide +kernel⟩
theorem xds_X5_kind : xmDs yX5_kind 3 := ⟨by decide +kernel, by decide +kernel, by decide +kernel⟩
theorem xds_X5_units : xmDs yX5_units 2 := ⟨by decide +kernel, by decide +kernel, by decide +kernel⟩
theorem xds_X5_twiceBeside : xmDs yX5_twiceBeside 1 := ⟨by decide +kernel, by decide +kernel, by decide +kernel⟩
theorem xds_X5_beyond : xmDs yX5_beyond 2 := ⟨by decide +kernel, by decide +kernel, by decide +kernel⟩
theorem xds_X5_roundedAbove : xmDs yX5_roundedAbove 3 := ⟨by decide +kernel, by decide +kernel, by decide +kernel⟩
theorem xds_X5_rounded : xmDs yX5_rounded 3 := ⟨by decide +kernel, by decide +kernel, by decide +kernel⟩
theorem xds_X5_roundedFraction : xmDs yX5_roundedFraction 5 := ⟨by decide +kernel, by decide +kernel, by decide +kernel⟩
theorem xds_X5_code : xmDs yX5_code 4 := ⟨by decide +kernel, by decide +kernel, by decide +kernel⟩
theorem xds_X5_invalidIn : xmDs yX5_invalidIn 1 := ⟨by decide +kernel, by decide +kernel, by decide +kernel⟩
theorem xds_X5_crossed : xmDs yX5_crossed 4 := ⟨by decide +kernel, by decide +kernel, by decide +kernel⟩
theorem xds_X5_cross : xmDs yX5_cross 4 := ⟨by decide +kernel, by decide +kernel, by decide +kernel⟩
theorem xds_X5_beside : xmDs yX5_beside 3 := ⟨by decide +kernel, by decide +kernel, by decide +kernel⟩
theorem xds_X5_lesser : xmDs yX5_lesser 4 := ⟨by decide +kernel, by decide +kernel, by decide +kernel⟩
theorem xds_X5_endlessOr : xmDs yX5_endlessOr 2 := ⟨by decide +kernel, by decide +kernel, by decide +kernel⟩
theorem xds_X5_isEndless : xmDs yX5_isEndless 2 := ⟨by decide +kernel, by decide +kernel, by decide +kernel⟩
theorem xds_X5_endlessSum : xmDs yX5_endlessSum 4 := ⟨by decide +kernel, by decide +kernel, by decide +kernel⟩
theorem xds_X5_summed : xmDs yX5_summed 5 := ⟨by decide +kernel, by decide +kernel, by decide +kernel⟩
theorem xds_X5_multiplied : xmDs yX5_multiplied 4 := ⟨by decide +kernel, by decide +kernel, by decide +kernel⟩
theorem xds_X5_divided : xmDs yX5_divided 4 := ⟨by decide +kernel, by decide +kernel, by decide +kernel⟩
theorem xds_X5_rooted : xmDs yX5_rooted 3 := ⟨by decide +kernel, by decide +kernel, by decide +kernel⟩
theorem xds_X5_acted : xmDs yX5_acted 5 := ⟨by decide +kernel, by decide +kernel, by decide +kernel⟩
theorem xds_X5_act : xmDs yX5_act 5 := ⟨by decide +kernel, by decide +kernel, by decide +kernel⟩
theorem xds_X5_comesNone : xmDs yX5_comesNone 2 := ⟨by decide +kernel, by decide +kernel, by decide +kernel⟩
theorem xds_X5_comesEndless : xmDs yX5_comesEndless 2 := ⟨by decide +kernel, by decide +kernel, by decide +kernel⟩
theorem xds_X5_comes : xmDs yX5_comes 3 := ⟨by decide +kernel, by decide +kernel, by decide +kernel⟩
theorem xds_X5_comesProduct : xmDs yX5_comesProduct 3 := ⟨by decide +kernel, by decide +kernel, by decide +kernel⟩
theorem xds_X5_whatCame : xmDs yX5_whatCame 4 := ⟨by decide +kernel, by decide +kernel, by decide +kernel⟩
theorem xds_X5_fused : xmDs yX5_fused 5 := ⟨by decide +kernel, by decide +kernel, by decide +kernel⟩
theorem xds_X5_next : xmDs yX5_next 3 := ⟨by decide +kernel, by decide +kernel, by decide +kernel⟩
theorem xds_X5_order : xmDs yX5_order 3 := ⟨by decide +kernel, by decide +kernel, by decide +kernel⟩
theorem xds_X5_numbers : xmDs yX5_numbers 3 := ⟨by decide +kernel, by decide +kernel, by decide +kernel⟩
theorem xds_X5_isRow : xmDs yX5_isRow 1 := ⟨by decide +kernel, by decide +kernel, by decide +kernel⟩
theorem xds_X5_row : xmDs yX5_row 3 := ⟨by decide +kernel, by decide +kernel, by decide +kernel⟩
theorem xds_X5_put : xmDs yX5_put 3 := ⟨by decide +kernel, by decide +kernel, by decide +kernel⟩
theorem xds_X5_at : xmDs yX5_at 2 := ⟨by decide +kernel, by decide +kernel, by decide +kernel⟩
theorem xds_X5_packed : xmDs yX5_packed 2 := ⟨by decide +kernel, by decide +kernel, by decide +kernel⟩
theorem xds_X5_quantise : xmDs yX5_quantise 4 := ⟨by decide +kernel, by decide +kernel, by decide +kernel⟩
theorem xds_X5_worst : xmDs yX5_worst 3 := ⟨by decide +kernel, by decide +kernel, by decide +kernel⟩
theorem xds_X5_sum : xmDs yX5_sum 3 := ⟨by decide +kernel, by decide +kernel, by decide +kernel⟩
theorem xds_X5_dot : xmDs yX5_dot 4 := ⟨by decide +kernel, by decide +kernel, by decide +kernel⟩
theorem xds_X5_table : xmDs yX5_table 3 := ⟨by decide +kernel, by decide +kernel, by decide +kernel⟩
theorem xds_X5_lookup : xmDs yX5_lookup 2 := ⟨by decide +kernel, by decide +kernel, by decide +kernel⟩
theorem xds_X5_count : xmDs yX5_count 1 := ⟨by decide +kernel, by decide +kernel, by decide +kernel⟩
theorem xds_X5_told : xmDs yX5_told 0 := ⟨by decide +kernel, by decide +kernel, by decide +kernel⟩
