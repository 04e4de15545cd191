/-! ACTS, the reference's side, II -/
theorem no_nc {F : FM} (hv : VF F) {c : Nat} (hc : isNo F c = true) : nc F ≠ none := by
  unfold isNo isNu isEn at hc
  have hmg := mg_lt F c
  unfold nc
  by_cases t1 : fT F = 1
  · rw [if_pos t1]; simp
  · rw [if_neg t1]
    have hT := hv.2.2.2.2.2.1
    by_cases t0 : fT F = 0
    · by_cases f0 : fF F = 0
      · exfalso
        obtain ⟨g1, g2⟩ := gr_top0 hv t0
        rw [f0, Nat.pow_zero, Nat.mul_one] at g1 g2
        simp only [t0, decide_true, Bool.true_and, Bool.and_eq_true, Bool.not_eq_true', decide_eq_false_iff_not] at hc
        have : 0 < 2 ^ fE F := Nat.two_pow_pos _
        omega
      · rw [if_pos ⟨t0, by omega⟩]; simp
    · exfalso
      have hgr : gr F = fP F - 1 := by unfold gr; rw [if_neg t0, if_neg t1]
      simp only [t0, decide_false, Bool.false_and, Bool.not_false, Bool.and_true, Bool.not_eq_true', decide_eq_false_iff_not] at hc
      omega
theorem rv_no {F : FM} (hv : VF F) {c : Nat} (hc : isNo F c = true) : rv (nc F, 0, 0, 0) = ncI F := by
  have hnn := no_nc hv hc
  unfold rv ncI
  cases h : nc F with
  | none => exact absurd h hnn
  | some c => rfl
theorem kd_no {F : FM} (c : Nat) : (kd F c = 4) ↔ isNo F c = true := by
  unfold kd
  cases isNo F c with
  | true => simp
  | false =>
    simp only [Bool.false_eq_true, if_false, iff_false]
    split
    · omega
    · split
      · omega
      · split <;> omega
/-- of a code its height: its units, or, ENDLESS, more than any -/
def ezn (F : FM) (c : Nat) : Nat := if isEn F c = true then 1099511627776 else fM F (mg F c)
def ez (F : FM) (c : Nat) : Int := if ng F c = true then -(ezn F c : Int) else (ezn F c : Int)
theorem en_mg {F : FM} {c : Nat} (h : isEn F c = true) : mg F c = gr F + 1 := by
  unfold isEn at h
  simp only [Bool.and_eq_true, decide_eq_true_eq] at h
  exact h.2
theorem nu_mg {F : FM} {c : Nat} (h1 : isNo F c = false) (h2 : isEn F c = false) : mg F c ≤ gr F := by
  unfold isNo at h1; rw [h2] at h1
  cases h : isNu F c with
  | true => unfold isNu at h; exact of_decide_eq_true h
  | false => rw [h] at h1; cases h1
theorem ezn_lt {F : FM} (hv : VF F) {a b : Nat} (na : isNo F a = false) (nb : isNo F b = false) (h : mg F a < mg F b) : ezn F a < ezn F b := by
  have ha := mg_lt F a
  have hb := mg_lt F b
  have ta := fM_top hv ha
  unfold ezn
  cases h1 : isEn F a with
  | true =>
    exfalso
    have e1 := en_mg h1
    cases h2 : isEn F b with
    | true => have := en_mg h2; omega
    | false => have := nu_mg nb h2; omega
  | false =>
    cases h2 : isEn F b with
    | true => rw [if_neg (by decide), if_pos rfl]; omega
    | false => rw [if_neg (by decide), if_neg (by decide)]; exact fM_lt hv h hb
theorem ezn_eq {F : FM} {a b : Nat} (na : isNo F a = false) (nb : isNo F b = false) (h : mg F a = mg F b) : ezn F a = ezn F b := by
  unfold ezn
  cases h1 : isEn F a with
  | true =>
    cases h2 : isEn F b with
    | true => rfl
    | false => exfalso; have := nu_mg nb h2; have := en_mg h1; omega
  | false =>
    cases h2 : isEn F b with
    | true => exfalso; have := nu_mg na h1; have := en_mg h2; omega
    | false => rw [if_neg (by decide), if_neg (by decide), h]
theorem ezn_0 {F : FM} (hv : VF F) {a : Nat} : (ezn F a = 0) ↔ mg F a = 0 := by
  have ha := mg_lt F a
  unfold ezn
  cases h1 : isEn F a with
  | true => have := en_mg h1; rw [if_pos rfl]; omega
  | false =>
    rw [if_neg (by decide)]
    constructor
    · intro h
      by_cases q : mg F a = 0
      · exact q
      · have := fM_pos hv (m := mg F a) (by omega) ha; omega
    · intro h; rw [h, fM_0]
theorem ezn_r {F : FM} (hv : VF F) (a : Nat) : ezn F a ≤ 1099511627776 := by
  have ta := fM_top hv (mg_lt F a)
  unfold ezn
  split <;> omega
theorem ez_rk {F : FM} (hv : VF F) {a b : Nat} (na : isNo F a = false) (nb : isNo F b = false) : cmp3 (ez F a) (ez F b) = cmp3 (rk F a) (rk F b) := by
  have a0 := ezn_0 hv (a := a)
  have b0 := ezn_0 hv (a := b)
  have l1 := ezn_lt hv na nb
  have l2 := ezn_lt hv nb na
  have l3 := ezn_eq na nb
  have key : ((ez F a < ez F b) ↔ (rk F a < rk F b)) ∧ ((ez F a = ez F b) ↔ (rk F a = rk F b)) := by
    unfold ez rk
    rcases Nat.lt_trichotomy (mg F a) (mg F b) with h | h | h
    · have := l1 h
      cases ng F a <;> cases ng F b <;> simp <;> omega
    · have := l3 h
      cases ng F a <;> cases ng F b <;> simp <;> omega
    · have := l2 h
      cases ng F a <;> cases ng F b <;> simp <;> omega
  unfold cmp3
  simp only [key.1, key.2]
theorem code_eq {F : FM} (hv : VF F) {a b : Nat} (ha : a < 2 ^ bits F) (hb : b < 2 ^ bits F) (h1 : ng F a = ng F b) (h2 : mg F a = mg F b) : a = b := by
  rw [code_sg hv ha, code_sg hv hb, h1, h2]
section MAD
variable {x : XS} {m : MS} {fl : List xmE} {j : Nat} {F : FM}
theorem m_rooted (hM : MA m j F) (hv : VF F) {a mode : Nat} (ha : a < 2 ^ bits F) (hm : mode ≤ 5) (na : isNo F a = false) :
    MR (fX5_rooted (WB x m fl) (some 15) (nI j) (nI a) (nI mode)) x m fl (rooS F a mode) := by
  have ka := code_lt hv ha
  have hG := hM.g x fl
  have ra := siz_r hv a
  have ea := siz_en (F := F) a
  have g0 := mg0 hv a
  have ma := mg_lt F a
  have hp := hv.p
  have hsc := sc_le hv
  have hpw := pw20 hsc
  have hG1 : MG (WB x (mset m 20 1) fl) j F := (show MA (mset m 20 1) j F from hM).g x fl
  simp only [fX5_rooted, o_15, m_isMinus hG hv ha, m_isEndless hG hv (show a < 2 ^ 31 by omega), m_plain hG hv (show a < 2 ^ 31 by omega), Option.bind_some, bI_0, nI_0' (show mg F a < 2 ^ 31 by omega), g0, p_15_20, p_15_21, p_15_22, m_unitsOf hG1 hv ha, m_scale hG1]
  unfold rooS
  by_cases h0 : siz F a = 0
  · rw [if_pos h0, if_pos h0]; exact MR.ok _
  · rw [if_neg h0, if_neg h0]
    cases hn : ng F a with
    | true => rw [if_neg (by decide), if_pos rfl, xmb2_id]; exact m_invalid hM hv
    | false =>
      rw [if_pos rfl, if_neg (show ¬ (false = true) by decide)]
      cases h1 : isEn F a with
      | true => rw [if_neg (by decide), if_pos (ea.mpr h1)]; exact MR.ok _
      | false =>
        have n1 : ¬ siz F a = -1 := by rw [ea, h1]; decide
        rw [if_pos rfl, if_neg n1]
        have pa := siz_num na h1
        have ua : uz F a = siz F a := by rw [uz_sz na h1, hn]; rfl
        have hX2 : (siz F a).natAbs * 2 ^ sc F < 2097152 * 1048576 := Nat.lt_of_le_of_lt (Nat.mul_le_mul_left _ hpw) (by omega)
        have hsh : lZ (uz F a) <<< ((nI (sc F)).toInt64 &&& 63) = lZ (((siz F a).natAbs * 2 ^ sc F : Nat) : Int) := by
          rw [sl_Z _ (by omega), ua]
          congr 1
          rw [Int.natCast_mul]
          congr 1
          omega
        rw [hsh]
        generalize (siz F a).natAbs * 2 ^ sc F = X at hX2
        have hM3 : MA (mlst (mlst (mset m 20 1) 21 (lZ (X : Int))) 22 1) j F := hM
        have hC : CM (mlst (mlst (mset m 20 1) 21 (lZ (X : Int))) 22 1) (crt X) := CM_r rfl rfl (by omega)
        have hr := m_rounded (x := x) (fl := fl) hM3 hv hC (hmo_r hv X) false hm
        rw [show (0 : Int32) = bI false from rfl, hr]
        refine ⟨minc (mlst (mlst (mset m 20 1) 21 (lZ (X : Int))) 22 1) (rnd F false mode (crt X)).2.1 (rnd F false mode (crt X)).2.2 0, rfl, mDe.of rfl rfl (fun k hk => ?_)⟩
        show upd m.1 20 1 k = m.1 k
        unfold upd; rw [if_neg hk]
theorem m_ez (hM : MA m j F) (hv : VF F) {a : Nat} (ha : a < 2 ^ bits F) {β : Type} (K : Int64 → Option β) :
    ((fX5_kindOf (WB x m fl) (some 15) (nI j) (nI a)).bind fun v2 => (if v2 = (3 : Int32) then ((fX5_isMinus (WB x m fl) (some 15) (nI j) (nI a)).bind fun v6 => (if v6 = 0 then K 1099511627776 else K (-1099511627776))) else ((fX5_unitsOf (WB x m fl) (some 15) (nI j) (nI a)).bind fun v4 => K v4))) = K (lZ (ez F a)) := by
  have ka := code_lt hv ha
  have hG := hM.g x fl
  have hkd := kd_lt F a
  simp only [m_kindOf hG hv (show a < 2 ^ 31 by omega), m_isMinus hG hv ha, m_unitsOf hG hv ha, Option.bind_some, bI_0, nI_3' (show kd F a < 2 ^ 31 by omega), kd_end]
  unfold ez ezn uz
  cases h1 : isEn F a with
  | false => simp only [Bool.false_eq_true, if_false]
  | true =>
    simp only [if_true]
    cases ng F a with
    | false => simp only [Bool.false_eq_true, if_false, if_true]; rfl
    | true => simp only [Bool.true_eq_false, if_false, if_true]; rfl
theorem m_beside (hM : MA m j F) (hv : VF F) {a b : Nat} (ha : a < 2 ^ bits F) (hb : b < 2 ^ bits F) (na : isNo F a = false) (nb : isNo F b = false) :
    fX5_beside (WB x m fl) (some 15) (nI j) (nI a) (nI b) = some (iZ (cmp3 (rk F a) (rk F b))) := by
  have ra := ezn_r hv a
  have rb := ezn_r hv b
  have la : LR (ez F a) := by unfold ez LR; split <;> omega
  have lb : LR (ez F b) := by unfold ez LR; split <;> omega
  have e1 := m_ez (x := x) (fl := fl) hM hv ha (fun z => fX5_beside_L37 (WB x m fl) (some 15) (nI j) (nI b) z)
  have e2 := m_ez (x := x) (fl := fl) hM hv hb (fun z => fX5_beside_L76 (WB x m fl) (lZ (ez F a)) z)
  simp only [fX5_beside, o_15, Option.bind_some]
  refine e1.trans ?_
  show fX5_beside_L37 (WB x m fl) (some 15) (nI j) (nI b) (lZ (ez F a)) = _
  simp only [fX5_beside_L37]
  refine e2.trans ?_
  show fX5_beside_L76 (WB x m fl) (lZ (ez F a)) (lZ (ez F b)) = _
  simp only [fX5_beside_L76, lc_ge la lb, lc_le la lb]
  rw [← ez_rk hv na nb]
  unfold cmp3
  by_cases h1 : ez F a < ez F b
  · rw [if_pos h1, if_neg (by omega)]; rfl
  · rw [if_neg h1, if_pos (show ez F b ≤ ez F a by omega)]
    by_cases h2 : ez F a = ez F b
    · rw [if_pos h2, if_pos (by omega)]; rfl
    · rw [if_neg h2, if_neg (by omega)]; rfl
theorem m_lesser (hM : MA m j F) (hv : VF F) {a b : Nat} (ha : a < 2 ^ bits F) (hb : b < 2 ^ bits F) (na : isNo F a = false) (nb : isNo F b = false) (least : Bool) :
    fX5_lesser (WB x m fl) (some 15) (nI j) (nI a) (nI b) (bI least) = some (nI (if least = true then lesC F a b else grtC F a b)) := by
  have ka := code_lt hv ha
  have hG := hM.g x fl
  have ma := mg_lt F a
  have hp := hv.p
  have ceq := code_eq hv ha hb
  simp only [fX5_lesser, fX5_lesser_L56, fX5_lesser_L58, o_15, m_beside hM hv ha hb na nb, m_plain hG hv (show a < 2 ^ 31 by omega), m_isMinus hG hv ha, m_isMinus hG hv hb, Option.bind_some, nI_0' (show mg F a < 2 ^ 31 by omega), bI_eq, bI_0]
  have y1 : ¬ (iZ (-1) : Int32) = 0 := by decide
  have y2 : ¬ (iZ 1 : Int32) = 0 := by decide
  have y3 : ¬ (0 : Int32) ≤ iZ (-1) := by decide
  have y4 : (0 : Int32) ≤ iZ 1 := by decide
  have y0 : (iZ 0 : Int32) = 0 := by decide
  have b1 : ((1 : Int32) = bI least) ↔ least = true := by cases least <;> decide
  have b0 : ((0 : Int32) = bI least) ↔ least = false := by cases least <;> decide
  have q1 : ¬ (1 : Int32) = 0 := by decide
  have q2 : ¬ (-1 : Int32) = 0 := by decide
  have q3 : (0 : Int32) ≤ 1 := by decide
  have q4 : ¬ (0 : Int32) ≤ -1 := by decide
  unfold lesC grtC
  by_cases h1 : rk F a < rk F b
  · have : cmp3 (rk F a) (rk F b) = -1 := by unfold cmp3; rw [if_pos h1]
    simp only [this, if_neg y1, if_neg y3, b1, if_neg (show ¬ rk F a = rk F b by omega), if_pos h1, if_neg (show ¬ rk F b < rk F a by omega)]
    cases least <;> rfl
  · by_cases h2 : rk F a = rk F b
    · have : cmp3 (rk F a) (rk F b) = 0 := by unfold cmp3; rw [if_neg h1, if_pos h2]
      simp only [this, y0, if_true, if_pos h2]
      by_cases h3 : mg F a = 0
      · have h4 : mg F b = 0 := by
          unfold rk at h2; rw [h3] at h2
          split at h2 <;> split at h2 <;> omega
        rw [if_pos h3]
        cases hna : ng F a with
        | true =>
          cases hnb : ng F b with
          | true =>
            have e := ceq (by rw [hna, hnb]) (by rw [h3, h4])
            rw [if_pos rfl]; subst e; cases least <;> rfl
          | false =>
            rw [if_neg (show ¬ (true = false) by decide), if_neg (show ¬ (true = false) by decide), if_neg q2, if_neg q4]
            simp only [b1]
            cases least <;> rfl
        | false =>
          cases hnb : ng F b with
          | true =>
            rw [if_neg (by decide), if_pos rfl, if_neg q1, if_pos q3]
            simp only [b0]
            cases least <;> rfl
          | false =>
            have e := ceq (by rw [hna, hnb]) (by rw [h3, h4])
            rw [if_pos rfl]; subst e; cases least <;> rfl
      · rw [if_neg h3]
        have e : a = b := by
          apply ceq
          · unfold rk at h2
            cases hna : ng F a <;> cases hnb : ng F b <;> simp [hna, hnb] at h2 <;> first | rfl | omega
          · unfold rk at h2
            split at h2 <;> split at h2 <;> omega
        subst e
        cases least <;> simp
    · have : cmp3 (rk F a) (rk F b) = 1 := by unfold cmp3; rw [if_neg h1, if_neg h2]
      simp only [this, if_neg y2, if_pos y4, b0, if_neg h1, if_neg h2, if_pos (show rk F b < rk F a by omega)]
      cases least <;> rfl
theorem m_acted (hM : MA m j F) (hv : VF F) {what a b mode : Nat} (hwh : what ≤ 6) (ha : a < 2 ^ bits F) (hb : what ≠ 4 → b < 2 ^ bits F) (hb31 : b < 2 ^ 31) (hm : mode ≤ 5) :
    MR (fX5_acted (WB x m fl) (some 15) (nI j) (nI what) (nI a) (nI b) (nI mode)) x m fl (actS F what a b mode) := by
  have ka := code_lt hv ha
  have hG := hM.g x fl
  have hwh31 : what < 2 ^ 31 := by omega
  have k1 := kd_lt F a
  have k2 := kd_lt F b
  have hno : ∀ c, isNo F c = true → MR (some (ncI F, WB x m fl)) x m fl (nc F, 0, 0, 0) := by
    intro c hc
    exact ⟨m, by rw [rv_no hv hc], mDe.rf m⟩
  have L32 : isNo F a = false → (what ≠ 4 → isNo F b = false) → MR (fX5_acted_L32 (WB x m fl) (some 15) (nI j) (nI what) (nI a) (nI b) (nI mode)) x m fl (if what = 0 then addS F a b (ng F b) mode else if what = 1 then addS F a b (!ng F b) mode else if what = 2 then mulS F a b mode else if what = 3 then divS F a b mode else if what = 4 then rooS F a mode else if what = 5 then okS (lesC F a b) else okS (grtC F a b)) := by
    intro na nb
    simp only [fX5_acted_L32, nI_0' hwh31, nI_1' hwh31, nI_2' hwh31, nI_3' hwh31, nI_4' hwh31, nI_5' hwh31, xmb2_id]
    by_cases w0 : what = 0
    · have nb := nb (by omega)
      have hb := hb (by omega)
      have h := m_summed (x := x) (fl := fl) hM hv ha hb hm na nb false
      rw [show (ng F b != false) = ng F b by cases ng F b <;> rfl] at h
      rw [if_pos w0, if_pos w0]; exact h
    · rw [if_neg w0, if_neg w0]
      by_cases w1 : what = 1
      · have nb := nb (by omega)
        have hb := hb (by omega)
        have h := m_summed (x := x) (fl := fl) hM hv ha hb hm na nb true
        rw [show (ng F b != true) = !ng F b by cases ng F b <;> rfl] at h
        rw [if_pos w1, if_pos w1]; exact h
      · rw [if_neg w1, if_neg w1]
        by_cases w2 : what = 2
        · rw [if_pos w2, if_pos w2]; exact m_multiplied hM hv ha (hb (by omega)) hm na (nb (by omega))
        · rw [if_neg w2, if_neg w2]
          by_cases w3 : what = 3
          · rw [if_pos w3, if_pos w3]; exact m_divided hM hv ha (hb (by omega)) hm na (nb (by omega))
          · rw [if_neg w3, if_neg w3]
            by_cases w4 : what = 4
            · rw [if_pos w4, if_pos w4]; exact m_rooted hM hv ha hm na
            · rw [if_neg w4, if_neg w4]
              have hb := hb w4
              have nb := nb w4
              by_cases w5 : what = 5
              · rw [if_pos w5, if_pos w5, show (1 : Int32) = bI true from rfl, m_lesser hM hv ha hb na nb true]
                exact MR.ok _
              · rw [if_neg w5, if_neg w5, show (0 : Int32) = bI false from rfl, m_lesser hM hv ha hb na nb false]
                exact MR.ok _
  have km : ∀ c, c < 2 ^ 31 → fX5_kindOf (WB x m fl) (some 15) (nI j) (nI c) = some (nI (kd F c)) := fun c hc => m_kindOf hG hv hc
  simp only [fX5_acted, o_15, km a (by omega), km b hb31, m_noneOf hG hv, Option.bind_some, nI_4' hwh31, nI_4' (show kd F a < 2 ^ 31 by omega), nI_4' (show kd F b < 2 ^ 31 by omega), kd_no]
  unfold actS
  cases hna : isNo F a with
  | true =>
    rw [if_pos rfl, if_pos (Or.inl rfl)]
    exact hno a hna
  | false =>
    rw [if_neg (by decide)]
    by_cases w4 : what = 4
    · rw [if_pos w4, if_neg (by intro q; rcases q with q | q; cases q; exact q.1 w4)]
      exact L32 hna (fun q => absurd w4 q)
    · rw [if_neg w4]
      cases hnb : isNo F b with
      | true =>
        rw [if_pos rfl, if_pos (Or.inr ⟨w4, rfl⟩)]
        exact hno b hnb
      | false =>
        rw [if_neg (by decide), if_neg (by intro q; rcases q with q | q; cases q; cases q.2)]
        exact L32 hna (fun _ => hnb)
end MAD
