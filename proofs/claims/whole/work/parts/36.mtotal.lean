/-! EXACT TOTALS: the reference's side -/
theorem mDf.s {m m' : MS} {i o v k : Nat} (h : mDf m m' i o v) (hk : 19 < k) (u : Int32) : mDf m (mset m' k u) i o v := by
  obtain ⟨a1, a2, a4, a5, a6⟩ := h
  refine ⟨a1, fun q hq => ?_, ?_, ?_, ?_⟩
  · exact (upd_ne _ _ (by omega)).trans (a2 q hq)
  · exact (upd_ne _ _ (by omega)).trans a4
  · exact (upd_ne _ _ (by omega)).trans a5
  · exact (upd_ne _ _ (by omega)).trans a6
theorem mDf.l {m m' : MS} {i o v k : Nat} (h : mDf m m' i o v) (u : Int64) : mDf m (mlst m' k u) i o v := h
/-- one term comes to a total -/
def CS (F : FM) (t : Int × Bool) (e : Nat) (Z : Int) (m m' : MS) : Prop :=
  if t.1 = -2 then mDf m m' 0 0 0 ∧ m'.1 23 = 3
  else if t.1 = -3 then mDf m m' 0 0 1 ∧ m'.1 23 = (if nc F = none then 4 else 3)
  else if t.1 = -1 then (if e = (if t.2 = true then 1 else 2) then mDf m m' 0 0 1 ∧ m'.1 23 = (if nc F = none then 4 else 3) else mDf m m' 0 0 0 ∧ m'.1 23 = nI (if t.2 = true then 2 else 1) ∧ m'.2.1 24 = lZ Z)
  else mDf m m' 0 0 0 ∧ m'.1 23 = nI e ∧ m'.2.1 24 = lZ (Z + sz t.2 t.1)
theorem mset_eq (m : MS) (k : Nat) (v : Int32) : (mset m k v).1 k = v := upd_eq _ _ _
theorem mlst_eq (m : MS) (k : Nat) (v : Int64) : (mlst m k v).2.1 k = v := by
  show vp_updL m.2.1 k v k = v
  unfold vp_updL; rw [if_pos rfl]
theorem CS.no {F : FM} {t : Int × Bool} {e : Nat} {Z : Int} {m m' : MS} (h : t.1 = -2) (h1 : mDf m m' 0 0 0) (h2 : m'.1 23 = 3) : CS F t e Z m m' := by
  unfold CS; rw [if_pos h]; exact ⟨h1, h2⟩
theorem CS.iv {F : FM} {t : Int × Bool} {e : Nat} {Z : Int} {m m' : MS} (h : t.1 = -3) (h1 : mDf m m' 0 0 1) (h2 : m'.1 23 = (if nc F = none then 4 else 3)) : CS F t e Z m m' := by
  unfold CS; rw [if_neg (by omega), if_pos h]; exact ⟨h1, h2⟩
theorem CS.en {F : FM} {t : Int × Bool} {e : Nat} {Z : Int} {m m' : MS} (h : t.1 = -1) (h1 : if e = (if t.2 = true then 1 else 2) then mDf m m' 0 0 1 ∧ m'.1 23 = (if nc F = none then 4 else 3) else mDf m m' 0 0 0 ∧ m'.1 23 = nI (if t.2 = true then 2 else 1) ∧ m'.2.1 24 = lZ Z) : CS F t e Z m m' := by
  unfold CS; rw [if_neg (by omega), if_neg (by omega), if_pos h]; exact h1
theorem CS.nu {F : FM} {t : Int × Bool} {e : Nat} {Z : Int} {m m' : MS} (h : 0 ≤ t.1) (h1 : mDf m m' 0 0 0) (h2 : m'.1 23 = nI e) (h3 : m'.2.1 24 = lZ (Z + sz t.2 t.1)) : CS F t e Z m m' := by
  unfold CS; rw [if_neg (by omega), if_neg (by omega), if_neg (by omega)]; exact ⟨h1, h2, h3⟩
theorem kd_0 {F : FM} (hv : VF F) (c : Nat) : (kd F c = 0) ↔ siz F c = 0 := by
  rw [← mg0 hv c]
  unfold kd
  constructor
  · intro h
    by_cases h1 : isNo F c = true
    · rw [if_pos h1] at h; omega
    · rw [if_neg h1] at h
      by_cases h2 : isEn F c = true
      · rw [if_pos h2] at h; omega
      · rw [if_neg h2] at h
        by_cases h3 : mg F c = 0
        · exact h3
        · rw [if_neg h3] at h; split at h <;> omega
  · intro h
    have hn : isNu F c = true := by unfold isNu; rw [h]; exact decide_eq_true (Nat.zero_le _)
    have he : isEn F c = false := by unfold isEn; rw [h, decide_eq_false (show ¬ 0 = gr F + 1 by omega), Bool.and_false]
    have ho : isNo F c = false := by unfold isNo; rw [hn]; rfl
    rw [ho, he, if_neg (by decide), if_neg (by decide), if_pos h]
section MT
variable {x : XS} {m : MS} {fl : List xmE} {j : Nat} {F : FM}
theorem m_cNone0 : fX5_comesNone (WB x m fl) (some 15) (nI j) 0 = some (WB x (mset m 23 3) fl) := by
  unfold fX5_comesNone
  rw [o_15, Option.bind_some, if_pos rfl, p_15_23, Option.bind_some]
theorem m_cNone1 (hM : MA m j F) (hv : VF F) : ∃ m', fX5_comesNone (WB x m fl) (some 15) (nI j) 1 = some (WB x m' fl) ∧ mDf m m' 0 0 1 ∧ m'.1 23 = (if nc F = none then 4 else 3) := by
  obtain ⟨m1, k1, k2⟩ := m_invalid (x := x) (fl := fl) hM hv
  have he : (if (0 : Int32) ≤ rv (invS F) then (3 : Int32) else 4) = if nc F = none then 4 else 3 := by
    rw [rv_inv]
    by_cases q : nc F = none
    · rw [if_pos q, if_pos q]; rfl
    · rw [if_neg q, if_neg q, if_pos ((ncI_ge hv).mpr q)]
  refine ⟨mset m1 23 (if nc F = none then 4 else 3), ?_, k2.f.s (by omega) _, mset_eq _ _ _⟩
  unfold fX5_comesNone
  rw [o_15, Option.bind_some, if_neg (show ¬ (1 : Int32) = 0 by decide), k1, xmb2_s, he, p_15_23, Option.bind_some]
theorem m_cEnd (hM : MA m j F) (hv : VF F) (b : Bool) {e : Nat} (he : e ≤ 2) (h23 : m.1 23 = nI e) : ∃ m', fX5_comesEndless (WB x m fl) (some 15) (nI j) (bI b) = some (WB x m' fl) ∧ (if e = (if b = true then 1 else 2) then mDf m m' 0 0 1 ∧ m'.1 23 = (if nc F = none then 4 else 3) else mDf m m' 0 0 0 ∧ m'.1 23 = nI (if b = true then 2 else 1) ∧ m'.2.1 24 = m.2.1 24) := by
  have hc : (nI e = (if bI b = 0 then (2 : Int32) else 1)) ↔ e = (if b = true then 1 else 2) := by
    have : e = 0 ∨ e = 1 ∨ e = 2 := by omega
    rcases this with rfl | rfl | rfl <;> cases b <;> decide
  have h3 : ¬ (3 : Int32) ≤ nI e := by
    have : e = 0 ∨ e = 1 ∨ e = 2 := by omega
    rcases this with rfl | rfl | rfl <;> decide
  obtain ⟨m1, k1, k2, k3⟩ := m_cNone1 (x := x) (fl := fl) hM hv
  by_cases q : e = (if b = true then 1 else 2)
  · refine ⟨m1, ?_, ?_⟩
    · unfold fX5_comesEndless
      rw [o_15, Option.bind_some, g_15_23, Option.bind_some, h23, if_pos (hc.mpr q), k1, Option.bind_some]
    · rw [if_pos q]; exact ⟨k2, k3⟩
  · refine ⟨mset m 23 (nI (if b = true then 2 else 1)), ?_, ?_⟩
    · unfold fX5_comesEndless
      rw [o_15, Option.bind_some, g_15_23, Option.bind_some, h23, if_neg (fun p => q (hc.mp p)), Option.bind_some, if_neg h3]
      cases b with
      | false => rw [if_pos (show bI false = 0 from rfl), p_15_23, Option.bind_some]; rfl
      | true => rw [if_neg (show ¬ bI true = 0 by decide), p_15_23, Option.bind_some]; rfl
    · rw [if_neg q]; exact ⟨(mDf.rf m).s (by omega) _, mset_eq _ _ _, rfl⟩
theorem m_comes (hM : MA m j F) (hv : VF F) {c : Nat} (hc : c < 2 ^ bits F) {e : Nat} (he : e ≤ 2) (h23 : m.1 23 = nI e) {Z : Int} (h24 : m.2.1 24 = lZ Z) (T : Int) {t : Int × Bool} (ht2 : t.2 = ng F c) (htn : siz F c < 0 → t.1 = siz F c) (htp : 0 ≤ siz F c → t.1 = siz F c * T) (hT : 0 ≤ T) : ∃ m', fX5_comes (WB x m fl) (some 15) (nI j) (nI c) (lZ T) = some (WB x m' fl) ∧ CS F t e Z m m' := by
  have kc := code_lt hv hc
  have kd5 := kd_lt F c
  have hG := hM.g x fl
  have rs := siz_r hv c
  have h2 : nI e ≤ 2 := by rw [show (2 : Int32) = nI 2 from rfl, nI_leI (by omega) (by omega)]; exact he
  have q4 := nI_4' (show kd F c < 2 ^ 31 by omega)
  have q3 := nI_3' (show kd F c < 2 ^ 31 by omega)
  unfold fX5_comes
  rw [o_15, Option.bind_some, g_15_23, Option.bind_some, h23, if_pos h2, m_kindOf hG hv (show c < 2 ^ 31 by omega), Option.bind_some]
  by_cases no : isNo F c = true
  · have s2 := (siz_no c).mpr no
    rw [if_pos (q4.mpr ((kd_no c).mpr no)), m_cNone0, Option.bind_some]
    exact ⟨_, rfl, CS.no (by rw [htn (by omega)]; exact s2) ((mDf.rf m).s (by omega) _) (mset_eq _ _ _)⟩
  · have s2 : siz F c ≠ -2 := fun p => no ((siz_no c).mp p)
    rw [if_neg (fun p => no ((kd_no c).mp (q4.mp p)))]
    by_cases en : isEn F c = true
    · have s1 := (siz_en c).mpr en
      have t1 : t.1 = -1 := by rw [htn (by omega)]; exact s1
      obtain ⟨m', k1, k2⟩ := m_cEnd (x := x) (fl := fl) hM hv (ng F c) he h23
      rw [if_pos (q3.mpr ((kd_end c).mpr en)), m_isMinus hG hv hc, Option.bind_some, k1, Option.bind_some]
      refine ⟨m', rfl, CS.en t1 ?_⟩
      rw [h24] at k2
      rw [ht2]
      exact k2
    · have s1 : siz F c ≠ -1 := fun p => en ((siz_en c).mp p)
      have t0 : t.1 = siz F c * T := htp (by omega)
      have tp : 0 ≤ t.1 := by rw [t0]; exact Int.mul_nonneg (by omega) hT
      rw [if_neg (fun p => en ((kd_end c).mp (q3.mp p))), g_15_24, Option.bind_some, m_unitsOf hG hv hc, Option.bind_some, h24, lZ_mul, lZ_add, p_15_24, Option.bind_some]
      refine ⟨_, rfl, CS.nu tp ((mDf.rf m).l _) h23 ?_⟩
      rw [mlst_eq, uz_sz (by simpa using no) (by simpa using en), ht2, t0]
      congr 2
      unfold sz
      split
      · rw [Int.neg_mul]
      · rfl
theorem m_cAbs (h23 : m.1 23 = 3 ∨ m.1 23 = 4) (c T) : fX5_comes (WB x m fl) (some 15) (nI j) c T = some (WB x m fl) := by
  unfold fX5_comes
  have : ¬ m.1 23 ≤ 2 := by rcases h23 with h | h <;> rw [h] <;> decide
  rw [o_15, Option.bind_some, g_15_23, Option.bind_some, if_neg this]
theorem m_comesP (hM : MA m j F) (hv : VF F) {a b : Nat} (ha : a < 2 ^ bits F) (hb : b < 2 ^ bits F) {e : Nat} (he : e ≤ 2) (h23 : m.1 23 = nI e) {Z : Int} (h24 : m.2.1 24 = lZ Z) : ∃ m', fX5_comesProduct (WB x m fl) (some 15) (nI j) (nI a) (nI b) = some (WB x m' fl) ∧ CS F (szp F a b, ng F a != ng F b) e Z m m' := by
  have ka := code_lt hv ha
  have kb := code_lt hv hb
  have ka5 := kd_lt F a
  have kb5 := kd_lt F b
  have hG := hM.g x fl
  have ra := siz_r hv a
  have rb := siz_r hv b
  have h2 : nI e ≤ 2 := by rw [show (2 : Int32) = nI 2 from rfl, nI_leI (by omega) (by omega)]; exact he
  have a4 := nI_4' (show kd F a < 2 ^ 31 by omega)
  have a3 := nI_3' (show kd F a < 2 ^ 31 by omega)
  have a0 := nI_0' (show kd F a < 2 ^ 31 by omega)
  have b4 := nI_4' (show kd F b < 2 ^ 31 by omega)
  have b3 := nI_3' (show kd F b < 2 ^ 31 by omega)
  have b0 := nI_0' (show kd F b < 2 ^ 31 by omega)
  have e1 : fX5_comesProduct (WB x m fl) (some 15) (nI j) (nI a) (nI b) = if nI (kd F a) = 4 then (fX5_comesNone (WB x m fl) (some 15) (nI j) 0).bind fun w7 => some w7 else if nI (kd F b) = 4 then (fX5_comesNone (WB x m fl) (some 15) (nI j) 0).bind fun w15 => some w15 else if nI (kd F a) = 3 then fX5_comesProduct_L58 (WB x m fl) (some 15) (nI j) (nI a) (nI b) (nI (kd F a)) (nI (kd F b)) else if nI (kd F b) = 3 then fX5_comesProduct_L58 (WB x m fl) (some 15) (nI j) (nI a) (nI b) (nI (kd F a)) (nI (kd F b)) else some (WB x (mlst m 24 (lZ (Z + uz F a * uz F b))) fl) := by
    unfold fX5_comesProduct
    rw [o_15, Option.bind_some, g_15_23, Option.bind_some, h23, if_pos h2, m_kindOf hG hv (show a < 2 ^ 31 by omega), Option.bind_some, m_kindOf hG hv (show b < 2 ^ 31 by omega), Option.bind_some, g_15_24, Option.bind_some, m_unitsOf hG hv ha, Option.bind_some, m_unitsOf hG hv hb, Option.bind_some, h24, lZ_mul, lZ_add, p_15_24, Option.bind_some]
  rw [e1]
  by_cases no : isNo F a = true ∨ isNo F b = true
  · have s2 : szp F a b = -2 := by
      unfold szp
      rw [if_pos]
      rcases no with no | no
      · exact Or.inl ((siz_no a).mpr no)
      · exact Or.inr ((siz_no b).mpr no)
    refine ⟨mset m 23 3, ?_, ?_⟩
    · by_cases na : isNo F a = true
      · rw [if_pos (a4.mpr ((kd_no a).mpr na)), m_cNone0, Option.bind_some]
      · have nb : isNo F b = true := no.resolve_left na
        rw [if_neg (fun p => na ((kd_no a).mp (a4.mp p))), if_pos (b4.mpr ((kd_no b).mpr nb)), m_cNone0, Option.bind_some]
    · exact CS.no s2 ((mDf.rf m).s (by omega) _) (mset_eq _ _ _)
  · have na : isNo F a ≠ true := fun p => no (Or.inl p)
    have nb : isNo F b ≠ true := fun p => no (Or.inr p)
    have sa2 : siz F a ≠ -2 := fun p => na ((siz_no a).mp p)
    have sb2 : siz F b ≠ -2 := fun p => nb ((siz_no b).mp p)
    rw [if_neg (fun p => na ((kd_no a).mp (a4.mp p))), if_neg (fun p => nb ((kd_no b).mp (b4.mp p)))]
    by_cases en : isEn F a = true ∨ isEn F b = true
    · have hL : ∀ o, (if nI (kd F a) = 3 then fX5_comesProduct_L58 (WB x m fl) (some 15) (nI j) (nI a) (nI b) (nI (kd F a)) (nI (kd F b)) else if nI (kd F b) = 3 then fX5_comesProduct_L58 (WB x m fl) (some 15) (nI j) (nI a) (nI b) (nI (kd F a)) (nI (kd F b)) else o) = fX5_comesProduct_L58 (WB x m fl) (some 15) (nI j) (nI a) (nI b) (nI (kd F a)) (nI (kd F b)) := by
        intro o
        by_cases ea : isEn F a = true
        · rw [if_pos (a3.mpr ((kd_end a).mpr ea))]
        · rw [if_neg (fun p => ea ((kd_end a).mp (a3.mp p))), if_pos (b3.mpr ((kd_end b).mpr (en.resolve_left ea)))]
      have se : siz F a = -1 ∨ siz F b = -1 := by
        rcases en with en | en
        · exact Or.inl ((siz_en a).mpr en)
        · exact Or.inr ((siz_en b).mpr en)
      rw [hL]
      by_cases z : siz F a = 0 ∨ siz F b = 0
      · have s3 : szp F a b = -3 := by unfold szp; rw [if_neg (by omega), if_pos se, if_pos z]
        obtain ⟨m', k1, k2, k3⟩ := m_cNone1 (x := x) (fl := fl) hM hv
        refine ⟨m', ?_, ?_⟩
        · unfold fX5_comesProduct_L58
          by_cases za : siz F a = 0
          · rw [if_pos (a0.mpr ((kd_0 hv a).mpr za)), k1, Option.bind_some]
          · rw [if_neg (fun p => za ((kd_0 hv a).mp (a0.mp p))), if_pos (b0.mpr ((kd_0 hv b).mpr (z.resolve_left za))), k1, Option.bind_some]
        · exact CS.iv s3 k2 k3
      · have s1 : szp F a b = -1 := by unfold szp; rw [if_neg (by omega), if_pos se, if_neg z]
        obtain ⟨m', k1, k2⟩ := m_cEnd (x := x) (fl := fl) hM hv (ng F a != ng F b) he h23
        refine ⟨m', ?_, ?_⟩
        · unfold fX5_comesProduct_L58
          rw [if_neg (fun p => z (Or.inl ((kd_0 hv a).mp (a0.mp p)))), if_neg (fun p => z (Or.inr ((kd_0 hv b).mp (b0.mp p)))), m_isMinus hG hv ha, Option.bind_some, m_isMinus hG hv hb, Option.bind_some, bI_ne, k1, Option.bind_some]
        · rw [h24] at k2
          exact CS.en s1 k2
    · have ea : isEn F a ≠ true := fun p => en (Or.inl p)
      have eb : isEn F b ≠ true := fun p => en (Or.inr p)
      have sa1 : siz F a ≠ -1 := fun p => ea ((siz_en a).mp p)
      have sb1 : siz F b ≠ -1 := fun p => eb ((siz_en b).mp p)
      have s0 : szp F a b = siz F a * siz F b := by unfold szp; rw [if_neg (by omega), if_neg (by omega)]
      have sp : 0 ≤ siz F a * siz F b := Int.mul_nonneg (by omega) (by omega)
      rw [if_neg (fun p => ea ((kd_end a).mp (a3.mp p))), if_neg (fun p => eb ((kd_end b).mp (b3.mp p)))]
      refine ⟨_, rfl, ?_⟩
      refine CS.nu (by show 0 ≤ szp F a b; omega) ((mDf.rf m).l _) h23 ?_
      rw [mlst_eq, uz_sz (by simpa using na) (by simpa using ea), uz_sz (by simpa using nb) (by simpa using eb), s0]
      congr 2
      unfold sz
      cases ng F a <;> cases ng F b <;> simp [Int.neg_mul, Int.mul_neg]
theorem m_cPAbs (h23 : m.1 23 = 3 ∨ m.1 23 = 4) (a b : Int32) : fX5_comesProduct (WB x m fl) (some 15) (nI j) a b = some (WB x m fl) := by
  unfold fX5_comesProduct
  have : ¬ m.1 23 ≤ 2 := by rcases h23 with h | h <;> rw [h] <;> decide
  rw [o_15, Option.bind_some, g_15_23, Option.bind_some, if_neg this]
theorem m_what (hM : MA m j F) (hv : VF F) {t : Nat → Int × Bool} {e i : Nat} (he : e ≤ 2) (hT : e ≠ 0 → fT F = 0) (h23 : m.1 23 = nI e) {Z : Int} (h24 : m.2.1 24 = lZ Z) (h1 : -70368744177664 ≤ Z) (h2 : Z ≤ 70368744177664) {den mode : Nat} (hden : den ≤ 2097152) (hm : mode ≤ 5) (mz : Bool) :
    MR (fX5_whatCame (WB x m fl) (some 15) (nI j) (lZ (den : Int)) (nI mode) (bI mz)) x m fl (exS F t den mode mz 0 i e Z) := by
  have hG := hM.g x fl
  unfold fX5_whatCame exS
  rw [o_15, Option.bind_some, g_15_23, Option.bind_some, h23]
  have : e = 0 ∨ e = 1 ∨ e = 2 := by omega
  rcases this with rfl | rfl | rfl
  · rw [if_neg (by decide), if_neg (by decide), if_neg (by decide), if_neg (by decide), g_15_24, Option.bind_some, h24, xmb2_id, if_neg (by omega), if_neg (by omega)]
    exact m_frac hM hv ⟨by omega, by omega⟩ hden hm mz
  · rw [if_pos (by decide), show fX5_endlessOr (WB x m fl) (some 15) (nI j) 0 = some (nI (bey F false)) from m_endlessOr hG hv false (hT (by omega)), Option.bind_some, if_pos rfl]
    exact MR.ok _
  · rw [if_neg (by decide), if_pos (by decide), show fX5_endlessOr (WB x m fl) (some 15) (nI j) 1 = some (nI (bey F true)) from m_endlessOr hG hv true (hT (by omega)), Option.bind_some, if_neg (by omega), if_pos rfl]
    exact MR.ok _
theorem m_what3 (hM : MA m j F) (hv : VF F) (h23 : m.1 23 = 3) (den : Int64) (mode mz : Int32) : fX5_whatCame (WB x m fl) (some 15) (nI j) den mode mz = some (ncI F, WB x m fl) := by
  unfold fX5_whatCame
  rw [o_15, Option.bind_some, g_15_23, Option.bind_some, h23, if_neg (by decide), if_neg (by decide), if_pos rfl, m_noneOf (hM.g x fl) hv, Option.bind_some]
theorem m_what4 (h23 : m.1 23 = 4) (den : Int64) (mode mz : Int32) : fX5_whatCame (WB x m fl) (some 15) (nI j) den mode mz = some (-4, WB x m fl) := by
  unfold fX5_whatCame
  rw [o_15, Option.bind_some, g_15_23, Option.bind_some, h23, if_neg (by decide), if_neg (by decide), if_neg (by decide), if_pos rfl]
/-- after an INVALID -/
theorem m_whatI (hM : MA m j F) (hv : VF F) (h23 : m.1 23 = (if nc F = none then 4 else 3)) (den : Int64) (mode mz : Int32) : fX5_whatCame (WB x m fl) (some 15) (nI j) den mode mz = some (rv (invS F), WB x m fl) := by
  rw [rv_inv]
  by_cases q : nc F = none
  · rw [if_pos q] at h23; rw [if_pos q]; exact m_what4 h23 _ _ _
  · rw [if_neg q] at h23; rw [if_neg q]; exact m_what3 hM hv h23 _ _ _
def FE (o : Option (Int32 × xmW)) : Option (Int32 × xmW) := xmb2 o fun v w => fX5_ends w (some 15) v
/-- a loop over terms -/
theorem m_exL (hv : VF F) {t : Nat → Int × Bool} (ht : TOK F t) {len den mode : Nat} (hden : den ≤ 2097152) (hm : mode ≤ 5) (mz : Bool) (P : MS → Prop) (LP : Nat → xmW → Int32 → Option (Int32 × xmW)) (cm : xmW → Nat → Option xmW)
    (hPM : ∀ m, P m → MA m j F) (hP : ∀ m m' i o v, P m → mDf m m' i o v → P m')
    (hst : ∀ m N q, P m → q < len → LP (N + 1) (WB x m fl) (nI q) = (cm (WB x m fl) q).bind fun w => LP N w (nI (q + 1)))
    (hen : ∀ m N, P m → LP (N + 1) (WB x m fl) (nI len) = FE (fX5_whatCame (WB x m fl) (some 15) (nI j) (lZ (den : Int)) (nI mode) (bI mz)))
    (hcm : ∀ m q e Z, P m → q < len → e ≤ 2 → m.1 23 = nI e → m.2.1 24 = lZ Z → ∃ m', cm (WB x m fl) q = some (WB x m' fl) ∧ CS F (t q) e Z m m')
    (hab : ∀ m q, P m → q < len → (m.1 23 = 3 ∨ m.1 23 = 4) → cm (WB x m fl) q = some (WB x m fl)) (hlen : len ≤ 16) :
    ∀ (d q N e : Nat) (Z : Int) (m : MS), q + d = len → d < N → P m → e ≤ 2 → (e ≠ 0 → fT F = 0) → m.1 23 = nI e → m.2.1 24 = lZ Z → -((q : Int) * 4398046511104) ≤ Z → Z ≤ (q : Int) * 4398046511104 →
      ∃ m1, LP N (WB x m fl) (nI q) = fX5_ends (WB x m1 fl) (some 15) (rv (exS F t den mode mz d q e Z)) ∧ mDf m m1 (exS F t den mode mz d q e Z).2.1 (exS F t den mode mz d q e Z).2.2.1 (exS F t den mode mz d q e Z).2.2.2 := by
  have abs : ∀ (d q N : Nat) (m : MS), q + d = len → d < N → P m → (m.1 23 = 3 ∨ m.1 23 = 4) → LP N (WB x m fl) (nI q) = FE (fX5_whatCame (WB x m fl) (some 15) (nI j) (lZ (den : Int)) (nI mode) (bI mz)) := by
    intro d
    induction d with
    | zero =>
      intro q N m hq hN hp h
      obtain ⟨N, rfl⟩ : ∃ N', N = N' + 1 := ⟨N - 1, by omega⟩
      rw [show q = len by omega]; exact hen m N hp
    | succ d ih =>
      intro q N m hq hN hp h
      obtain ⟨N, rfl⟩ : ∃ N', N = N' + 1 := ⟨N - 1, by omega⟩
      rw [hst m N q hp (by omega), hab m q hp (by omega) h, Option.bind_some]
      exact ih (q + 1) N m (by omega) (by omega) hp h
  have inv : ∀ (d q N : Nat) (m0 m : MS), q + d = len → d < N → P m → mDf m0 m 0 0 1 → m.1 23 = (if nc F = none then 4 else 3) → ∃ m1, LP N (WB x m fl) (nI q) = fX5_ends (WB x m1 fl) (some 15) (rv (invS F)) ∧ mDf m0 m1 0 0 1 := by
    intro d q N m0 m hq hN hp hd h
    refine ⟨m, ?_, hd⟩
    have hS : m.1 23 = 3 ∨ m.1 23 = 4 := by
      by_cases q : nc F = none
      · rw [if_pos q] at h; exact Or.inr h
      · rw [if_neg q] at h; exact Or.inl h
    rw [abs d q N m hq hN hp hS, m_whatI (hPM m hp) hv h]
    rfl
  intro d
  induction d with
  | zero =>
    intro q N e Z m hq hN hp he hT h23 h24 b1 b2
    obtain ⟨N, rfl⟩ : ∃ N', N = N' + 1 := ⟨N - 1, by omega⟩
    obtain ⟨m1, k1, k2⟩ := m_what (x := x) (fl := fl) (t := t) (i := q) (hPM m hp) hv he hT h23 h24 (by omega) (by omega) hden hm mz
    refine ⟨m1, ?_, k2.f⟩
    have hql : q = len := by omega
    rw [show nI q = nI len by rw [hql], hen m N hp, k1]
    rfl
  | succ d ih =>
    intro q N e Z m hq hN hp he hT h23 h24 b1 b2
    obtain ⟨N, rfl⟩ : ∃ N', N = N' + 1 := ⟨N - 1, by omega⟩
    obtain ⟨t1, t2, t3, t4⟩ := ht q
    obtain ⟨m', k1, k2⟩ := hcm m q e Z hp (by omega) he h23 h24
    rw [hst m N q hp (by omega), k1, Option.bind_some]
    unfold exS
    unfold CS at k2
    by_cases q2 : (t q).1 = -2
    · rw [if_pos q2] at k2 ⊢
      have hp' := hP m m' _ _ _ hp k2.1
      refine ⟨m', ?_, k2.1⟩
      rw [abs d (q + 1) N m' (by omega) (by omega) hp' (Or.inl k2.2), m_what3 (hPM m' hp') hv k2.2, rv_nc (t3 q2)]
      rfl
    · rw [if_neg q2] at k2 ⊢
      by_cases q3 : (t q).1 = -3
      · rw [if_pos q3] at k2 ⊢
        exact inv d (q + 1) N m m' (by omega) (by omega) (hP m m' _ _ _ hp k2.1) k2.1 k2.2
      · rw [if_neg q3] at k2 ⊢
        by_cases q1 : (t q).1 = -1
        · rw [if_pos q1] at k2 ⊢
          by_cases qe : e = (if (t q).2 = true then 1 else 2)
          · rw [if_pos qe] at k2 ⊢
            exact inv d (q + 1) N m m' (by omega) (by omega) (hP m m' _ _ _ hp k2.1) k2.1 k2.2
          · rw [if_neg qe] at k2 ⊢
            obtain ⟨d1, d2, d3⟩ := k2
            obtain ⟨m1, j1, j2⟩ := ih (q + 1) N (if (t q).2 = true then 2 else 1) Z m' (by omega) (by omega) (hP m m' _ _ _ hp d1) (by split <;> omega) (fun _ => t4 q1) d2 d3 (by omega) (by omega)
            refine ⟨m1, j1, ?_⟩
            have := d1.tr j2
            rw [Nat.zero_add, Nat.zero_add, Nat.zero_add] at this
            exact this
        · rw [if_neg q1] at k2 ⊢
          obtain ⟨d1, d2, d3⟩ := k2
          have hs : -4398046511104 ≤ sz (t q).2 (t q).1 ∧ sz (t q).2 (t q).1 ≤ 4398046511104 := by unfold sz; split <;> omega
          obtain ⟨m1, j1, j2⟩ := ih (q + 1) N e _ m' (by omega) (by omega) (hP m m' _ _ _ hp d1) he hT d2 d3 (by omega) (by omega)
          refine ⟨m1, j1, ?_⟩
          have := d1.tr j2
          rw [Nat.zero_add, Nat.zero_add, Nat.zero_add] at this
          exact this
end MT
