/-! THE BEGINNING: the constructors, and law_true -/
def x00 : XS := (fun _ => 0, fun _ => none, none, fun _ => 0, fun _ => none, fun _ _ => 0)
def rf0 : Nat → Int32 := upd (upd (upd (upd (fun _ => 0) 0 (-1)) 1 (-1)) 2 (-1)) 3 (-1)
def m00 : MS := (fun k => if k = 11 then -1 else 0, fun _ => 0, fun a => if a = 7 then rf0 else fun _ => 0)
def w00 : xmW := (WB x00 m00 []).take 15
set_option maxRecDepth 100000 in
set_option maxHeartbeats 4000000 in
theorem init_x : fX4_init [Sum.inl (4, [xR none, xI 0, xR none, xR none, xR none, xR none, xI 0, xR none, xI 0, xI 0, xI 0])] (some 0) = some w00 := by
  rfl
set_option maxRecDepth 100000 in
set_option maxHeartbeats 4000000 in
theorem init_m : fX5_init (w00 ++ [Sum.inl (5, [xI 0, xR none, xR none, xR none, xR none, xR none, xR none, xR none, xR none, xR none, xI 0, xI 0, xI 0, xI 0, xI 0, xI 0, xI 0, xI 0, xI 0, xI 0, xI 0, xL 0, xL 0, xI 0, xL 0, xR none])]) (some 15) = some (WB x00 m00 []) := by
  rfl
theorem iv_0 : IV x00 m00 [] := by
  refine ⟨0, fun _ => (0, 0, 0, 0, false, 0), ⟨by omega, rfl, rfl, fun i hi => absurd hi (by omega), fun _ _ _ => rfl, fun i j hi => absurd hi (by omega)⟩, fun i hi => Or.inl ⟨rfl, ?_⟩, Or.inl ⟨rfl, rfl⟩, ⟨0, by omega, rfl, rfl⟩, rfl, rfl, rfl, rfl⟩
  match i, hi with
  | 0, _ => rfl
  | 1, _ => rfl
  | 2, _ => rfl
  | 3, _ => rfl
  | i + 4, h => exact absurd h (by omega)
theorem law_true {xs : Nat → Int32} {L : Nat} (hL : L ≤ 3584) : fL_law xs L = some () := by
  have hl := loop_ok (xs := xs) hL xmN 0 x00 m00 [] (by decide) (by show L < 0 + 7 * 4000; omega) (by omega) iv_0
  unfold fL_law
  rw [show xmnew ([] : xmW) 4 [xR none, xI 0, xR none, xR none, xR none, xR none, xI 0, xR none, xI 0, xI 0, xI 0] = some [Sum.inl (4, [xR none, xI 0, xR none, xR none, xR none, xR none, xI 0, xR none, xI 0, xI 0, xI 0])] from rfl, Option.bind_some]
  rw [show (some ([] : xmW).length : Option Nat) = some 0 from rfl, init_x, Option.bind_some]
  rw [show xmnew w00 5 [xI 0, xR none, xR none, xR none, xR none, xR none, xR none, xR none, xR none, xR none, xI 0, xI 0, xI 0, xI 0, xI 0, xI 0, xI 0, xI 0, xI 0, xI 0, xI 0, xL 0, xL 0, xI 0, xL 0, xR none] = some (w00 ++ [Sum.inl (5, [xI 0, xR none, xR none, xR none, xR none, xR none, xR none, xR none, xR none, xR none, xI 0, xI 0, xI 0, xI 0, xI 0, xI 0, xI 0, xI 0, xI 0, xI 0, xI 0, xL 0, xL 0, xI 0, xL 0, xR none])]) from rfl, Option.bind_some]
  rw [show (some w00.length : Option Nat) = some 15 from rfl, init_m, Option.bind_some]
  exact hl
