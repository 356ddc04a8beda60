/-! THE MEMORY OF A NEW MILL is that of a state -/
def basR (r : Nat) : Nat := if r = 0 then 23 else if r < 20 then 24 + 13 * r else if r = 20 then 299 else 40 + 13 * r
def posW (w j : Nat) : Nat := if w = 0 then (if j = 0 then 19 else if j = 1 then 21 else if j = 2 then 22 else if j = 3 then 20 else if j = 4 then 36 else 279 + j) else (if j = 0 then 291 else if j = 1 then 297 else if j = 2 then 298 else if j = 3 then 296 else if j = 4 then 312 else 425 + j)
/-- where in the order of making a cell is -/
def pos (k : Nat) : Nat := if k = 0 then 0 else if k < 4 then 436 + k else if k < 18 then k + 1 else if k < 42 then posW ((k - 18) / 12) ((k - 18) % 12) else if k < 170 then (if (k - 42) / 4 = 0 then 1 + (k - 42) % 4 else if (k - 42) / 4 = 1 then 292 + (k - 42) % 4 else basR ((k - 42) / 4 - 2) + 1 + (k - 42) % 4) else (if (k - 170) % 9 = 0 then basR ((k - 170) / 9) else basR ((k - 170) / 9) + 4 + (k - 170) % 9)
def unR (r q : Nat) : Nat := if q = 0 then kR r else if q < 5 then kT (r + 2) + (q - 1) else kR r + (q - 4)
def unpos (p : Nat) : Nat := if p = 0 then 0 else if p < 5 then 42 + (p - 1) else if p < 19 then p - 1 else if p = 19 then 18 else if p = 20 then 21 else if p = 21 then 19 else if p = 22 then 20 else if p < 36 then unR 0 (p - 23) else if p = 36 then 22 else if p < 284 then unR ((p - 24) / 13) ((p - 24) % 13) else if p < 291 then p - 261 else if p = 291 then 30 else if p < 296 then 46 + (p - 292) else if p = 296 then 33 else if p = 297 then 31 else if p = 298 then 32 else if p < 312 then unR 20 (p - 299) else if p = 312 then 34 else if p < 430 then unR ((p - 40) / 13) ((p - 40) % 13) else if p < 437 then p - 395 else p - 436
theorem unpos_pos : ∀ k, k < 440 → unpos (pos k) = k := by decide +kernel
theorem pos_lt : ∀ k, k < 440 → pos k < 440 := by decide +kernel
def sgI (c : Nat) : Nat → Nat → Int32 := match c with
  | 31 => fun _ => upt 128 1
  | 35 => fun _ => upt 128 (-1)
  | 36 => fun _ => upt 128 (-1)
  | _ => fun _ _ => 0
def sgJ (c : Nat) : Nat → Nat → Int64 := match c with
  | 1 => fun _ => uptJ 128 (fun j => ansOf dfD j)
  | _ => fun _ _ => 0
def sgP (c : Nat) : Nat → Nat → Option Nat := match c with
  | 0 => fun w => refU 8 (fun _ => 20 * w)
  | 3 => fun w => refU (lenP 3 w) (fun z => 20 * w + 1 + z)
  | _ => fun _ _ => none
/-- a new mill -/
def sg0 : Sg := (sgI, sgJ, sgP)
def Γm (n0 : Nat) (D : va_G) (dA : Nat → ClassId) : GG := (D, dA, fun k => n0 + pos k)
theorem Γm_J (n0 : Nat) (D : va_G) (dA : Nat → ClassId) : IJ (Γm n0 D dA) := fun i j hi hj h => by
  have h : n0 + pos i = n0 + pos j := h
  rw [← unpos_pos i hi, ← unpos_pos j hj, show pos i = pos j by omega]
theorem pos_R0 {r : Nat} : pos (kR r) = basR r := by
  unfold pos kR
  rw [if_neg (by omega), if_neg (by omega), if_neg (by omega), if_neg (by omega), if_neg (by omega), if_pos (by omega), show (170 + 9 * r - 170) / 9 = r by omega]
theorem pos_R {r j : Nat} (h1 : 1 ≤ j) (h9 : j < 9) : pos (kR r + j) = basR r + 4 + j := by
  unfold pos kR
  rw [if_neg (by omega), if_neg (by omega), if_neg (by omega), if_neg (by omega), if_neg (by omega), if_neg (by omega), show (170 + 9 * r + j - 170) / 9 = r by omega, show (170 + 9 * r + j - 170) % 9 = j by omega]
theorem pos_T {r j : Nat} (hr : r < 30) (hj : j < 4) : pos (kT (r + 2) + j) = basR r + 1 + j := by
  unfold pos kT
  rw [if_neg (by omega), if_neg (by omega), if_neg (by omega), if_neg (by omega), if_pos (by omega), if_neg (by omega), if_neg (by omega), show (42 + 4 * (r + 2) + j - 42) / 4 - 2 = r by omega, show (42 + 4 * (r + 2) + j - 42) % 4 = j by omega]
section M0
variable {n0 : Nat} {Γ : GG}
theorem cMill_W {j : Nat} (h1 : 20 ≤ j) (h2 : j < 284) : cMill n0 Γ j = wcell n0 Γ 20 10 8 19 (j - 20) := by
  unfold cMill cWk
  rw [if_neg (by omega), if_neg (by omega), if_neg (by omega), if_neg (by omega), if_pos (by omega), if_neg (by omega), if_neg (by omega), if_pos (by omega)]
theorem cMill_V {j : Nat} (h1 : 296 ≤ j) (h2 : j < 430) : cMill n0 Γ j = wcell n0 Γ 296 0 8 9 (j - 296) := by
  unfold cMill cWk
  rw [if_neg (by omega), if_neg (by omega), if_neg (by omega), if_neg (by omega), if_neg (by omega), if_neg (by omega), if_neg (by omega), if_pos (by omega), if_neg (by omega), if_neg (by omega), if_pos (by omega)]
theorem cMill_res {r q : Nat} (hr : r < 30) (hq : q < 13) : cMill n0 Γ (basR r + q) = rs n0 Γ (basR r) q := by
  have w3 : ∀ b K, wcell n0 Γ b K 8 (K + 9) (3 + q) = rs n0 Γ (b + 3) q := fun b K => by
    unfold wcell
    rw [if_neg (by omega), if_neg (by omega), if_neg (by omega), if_pos (by omega), show 3 + q - 3 = q by omega]
  unfold basR
  by_cases h0 : r = 0
  · rw [if_pos h0, cMill_W (by omega) (by omega), show 23 + q - 20 = 3 + q by omega]
    exact w3 20 10
  · rw [if_neg h0]
    by_cases h1 : r < 20
    · rw [if_pos h1, cMill_W (by omega) (by omega), show 24 + 13 * r + q - 20 = 17 + 13 * (r - 1) + q by omega, wcell_res hq, show 20 + 17 + 13 * (r - 1) = 24 + 13 * r by omega]
    · rw [if_neg h1]
      by_cases h2 : r = 20
      · rw [if_pos h2, cMill_V (by omega) (by omega), show 299 + q - 296 = 3 + q by omega]
        exact w3 296 0
      · rw [if_neg h2, cMill_V (by omega) (by omega), show 40 + 13 * r + q - 296 = 17 + 13 * (r - 21) + q by omega, wcell_res hq, show 296 + 17 + 13 * (r - 21) = 40 + 13 * r by omega]
end M0
section M1
variable {n0 : Nat} {D : va_G} {dA : Nat → ClassId}
theorem ad_R {r j : Nat} (h1 : 1 ≤ j) (h9 : j < 9) : adr (Γm n0 D dA) (kR r + j) = n0 + (basR r + 1 + (j + 3)) := by
  show n0 + pos (kR r + j) = _
  rw [pos_R h1 h9]; omega
theorem ad_R0 {r : Nat} : adr (Γm n0 D dA) (kR r) = n0 + basR r := by
  show n0 + pos (kR r) = _
  rw [pos_R0]
theorem ad_T {r j : Nat} (hr : r < 30) (hj : j < 4) : adr (Γm n0 D dA) (kT (r + 2) + j) = n0 + (basR r + 1 + j) := by
  show n0 + pos (kT (r + 2) + j) = _
  rw [pos_T hr hj]
theorem cell_R {r : Nat} (hr : r < 30) : ∀ j, j < 9 → cMill n0 (Γm n0 D dA) (pos (kR r + j)) = cellQ (Γm n0 D dA) sg0 (desc (kR r + j)) := by
  have pr : ∀ j, 1 ≤ j → j < 9 → cMill n0 (Γm n0 D dA) (pos (kR r + j)) = rcell n0 (Γm n0 D dA) (basR r + 1) 128 (j + 3) := fun j h1 h9 => by
    rw [pos_R h1 h9, show basR r + 4 + j = basR r + (4 + j) by omega, cMill_res hr (by omega)]
    unfold rs
    rw [if_neg (by omega), show 4 + j - 1 = j + 3 by omega]
  intro j hj
  rcases (show j = 0 ∨ j = 1 ∨ j = 2 ∨ j = 3 ∨ j = 4 ∨ j = 5 ∨ j = 6 ∨ j = 7 ∨ j = 8 by omega) with rfl | rfl | rfl | rfl | rfl | rfl | rfl | rfl | rfl
  · rw [Nat.add_zero, pos_R0, dR0 r hr, show basR r = basR r + 0 from rfl, cMill_res hr (by omega)]
    unfold rs
    rw [if_pos rfl]
    show Sum.inr (2, robj n0 (basR r + 1)) = Sum.inr (2, objF (Γm n0 D dA) sg0 2 r)
    unfold objF robj
    have e : adr (Γm n0 D dA) (kT (r + 2)) = n0 + (basR r + 1) := ad_T (j := 0) hr (by omega)
    simp only [e, ad_R (show 1 ≤ 1 by omega) (show 1 < 9 by omega), ad_R (show 1 ≤ 2 by omega) (show 2 < 9 by omega), ad_R (show 1 ≤ 3 by omega) (show 3 < 9 by omega), ad_R (show 1 ≤ 4 by omega) (show 4 < 9 by omega), ad_R (show 1 ≤ 5 by omega) (show 5 < 9 by omega), ad_R (show 1 ≤ 6 by omega) (show 6 < 9 by omega), ad_R (show 1 ≤ 7 by omega) (show 7 < 9 by omega), ad_R (show 1 ≤ 8 by omega) (show 8 < 9 by omega)]
    rfl
  · rw [pr 1 (by omega) (by omega), dR1 r hr]; rfl
  · rw [pr 2 (by omega) (by omega), dR2 r hr]; rfl
  · rw [pr 3 (by omega) (by omega), dR3 r hr]; rfl
  · rw [pr 4 (by omega) (by omega), dR4 r hr]; rfl
  · rw [pr 5 (by omega) (by omega), dR5 r hr]; rfl
  · rw [pr 6 (by omega) (by omega), dR6 r hr]; rfl
  · rw [pr 7 (by omega) (by omega), dR7 r hr]; rfl
  · rw [pr 8 (by omega) (by omega), dR8 r hr]; rfl
theorem cell_T {r : Nat} (hr : r < 30) : ∀ j, j < 4 → cMill n0 (Γm n0 D dA) (pos (kT (r + 2) + j)) = cellQ (Γm n0 D dA) sg0 (desc (kT (r + 2) + j)) := by
  have pr : ∀ j, j < 4 → cMill n0 (Γm n0 D dA) (pos (kT (r + 2) + j)) = rcell n0 (Γm n0 D dA) (basR r + 1) 128 j := fun j h4 => by
    rw [pos_T hr h4, show basR r + 1 + j = basR r + (1 + j) by omega, cMill_res hr (by omega)]
    unfold rs
    rw [if_neg (by omega), show 1 + j - 1 = j by omega]
  intro j hj
  rcases (show j = 0 ∨ j = 1 ∨ j = 2 ∨ j = 3 by omega) with rfl | rfl | rfl | rfl
  · rw [pr 0 (by omega), show kT (r + 2) + 0 = kT (r + 2) from rfl, dT0 _ (by omega)]
    show Sum.inr (5, _) = Sum.inr (5, objF (Γm n0 D dA) sg0 5 (r + 2))
    unfold objF
    simp only [ad_T hr (show 1 < 4 by omega), ad_T hr (show 2 < 4 by omega), ad_T hr (show 3 < 4 by omega)]
    rfl
  · rw [pr 1 (by omega), dT1 _ (by omega)]; rfl
  · rw [pr 2 (by omega), dT2 _ (by omega)]; rfl
  · rw [pr 3 (by omega), dT3 _ (by omega)]; rfl
theorem row_last (w b : Nat) (hb : b + 3 = basR (20 * w)) : rrow (Γm n0 D dA) sg0 0 w = refU 8 (fun _ => n0 + (b + 3)) := by
  funext i
  show (refU 8 (fun _ => 20 * w) i).map (fun r => adr (Γm n0 D dA) (kR r)) = _
  unfold refU
  by_cases h : i < 8
  · rw [if_pos h, if_pos h, hb, ← ad_R0 (n0 := n0) (D := D) (dA := dA)]; rfl
  · rw [if_neg h, if_neg h]; rfl
theorem row_pool (w b L : Nat) (hL : lenP 3 w = L) (hb : ∀ z, z < L → b + 17 + 13 * z = basR (20 * w + 1 + z)) : rrow (Γm n0 D dA) sg0 3 w = refU L (fun z => n0 + (b + 17 + 13 * z)) := by
  funext i
  show (refU (lenP 3 w) (fun z => 20 * w + 1 + z) i).map (fun r => adr (Γm n0 D dA) (kR r)) = _
  rw [hL]
  unfold refU
  by_cases h : i < L
  · rw [if_pos h, if_pos h]
    show some (adr (Γm n0 D dA) (kR (20 * w + 1 + i))) = some (n0 + (b + 17 + 13 * i))
    rw [hb i h, ad_R0]
  · rw [if_neg h, if_neg h]; rfl
end M1
