/-! THE MEMORY OF A NEW MILL, whole -/
section M2
variable {n0 : Nat} {D : va_G} {dA : Nat → ClassId}
set_option maxRecDepth 100000 in
theorem cell_M : ∀ k, k < 18 → cMill n0 (Γm n0 D dA) (pos k) = cellQ (Γm n0 D dA) sg0 (desc k) := by
  intro k hk
  rcases (show k = 0 ∨ k = 1 ∨ k = 2 ∨ k = 3 ∨ k = 4 ∨ k = 5 ∨ k = 6 ∨ k = 7 ∨ k = 8 ∨ k = 9 ∨ k = 10 ∨ k = 11 ∨ k = 12 ∨ k = 13 ∨ k = 14 ∨ k = 15 ∨ k = 16 ∨ k = 17 by omega) with rfl | rfl | rfl | rfl | rfl | rfl | rfl | rfl | rfl | rfl | rfl | rfl | rfl | rfl | rfl | rfl | rfl | rfl
  all_goals rfl
set_option maxRecDepth 100000 in
theorem cell_T01 : ∀ t, t < 2 → ∀ j, j < 4 → cMill n0 (Γm n0 D dA) (pos (kT t + j)) = cellQ (Γm n0 D dA) sg0 (desc (kT t + j)) := by
  intro t ht j hj
  rcases (show t = 0 ∨ t = 1 by omega) with rfl | rfl <;> rcases (show j = 0 ∨ j = 1 ∨ j = 2 ∨ j = 3 by omega) with rfl | rfl | rfl | rfl
  all_goals rfl
set_option maxRecDepth 100000 in
theorem cell_W0 : ∀ j, j < 12 → cMill n0 (Γm n0 D dA) (pos (kW 0 + j)) = cellQ (Γm n0 D dA) sg0 (desc (kW 0 + j)) := by
  intro j hj
  rcases (show j = 3 ∨ j = 4 ∨ j = 0 ∨ j = 1 ∨ j = 2 ∨ j = 5 ∨ j = 6 ∨ j = 7 ∨ j = 8 ∨ j = 9 ∨ j = 10 ∨ j = 11 by omega) with rfl | rfl | rfl | rfl | rfl | rfl | rfl | rfl | rfl | rfl | rfl | rfl
  · rw [dW3 0 (by omega)]
    show cMill n0 (Γm n0 D dA) 20 = .inl ((Γm n0 D dA).2.1 3, 8, .inr (.inr (.inr (.inr (rrow (Γm n0 D dA) sg0 0 0)))))
    rw [row_last 0 20 (by decide), cMill_W (by omega) (by omega)]
    rfl
  · rw [dW4 0 (by omega)]
    show cMill n0 (Γm n0 D dA) 36 = .inl ((Γm n0 D dA).2.1 3, 19, .inr (.inr (.inr (.inr (rrow (Γm n0 D dA) sg0 3 0)))))
    rw [row_pool 0 20 19 rfl (fun z hz => by unfold basR; rw [if_neg (by omega), if_pos (by omega)]; omega), cMill_W (by omega) (by omega)]
    rfl
  all_goals rfl
set_option maxRecDepth 100000 in
theorem cell_W1 : ∀ j, j < 12 → cMill n0 (Γm n0 D dA) (pos (kW 1 + j)) = cellQ (Γm n0 D dA) sg0 (desc (kW 1 + j)) := by
  intro j hj
  rcases (show j = 3 ∨ j = 4 ∨ j = 0 ∨ j = 1 ∨ j = 2 ∨ j = 5 ∨ j = 6 ∨ j = 7 ∨ j = 8 ∨ j = 9 ∨ j = 10 ∨ j = 11 by omega) with rfl | rfl | rfl | rfl | rfl | rfl | rfl | rfl | rfl | rfl | rfl | rfl
  · rw [dW3 1 (by omega)]
    show cMill n0 (Γm n0 D dA) 296 = .inl ((Γm n0 D dA).2.1 3, 8, .inr (.inr (.inr (.inr (rrow (Γm n0 D dA) sg0 0 1)))))
    rw [row_last 1 296 (by decide), cMill_V (by omega) (by omega)]
    rfl
  · rw [dW4 1 (by omega)]
    show cMill n0 (Γm n0 D dA) 312 = .inl ((Γm n0 D dA).2.1 3, 9, .inr (.inr (.inr (.inr (rrow (Γm n0 D dA) sg0 3 1)))))
    rw [row_pool 1 296 9 rfl (fun z hz => by unfold basR; rw [if_neg (by omega), if_neg (by omega), if_neg (by omega)]; omega), cMill_V (by omega) (by omega)]
    rfl
  all_goals rfl
theorem cell_all : ∀ k, k < 440 → cMill n0 (Γm n0 D dA) (pos k) = cellQ (Γm n0 D dA) sg0 (desc k) := by
  intro k hk
  by_cases h1 : k < 18
  · exact cell_M k h1
  · by_cases h2 : k < 42
    · by_cases h3 : k < 30
      · have := cell_W0 (n0 := n0) (D := D) (dA := dA) (k - 18) (by omega)
        rw [show kW 0 + (k - 18) = k by unfold kW; omega] at this
        exact this
      · have := cell_W1 (n0 := n0) (D := D) (dA := dA) (k - 30) (by omega)
        rw [show kW 1 + (k - 30) = k by unfold kW; omega] at this
        exact this
    · by_cases h3 : k < 170
      · by_cases h4 : k < 50
        · have := cell_T01 (n0 := n0) (D := D) (dA := dA) ((k - 42) / 4) (by omega) ((k - 42) % 4) (by omega)
          rw [show kT ((k - 42) / 4) + (k - 42) % 4 = k by unfold kT; omega] at this
          exact this
        · have := cell_T (n0 := n0) (D := D) (dA := dA) (r := (k - 50) / 4) (by omega) ((k - 50) % 4) (by omega)
          rw [show kT ((k - 50) / 4 + 2) + (k - 50) % 4 = k by unfold kT; omega] at this
          exact this
      · have := cell_R (n0 := n0) (D := D) (dA := dA) (r := (k - 170) / 9) (by omega) ((k - 170) % 9) (by omega)
        rw [show kR ((k - 170) / 9) + (k - 170) % 9 = k by unfold kR; omega] at this
        exact this
/-- the memory as it was made is a state's -/
theorem mem0 {H : Heap} (h : va_P D vwCl (wn n0 (cMill n0 (Γm n0 D dA)) 440) H) : va_P D vwCl (wd (Γm n0 D dA) sg0) H := h.by pos (fun k q hk => by
  have hl := (List.getElem?_eq_some_iff.mp hk).1
  rw [wd_len] at hl
  rw [wd_get hl] at hk
  cases hk
  rw [wn_get (pos_lt k hl), cell_all k hl]; rfl)
end M2
