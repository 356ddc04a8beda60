/-! MAKING: the mill. Laid by wip/p23/mkmill.py -/
theorem cX8_c {n0 N i j : Nat} {Γ : GG} {C C' : Nat → va_E} (h : j = i ∨ N ≤ j) : cX8 n0 Γ N i C j = cX8 n0 Γ N i C' j := by
  unfold cX8
  by_cases h1 : j = i
  · rw [if_pos h1, if_pos h1]
  · rw [if_neg h1, if_neg h1, if_neg (by omega), if_neg (by omega)]
theorem cX4_c {n0 N i j tx : Nat} {Γ : GG} {C C' : Nat → va_E} (h : j = i ∨ N ≤ j) : cX4 n0 Γ N i tx C j = cX4 n0 Γ N i tx C' j := by
  unfold cX4
  by_cases h1 : j = i
  · rw [if_pos h1, if_pos h1]
  · rw [if_neg h1, if_neg h1, if_neg (by omega), if_neg (by omega)]
theorem cX6_c {n0 N i j tx : Nat} {Γ : GG} {C C' : Nat → va_E} (h : j = i ∨ N ≤ j) : cX6 n0 Γ N i tx C j = cX6 n0 Γ N i tx C' j := by
  unfold cX6
  by_cases h1 : j = i
  · rw [if_pos h1, if_pos h1]
  · rw [if_neg h1, if_neg h1, if_neg (by omega), if_neg (by omega)]
theorem cWk_c {n0 b i K tx nx gx j : Nat} {Γ : GG} {C C' : Nat → va_E} (h : j = i ∨ b ≤ j) : cWk n0 Γ b i K tx nx gx C j = cWk n0 Γ b i K tx nx gx C' j := by
  unfold cWk
  by_cases h1 : j = i
  · rw [if_pos h1, if_pos h1]
  · rw [if_neg h1, if_neg h1, if_neg (show ¬ j < b by omega), if_neg (show ¬ j < b by omega)]
    by_cases h3 : j < b + 17 + 13 * (K + 9)
    · rw [if_pos h3, if_pos h3]
    · rw [if_neg h3, if_neg h3]
      exact cX3_c (by omega)
def mobj (n0 : Nat) : List Value := [.ref (n0 + 1), .ref (n0 + 5), .ref (n0 + 13), .ref (n0 + 19), .ref (n0 + 291), .ref (n0 + 437), .ref (n0 + 438), .ref (n0 + 439), .int 0, .int 0, .int 0]
def noE : Nat → va_E := fun _ => .inr (0, [])
/-- the memory of a new mill -/
def cMill (n0 : Nat) (Γ : GG) : Nat → va_E := fun j =>
  if j = 0 then .inr (7, mobj n0) else if j < 5 then cX8 n0 Γ 2 1 noE j else if j < 13 then cX4 n0 Γ 6 5 (n0 + 1) noE j else if j < 19 then cX6 n0 Γ 14 13 (n0 + 1) noE j
  else if j < 291 then cWk n0 Γ 20 19 10 (n0 + 1) (n0 + 5) (n0 + 13) noE j else if j = 291 then cWk n0 Γ 296 291 0 (n0 + 292) (n0 + 5) (n0 + 13) noE j else if j < 296 then cX8 n0 Γ 293 292 noE j else if j < 437 then cWk n0 Γ 296 291 0 (n0 + 292) (n0 + 5) (n0 + 13) noE j
  else if j = 437 then .inl (Γ.2.1 0, 800, .inl (fun _ => 0)) else .inl (Γ.2.1 0, 8, .inl (fun _ => 0))
set_option maxHeartbeats 16000000 in
set_option maxRecDepth 100000 in
theorem n_X10_init (l : Launch) (n0 : Nat) (Γ : GG) (C : Nat → va_E) (hC : C 0 = .inr (7, [.null, .null, .null, .null, .null, .null, .null, .null, .int 0, .int 0, .int 0])) : KN l yX10_init (wy yX10_init cX10_init 1 none) ({ frames := 4, cells := 439, slots := 39885, locals := 91 } : Room) n0 Γ C 1 [.ref (n0 + 0)] (cMill n0 Γ) 439 39885 := by
  refine met_ofN (by decide +kernel) (Nat.le_of_ble_eq_true rfl) (fun p e s m below meth c ls X hr hH hl => ?_)
  have hl : lv_has ls 1 [(0, .ref (n0 + 0))] := hl
  have hx := X.1.1
  have hb := X.1.2.1
  refine lv_aload_n hx hb dX10_init_0 rfl (lv_at hl 0 rfl) ?_
  refine n_obj X hl (List.mem_of_getElem? (i := 7) (by decide +kernel)) ⟨Nat.le_of_ble_eq_true rfl, Nat.le_of_ble_eq_true rfl⟩ dX10_init_1 ?_
  refine lv_aload_n hx hb dX10_init_4 rfl (lv_at hl 0 rfl) ?_
  refine n_new X hH (ci := 5) (T := TX8) rfl inlX8 tyX8 tyX8_ok (List.mem_of_getElem? (i := 10) (by decide +kernel)) (List.mem_of_getElem? (i := 11) (by decide +kernel)) (List.mem_of_getElem? (i := 12) (by decide +kernel)) [.null, .null, .null, .int 0] (fun j hj => by rcases (show j = 0 ∨ j = 1 ∨ j = 2 ∨ j = 3 by omega) with rfl | rfl | rfl | rfl <;> rfl) (Nat.le_of_ble_eq_true rfl) (Nat.le_of_ble_eq_true rfl) dX10_init_5 (fun H hH => ?_)
  have hH : HN n0 Γ _ (2) s.heap _ _ 1 := hH
  refine lv_dup hx hb dX10_init_8 rfl ?_
  refine n_callIN X hl hH (i := 1) (k := 3) (ms := 176) (As := []) (rest := [.ref (n0 + 1), .ref (n0 + 0)]) (n := 0) (n_X8_init l n0 Γ _ 2 1 (by omega) (by rw [updE_eq])) (List.mem_of_getElem? (i := 31) (by decide +kernel)) X.2.2.1.2.1 (List.mem_of_getElem? (i := 30) (by decide +kernel)) (List.mem_of_getElem? (i := 12) (by decide +kernel)) rfl rfl rfl (by decide +kernel) ⟨Nat.le_of_ble_eq_true rfl, Nat.le_of_ble_eq_true rfl⟩ rfl rfl (Nat.le_of_ble_eq_true rfl) dX10_init_9 ⟨Nat.le_of_ble_eq_true rfl, Nat.le_of_ble_eq_true rfl⟩ (fun H locs hH => ?_)
  have hH : HN n0 Γ _ (5) s.heap _ _ 4 := hH
  refine n_putF X hH (i := 0) (by omega) (by rw [cX8_ne (by omega) (by omega), updE_ne (by omega)]; exact hC) (T := TX10) rfl inlX10 tyX10 tyX10_ok nmX10 0 (by decide) (List.mem_of_getElem? (i := 13) (by decide +kernel)) rfl rfl rfl (ty := tyX10 0) (by decide +kernel) rfl rfl (Nat.le_of_ble_eq_true rfl) dX10_init_12 (fun H locs hH => ?_)
  have hH : HN n0 Γ _ (5) s.heap _ _ 4 := hH
  refine lv_aload_n hx hb dX10_init_15 rfl (lv_at hl 0 rfl) ?_
  refine n_new X hH (ci := 1) (T := TX4) rfl inlX4 tyX4 tyX4_ok (List.mem_of_getElem? (i := 14) (by decide +kernel)) (List.mem_of_getElem? (i := 15) (by decide +kernel)) (List.mem_of_getElem? (i := 16) (by decide +kernel)) [.null, .null, .null, .null, .null, .null, .null, .null] (fun j hj => by rcases (show j = 0 ∨ j = 1 ∨ j = 2 ∨ j = 3 ∨ j = 4 ∨ j = 5 ∨ j = 6 ∨ j = 7 by omega) with rfl | rfl | rfl | rfl | rfl | rfl | rfl | rfl <;> rfl) (Nat.le_of_ble_eq_true rfl) (Nat.le_of_ble_eq_true rfl) dX10_init_16 (fun H hH => ?_)
  have hH : HN n0 Γ _ (6) s.heap _ _ 5 := hH
  refine lv_dup hx hb dX10_init_19 rfl ?_
  refine lv_aload_n hx hb dX10_init_20 rfl (lv_at hl 0 rfl) ?_
  refine n_get X hH (i := 0) (T := TX10) (by omega) (by rw [updE_ne (by omega), updE_eq]) rfl inlX10 0 (by decide) (v := .ref (n0 + 1)) rfl (List.mem_of_getElem? (i := 13) (by decide +kernel)) dX10_init_21 ?_
  refine n_callI X hl hH (i := 5) (k := 7) (ms := 592) (As := [.ref (n0 + 1)]) (rest := [.ref (n0 + 5), .ref (n0 + 0)]) (n := 1) (n_X4_init l n0 Γ _ 6 5 (by omega) (by rw [updE_eq]) (n0 + 1)) (List.mem_of_getElem? (i := 38) (by decide +kernel)) (List.mem_of_getElem? (i := 36) (by decide +kernel)) (List.mem_of_getElem? (i := 37) (by decide +kernel)) (List.mem_of_getElem? (i := 16) (by decide +kernel)) rfl rfl rfl (by decide +kernel) ⟨Nat.le_of_ble_eq_true rfl, Nat.le_of_ble_eq_true rfl⟩ rfl rfl (Nat.le_of_ble_eq_true rfl) dX10_init_24 ⟨Nat.le_of_ble_eq_true rfl, Nat.le_of_ble_eq_true rfl⟩ (fun H locs hH => ?_)
  have hH : HN n0 Γ _ (13) s.heap _ _ 12 := hH
  refine n_putF X hH (i := 0) (by omega) (by rw [cX4_ne (by omega) (by omega), updE_ne (by omega), updE_eq]) (T := TX10) rfl inlX10 tyX10 tyX10_ok nmX10 1 (by decide) (List.mem_of_getElem? (i := 17) (by decide +kernel)) rfl rfl rfl (ty := tyX10 1) (by decide +kernel) rfl rfl (Nat.le_of_ble_eq_true rfl) dX10_init_27 (fun H locs hH => ?_)
  have hH : HN n0 Γ _ (13) s.heap _ _ 12 := hH
  refine lv_aload_n hx hb dX10_init_30 rfl (lv_at hl 0 rfl) ?_
  refine n_new X hH (ci := 3) (T := TX6) rfl inlX6 tyX6 tyX6_ok (List.mem_of_getElem? (i := 18) (by decide +kernel)) (List.mem_of_getElem? (i := 19) (by decide +kernel)) (List.mem_of_getElem? (i := 20) (by decide +kernel)) [.null, .null, .null, .null, .null, .null, .int 0] (fun j hj => by rcases (show j = 0 ∨ j = 1 ∨ j = 2 ∨ j = 3 ∨ j = 4 ∨ j = 5 ∨ j = 6 by omega) with rfl | rfl | rfl | rfl | rfl | rfl | rfl <;> rfl) (Nat.le_of_ble_eq_true rfl) (Nat.le_of_ble_eq_true rfl) dX10_init_31 (fun H hH => ?_)
  have hH : HN n0 Γ _ (14) s.heap _ _ 13 := hH
  refine lv_dup hx hb dX10_init_34 rfl ?_
  refine lv_aload_n hx hb dX10_init_35 rfl (lv_at hl 0 rfl) ?_
  refine n_get X hH (i := 0) (T := TX10) (by omega) (by rw [updE_ne (by omega), updE_eq]) rfl inlX10 0 (by decide) (v := .ref (n0 + 1)) rfl (List.mem_of_getElem? (i := 13) (by decide +kernel)) dX10_init_36 ?_
  refine n_callI X hl hH (i := 13) (k := 5) (ms := 40) (As := [.ref (n0 + 1)]) (rest := [.ref (n0 + 13), .ref (n0 + 0)]) (n := 1) (n_X6_init l n0 Γ _ 14 13 (by omega) (by rw [updE_eq]) (n0 + 1)) (List.mem_of_getElem? (i := 50) (by decide +kernel)) (List.mem_of_getElem? (i := 48) (by decide +kernel)) (List.mem_of_getElem? (i := 49) (by decide +kernel)) (List.mem_of_getElem? (i := 20) (by decide +kernel)) rfl rfl rfl (by decide +kernel) ⟨Nat.le_of_ble_eq_true rfl, Nat.le_of_ble_eq_true rfl⟩ rfl rfl (Nat.le_of_ble_eq_true rfl) dX10_init_39 ⟨Nat.le_of_ble_eq_true rfl, Nat.le_of_ble_eq_true rfl⟩ (fun H locs hH => ?_)
  have hH : HN n0 Γ _ (19) s.heap _ _ 18 := hH
  refine n_putF X hH (i := 0) (by omega) (by rw [cX6_ne (by omega) (by omega), updE_ne (by omega), updE_eq]) (T := TX10) rfl inlX10 tyX10 tyX10_ok nmX10 2 (by decide) (List.mem_of_getElem? (i := 21) (by decide +kernel)) rfl rfl rfl (ty := tyX10 2) (by decide +kernel) rfl rfl (Nat.le_of_ble_eq_true rfl) dX10_init_42 (fun H locs hH => ?_)
  have hH : HN n0 Γ _ (19) s.heap _ _ 18 := hH
  refine lv_aload_n hx hb dX10_init_45 rfl (lv_at hl 0 rfl) ?_
  refine n_new X hH (ci := 6) (T := TX9) rfl inlX9 tyX9 tyX9_ok (List.mem_of_getElem? (i := 22) (by decide +kernel)) (List.mem_of_getElem? (i := 23) (by decide +kernel)) (List.mem_of_getElem? (i := 24) (by decide +kernel)) [.null, .null, .null, .null, .null, .null, .null, .null] (fun j hj => by rcases (show j = 0 ∨ j = 1 ∨ j = 2 ∨ j = 3 ∨ j = 4 ∨ j = 5 ∨ j = 6 ∨ j = 7 by omega) with rfl | rfl | rfl | rfl | rfl | rfl | rfl | rfl <;> rfl) (Nat.le_of_ble_eq_true rfl) (Nat.le_of_ble_eq_true rfl) dX10_init_46 (fun H hH => ?_)
  have hH : HN n0 Γ _ (20) s.heap _ _ 19 := hH
  refine lv_dup hx hb dX10_init_49 rfl ?_
  refine lv_aload_n hx hb dX10_init_50 rfl (lv_at hl 0 rfl) ?_
  refine n_get X hH (i := 0) (T := TX10) (by omega) (by rw [updE_ne (by omega), updE_eq]) rfl inlX10 0 (by decide) (v := .ref (n0 + 1)) rfl (List.mem_of_getElem? (i := 13) (by decide +kernel)) dX10_init_51 ?_
  refine lv_aload_n hx hb dX10_init_54 rfl (lv_at hl 0 rfl) ?_
  refine n_get X hH (i := 0) (T := TX10) (by omega) (by rw [updE_ne (by omega), updE_eq]) rfl inlX10 1 (by decide) (v := .ref (n0 + 5)) rfl (List.mem_of_getElem? (i := 17) (by decide +kernel)) dX10_init_55 ?_
  refine lv_aload_n hx hb dX10_init_58 rfl (lv_at hl 0 rfl) ?_
  refine n_get X hH (i := 0) (T := TX10) (by omega) (by rw [updE_ne (by omega), updE_eq]) rfl inlX10 2 (by decide) (v := .ref (n0 + 13)) rfl (List.mem_of_getElem? (i := 21) (by decide +kernel)) dX10_init_59 ?_
  refine lv_bipush (v := 10) hx hb dX10_init_62 (by decide) ?_
  refine n_callI X hl hH (i := 19) (k := 271) (ms := 25103) (As := [.ref (n0 + 1), .ref (n0 + 5), .ref (n0 + 13), .int 10]) (rest := [.ref (n0 + 19), .ref (n0 + 0)]) (n := 4) (n_X9_init_10 l n0 Γ _ 20 19 (by omega) (by rw [updE_eq]) (n0 + 1) (n0 + 5) (n0 + 13)) (List.mem_of_getElem? (i := 60) (by decide +kernel)) (List.mem_of_getElem? (i := 58) (by decide +kernel)) (List.mem_of_getElem? (i := 59) (by decide +kernel)) (List.mem_of_getElem? (i := 24) (by decide +kernel)) rfl rfl rfl (by decide +kernel) ⟨Nat.le_of_ble_eq_true rfl, Nat.le_of_ble_eq_true rfl⟩ rfl rfl (Nat.le_of_ble_eq_true rfl) dX10_init_64 ⟨Nat.le_of_ble_eq_true rfl, Nat.le_of_ble_eq_true rfl⟩ (fun H locs hH => ?_)
  have hH : HN n0 Γ _ (291) s.heap _ _ 290 := hH
  refine n_putF X hH (i := 0) (by omega) (by rw [cWk_ne (by omega) (by omega), updE_ne (by omega), updE_eq]) (T := TX10) rfl inlX10 tyX10 tyX10_ok nmX10 3 (by decide) (List.mem_of_getElem? (i := 25) (by decide +kernel)) rfl rfl rfl (ty := tyX10 3) (by decide +kernel) rfl rfl (Nat.le_of_ble_eq_true rfl) dX10_init_67 (fun H locs hH => ?_)
  have hH : HN n0 Γ _ (291) s.heap _ _ 290 := hH
  refine lv_aload_n hx hb dX10_init_70 rfl (lv_at hl 0 rfl) ?_
  refine n_new X hH (ci := 6) (T := TX9) rfl inlX9 tyX9 tyX9_ok (List.mem_of_getElem? (i := 22) (by decide +kernel)) (List.mem_of_getElem? (i := 23) (by decide +kernel)) (List.mem_of_getElem? (i := 24) (by decide +kernel)) [.null, .null, .null, .null, .null, .null, .null, .null] (fun j hj => by rcases (show j = 0 ∨ j = 1 ∨ j = 2 ∨ j = 3 ∨ j = 4 ∨ j = 5 ∨ j = 6 ∨ j = 7 by omega) with rfl | rfl | rfl | rfl | rfl | rfl | rfl | rfl <;> rfl) (Nat.le_of_ble_eq_true rfl) (Nat.le_of_ble_eq_true rfl) dX10_init_71 (fun H hH => ?_)
  have hH : HN n0 Γ _ (292) s.heap _ _ 291 := hH
  refine lv_dup hx hb dX10_init_74 rfl ?_
  refine n_new X hH (ci := 5) (T := TX8) rfl inlX8 tyX8 tyX8_ok (List.mem_of_getElem? (i := 10) (by decide +kernel)) (List.mem_of_getElem? (i := 11) (by decide +kernel)) (List.mem_of_getElem? (i := 12) (by decide +kernel)) [.null, .null, .null, .int 0] (fun j hj => by rcases (show j = 0 ∨ j = 1 ∨ j = 2 ∨ j = 3 by omega) with rfl | rfl | rfl | rfl <;> rfl) (Nat.le_of_ble_eq_true rfl) (Nat.le_of_ble_eq_true rfl) dX10_init_75 (fun H hH => ?_)
  have hH : HN n0 Γ _ (293) s.heap _ _ 292 := hH
  refine lv_dup hx hb dX10_init_78 rfl ?_
  refine n_callIN X hl hH (i := 292) (k := 3) (ms := 176) (As := []) (rest := [.ref (n0 + 292), .ref (n0 + 291), .ref (n0 + 291), .ref (n0 + 0)]) (n := 0) (n_X8_init l n0 Γ _ 293 292 (by omega) (by rw [updE_eq])) (List.mem_of_getElem? (i := 31) (by decide +kernel)) X.2.2.1.2.1 (List.mem_of_getElem? (i := 30) (by decide +kernel)) (List.mem_of_getElem? (i := 12) (by decide +kernel)) rfl rfl rfl (by decide +kernel) ⟨Nat.le_of_ble_eq_true rfl, Nat.le_of_ble_eq_true rfl⟩ rfl rfl (Nat.le_of_ble_eq_true rfl) dX10_init_79 ⟨Nat.le_of_ble_eq_true rfl, Nat.le_of_ble_eq_true rfl⟩ (fun H locs hH => ?_)
  have hH : HN n0 Γ _ (296) s.heap _ _ 295 := hH
  refine lv_aload_n hx hb dX10_init_82 rfl (lv_at hl 0 rfl) ?_
  refine n_get X hH (i := 0) (T := TX10) (by omega) (by rw [cX8_ne (by omega) (by omega), updE_ne (by omega), updE_ne (by omega), updE_eq]) rfl inlX10 1 (by decide) (v := .ref (n0 + 5)) rfl (List.mem_of_getElem? (i := 17) (by decide +kernel)) dX10_init_83 ?_
  refine lv_aload_n hx hb dX10_init_86 rfl (lv_at hl 0 rfl) ?_
  refine n_get X hH (i := 0) (T := TX10) (by omega) (by rw [cX8_ne (by omega) (by omega), updE_ne (by omega), updE_ne (by omega), updE_eq]) rfl inlX10 2 (by decide) (v := .ref (n0 + 13)) rfl (List.mem_of_getElem? (i := 21) (by decide +kernel)) dX10_init_87 ?_
  refine lv_iconst (v := 0) hx hb dX10_init_90 (by decide) ?_
  refine n_callI X hl hH (i := 291) (k := 141) (ms := 12943) (As := [.ref (n0 + 292), .ref (n0 + 5), .ref (n0 + 13), .int 0]) (rest := [.ref (n0 + 291), .ref (n0 + 0)]) (n := 4) (n_X9_init_0 l n0 Γ _ 296 291 (by omega) (by rw [cX8_ne (by omega) (by omega), updE_ne (by omega), updE_eq]) (n0 + 292) (n0 + 5) (n0 + 13)) (List.mem_of_getElem? (i := 60) (by decide +kernel)) (List.mem_of_getElem? (i := 58) (by decide +kernel)) (List.mem_of_getElem? (i := 59) (by decide +kernel)) (List.mem_of_getElem? (i := 24) (by decide +kernel)) rfl rfl rfl (by decide +kernel) ⟨Nat.le_of_ble_eq_true rfl, Nat.le_of_ble_eq_true rfl⟩ rfl rfl (Nat.le_of_ble_eq_true rfl) dX10_init_91 ⟨Nat.le_of_ble_eq_true rfl, Nat.le_of_ble_eq_true rfl⟩ (fun H locs hH => ?_)
  have hH : HN n0 Γ _ (437) s.heap _ _ 436 := hH
  refine n_putF X hH (i := 0) (by omega) (by rw [cWk_ne (by omega) (by omega), cX8_ne (by omega) (by omega), updE_ne (by omega), updE_ne (by omega), updE_eq]) (T := TX10) rfl inlX10 tyX10 tyX10_ok nmX10 4 (by decide) (List.mem_of_getElem? (i := 26) (by decide +kernel)) rfl rfl rfl (ty := tyX10 4) (by decide +kernel) rfl rfl (Nat.le_of_ble_eq_true rfl) dX10_init_94 (fun H locs hH => ?_)
  have hH : HN n0 Γ _ (437) s.heap _ _ 436 := hH
  refine lv_aload_n hx hb dX10_init_97 rfl (lv_at hl 0 rfl) ?_
  refine lv_sipush (v := 800) hx hb dX10_init_98 (by decide) ?_
  refine n_newI X hH (N' := 800) (by decide) (by decide +kernel) (by omega) (Nat.le_of_ble_eq_true rfl) (Nat.le_of_ble_eq_true rfl) dX10_init_101 (fun H hH => ?_)
  have hH : HN n0 Γ _ (438) s.heap _ _ 437 := hH
  refine n_putF X hH (i := 0) (by omega) (by rw [updE_ne (by omega), updE_eq]) (T := TX10) rfl inlX10 tyX10 tyX10_ok nmX10 5 (by decide) (List.mem_of_getElem? (i := 27) (by decide +kernel)) rfl rfl rfl (ty := tyX10 5) (by decide +kernel) rfl rfl (Nat.le_of_ble_eq_true rfl) dX10_init_103 (fun H locs hH => ?_)
  have hH : HN n0 Γ _ (438) s.heap _ _ 437 := hH
  refine lv_aload_n hx hb dX10_init_106 rfl (lv_at hl 0 rfl) ?_
  refine lv_bipush (v := 8) hx hb dX10_init_107 (by decide) ?_
  refine n_newI X hH (N' := 8) (by decide) (by decide +kernel) (by omega) (Nat.le_of_ble_eq_true rfl) (Nat.le_of_ble_eq_true rfl) dX10_init_109 (fun H hH => ?_)
  have hH : HN n0 Γ _ (439) s.heap _ _ 438 := hH
  refine n_putF X hH (i := 0) (by omega) (by rw [updE_ne (by omega), updE_eq]) (T := TX10) rfl inlX10 tyX10 tyX10_ok nmX10 6 (by decide) (List.mem_of_getElem? (i := 28) (by decide +kernel)) rfl rfl rfl (ty := tyX10 6) (by decide +kernel) rfl rfl (Nat.le_of_ble_eq_true rfl) dX10_init_111 (fun H locs hH => ?_)
  have hH : HN n0 Γ _ (439) s.heap _ _ 438 := hH
  refine lv_aload_n hx hb dX10_init_114 rfl (lv_at hl 0 rfl) ?_
  refine lv_bipush (v := 8) hx hb dX10_init_115 (by decide) ?_
  refine n_newI X hH (N' := 8) (by decide) (by decide +kernel) (by omega) (Nat.le_of_ble_eq_true rfl) (Nat.le_of_ble_eq_true rfl) dX10_init_117 (fun H hH => ?_)
  have hH : HN n0 Γ _ (440) s.heap _ _ 439 := hH
  refine n_putF X hH (i := 0) (by omega) (by rw [updE_ne (by omega), updE_eq]) (T := TX10) rfl inlX10 tyX10 tyX10_ok nmX10 7 (by decide) (List.mem_of_getElem? (i := 29) (by decide +kernel)) rfl rfl rfl (ty := tyX10 7) (by decide +kernel) rfl rfl (Nat.le_of_ble_eq_true rfl) dX10_init_119 (fun H locs hH => ?_)
  have hH : HN n0 Γ _ (440) s.heap _ _ 439 := hH
  refine n_ret (N := 1) (k := 439) X hr hH (fun j hj => ?_) rfl (Nat.le_of_ble_eq_true rfl) dX10_init_122
  unfold cMill
  by_cases h0 : j = 0
  · subst h0
    rw [if_pos rfl, updE_eq]
    rfl
  · rw [if_neg h0]
    by_cases h1 : j < 5
    · rw [if_pos h1]
      simp (disch := omega) only [updE_ne, cWk_ne, cX8_ne, cX6_ne, cX4_ne]
      exact cX8_c (by omega)
    · rw [if_neg h1]
      by_cases h2 : j < 13
      · rw [if_pos h2]
        simp (disch := omega) only [updE_ne, cWk_ne, cX8_ne, cX6_ne]
        exact cX4_c (by omega)
      · rw [if_neg h2]
        by_cases h3 : j < 19
        · rw [if_pos h3]
          simp (disch := omega) only [updE_ne, cWk_ne, cX8_ne]
          exact cX6_c (by omega)
        · rw [if_neg h3]
          by_cases h4 : j < 291
          · rw [if_pos h4]
            simp (disch := omega) only [updE_ne, cWk_ne, cX8_ne]
            exact cWk_c (by omega)
          · rw [if_neg h4]
            by_cases h5 : j = 291
            · rw [if_pos h5]
              simp (disch := omega) only [updE_ne]
              exact cWk_c (by omega)
            · rw [if_neg h5]
              by_cases h6 : j < 296
              · rw [if_pos h6]
                simp (disch := omega) only [updE_ne, cWk_ne]
                exact cX8_c (by omega)
              · rw [if_neg h6]
                by_cases h7 : j < 437
                · rw [if_pos h7]
                  simp (disch := omega) only [updE_ne]
                  exact cWk_c (by omega)
                · rw [if_neg h7]
                  rcases (show j = 437 ∨ j = 438 ∨ j = 439 by omega) with rfl | rfl | rfl
                  all_goals simp (disch := omega) only [updE_ne, updE_eq]
                  all_goals rfl
