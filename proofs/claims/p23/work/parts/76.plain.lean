/-! MAKING: the plain constructors, laid by wip/p23/mkinit.py -/
/-- the memory behind it -/
def cX8 (n0 : Nat) (Γ : GG) (N i : Nat) (C : Nat → va_E) : Nat → va_E := fun j => if j = i then .inr (5, [.ref (n0 + N), .ref (n0 + (N + 1)), .ref (n0 + (N + 2)), .int 0]) else if j < N then C j else (match j - N with | 0 => .inl (Γ.2.1 0, 128, .inl (fun _ => 0)) | 1 => .inl (Γ.2.1 0, 40, .inl (fun _ => 0)) | _ => .inl (Γ.2.1 0, 8, .inl (fun _ => 0)))
theorem cX8_ne {n0 N i j : Nat} {Γ : GG} {C : Nat → va_E} (h1 : ¬ j = i) (h2 : j < N) : cX8 n0 Γ N i C j = C j := by unfold cX8; rw [if_neg h1, if_pos h2]
theorem cX8_eq (n0 : Nat) (Γ : GG) (N i : Nat) (C : Nat → va_E) : cX8 n0 Γ N i C i = .inr (5, [.ref (n0 + N), .ref (n0 + (N + 1)), .ref (n0 + (N + 2)), .int 0]) := if_pos rfl
set_option maxHeartbeats 4000000 in
set_option maxRecDepth 100000 in
theorem n_X8_init (l : Launch) (n0 : Nat) (Γ : GG) (C : Nat → va_E) (N i : Nat) (hi : i < N) (hC : C i = .inr (5, [.null, .null, .null, .int 0])) : KN l yX8_init (wy yX8_init cX8_init 1 none) ({ frames := 1, cells := 3, slots := 176, locals := 12 } : Room) n0 Γ C N [.ref (n0 + i)] (cX8 n0 Γ N i C) 3 176 := by
  refine met_ofN (by decide +kernel) (Nat.le_of_ble_eq_true rfl) (fun p e s m below meth c ls X hr hH hl => ?_)
  have hl : lv_has ls 1 [(0, .ref (n0 + i))] := hl
  have hx := X.1.1
  have hb := X.1.2.1
  refine lv_aload_n hx hb dX8_init_0 rfl (lv_at hl 0 rfl) ?_
  refine n_obj X hl (List.mem_of_getElem? (i := 32) (by decide +kernel)) ⟨Nat.le_of_ble_eq_true rfl, Nat.le_of_ble_eq_true rfl⟩ dX8_init_1 ?_
  refine lv_aload_n hx hb dX8_init_4 rfl (lv_at hl 0 rfl) ?_
  refine lv_sipush (v := 128) hx hb dX8_init_5 (by decide) ?_
  refine n_newI X hH (N' := 128) (by decide) (by decide +kernel) (by omega) (Nat.le_of_ble_eq_true rfl) (Nat.le_of_ble_eq_true rfl) dX8_init_8 (fun H hH => ?_)
  have hH : HN n0 Γ _ (N + 1) s.heap _ _ 1 := hH
  refine n_putF X hH (i := i) (by omega) (by rw [updE_ne (by omega)]; exact hC) (T := TX8) rfl inlX8 tyX8 tyX8_ok nmX8 0 (by decide) (List.mem_of_getElem? (i := 33) (by decide +kernel)) rfl rfl rfl (ty := tyX8 0) (by decide +kernel) rfl rfl (Nat.le_of_ble_eq_true rfl) dX8_init_10 (fun H locs hH => ?_)
  have hH : HN n0 Γ _ (N + 1) s.heap _ _ 1 := hH
  refine lv_aload_n hx hb dX8_init_13 rfl (lv_at hl 0 rfl) ?_
  refine lv_bipush (v := 40) hx hb dX8_init_14 (by decide) ?_
  refine n_newI X hH (N' := 40) (by decide) (by decide +kernel) (by omega) (Nat.le_of_ble_eq_true rfl) (Nat.le_of_ble_eq_true rfl) dX8_init_16 (fun H hH => ?_)
  have hH : HN n0 Γ _ (N + 2) s.heap _ _ 2 := hH
  refine n_putF X hH (i := i) (by omega) (by rw [updE_ne (by omega), updE_eq]) (T := TX8) rfl inlX8 tyX8 tyX8_ok nmX8 1 (by decide) (List.mem_of_getElem? (i := 34) (by decide +kernel)) rfl rfl rfl (ty := tyX8 1) (by decide +kernel) rfl rfl (Nat.le_of_ble_eq_true rfl) dX8_init_18 (fun H locs hH => ?_)
  have hH : HN n0 Γ _ (N + 2) s.heap _ _ 2 := hH
  refine lv_aload_n hx hb dX8_init_21 rfl (lv_at hl 0 rfl) ?_
  refine lv_bipush (v := 8) hx hb dX8_init_22 (by decide) ?_
  refine n_newI X hH (N' := 8) (by decide) (by decide +kernel) (by omega) (Nat.le_of_ble_eq_true rfl) (Nat.le_of_ble_eq_true rfl) dX8_init_24 (fun H hH => ?_)
  have hH : HN n0 Γ _ (N + 3) s.heap _ _ 3 := hH
  refine n_putF X hH (i := i) (by omega) (by rw [updE_ne (by omega), updE_eq]) (T := TX8) rfl inlX8 tyX8 tyX8_ok nmX8 2 (by decide) (List.mem_of_getElem? (i := 35) (by decide +kernel)) rfl rfl rfl (ty := tyX8 2) (by decide +kernel) rfl rfl (Nat.le_of_ble_eq_true rfl) dX8_init_26 (fun H locs hH => ?_)
  have hH : HN n0 Γ _ (N + 3) s.heap _ _ 3 := hH
  refine n_ret (N := N) (k := 3) X hr hH (fun j hj => ?_) rfl (Nat.le_of_ble_eq_true rfl) dX8_init_29
  by_cases h1 : j = i
  · subst h1
    rw [cX8_eq]
    simp (disch := omega) only [updE_ne, updE_eq]
    rfl
  · by_cases h2 : j < N
    · rw [cX8_ne h1 h2]
      simp (disch := omega) only [updE_ne]
    · obtain ⟨t, rfl⟩ : ∃ t, j = N + t := ⟨j - N, by omega⟩
      unfold cX8
      rw [if_neg h1, if_neg h2, show N + t - N = t by omega]
      rcases (show t = 0 ∨ t = 1 ∨ t = 2 by omega) with rfl | rfl | rfl
      all_goals simp (disch := omega) only [Nat.add_zero, updE_ne, updE_eq]

/-- the memory behind it -/
def cX4 (n0 : Nat) (Γ : GG) (N i : Nat) (tx : Nat) (C : Nat → va_E) : Nat → va_E := fun j => if j = i then .inr (1, [.ref tx, .ref (n0 + N), .ref (n0 + (N + 1)), .ref (n0 + (N + 2)), .ref (n0 + (N + 3)), .ref (n0 + (N + 4)), .ref (n0 + (N + 5)), .ref (n0 + (N + 6))]) else if j < N then C j else (match j - N with | 0 => .inl (Γ.2.1 0, 128, .inl (fun _ => 0)) | 1 => .inl (Γ.2.1 0, 128, .inl (fun _ => 0)) | 2 => .inl (Γ.2.1 0, 64, .inl (fun _ => 0)) | 3 => .inl (Γ.2.1 0, 128, .inl (fun _ => 0)) | 4 => .inl (Γ.2.1 0, 128, .inl (fun _ => 0)) | 5 => .inl (Γ.2.1 0, 8, .inl (fun _ => 0)) | _ => .inl (Γ.2.1 0, 8, .inl (fun _ => 0)))
theorem cX4_ne {n0 N i j : Nat} {Γ : GG} {tx : Nat} {C : Nat → va_E} (h1 : ¬ j = i) (h2 : j < N) : cX4 n0 Γ N i tx C j = C j := by unfold cX4; rw [if_neg h1, if_pos h2]
theorem cX4_eq (n0 : Nat) (Γ : GG) (N i : Nat) (tx : Nat) (C : Nat → va_E) : cX4 n0 Γ N i tx C i = .inr (1, [.ref tx, .ref (n0 + N), .ref (n0 + (N + 1)), .ref (n0 + (N + 2)), .ref (n0 + (N + 3)), .ref (n0 + (N + 4)), .ref (n0 + (N + 5)), .ref (n0 + (N + 6))]) := if_pos rfl
set_option maxHeartbeats 4000000 in
set_option maxRecDepth 100000 in
theorem n_X4_init (l : Launch) (n0 : Nat) (Γ : GG) (C : Nat → va_E) (N i : Nat) (hi : i < N) (hC : C i = .inr (1, [.null, .null, .null, .null, .null, .null, .null, .null])) (tx : Nat) : KN l yX4_init (wy yX4_init cX4_init 2 none) ({ frames := 1, cells := 7, slots := 592, locals := 12 } : Room) n0 Γ C N [.ref (n0 + i), .ref tx] (cX4 n0 Γ N i tx C) 7 592 := by
  refine met_ofN (by decide +kernel) (Nat.le_of_ble_eq_true rfl) (fun p e s m below meth c ls X hr hH hl => ?_)
  have hl : lv_has ls 2 [(0, .ref (n0 + i)), (1, .ref tx)] := hl
  have hx := X.1.1
  have hb := X.1.2.1
  refine lv_aload_n hx hb dX4_init_0 rfl (lv_at hl 0 rfl) ?_
  refine n_obj X hl (List.mem_of_getElem? (i := 39) (by decide +kernel)) ⟨Nat.le_of_ble_eq_true rfl, Nat.le_of_ble_eq_true rfl⟩ dX4_init_1 ?_
  refine lv_aload_n hx hb dX4_init_4 rfl (lv_at hl 0 rfl) ?_
  refine lv_sipush (v := 128) hx hb dX4_init_5 (by decide) ?_
  refine n_newI X hH (N' := 128) (by decide) (by decide +kernel) (by omega) (Nat.le_of_ble_eq_true rfl) (Nat.le_of_ble_eq_true rfl) dX4_init_8 (fun H hH => ?_)
  have hH : HN n0 Γ _ (N + 1) s.heap _ _ 1 := hH
  refine n_putF X hH (i := i) (by omega) (by rw [updE_ne (by omega)]; exact hC) (T := TX4) rfl inlX4 tyX4 tyX4_ok nmX4 1 (by decide) (List.mem_of_getElem? (i := 40) (by decide +kernel)) rfl rfl rfl (ty := tyX4 1) (by decide +kernel) rfl rfl (Nat.le_of_ble_eq_true rfl) dX4_init_10 (fun H locs hH => ?_)
  have hH : HN n0 Γ _ (N + 1) s.heap _ _ 1 := hH
  refine lv_aload_n hx hb dX4_init_13 rfl (lv_at hl 0 rfl) ?_
  refine lv_sipush (v := 128) hx hb dX4_init_14 (by decide) ?_
  refine n_newI X hH (N' := 128) (by decide) (by decide +kernel) (by omega) (Nat.le_of_ble_eq_true rfl) (Nat.le_of_ble_eq_true rfl) dX4_init_17 (fun H hH => ?_)
  have hH : HN n0 Γ _ (N + 2) s.heap _ _ 2 := hH
  refine n_putF X hH (i := i) (by omega) (by rw [updE_ne (by omega), updE_eq]) (T := TX4) rfl inlX4 tyX4 tyX4_ok nmX4 2 (by decide) (List.mem_of_getElem? (i := 41) (by decide +kernel)) rfl rfl rfl (ty := tyX4 2) (by decide +kernel) rfl rfl (Nat.le_of_ble_eq_true rfl) dX4_init_19 (fun H locs hH => ?_)
  have hH : HN n0 Γ _ (N + 2) s.heap _ _ 2 := hH
  refine lv_aload_n hx hb dX4_init_22 rfl (lv_at hl 0 rfl) ?_
  refine lv_bipush (v := 64) hx hb dX4_init_23 (by decide) ?_
  refine n_newI X hH (N' := 64) (by decide) (by decide +kernel) (by omega) (Nat.le_of_ble_eq_true rfl) (Nat.le_of_ble_eq_true rfl) dX4_init_25 (fun H hH => ?_)
  have hH : HN n0 Γ _ (N + 3) s.heap _ _ 3 := hH
  refine n_putF X hH (i := i) (by omega) (by rw [updE_ne (by omega), updE_eq]) (T := TX4) rfl inlX4 tyX4 tyX4_ok nmX4 3 (by decide) (List.mem_of_getElem? (i := 42) (by decide +kernel)) rfl rfl rfl (ty := tyX4 3) (by decide +kernel) rfl rfl (Nat.le_of_ble_eq_true rfl) dX4_init_27 (fun H locs hH => ?_)
  have hH : HN n0 Γ _ (N + 3) s.heap _ _ 3 := hH
  refine lv_aload_n hx hb dX4_init_30 rfl (lv_at hl 0 rfl) ?_
  refine lv_sipush (v := 128) hx hb dX4_init_31 (by decide) ?_
  refine n_newI X hH (N' := 128) (by decide) (by decide +kernel) (by omega) (Nat.le_of_ble_eq_true rfl) (Nat.le_of_ble_eq_true rfl) dX4_init_34 (fun H hH => ?_)
  have hH : HN n0 Γ _ (N + 4) s.heap _ _ 4 := hH
  refine n_putF X hH (i := i) (by omega) (by rw [updE_ne (by omega), updE_eq]) (T := TX4) rfl inlX4 tyX4 tyX4_ok nmX4 4 (by decide) (List.mem_of_getElem? (i := 43) (by decide +kernel)) rfl rfl rfl (ty := tyX4 4) (by decide +kernel) rfl rfl (Nat.le_of_ble_eq_true rfl) dX4_init_36 (fun H locs hH => ?_)
  have hH : HN n0 Γ _ (N + 4) s.heap _ _ 4 := hH
  refine lv_aload_n hx hb dX4_init_39 rfl (lv_at hl 0 rfl) ?_
  refine lv_sipush (v := 128) hx hb dX4_init_40 (by decide) ?_
  refine n_newI X hH (N' := 128) (by decide) (by decide +kernel) (by omega) (Nat.le_of_ble_eq_true rfl) (Nat.le_of_ble_eq_true rfl) dX4_init_43 (fun H hH => ?_)
  have hH : HN n0 Γ _ (N + 5) s.heap _ _ 5 := hH
  refine n_putF X hH (i := i) (by omega) (by rw [updE_ne (by omega), updE_eq]) (T := TX4) rfl inlX4 tyX4 tyX4_ok nmX4 5 (by decide) (List.mem_of_getElem? (i := 44) (by decide +kernel)) rfl rfl rfl (ty := tyX4 5) (by decide +kernel) rfl rfl (Nat.le_of_ble_eq_true rfl) dX4_init_45 (fun H locs hH => ?_)
  have hH : HN n0 Γ _ (N + 5) s.heap _ _ 5 := hH
  refine lv_aload_n hx hb dX4_init_48 rfl (lv_at hl 0 rfl) ?_
  refine lv_bipush (v := 8) hx hb dX4_init_49 (by decide) ?_
  refine n_newI X hH (N' := 8) (by decide) (by decide +kernel) (by omega) (Nat.le_of_ble_eq_true rfl) (Nat.le_of_ble_eq_true rfl) dX4_init_51 (fun H hH => ?_)
  have hH : HN n0 Γ _ (N + 6) s.heap _ _ 6 := hH
  refine n_putF X hH (i := i) (by omega) (by rw [updE_ne (by omega), updE_eq]) (T := TX4) rfl inlX4 tyX4 tyX4_ok nmX4 6 (by decide) (List.mem_of_getElem? (i := 45) (by decide +kernel)) rfl rfl rfl (ty := tyX4 6) (by decide +kernel) rfl rfl (Nat.le_of_ble_eq_true rfl) dX4_init_53 (fun H locs hH => ?_)
  have hH : HN n0 Γ _ (N + 6) s.heap _ _ 6 := hH
  refine lv_aload_n hx hb dX4_init_56 rfl (lv_at hl 0 rfl) ?_
  refine lv_bipush (v := 8) hx hb dX4_init_57 (by decide) ?_
  refine n_newI X hH (N' := 8) (by decide) (by decide +kernel) (by omega) (Nat.le_of_ble_eq_true rfl) (Nat.le_of_ble_eq_true rfl) dX4_init_59 (fun H hH => ?_)
  have hH : HN n0 Γ _ (N + 7) s.heap _ _ 7 := hH
  refine n_putF X hH (i := i) (by omega) (by rw [updE_ne (by omega), updE_eq]) (T := TX4) rfl inlX4 tyX4 tyX4_ok nmX4 7 (by decide) (List.mem_of_getElem? (i := 46) (by decide +kernel)) rfl rfl rfl (ty := tyX4 7) (by decide +kernel) rfl rfl (Nat.le_of_ble_eq_true rfl) dX4_init_61 (fun H locs hH => ?_)
  have hH : HN n0 Γ _ (N + 7) s.heap _ _ 7 := hH
  refine lv_aload_n hx hb dX4_init_64 rfl (lv_at hl 0 rfl) ?_
  refine lv_aload_n hx hb dX4_init_65 rfl (lv_at hl 1 rfl) ?_
  refine n_putF X hH (i := i) (by omega) (by rw [updE_eq]) (T := TX4) rfl inlX4 tyX4 tyX4_ok nmX4 0 (by decide) (List.mem_of_getElem? (i := 47) (by decide +kernel)) rfl rfl rfl (ty := tyX4 0) (by decide +kernel) rfl rfl (Nat.le_of_ble_eq_true rfl) dX4_init_66 (fun H locs hH => ?_)
  have hH : HN n0 Γ _ (N + 7) s.heap _ _ 7 := hH
  refine n_ret (N := N) (k := 7) X hr hH (fun j hj => ?_) rfl (Nat.le_of_ble_eq_true rfl) dX4_init_69
  by_cases h1 : j = i
  · subst h1
    rw [cX4_eq]
    simp (disch := omega) only [updE_ne, updE_eq]
    rfl
  · by_cases h2 : j < N
    · rw [cX4_ne h1 h2]
      simp (disch := omega) only [updE_ne]
    · obtain ⟨t, rfl⟩ : ∃ t, j = N + t := ⟨j - N, by omega⟩
      unfold cX4
      rw [if_neg h1, if_neg h2, show N + t - N = t by omega]
      rcases (show t = 0 ∨ t = 1 ∨ t = 2 ∨ t = 3 ∨ t = 4 ∨ t = 5 ∨ t = 6 by omega) with rfl | rfl | rfl | rfl | rfl | rfl | rfl
      all_goals simp (disch := omega) only [Nat.add_zero, updE_ne, updE_eq]

/-- the memory behind it -/
def cX6 (n0 : Nat) (Γ : GG) (N i : Nat) (tx : Nat) (C : Nat → va_E) : Nat → va_E := fun j => if j = i then .inr (3, [.ref tx, .ref (n0 + N), .ref (n0 + (N + 1)), .ref (n0 + (N + 2)), .ref (n0 + (N + 3)), .ref (n0 + (N + 4)), .int 0]) else if j < N then C j else (match j - N with | 0 => .inl (Γ.2.1 0, 8, .inl (fun _ => 0)) | 1 => .inl (Γ.2.1 0, 8, .inl (fun _ => 0)) | 2 => .inl (Γ.2.1 0, 8, .inl (fun _ => 0)) | 3 => .inl (Γ.2.1 0, 8, .inl (fun _ => 0)) | _ => .inl (Γ.2.1 0, 8, .inl (fun _ => 0)))
theorem cX6_ne {n0 N i j : Nat} {Γ : GG} {tx : Nat} {C : Nat → va_E} (h1 : ¬ j = i) (h2 : j < N) : cX6 n0 Γ N i tx C j = C j := by unfold cX6; rw [if_neg h1, if_pos h2]
theorem cX6_eq (n0 : Nat) (Γ : GG) (N i : Nat) (tx : Nat) (C : Nat → va_E) : cX6 n0 Γ N i tx C i = .inr (3, [.ref tx, .ref (n0 + N), .ref (n0 + (N + 1)), .ref (n0 + (N + 2)), .ref (n0 + (N + 3)), .ref (n0 + (N + 4)), .int 0]) := if_pos rfl
set_option maxHeartbeats 4000000 in
set_option maxRecDepth 100000 in
theorem n_X6_init (l : Launch) (n0 : Nat) (Γ : GG) (C : Nat → va_E) (N i : Nat) (hi : i < N) (hC : C i = .inr (3, [.null, .null, .null, .null, .null, .null, .int 0])) (tx : Nat) : KN l yX6_init (wy yX6_init cX6_init 2 none) ({ frames := 1, cells := 5, slots := 40, locals := 12 } : Room) n0 Γ C N [.ref (n0 + i), .ref tx] (cX6 n0 Γ N i tx C) 5 40 := by
  refine met_ofN (by decide +kernel) (Nat.le_of_ble_eq_true rfl) (fun p e s m below meth c ls X hr hH hl => ?_)
  have hl : lv_has ls 2 [(0, .ref (n0 + i)), (1, .ref tx)] := hl
  have hx := X.1.1
  have hb := X.1.2.1
  refine lv_aload_n hx hb dX6_init_0 rfl (lv_at hl 0 rfl) ?_
  refine n_obj X hl (List.mem_of_getElem? (i := 51) (by decide +kernel)) ⟨Nat.le_of_ble_eq_true rfl, Nat.le_of_ble_eq_true rfl⟩ dX6_init_1 ?_
  refine lv_aload_n hx hb dX6_init_4 rfl (lv_at hl 0 rfl) ?_
  refine lv_bipush (v := 8) hx hb dX6_init_5 (by decide) ?_
  refine n_newI X hH (N' := 8) (by decide) (by decide +kernel) (by omega) (Nat.le_of_ble_eq_true rfl) (Nat.le_of_ble_eq_true rfl) dX6_init_7 (fun H hH => ?_)
  have hH : HN n0 Γ _ (N + 1) s.heap _ _ 1 := hH
  refine n_putF X hH (i := i) (by omega) (by rw [updE_ne (by omega)]; exact hC) (T := TX6) rfl inlX6 tyX6 tyX6_ok nmX6 1 (by decide) (List.mem_of_getElem? (i := 52) (by decide +kernel)) rfl rfl rfl (ty := tyX6 1) (by decide +kernel) rfl rfl (Nat.le_of_ble_eq_true rfl) dX6_init_9 (fun H locs hH => ?_)
  have hH : HN n0 Γ _ (N + 1) s.heap _ _ 1 := hH
  refine lv_aload_n hx hb dX6_init_12 rfl (lv_at hl 0 rfl) ?_
  refine lv_bipush (v := 8) hx hb dX6_init_13 (by decide) ?_
  refine n_newI X hH (N' := 8) (by decide) (by decide +kernel) (by omega) (Nat.le_of_ble_eq_true rfl) (Nat.le_of_ble_eq_true rfl) dX6_init_15 (fun H hH => ?_)
  have hH : HN n0 Γ _ (N + 2) s.heap _ _ 2 := hH
  refine n_putF X hH (i := i) (by omega) (by rw [updE_ne (by omega), updE_eq]) (T := TX6) rfl inlX6 tyX6 tyX6_ok nmX6 2 (by decide) (List.mem_of_getElem? (i := 53) (by decide +kernel)) rfl rfl rfl (ty := tyX6 2) (by decide +kernel) rfl rfl (Nat.le_of_ble_eq_true rfl) dX6_init_17 (fun H locs hH => ?_)
  have hH : HN n0 Γ _ (N + 2) s.heap _ _ 2 := hH
  refine lv_aload_n hx hb dX6_init_20 rfl (lv_at hl 0 rfl) ?_
  refine lv_bipush (v := 8) hx hb dX6_init_21 (by decide) ?_
  refine n_newI X hH (N' := 8) (by decide) (by decide +kernel) (by omega) (Nat.le_of_ble_eq_true rfl) (Nat.le_of_ble_eq_true rfl) dX6_init_23 (fun H hH => ?_)
  have hH : HN n0 Γ _ (N + 3) s.heap _ _ 3 := hH
  refine n_putF X hH (i := i) (by omega) (by rw [updE_ne (by omega), updE_eq]) (T := TX6) rfl inlX6 tyX6 tyX6_ok nmX6 3 (by decide) (List.mem_of_getElem? (i := 54) (by decide +kernel)) rfl rfl rfl (ty := tyX6 3) (by decide +kernel) rfl rfl (Nat.le_of_ble_eq_true rfl) dX6_init_25 (fun H locs hH => ?_)
  have hH : HN n0 Γ _ (N + 3) s.heap _ _ 3 := hH
  refine lv_aload_n hx hb dX6_init_28 rfl (lv_at hl 0 rfl) ?_
  refine lv_bipush (v := 8) hx hb dX6_init_29 (by decide) ?_
  refine n_newI X hH (N' := 8) (by decide) (by decide +kernel) (by omega) (Nat.le_of_ble_eq_true rfl) (Nat.le_of_ble_eq_true rfl) dX6_init_31 (fun H hH => ?_)
  have hH : HN n0 Γ _ (N + 4) s.heap _ _ 4 := hH
  refine n_putF X hH (i := i) (by omega) (by rw [updE_ne (by omega), updE_eq]) (T := TX6) rfl inlX6 tyX6 tyX6_ok nmX6 4 (by decide) (List.mem_of_getElem? (i := 55) (by decide +kernel)) rfl rfl rfl (ty := tyX6 4) (by decide +kernel) rfl rfl (Nat.le_of_ble_eq_true rfl) dX6_init_33 (fun H locs hH => ?_)
  have hH : HN n0 Γ _ (N + 4) s.heap _ _ 4 := hH
  refine lv_aload_n hx hb dX6_init_36 rfl (lv_at hl 0 rfl) ?_
  refine lv_bipush (v := 8) hx hb dX6_init_37 (by decide) ?_
  refine n_newI X hH (N' := 8) (by decide) (by decide +kernel) (by omega) (Nat.le_of_ble_eq_true rfl) (Nat.le_of_ble_eq_true rfl) dX6_init_39 (fun H hH => ?_)
  have hH : HN n0 Γ _ (N + 5) s.heap _ _ 5 := hH
  refine n_putF X hH (i := i) (by omega) (by rw [updE_ne (by omega), updE_eq]) (T := TX6) rfl inlX6 tyX6 tyX6_ok nmX6 5 (by decide) (List.mem_of_getElem? (i := 56) (by decide +kernel)) rfl rfl rfl (ty := tyX6 5) (by decide +kernel) rfl rfl (Nat.le_of_ble_eq_true rfl) dX6_init_41 (fun H locs hH => ?_)
  have hH : HN n0 Γ _ (N + 5) s.heap _ _ 5 := hH
  refine lv_aload_n hx hb dX6_init_44 rfl (lv_at hl 0 rfl) ?_
  refine lv_aload_n hx hb dX6_init_45 rfl (lv_at hl 1 rfl) ?_
  refine n_putF X hH (i := i) (by omega) (by rw [updE_eq]) (T := TX6) rfl inlX6 tyX6 tyX6_ok nmX6 0 (by decide) (List.mem_of_getElem? (i := 57) (by decide +kernel)) rfl rfl rfl (ty := tyX6 0) (by decide +kernel) rfl rfl (Nat.le_of_ble_eq_true rfl) dX6_init_46 (fun H locs hH => ?_)
  have hH : HN n0 Γ _ (N + 5) s.heap _ _ 5 := hH
  refine n_ret (N := N) (k := 5) X hr hH (fun j hj => ?_) rfl (Nat.le_of_ble_eq_true rfl) dX6_init_49
  by_cases h1 : j = i
  · subst h1
    rw [cX6_eq]
    simp (disch := omega) only [updE_ne, updE_eq]
    rfl
  · by_cases h2 : j < N
    · rw [cX6_ne h1 h2]
      simp (disch := omega) only [updE_ne]
    · obtain ⟨t, rfl⟩ : ∃ t, j = N + t := ⟨j - N, by omega⟩
      unfold cX6
      rw [if_neg h1, if_neg h2, show N + t - N = t by omega]
      rcases (show t = 0 ∨ t = 1 ∨ t = 2 ∨ t = 3 ∨ t = 4 by omega) with rfl | rfl | rfl | rfl | rfl
      all_goals simp (disch := omega) only [Nat.add_zero, updE_ne, updE_eq]

/-- the memory behind it -/
def cX3 (n0 : Nat) (Γ : GG) (N i : Nat) (nx : Nat) (C : Nat → va_E) : Nat → va_E := fun j => if j = i then .inr (0, [.ref nx, .ref (n0 + N), .ref (n0 + (N + 1)), .int 0, .ref (n0 + (N + 2)), .ref (n0 + (N + 3)), .ref (n0 + (N + 4)), .ref (n0 + (N + 5))]) else if j < N then C j else (match j - N with | 0 => .inl (Γ.2.1 3, 8, .inr (.inr (.inr (.inr (fun _ => none))))) | 1 => .inl (Γ.2.1 0, 128, .inl (fun _ => 0)) | 2 => .inl (Γ.2.1 0, 256, .inl (fun _ => 0)) | 3 => .inl (Γ.2.1 2, 128, .inl (fun _ => 0)) | 4 => .inl (Γ.2.1 0, 128, .inl (fun _ => 0)) | _ => .inl (Γ.2.1 2, 128, .inl (fun _ => 0)))
theorem cX3_ne {n0 N i j : Nat} {Γ : GG} {nx : Nat} {C : Nat → va_E} (h1 : ¬ j = i) (h2 : j < N) : cX3 n0 Γ N i nx C j = C j := by unfold cX3; rw [if_neg h1, if_pos h2]
theorem cX3_eq (n0 : Nat) (Γ : GG) (N i : Nat) (nx : Nat) (C : Nat → va_E) : cX3 n0 Γ N i nx C i = .inr (0, [.ref nx, .ref (n0 + N), .ref (n0 + (N + 1)), .int 0, .ref (n0 + (N + 2)), .ref (n0 + (N + 3)), .ref (n0 + (N + 4)), .ref (n0 + (N + 5))]) := if_pos rfl
set_option maxHeartbeats 4000000 in
set_option maxRecDepth 100000 in
theorem n_X3_init (l : Launch) (n0 : Nat) (Γ : GG) (C : Nat → va_E) (N i : Nat) (hi : i < N) (hC : C i = .inr (0, [.null, .null, .null, .int 0, .null, .null, .null, .null])) (nx : Nat) : KN l yX3_init (wy yX3_init cX3_init 2 none) ({ frames := 1, cells := 6, slots := 776, locals := 12 } : Room) n0 Γ C N [.ref (n0 + i), .ref nx] (cX3 n0 Γ N i nx C) 6 776 := by
  refine met_ofN (by decide +kernel) (Nat.le_of_ble_eq_true rfl) (fun p e s m below meth c ls X hr hH hl => ?_)
  have hl : lv_has ls 2 [(0, .ref (n0 + i)), (1, .ref nx)] := hl
  have hx := X.1.1
  have hb := X.1.2.1
  refine lv_aload_n hx hb dX3_init_0 rfl (lv_at hl 0 rfl) ?_
  refine n_obj X hl (List.mem_of_getElem? (i := 113) (by decide +kernel)) ⟨Nat.le_of_ble_eq_true rfl, Nat.le_of_ble_eq_true rfl⟩ dX3_init_1 ?_
  refine lv_aload_n hx hb dX3_init_4 rfl (lv_at hl 0 rfl) ?_
  refine lv_bipush (v := 8) hx hb dX3_init_5 (by decide) ?_
  refine n_newq X hH (N' := 8) (List.mem_of_getElem? (i := 114) (by decide +kernel)) (by decide) (by decide +kernel) (by omega) (Nat.le_of_ble_eq_true rfl) (Nat.le_of_ble_eq_true rfl) dX3_init_7 (fun H hH => ?_)
  have hH : HN n0 Γ _ (N + 1) s.heap _ _ 1 := hH
  refine n_putF X hH (i := i) (by omega) (by rw [updE_ne (by omega)]; exact hC) (T := TX3) rfl inlX3 tyX3 tyX3_ok nmX3 1 (by decide) (List.mem_of_getElem? (i := 115) (by decide +kernel)) rfl rfl rfl (ty := tyX3 1) (by decide +kernel) rfl rfl (Nat.le_of_ble_eq_true rfl) dX3_init_10 (fun H locs hH => ?_)
  have hH : HN n0 Γ _ (N + 1) s.heap _ _ 1 := hH
  refine lv_aload_n hx hb dX3_init_13 rfl (lv_at hl 0 rfl) ?_
  refine lv_sipush (v := 128) hx hb dX3_init_14 (by decide) ?_
  refine n_newI X hH (N' := 128) (by decide) (by decide +kernel) (by omega) (Nat.le_of_ble_eq_true rfl) (Nat.le_of_ble_eq_true rfl) dX3_init_17 (fun H hH => ?_)
  have hH : HN n0 Γ _ (N + 2) s.heap _ _ 2 := hH
  refine n_putF X hH (i := i) (by omega) (by rw [updE_ne (by omega), updE_eq]) (T := TX3) rfl inlX3 tyX3 tyX3_ok nmX3 2 (by decide) (List.mem_of_getElem? (i := 116) (by decide +kernel)) rfl rfl rfl (ty := tyX3 2) (by decide +kernel) rfl rfl (Nat.le_of_ble_eq_true rfl) dX3_init_19 (fun H locs hH => ?_)
  have hH : HN n0 Γ _ (N + 2) s.heap _ _ 2 := hH
  refine lv_aload_n hx hb dX3_init_22 rfl (lv_at hl 0 rfl) ?_
  refine lv_sipush (v := 256) hx hb dX3_init_23 (by decide) ?_
  refine n_newI X hH (N' := 256) (by decide) (by decide +kernel) (by omega) (Nat.le_of_ble_eq_true rfl) (Nat.le_of_ble_eq_true rfl) dX3_init_26 (fun H hH => ?_)
  have hH : HN n0 Γ _ (N + 3) s.heap _ _ 3 := hH
  refine n_putF X hH (i := i) (by omega) (by rw [updE_ne (by omega), updE_eq]) (T := TX3) rfl inlX3 tyX3 tyX3_ok nmX3 4 (by decide) (List.mem_of_getElem? (i := 117) (by decide +kernel)) rfl rfl rfl (ty := tyX3 4) (by decide +kernel) rfl rfl (Nat.le_of_ble_eq_true rfl) dX3_init_28 (fun H locs hH => ?_)
  have hH : HN n0 Γ _ (N + 3) s.heap _ _ 3 := hH
  refine lv_aload_n hx hb dX3_init_31 rfl (lv_at hl 0 rfl) ?_
  refine lv_sipush (v := 128) hx hb dX3_init_32 (by decide) ?_
  refine n_newZ X hH (N' := 128) (by decide) (by decide +kernel) (by omega) (Nat.le_of_ble_eq_true rfl) (Nat.le_of_ble_eq_true rfl) dX3_init_35 (fun H hH => ?_)
  have hH : HN n0 Γ _ (N + 4) s.heap _ _ 4 := hH
  refine n_putF X hH (i := i) (by omega) (by rw [updE_ne (by omega), updE_eq]) (T := TX3) rfl inlX3 tyX3 tyX3_ok nmX3 5 (by decide) (List.mem_of_getElem? (i := 118) (by decide +kernel)) rfl rfl rfl (ty := tyX3 5) (by decide +kernel) rfl rfl (Nat.le_of_ble_eq_true rfl) dX3_init_37 (fun H locs hH => ?_)
  have hH : HN n0 Γ _ (N + 4) s.heap _ _ 4 := hH
  refine lv_aload_n hx hb dX3_init_40 rfl (lv_at hl 0 rfl) ?_
  refine lv_sipush (v := 128) hx hb dX3_init_41 (by decide) ?_
  refine n_newI X hH (N' := 128) (by decide) (by decide +kernel) (by omega) (Nat.le_of_ble_eq_true rfl) (Nat.le_of_ble_eq_true rfl) dX3_init_44 (fun H hH => ?_)
  have hH : HN n0 Γ _ (N + 5) s.heap _ _ 5 := hH
  refine n_putF X hH (i := i) (by omega) (by rw [updE_ne (by omega), updE_eq]) (T := TX3) rfl inlX3 tyX3 tyX3_ok nmX3 6 (by decide) (List.mem_of_getElem? (i := 119) (by decide +kernel)) rfl rfl rfl (ty := tyX3 6) (by decide +kernel) rfl rfl (Nat.le_of_ble_eq_true rfl) dX3_init_46 (fun H locs hH => ?_)
  have hH : HN n0 Γ _ (N + 5) s.heap _ _ 5 := hH
  refine lv_aload_n hx hb dX3_init_49 rfl (lv_at hl 0 rfl) ?_
  refine lv_sipush (v := 128) hx hb dX3_init_50 (by decide) ?_
  refine n_newZ X hH (N' := 128) (by decide) (by decide +kernel) (by omega) (Nat.le_of_ble_eq_true rfl) (Nat.le_of_ble_eq_true rfl) dX3_init_53 (fun H hH => ?_)
  have hH : HN n0 Γ _ (N + 6) s.heap _ _ 6 := hH
  refine n_putF X hH (i := i) (by omega) (by rw [updE_ne (by omega), updE_eq]) (T := TX3) rfl inlX3 tyX3 tyX3_ok nmX3 7 (by decide) (List.mem_of_getElem? (i := 120) (by decide +kernel)) rfl rfl rfl (ty := tyX3 7) (by decide +kernel) rfl rfl (Nat.le_of_ble_eq_true rfl) dX3_init_55 (fun H locs hH => ?_)
  have hH : HN n0 Γ _ (N + 6) s.heap _ _ 6 := hH
  refine lv_aload_n hx hb dX3_init_58 rfl (lv_at hl 0 rfl) ?_
  refine lv_aload_n hx hb dX3_init_59 rfl (lv_at hl 1 rfl) ?_
  refine n_putF X hH (i := i) (by omega) (by rw [updE_eq]) (T := TX3) rfl inlX3 tyX3 tyX3_ok nmX3 0 (by decide) (List.mem_of_getElem? (i := 121) (by decide +kernel)) rfl rfl rfl (ty := tyX3 0) (by decide +kernel) rfl rfl (Nat.le_of_ble_eq_true rfl) dX3_init_60 (fun H locs hH => ?_)
  have hH : HN n0 Γ _ (N + 6) s.heap _ _ 6 := hH
  refine n_ret (N := N) (k := 6) X hr hH (fun j hj => ?_) rfl (Nat.le_of_ble_eq_true rfl) dX3_init_63
  by_cases h1 : j = i
  · subst h1
    rw [cX3_eq]
    simp (disch := omega) only [updE_ne, updE_eq]
    rfl
  · by_cases h2 : j < N
    · rw [cX3_ne h1 h2]
      simp (disch := omega) only [updE_ne]
    · obtain ⟨t, rfl⟩ : ∃ t, j = N + t := ⟨j - N, by omega⟩
      unfold cX3
      rw [if_neg h1, if_neg h2, show N + t - N = t by omega]
      rcases (show t = 0 ∨ t = 1 ∨ t = 2 ∨ t = 3 ∨ t = 4 ∨ t = 5 by omega) with rfl | rfl | rfl | rfl | rfl | rfl
      all_goals simp (disch := omega) only [Nat.add_zero, updE_ne, updE_eq]

/-- the memory behind it -/
def cX7 (n0 : Nat) (Γ : GG) (N i : Nat) (nn : Nat) (C : Nat → va_E) : Nat → va_E := fun j => if j = i then .inr (4, [.ref (n0 + N), .int 0]) else if j < N then C j else (match j - N with | _ => .inl (Γ.2.1 3, nn, .inr (.inr (.inr (.inr (fun _ => none))))))
theorem cX7_ne {n0 N i j : Nat} {Γ : GG} {nn : Nat} {C : Nat → va_E} (h1 : ¬ j = i) (h2 : j < N) : cX7 n0 Γ N i nn C j = C j := by unfold cX7; rw [if_neg h1, if_pos h2]
theorem cX7_eq (n0 : Nat) (Γ : GG) (N i : Nat) (nn : Nat) (C : Nat → va_E) : cX7 n0 Γ N i nn C i = .inr (4, [.ref (n0 + N), .int 0]) := if_pos rfl
set_option maxHeartbeats 4000000 in
set_option maxRecDepth 100000 in
theorem n_X7_init (l : Launch) (n0 : Nat) (Γ : GG) (C : Nat → va_E) (N i : Nat) (hi : i < N) (hC : C i = .inr (4, [.null, .int 0])) (nn : Nat) (x : Int32) (hn1 : ¬ x < 0) (hn2 : x.toNatClampNeg = nn) (hn3 : nn ≤ 1000) : KN l yX7_init (wy yX7_init cX7_init 2 none) ({ frames := 1, cells := 1, slots := nn, locals := 12 } : Room) n0 Γ C N [.ref (n0 + i), .int x] (cX7 n0 Γ N i nn C) 1 nn := by
  refine met_ofN (by decide +kernel) (Nat.le_of_ble_eq_true rfl) (fun p e s m below meth c ls X hr hH hl => ?_)
  have hl : lv_has ls 2 [(0, .ref (n0 + i)), (1, .int x)] := hl
  have hx := X.1.1
  have hb := X.1.2.1
  refine lv_aload_n hx hb dX7_init_0 rfl (lv_at hl 0 rfl) ?_
  refine n_obj X hl (List.mem_of_getElem? (i := 82) (by decide +kernel)) ⟨Nat.le_of_ble_eq_true rfl, Nat.le_of_ble_eq_true rfl⟩ dX7_init_1 ?_
  refine lv_aload_n hx hb dX7_init_4 rfl (lv_at hl 0 rfl) ?_
  refine lv_iload_n hx hb dX7_init_5 rfl (lv_at hl 1 rfl) ?_
  refine n_newq X hH (N' := nn) (List.mem_of_getElem? (i := 83) (by decide +kernel)) hn1 hn2 hn3 (Nat.le_of_ble_eq_true rfl) (by show 0 + nn ≤ nn; omega) dX7_init_6 (fun H hH => ?_)
  have hH : HN n0 Γ _ (N + 1) s.heap _ _ 1 := hH
  refine n_putF X hH (i := i) (by omega) (by rw [updE_ne (by omega)]; exact hC) (T := TX7) rfl inlX7 tyX7 tyX7_ok nmX7 0 (by decide) (List.mem_of_getElem? (i := 84) (by decide +kernel)) rfl rfl rfl (ty := tyX7 0) (by decide +kernel) rfl rfl (Nat.le_of_ble_eq_true rfl) dX7_init_9 (fun H locs hH => ?_)
  have hH : HN n0 Γ _ (N + 1) s.heap _ _ 1 := hH
  refine n_ret (N := N) (k := 1) X hr hH (fun j hj => ?_) rfl (by omega) dX7_init_12
  by_cases h1 : j = i
  · subst h1
    rw [cX7_eq]
    simp (disch := omega) only [updE_ne, updE_eq]
    rfl
  · by_cases h2 : j < N
    · rw [cX7_ne h1 h2]
      simp (disch := omega) only [updE_ne]
    · obtain ⟨t, rfl⟩ : ∃ t, j = N + t := ⟨j - N, by omega⟩
      unfold cX7
      rw [if_neg h1, if_neg h2, show N + t - N = t by omega]
      rcases (show t = 0 by omega) with rfl
      simp (disch := omega) only [updE_ne, updE_eq, Nat.add_zero]

