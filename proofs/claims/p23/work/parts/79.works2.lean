/-! MAKING: works, whole. Laid by wip/p23/mkworks2.py -/
theorem cX3_c {n0 N i j nx : Nat} {Γ : GG} {C C' : Nat → va_E} (h : j = i ∨ N ≤ j) : cX3 n0 Γ N i nx C j = cX3 n0 Γ N i nx C' j := by
  unfold cX3
  by_cases h1 : j = i
  · rw [if_pos h1, if_pos h1]
  · rw [if_neg h1, if_neg h1, if_neg (by omega), if_neg (by omega)]
/-- the memory behind a works' constructor -/
def wob (n0 b K tx nx gx : Nat) : List Value := [.ref tx, .ref nx, .ref gx, .ref (n0 + (b + 17 + 13 * (K + 9))), .ref (n0 + (b + 1)), .ref (n0 + b), .ref (n0 + (b + 3)), .ref (n0 + (b + 16))]
def cWk (n0 : Nat) (Γ : GG) (b i K tx nx gx : Nat) (C : Nat → va_E) : Nat → va_E := fun j => if j = i then .inr (6, wob n0 b K tx nx gx) else if j < b then C j else if j < b + 17 + 13 * (K + 9) then wcell n0 Γ b K 8 (K + 9) (j - b) else cX3 n0 Γ (b + 17 + 13 * (K + 9) + 1) (b + 17 + 13 * (K + 9)) nx C j
theorem cWk_eq (n0 : Nat) (Γ : GG) (b i K tx nx gx : Nat) (C : Nat → va_E) : cWk n0 Γ b i K tx nx gx C i = .inr (6, wob n0 b K tx nx gx) := if_pos rfl
theorem cWk_ne {n0 b i K tx nx gx j : Nat} {Γ : GG} {C : Nat → va_E} (h1 : ¬ j = i) (h2 : j < b) : cWk n0 Γ b i K tx nx gx C j = C j := by unfold cWk; rw [if_neg h1, if_pos h2]
set_option maxHeartbeats 8000000 in
set_option maxRecDepth 100000 in
theorem n_X9_init_10 (l : Launch) (n0 : Nat) (Γ : GG) (C : Nat → va_E) (b i : Nat) (hi : i < b) (hC : C i = .inr (6, [.null, .null, .null, .null, .null, .null, .null, .null])) (tx nx gx : Nat) : KN l yX9_init (wy yX9_init cX9_init 6 none) ({ frames := 3, cells := 271, slots := 25103, locals := 66 } : Room) n0 Γ C b [.ref (n0 + i), .ref tx, .ref nx, .ref gx, .int 10] (cWk n0 Γ b i 10 tx nx gx C) 271 25103 := by
  refine met_ofN (by decide +kernel) (Nat.le_of_ble_eq_true rfl) (fun p e s m below meth c ls X hr hH hl => ?_)
  have hl : lv_has ls 6 [(0, .ref (n0 + i)), (1, .ref tx), (2, .ref nx), (3, .ref gx), (4, .int 10)] := hl
  have hx := X.1.1
  have hb := X.1.2.1
  refine lv_aload_n hx hb dX9_init_0 rfl (lv_at hl 0 rfl) ?_
  refine n_obj X hl (List.mem_of_getElem? (i := 61) (by decide +kernel)) ⟨Nat.le_of_ble_eq_true rfl, Nat.le_of_ble_eq_true rfl⟩ dX9_init_1 ?_
  refine lv_aload_n hx hb dX9_init_4 rfl (lv_at hl 0 rfl) ?_
  refine lv_bipush (v := 8) hx hb dX9_init_5 (by decide) ?_
  refine n_newq X hH (N' := 8) (List.mem_of_getElem? (i := 62) (by decide +kernel)) (by decide) (by decide +kernel) (by omega) (Nat.le_of_ble_eq_true rfl) (Nat.le_of_ble_eq_true rfl) dX9_init_7 (fun H hH => ?_)
  have hH : HN n0 Γ _ (b + 1) s.heap _ _ 1 := hH
  refine n_putF X hH (i := i) (by omega) (by rw [updE_ne (by omega)]; exact hC) (T := TX9) rfl inlX9 tyX9 tyX9_ok nmX9 5 (by decide) (List.mem_of_getElem? (i := 63) (by decide +kernel)) rfl rfl rfl (ty := tyX9 5) (by decide +kernel) rfl rfl (Nat.le_of_ble_eq_true rfl) dX9_init_10 (fun H locs hH => ?_)
  have hH : HN n0 Γ _ (b + 1) s.heap _ _ 1 := hH
  refine lv_aload_n hx hb dX9_init_13 rfl (lv_at hl 0 rfl) ?_
  refine lv_aload_n hx hb dX9_init_14 rfl (lv_at hl 1 rfl) ?_
  refine n_putF X hH (i := i) (by omega) (by rw [updE_eq]) (T := TX9) rfl inlX9 tyX9 tyX9_ok nmX9 0 (by decide) (List.mem_of_getElem? (i := 64) (by decide +kernel)) rfl rfl rfl (ty := tyX9 0) (by decide +kernel) rfl rfl (Nat.le_of_ble_eq_true rfl) dX9_init_15 (fun H locs hH => ?_)
  have hH : HN n0 Γ _ (b + 1) s.heap _ _ 1 := hH
  refine lv_aload_n hx hb dX9_init_18 rfl (lv_at hl 0 rfl) ?_
  refine lv_aload_n hx hb dX9_init_19 rfl (lv_at hl 2 rfl) ?_
  refine n_putF X hH (i := i) (by omega) (by rw [updE_eq]) (T := TX9) rfl inlX9 tyX9 tyX9_ok nmX9 1 (by decide) (List.mem_of_getElem? (i := 65) (by decide +kernel)) rfl rfl rfl (ty := tyX9 1) (by decide +kernel) rfl rfl (Nat.le_of_ble_eq_true rfl) dX9_init_20 (fun H locs hH => ?_)
  have hH : HN n0 Γ _ (b + 1) s.heap _ _ 1 := hH
  refine lv_aload_n hx hb dX9_init_23 rfl (lv_at hl 0 rfl) ?_
  refine lv_aload_n hx hb dX9_init_24 rfl (lv_at hl 3 rfl) ?_
  refine n_putF X hH (i := i) (by omega) (by rw [updE_eq]) (T := TX9) rfl inlX9 tyX9 tyX9_ok nmX9 2 (by decide) (List.mem_of_getElem? (i := 66) (by decide +kernel)) rfl rfl rfl (ty := tyX9 2) (by decide +kernel) rfl rfl (Nat.le_of_ble_eq_true rfl) dX9_init_25 (fun H locs hH => ?_)
  have hH : HN n0 Γ _ (b + 1) s.heap _ _ 1 := hH
  refine lv_aload_n hx hb dX9_init_28 rfl (lv_at hl 0 rfl) ?_
  refine n_new X hH (ci := 4) (T := TX7) rfl inlX7 tyX7 tyX7_ok (List.mem_of_getElem? (i := 67) (by decide +kernel)) (List.mem_of_getElem? (i := 68) (by decide +kernel)) (List.mem_of_getElem? (i := 69) (by decide +kernel)) [.null, .int 0] (fun j hj => by rcases (show j = 0 ∨ j = 1 by omega) with rfl | rfl <;> rfl) (Nat.le_of_ble_eq_true rfl) (Nat.le_of_ble_eq_true rfl) dX9_init_29 (fun H hH => ?_)
  have hH : HN n0 Γ _ (b + 2) s.heap _ _ 2 := hH
  refine lv_dup hx hb dX9_init_32 rfl ?_
  refine lv_iload hx hb dX9_init_33 (lv_at hl 4 rfl) ?_
  refine n_callI X hl hH (i := (b + 1)) (k := 1) (ms := 10) (As := [.int 10]) (rest := [.ref (n0 + (b + 1)), .ref (n0 + i)]) (n := 1) (n_X7_init l n0 Γ _ (b + 2) (b + 1) (by omega) (by rw [updE_eq]) 10 (10) (by decide) (by decide +kernel) (by omega)) (List.mem_of_getElem? (i := 81) (by decide +kernel)) (List.mem_of_getElem? (i := 79) (by decide +kernel)) (List.mem_of_getElem? (i := 80) (by decide +kernel)) (List.mem_of_getElem? (i := 69) (by decide +kernel)) rfl rfl rfl (by decide +kernel) ⟨Nat.le_of_ble_eq_true rfl, Nat.le_of_ble_eq_true rfl⟩ rfl rfl (Nat.le_of_ble_eq_true rfl) dX9_init_35 ⟨Nat.le_of_ble_eq_true rfl, Nat.le_of_ble_eq_true rfl⟩ (fun H locs hH => ?_)
  have hH : HN n0 Γ _ (b + 3) s.heap _ _ 3 := hH
  refine n_putF X hH (i := i) (by omega) (by rw [cX7_ne (by omega) (by omega), updE_ne (by omega), updE_eq]) (T := TX9) rfl inlX9 tyX9 tyX9_ok nmX9 4 (by decide) (List.mem_of_getElem? (i := 70) (by decide +kernel)) rfl rfl rfl (ty := tyX9 4) (by decide +kernel) rfl rfl (Nat.le_of_ble_eq_true rfl) dX9_init_38 (fun H locs hH => ?_)
  have hH : HN n0 Γ _ (b + 3) s.heap _ _ 3 := hH
  refine lv_aload_n hx hb dX9_init_41 rfl (lv_at hl 0 rfl) ?_
  refine n_new X hH (ci := 2) (T := TX5) rfl inlX5 tyX5 tyX5_ok (List.mem_of_getElem? (i := 62) (by decide +kernel)) (List.mem_of_getElem? (i := 71) (by decide +kernel)) (List.mem_of_getElem? (i := 72) (by decide +kernel)) [.int 0, .null, .null, .null, .null, .null, .null, .null, .null, .null] (fun j hj => by rcases (show j = 0 ∨ j = 1 ∨ j = 2 ∨ j = 3 ∨ j = 4 ∨ j = 5 ∨ j = 6 ∨ j = 7 ∨ j = 8 ∨ j = 9 by omega) with rfl | rfl | rfl | rfl | rfl | rfl | rfl | rfl | rfl | rfl <;> rfl) (Nat.le_of_ble_eq_true rfl) (Nat.le_of_ble_eq_true rfl) dX9_init_42 (fun H hH => ?_)
  have hH : HN n0 Γ _ (b + 4) s.heap _ _ 4 := hH
  refine lv_dup hx hb dX9_init_45 rfl ?_
  refine n_callI X hl hH (i := (b + 3)) (k := 12) (ms := 1204) (As := []) (rest := [.ref (n0 + (b + 3)), .ref (n0 + i)]) (n := 0) (n_X5_init l n0 Γ _ (b + 4) (b + 3) (by omega) (by rw [updE_eq])) (List.mem_of_getElem? (i := 87) (by decide +kernel)) (List.mem_of_getElem? (i := 85) (by decide +kernel)) (List.mem_of_getElem? (i := 86) (by decide +kernel)) (List.mem_of_getElem? (i := 72) (by decide +kernel)) rfl rfl rfl (by decide +kernel) ⟨Nat.le_of_ble_eq_true rfl, Nat.le_of_ble_eq_true rfl⟩ rfl rfl (Nat.le_of_ble_eq_true rfl) dX9_init_46 ⟨Nat.le_of_ble_eq_true rfl, Nat.le_of_ble_eq_true rfl⟩ (fun H locs hH => ?_)
  have hH : HN n0 Γ _ (b + 16) s.heap _ _ 16 := hH
  refine n_putF X hH (i := i) (by omega) (by rw [cRes_ne (by omega) (by omega), updE_ne (by omega), updE_eq]) (T := TX9) rfl inlX9 tyX9 tyX9_ok nmX9 6 (by decide) (List.mem_of_getElem? (i := 73) (by decide +kernel)) rfl rfl rfl (ty := tyX9 6) (by decide +kernel) rfl rfl (Nat.le_of_ble_eq_true rfl) dX9_init_49 (fun H locs hH => ?_)
  have hH : HN n0 Γ _ (b + 16) s.heap _ _ 16 := hH
  refine lv_iconst (v := 0) hx hb dX9_init_52 (by decide) ?_
  refine lv_istore (lv' := [(5, .int 0), (0, .ref (n0 + i)), (1, .ref tx), (2, .ref nx), (3, .ref gx), (4, .int 10)]) hx hb dX9_init_53 hl (by decide) rfl (fun ls hl => ?_)
  refine W.widen (k := 16) (n := 1234) (Nat.le_of_ble_eq_true rfl) (Nat.le_of_ble_eq_true rfl) ?_
  refine w_loop1 (K := 10) (C := C) (x := 10) (ob := [.ref tx, .ref nx, .ref gx, .null, .ref (n0 + (b + 1)), .ref (n0 + b), .ref (n0 + (b + 3)), .null]) (nxv := .ref nx) X hi rfl rfl (fun H locs ls hH hl => ?_) 8 0 (by omega) _ _ _ (hH.c (fun j hj => ?_)) (lv_sub hl [0, 1, 3, 5] rfl)
  · refine lv_aload_n hx hb dX9_init_79 rfl (lv_at hl 1 rfl) ?_
    refine lv_iload hx hb dX9_init_80 (lv_at hl 3 rfl) ?_
    refine lv_bipush (v := 8) hx hb dX9_init_82 (by decide) ?_
    refine lv_iadd hx hb dX9_init_84 ?_
    refine lv_iconst (v := 1) hx hb dX9_init_85 (by decide) ?_
    refine lv_iadd hx hb dX9_init_86 ?_
    refine n_newq X hH (N' := 10 + 9) (List.mem_of_getElem? (i := 62) (by decide +kernel)) (by decide) (by decide +kernel) (by omega) (Nat.le_of_ble_eq_true rfl) (Nat.le_of_ble_eq_true rfl) dX9_init_87 (fun H hH => ?_)
    have hH : HN n0 Γ _ (b + 17) s.heap _ _ 17 := hH
    refine n_putF X hH (i := i) (by omega) (by rw [updE_ne (by omega), cWp_eq]) (T := TX9) rfl inlX9 tyX9 tyX9_ok nmX9 7 (by decide) (List.mem_of_getElem? (i := 74) (by decide +kernel)) rfl rfl rfl (ty := tyX9 7) (by decide +kernel) rfl rfl (Nat.le_of_ble_eq_true rfl) dX9_init_90 (fun H locs hH => ?_)
    have hH : HN n0 Γ _ (b + 17) s.heap _ _ 17 := hH
    refine lv_iconst (v := 0) hx hb dX9_init_93 (by decide) ?_
    refine lv_istore (lv' := [(5, .int 0), (0, .ref (n0 + i)), (2, .ref nx), (4, .int 10)]) hx hb dX9_init_94 hl (by decide) rfl (fun ls hl => ?_)
    refine W.widen (k := 17 + 13 * 0) (n := 1253 + 1214 * 0) (Nat.le_of_ble_eq_true rfl) (Nat.le_of_ble_eq_true rfl) ?_
    refine w_loop2 (K := 10) (C := C) (ob := [.ref tx, .ref nx, .ref gx, .null, .ref (n0 + (b + 1)), .ref (n0 + b), .ref (n0 + (b + 3)), .ref (n0 + (b + 16))]) (nxv := .ref nx) (slots := 1253) X hi (by omega) rfl ⟨Nat.le_of_ble_eq_true rfl, Nat.le_of_ble_eq_true rfl, Nat.le_of_ble_eq_true rfl, Nat.le_of_ble_eq_true rfl⟩ (fun H locs ls hH hl => ?_) 19 0 (by omega) _ _ _ (hH.c (fun j hj => ?_)) (lv_sub hl [0, 1, 2] rfl)
    · generalize hM : b + 17 + 13 * (10 + 9) = M at hH
      have hH : HN n0 Γ _ M s.heap _ _ 264 := hH
      refine W.widen (k := 264) (n := 24319) (Nat.le_of_ble_eq_true rfl) (Nat.le_of_ble_eq_true rfl) ?_
      refine lv_aload_n hx hb dX9_init_126 rfl (lv_at hl 1 rfl) ?_
      refine n_new X hH (ci := 0) (T := TX3) rfl inlX3 tyX3 tyX3_ok (List.mem_of_getElem? (i := 75) (by decide +kernel)) (List.mem_of_getElem? (i := 76) (by decide +kernel)) (List.mem_of_getElem? (i := 77) (by decide +kernel)) [.null, .null, .null, .int 0, .null, .null, .null, .null] (fun j hj => by rcases (show j = 0 ∨ j = 1 ∨ j = 2 ∨ j = 3 ∨ j = 4 ∨ j = 5 ∨ j = 6 ∨ j = 7 by omega) with rfl | rfl | rfl | rfl | rfl | rfl | rfl | rfl <;> rfl) (Nat.le_of_ble_eq_true rfl) (Nat.le_of_ble_eq_true rfl) dX9_init_127 (fun H hH => ?_)
      have hH : HN n0 Γ _ (M + 1) s.heap _ _ 265 := hH
      refine lv_dup hx hb dX9_init_130 rfl ?_
      refine lv_aload_n hx hb dX9_init_131 rfl (lv_at hl 2 rfl) ?_
      refine n_callI X hl hH (i := M) (k := 6) (ms := 776) (As := [.ref nx]) (rest := [.ref (n0 + M), .ref (n0 + i)]) (n := 1) (n_X3_init l n0 Γ _ (M + 1) M (by omega) (by rw [updE_eq]) nx) (List.mem_of_getElem? (i := 112) (by decide +kernel)) (List.mem_of_getElem? (i := 110) (by decide +kernel)) (List.mem_of_getElem? (i := 111) (by decide +kernel)) (List.mem_of_getElem? (i := 77) (by decide +kernel)) rfl rfl rfl (by decide +kernel) ⟨Nat.le_of_ble_eq_true rfl, Nat.le_of_ble_eq_true rfl⟩ rfl rfl (Nat.le_of_ble_eq_true rfl) dX9_init_132 ⟨Nat.le_of_ble_eq_true rfl, Nat.le_of_ble_eq_true rfl⟩ (fun H locs hH => ?_)
      have hH : HN n0 Γ _ (M + 7) s.heap _ _ 271 := hH
      refine n_putF X hH (i := i) (by omega) (by rw [cX3_ne (by omega) (by omega), updE_ne (by omega), cWp_eq]) (T := TX9) rfl inlX9 tyX9 tyX9_ok nmX9 3 (by decide) (List.mem_of_getElem? (i := 78) (by decide +kernel)) rfl rfl rfl (ty := tyX9 3) (by decide +kernel) rfl rfl (Nat.le_of_ble_eq_true rfl) dX9_init_135 (fun H locs hH => ?_)
      have hH : HN n0 Γ _ (M + 7) s.heap _ _ 271 := hH
      rw [show M + 7 = b + 271 by omega] at hH
      refine n_ret (N := b) (k := 271) X hr hH (fun j hj => ?_) rfl (Nat.le_of_ble_eq_true rfl) dX9_init_138
      by_cases h1 : j = i
      · subst h1
        rw [cWk_eq, updE_eq]
        unfold wob
        rw [hM]
        rfl
      · rw [updE_ne h1]
        unfold cWk
        rw [if_neg h1, hM]
        by_cases h2 : j < b
        · rw [if_pos h2, cX3_ne (by omega) (by omega), updE_ne (by omega), cWp_ne h1 h2]
        · rw [if_neg h2]
          by_cases h3 : j < M
          · rw [if_pos h3, cX3_ne (by omega) (by omega), updE_ne (by omega)]
            obtain ⟨t, rfl⟩ : ∃ t, j = b + t := ⟨j - b, by omega⟩
            rw [cWp_at hi, show b + t - b = t by omega]
          · rw [if_neg h3]
            exact cX3_c (by omega)
    · by_cases h1 : j = i
      · subst h1
        rw [updE_eq, cWp_eq]
        rfl
      · by_cases h2 : j < b
        · rw [updE_ne h1, updE_ne (by omega), cWp_ne h1 h2, cWp_ne h1 h2]
        · obtain ⟨t, rfl⟩ : ∃ t, j = b + t := ⟨j - b, by omega⟩
          rw [updE_ne h1, cWp_at hi]
          by_cases h3 : t = 16
          · subst h3
            rw [updE_eq]
            unfold wcell
            rw [if_neg (by omega), if_neg (by omega), if_neg (by omega), if_neg (by omega), if_pos rfl, refU_z]
          · rw [updE_ne (by omega), cWp_at hi]
  · by_cases h1 : j = i
    · subst h1
      rw [updE_eq, cWp_eq]
      rfl
    · by_cases h2 : j < b
      · simp (disch := omega) only [updE_ne, cX7_ne, cRes_ne, cWp_ne]
      · obtain ⟨t, rfl⟩ : ∃ t, j = b + t := ⟨j - b, by omega⟩
        rw [cWp_at hi, updE_ne h1]
        by_cases h3 : t < 3
        · rw [cRes_ne (by omega) (by omega), updE_ne (by omega), updE_ne (by omega)]
          unfold wcell
          rcases (show t = 0 ∨ t = 1 ∨ t = 2 by omega) with rfl | rfl | rfl
          · rw [if_pos rfl, refU_z, show b + 0 = b from rfl, cX7_ne (by omega) (by omega)]
            simp (disch := omega) only [updE_ne, updE_eq]
          · rw [cX7_eq, if_neg (by omega), if_pos rfl]
          · unfold cX7
            rw [if_neg (by omega), if_neg (by omega), if_neg (by omega), if_neg (by omega), if_pos rfl, Nat.sub_self]
        · obtain ⟨q, rfl⟩ : ∃ q, t = 3 + q := ⟨t - 3, by omega⟩
          unfold wcell
          rw [if_neg (by omega), if_neg (by omega), if_neg (by omega), if_pos (by omega), show 3 + q - 3 = q by omega]
          unfold rs
          by_cases h5 : q = 0
          · subst h5
            rw [if_pos rfl, show b + (3 + 0) = b + 3 from rfl, cRes_eq]
          · rw [if_neg h5, show b + (3 + q) = b + 4 + (q - 1) by omega, cRes_at (by omega)]
set_option maxHeartbeats 8000000 in
set_option maxRecDepth 100000 in
theorem n_X9_init_0 (l : Launch) (n0 : Nat) (Γ : GG) (C : Nat → va_E) (b i : Nat) (hi : i < b) (hC : C i = .inr (6, [.null, .null, .null, .null, .null, .null, .null, .null])) (tx nx gx : Nat) : KN l yX9_init (wy yX9_init cX9_init 6 none) ({ frames := 3, cells := 141, slots := 12943, locals := 66 } : Room) n0 Γ C b [.ref (n0 + i), .ref tx, .ref nx, .ref gx, .int 0] (cWk n0 Γ b i 0 tx nx gx C) 141 12943 := by
  refine met_ofN (by decide +kernel) (Nat.le_of_ble_eq_true rfl) (fun p e s m below meth c ls X hr hH hl => ?_)
  have hl : lv_has ls 6 [(0, .ref (n0 + i)), (1, .ref tx), (2, .ref nx), (3, .ref gx), (4, .int 0)] := hl
  have hx := X.1.1
  have hb := X.1.2.1
  refine lv_aload_n hx hb dX9_init_0 rfl (lv_at hl 0 rfl) ?_
  refine n_obj X hl (List.mem_of_getElem? (i := 61) (by decide +kernel)) ⟨Nat.le_of_ble_eq_true rfl, Nat.le_of_ble_eq_true rfl⟩ dX9_init_1 ?_
  refine lv_aload_n hx hb dX9_init_4 rfl (lv_at hl 0 rfl) ?_
  refine lv_bipush (v := 8) hx hb dX9_init_5 (by decide) ?_
  refine n_newq X hH (N' := 8) (List.mem_of_getElem? (i := 62) (by decide +kernel)) (by decide) (by decide +kernel) (by omega) (Nat.le_of_ble_eq_true rfl) (Nat.le_of_ble_eq_true rfl) dX9_init_7 (fun H hH => ?_)
  have hH : HN n0 Γ _ (b + 1) s.heap _ _ 1 := hH
  refine n_putF X hH (i := i) (by omega) (by rw [updE_ne (by omega)]; exact hC) (T := TX9) rfl inlX9 tyX9 tyX9_ok nmX9 5 (by decide) (List.mem_of_getElem? (i := 63) (by decide +kernel)) rfl rfl rfl (ty := tyX9 5) (by decide +kernel) rfl rfl (Nat.le_of_ble_eq_true rfl) dX9_init_10 (fun H locs hH => ?_)
  have hH : HN n0 Γ _ (b + 1) s.heap _ _ 1 := hH
  refine lv_aload_n hx hb dX9_init_13 rfl (lv_at hl 0 rfl) ?_
  refine lv_aload_n hx hb dX9_init_14 rfl (lv_at hl 1 rfl) ?_
  refine n_putF X hH (i := i) (by omega) (by rw [updE_eq]) (T := TX9) rfl inlX9 tyX9 tyX9_ok nmX9 0 (by decide) (List.mem_of_getElem? (i := 64) (by decide +kernel)) rfl rfl rfl (ty := tyX9 0) (by decide +kernel) rfl rfl (Nat.le_of_ble_eq_true rfl) dX9_init_15 (fun H locs hH => ?_)
  have hH : HN n0 Γ _ (b + 1) s.heap _ _ 1 := hH
  refine lv_aload_n hx hb dX9_init_18 rfl (lv_at hl 0 rfl) ?_
  refine lv_aload_n hx hb dX9_init_19 rfl (lv_at hl 2 rfl) ?_
  refine n_putF X hH (i := i) (by omega) (by rw [updE_eq]) (T := TX9) rfl inlX9 tyX9 tyX9_ok nmX9 1 (by decide) (List.mem_of_getElem? (i := 65) (by decide +kernel)) rfl rfl rfl (ty := tyX9 1) (by decide +kernel) rfl rfl (Nat.le_of_ble_eq_true rfl) dX9_init_20 (fun H locs hH => ?_)
  have hH : HN n0 Γ _ (b + 1) s.heap _ _ 1 := hH
  refine lv_aload_n hx hb dX9_init_23 rfl (lv_at hl 0 rfl) ?_
  refine lv_aload_n hx hb dX9_init_24 rfl (lv_at hl 3 rfl) ?_
  refine n_putF X hH (i := i) (by omega) (by rw [updE_eq]) (T := TX9) rfl inlX9 tyX9 tyX9_ok nmX9 2 (by decide) (List.mem_of_getElem? (i := 66) (by decide +kernel)) rfl rfl rfl (ty := tyX9 2) (by decide +kernel) rfl rfl (Nat.le_of_ble_eq_true rfl) dX9_init_25 (fun H locs hH => ?_)
  have hH : HN n0 Γ _ (b + 1) s.heap _ _ 1 := hH
  refine lv_aload_n hx hb dX9_init_28 rfl (lv_at hl 0 rfl) ?_
  refine n_new X hH (ci := 4) (T := TX7) rfl inlX7 tyX7 tyX7_ok (List.mem_of_getElem? (i := 67) (by decide +kernel)) (List.mem_of_getElem? (i := 68) (by decide +kernel)) (List.mem_of_getElem? (i := 69) (by decide +kernel)) [.null, .int 0] (fun j hj => by rcases (show j = 0 ∨ j = 1 by omega) with rfl | rfl <;> rfl) (Nat.le_of_ble_eq_true rfl) (Nat.le_of_ble_eq_true rfl) dX9_init_29 (fun H hH => ?_)
  have hH : HN n0 Γ _ (b + 2) s.heap _ _ 2 := hH
  refine lv_dup hx hb dX9_init_32 rfl ?_
  refine lv_iload hx hb dX9_init_33 (lv_at hl 4 rfl) ?_
  refine n_callI X hl hH (i := (b + 1)) (k := 1) (ms := 0) (As := [.int 0]) (rest := [.ref (n0 + (b + 1)), .ref (n0 + i)]) (n := 1) (n_X7_init l n0 Γ _ (b + 2) (b + 1) (by omega) (by rw [updE_eq]) 0 (0) (by decide) (by decide +kernel) (by omega)) (List.mem_of_getElem? (i := 81) (by decide +kernel)) (List.mem_of_getElem? (i := 79) (by decide +kernel)) (List.mem_of_getElem? (i := 80) (by decide +kernel)) (List.mem_of_getElem? (i := 69) (by decide +kernel)) rfl rfl rfl (by decide +kernel) ⟨Nat.le_of_ble_eq_true rfl, Nat.le_of_ble_eq_true rfl⟩ rfl rfl (Nat.le_of_ble_eq_true rfl) dX9_init_35 ⟨Nat.le_of_ble_eq_true rfl, Nat.le_of_ble_eq_true rfl⟩ (fun H locs hH => ?_)
  have hH : HN n0 Γ _ (b + 3) s.heap _ _ 3 := hH
  refine n_putF X hH (i := i) (by omega) (by rw [cX7_ne (by omega) (by omega), updE_ne (by omega), updE_eq]) (T := TX9) rfl inlX9 tyX9 tyX9_ok nmX9 4 (by decide) (List.mem_of_getElem? (i := 70) (by decide +kernel)) rfl rfl rfl (ty := tyX9 4) (by decide +kernel) rfl rfl (Nat.le_of_ble_eq_true rfl) dX9_init_38 (fun H locs hH => ?_)
  have hH : HN n0 Γ _ (b + 3) s.heap _ _ 3 := hH
  refine lv_aload_n hx hb dX9_init_41 rfl (lv_at hl 0 rfl) ?_
  refine n_new X hH (ci := 2) (T := TX5) rfl inlX5 tyX5 tyX5_ok (List.mem_of_getElem? (i := 62) (by decide +kernel)) (List.mem_of_getElem? (i := 71) (by decide +kernel)) (List.mem_of_getElem? (i := 72) (by decide +kernel)) [.int 0, .null, .null, .null, .null, .null, .null, .null, .null, .null] (fun j hj => by rcases (show j = 0 ∨ j = 1 ∨ j = 2 ∨ j = 3 ∨ j = 4 ∨ j = 5 ∨ j = 6 ∨ j = 7 ∨ j = 8 ∨ j = 9 by omega) with rfl | rfl | rfl | rfl | rfl | rfl | rfl | rfl | rfl | rfl <;> rfl) (Nat.le_of_ble_eq_true rfl) (Nat.le_of_ble_eq_true rfl) dX9_init_42 (fun H hH => ?_)
  have hH : HN n0 Γ _ (b + 4) s.heap _ _ 4 := hH
  refine lv_dup hx hb dX9_init_45 rfl ?_
  refine n_callI X hl hH (i := (b + 3)) (k := 12) (ms := 1204) (As := []) (rest := [.ref (n0 + (b + 3)), .ref (n0 + i)]) (n := 0) (n_X5_init l n0 Γ _ (b + 4) (b + 3) (by omega) (by rw [updE_eq])) (List.mem_of_getElem? (i := 87) (by decide +kernel)) (List.mem_of_getElem? (i := 85) (by decide +kernel)) (List.mem_of_getElem? (i := 86) (by decide +kernel)) (List.mem_of_getElem? (i := 72) (by decide +kernel)) rfl rfl rfl (by decide +kernel) ⟨Nat.le_of_ble_eq_true rfl, Nat.le_of_ble_eq_true rfl⟩ rfl rfl (Nat.le_of_ble_eq_true rfl) dX9_init_46 ⟨Nat.le_of_ble_eq_true rfl, Nat.le_of_ble_eq_true rfl⟩ (fun H locs hH => ?_)
  have hH : HN n0 Γ _ (b + 16) s.heap _ _ 16 := hH
  refine n_putF X hH (i := i) (by omega) (by rw [cRes_ne (by omega) (by omega), updE_ne (by omega), updE_eq]) (T := TX9) rfl inlX9 tyX9 tyX9_ok nmX9 6 (by decide) (List.mem_of_getElem? (i := 73) (by decide +kernel)) rfl rfl rfl (ty := tyX9 6) (by decide +kernel) rfl rfl (Nat.le_of_ble_eq_true rfl) dX9_init_49 (fun H locs hH => ?_)
  have hH : HN n0 Γ _ (b + 16) s.heap _ _ 16 := hH
  refine lv_iconst (v := 0) hx hb dX9_init_52 (by decide) ?_
  refine lv_istore (lv' := [(5, .int 0), (0, .ref (n0 + i)), (1, .ref tx), (2, .ref nx), (3, .ref gx), (4, .int 0)]) hx hb dX9_init_53 hl (by decide) rfl (fun ls hl => ?_)
  refine W.widen (k := 16) (n := 1224) (Nat.le_of_ble_eq_true rfl) (Nat.le_of_ble_eq_true rfl) ?_
  refine w_loop1 (K := 0) (C := C) (x := 0) (ob := [.ref tx, .ref nx, .ref gx, .null, .ref (n0 + (b + 1)), .ref (n0 + b), .ref (n0 + (b + 3)), .null]) (nxv := .ref nx) X hi rfl rfl (fun H locs ls hH hl => ?_) 8 0 (by omega) _ _ _ (hH.c (fun j hj => ?_)) (lv_sub hl [0, 1, 3, 5] rfl)
  · refine lv_aload_n hx hb dX9_init_79 rfl (lv_at hl 1 rfl) ?_
    refine lv_iload hx hb dX9_init_80 (lv_at hl 3 rfl) ?_
    refine lv_bipush (v := 8) hx hb dX9_init_82 (by decide) ?_
    refine lv_iadd hx hb dX9_init_84 ?_
    refine lv_iconst (v := 1) hx hb dX9_init_85 (by decide) ?_
    refine lv_iadd hx hb dX9_init_86 ?_
    refine n_newq X hH (N' := 0 + 9) (List.mem_of_getElem? (i := 62) (by decide +kernel)) (by decide) (by decide +kernel) (by omega) (Nat.le_of_ble_eq_true rfl) (Nat.le_of_ble_eq_true rfl) dX9_init_87 (fun H hH => ?_)
    have hH : HN n0 Γ _ (b + 17) s.heap _ _ 17 := hH
    refine n_putF X hH (i := i) (by omega) (by rw [updE_ne (by omega), cWp_eq]) (T := TX9) rfl inlX9 tyX9 tyX9_ok nmX9 7 (by decide) (List.mem_of_getElem? (i := 74) (by decide +kernel)) rfl rfl rfl (ty := tyX9 7) (by decide +kernel) rfl rfl (Nat.le_of_ble_eq_true rfl) dX9_init_90 (fun H locs hH => ?_)
    have hH : HN n0 Γ _ (b + 17) s.heap _ _ 17 := hH
    refine lv_iconst (v := 0) hx hb dX9_init_93 (by decide) ?_
    refine lv_istore (lv' := [(5, .int 0), (0, .ref (n0 + i)), (2, .ref nx), (4, .int 0)]) hx hb dX9_init_94 hl (by decide) rfl (fun ls hl => ?_)
    refine W.widen (k := 17 + 13 * 0) (n := 1233 + 1214 * 0) (Nat.le_of_ble_eq_true rfl) (Nat.le_of_ble_eq_true rfl) ?_
    refine w_loop2 (K := 0) (C := C) (ob := [.ref tx, .ref nx, .ref gx, .null, .ref (n0 + (b + 1)), .ref (n0 + b), .ref (n0 + (b + 3)), .ref (n0 + (b + 16))]) (nxv := .ref nx) (slots := 1233) X hi (by omega) rfl ⟨Nat.le_of_ble_eq_true rfl, Nat.le_of_ble_eq_true rfl, Nat.le_of_ble_eq_true rfl, Nat.le_of_ble_eq_true rfl⟩ (fun H locs ls hH hl => ?_) 9 0 (by omega) _ _ _ (hH.c (fun j hj => ?_)) (lv_sub hl [0, 1, 2] rfl)
    · generalize hM : b + 17 + 13 * (0 + 9) = M at hH
      have hH : HN n0 Γ _ M s.heap _ _ 134 := hH
      refine W.widen (k := 134) (n := 12159) (Nat.le_of_ble_eq_true rfl) (Nat.le_of_ble_eq_true rfl) ?_
      refine lv_aload_n hx hb dX9_init_126 rfl (lv_at hl 1 rfl) ?_
      refine n_new X hH (ci := 0) (T := TX3) rfl inlX3 tyX3 tyX3_ok (List.mem_of_getElem? (i := 75) (by decide +kernel)) (List.mem_of_getElem? (i := 76) (by decide +kernel)) (List.mem_of_getElem? (i := 77) (by decide +kernel)) [.null, .null, .null, .int 0, .null, .null, .null, .null] (fun j hj => by rcases (show j = 0 ∨ j = 1 ∨ j = 2 ∨ j = 3 ∨ j = 4 ∨ j = 5 ∨ j = 6 ∨ j = 7 by omega) with rfl | rfl | rfl | rfl | rfl | rfl | rfl | rfl <;> rfl) (Nat.le_of_ble_eq_true rfl) (Nat.le_of_ble_eq_true rfl) dX9_init_127 (fun H hH => ?_)
      have hH : HN n0 Γ _ (M + 1) s.heap _ _ 135 := hH
      refine lv_dup hx hb dX9_init_130 rfl ?_
      refine lv_aload_n hx hb dX9_init_131 rfl (lv_at hl 2 rfl) ?_
      refine n_callI X hl hH (i := M) (k := 6) (ms := 776) (As := [.ref nx]) (rest := [.ref (n0 + M), .ref (n0 + i)]) (n := 1) (n_X3_init l n0 Γ _ (M + 1) M (by omega) (by rw [updE_eq]) nx) (List.mem_of_getElem? (i := 112) (by decide +kernel)) (List.mem_of_getElem? (i := 110) (by decide +kernel)) (List.mem_of_getElem? (i := 111) (by decide +kernel)) (List.mem_of_getElem? (i := 77) (by decide +kernel)) rfl rfl rfl (by decide +kernel) ⟨Nat.le_of_ble_eq_true rfl, Nat.le_of_ble_eq_true rfl⟩ rfl rfl (Nat.le_of_ble_eq_true rfl) dX9_init_132 ⟨Nat.le_of_ble_eq_true rfl, Nat.le_of_ble_eq_true rfl⟩ (fun H locs hH => ?_)
      have hH : HN n0 Γ _ (M + 7) s.heap _ _ 141 := hH
      refine n_putF X hH (i := i) (by omega) (by rw [cX3_ne (by omega) (by omega), updE_ne (by omega), cWp_eq]) (T := TX9) rfl inlX9 tyX9 tyX9_ok nmX9 3 (by decide) (List.mem_of_getElem? (i := 78) (by decide +kernel)) rfl rfl rfl (ty := tyX9 3) (by decide +kernel) rfl rfl (Nat.le_of_ble_eq_true rfl) dX9_init_135 (fun H locs hH => ?_)
      have hH : HN n0 Γ _ (M + 7) s.heap _ _ 141 := hH
      rw [show M + 7 = b + 141 by omega] at hH
      refine n_ret (N := b) (k := 141) X hr hH (fun j hj => ?_) rfl (Nat.le_of_ble_eq_true rfl) dX9_init_138
      by_cases h1 : j = i
      · subst h1
        rw [cWk_eq, updE_eq]
        unfold wob
        rw [hM]
        rfl
      · rw [updE_ne h1]
        unfold cWk
        rw [if_neg h1, hM]
        by_cases h2 : j < b
        · rw [if_pos h2, cX3_ne (by omega) (by omega), updE_ne (by omega), cWp_ne h1 h2]
        · rw [if_neg h2]
          by_cases h3 : j < M
          · rw [if_pos h3, cX3_ne (by omega) (by omega), updE_ne (by omega)]
            obtain ⟨t, rfl⟩ : ∃ t, j = b + t := ⟨j - b, by omega⟩
            rw [cWp_at hi, show b + t - b = t by omega]
          · rw [if_neg h3]
            exact cX3_c (by omega)
    · by_cases h1 : j = i
      · subst h1
        rw [updE_eq, cWp_eq]
        rfl
      · by_cases h2 : j < b
        · rw [updE_ne h1, updE_ne (by omega), cWp_ne h1 h2, cWp_ne h1 h2]
        · obtain ⟨t, rfl⟩ : ∃ t, j = b + t := ⟨j - b, by omega⟩
          rw [updE_ne h1, cWp_at hi]
          by_cases h3 : t = 16
          · subst h3
            rw [updE_eq]
            unfold wcell
            rw [if_neg (by omega), if_neg (by omega), if_neg (by omega), if_neg (by omega), if_pos rfl, refU_z]
          · rw [updE_ne (by omega), cWp_at hi]
  · by_cases h1 : j = i
    · subst h1
      rw [updE_eq, cWp_eq]
      rfl
    · by_cases h2 : j < b
      · simp (disch := omega) only [updE_ne, cX7_ne, cRes_ne, cWp_ne]
      · obtain ⟨t, rfl⟩ : ∃ t, j = b + t := ⟨j - b, by omega⟩
        rw [cWp_at hi, updE_ne h1]
        by_cases h3 : t < 3
        · rw [cRes_ne (by omega) (by omega), updE_ne (by omega), updE_ne (by omega)]
          unfold wcell
          rcases (show t = 0 ∨ t = 1 ∨ t = 2 by omega) with rfl | rfl | rfl
          · rw [if_pos rfl, refU_z, show b + 0 = b from rfl, cX7_ne (by omega) (by omega)]
            simp (disch := omega) only [updE_ne, updE_eq]
          · rw [cX7_eq, if_neg (by omega), if_pos rfl]
          · unfold cX7
            rw [if_neg (by omega), if_neg (by omega), if_neg (by omega), if_neg (by omega), if_pos rfl, Nat.sub_self]
        · obtain ⟨q, rfl⟩ : ∃ q, t = 3 + q := ⟨t - 3, by omega⟩
          unfold wcell
          rw [if_neg (by omega), if_neg (by omega), if_neg (by omega), if_pos (by omega), show 3 + q - 3 = q by omega]
          unfold rs
          by_cases h5 : q = 0
          · subst h5
            rw [if_pos rfl, show b + (3 + 0) = b + 3 from rfl, cRes_eq]
          · rw [if_neg h5, show b + (3 + q) = b + 4 + (q - 1) by omega, cRes_at (by omega)]
